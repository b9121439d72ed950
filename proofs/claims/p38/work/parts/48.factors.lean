theorem dX4_divisorOfMinors_0 : decode cX4_divisorOfMinors 0 = .ok (.iconst 1, 1) := by decide +kernel
theorem dX4_divisorOfMinors_1 : decode cX4_divisorOfMinors 1 = .ok (.aload_n 0, 1) := by decide +kernel
theorem dX4_divisorOfMinors_2 : decode cX4_divisorOfMinors 2 = .ok (.getfield 27, 3) := by decide +kernel
theorem dX4_divisorOfMinors_5 : decode cX4_divisorOfMinors 5 = .ok (.invokevirtual 44, 3) := by decide +kernel
theorem dX4_divisorOfMinors_8 : decode cX4_divisorOfMinors 8 = .ok (.ishl, 1) := by decide +kernel
theorem dX4_divisorOfMinors_9 : decode cX4_divisorOfMinors 9 = .ok (.istore_n 2, 1) := by decide +kernel
theorem dX4_divisorOfMinors_10 : decode cX4_divisorOfMinors 10 = .ok (.lconst 0, 1) := by decide +kernel
theorem dX4_divisorOfMinors_11 : decode cX4_divisorOfMinors 11 = .ok (.lstore_n 3, 1) := by decide +kernel
theorem dX4_divisorOfMinors_12 : decode cX4_divisorOfMinors 12 = .ok (.iconst 1, 1) := by decide +kernel
theorem dX4_divisorOfMinors_13 : decode cX4_divisorOfMinors 13 = .ok (.istore 5, 2) := by decide +kernel
theorem dX4_divisorOfMinors_15 : decode cX4_divisorOfMinors 15 = .ok (.iload 5, 2) := by decide +kernel
theorem dX4_divisorOfMinors_17 : decode cX4_divisorOfMinors 17 = .ok (.iload_n 2, 1) := by decide +kernel
theorem dX4_divisorOfMinors_18 : decode cX4_divisorOfMinors 18 = .ok (.if_icmp .ge 64, 3) := by decide +kernel
theorem dX4_divisorOfMinors_82 : decode cX4_divisorOfMinors 82 = .ok (.lload_n 3, 1) := by decide +kernel
theorem dX4_divisorOfMinors_83 : decode cX4_divisorOfMinors 83 = .ok (.lreturn, 1) := by decide +kernel
theorem dX4_divisorOfMinors_21 : decode cX4_divisorOfMinors 21 = .ok (.iload 5, 2) := by decide +kernel
theorem dX4_divisorOfMinors_23 : decode cX4_divisorOfMinors 23 = .ok (.istore 6, 2) := by decide +kernel
theorem dX4_divisorOfMinors_25 : decode cX4_divisorOfMinors 25 = .ok (.iload 6, 2) := by decide +kernel
theorem dX4_divisorOfMinors_27 : decode cX4_divisorOfMinors 27 = .ok (.iload_n 2, 1) := by decide +kernel
theorem dX4_divisorOfMinors_28 : decode cX4_divisorOfMinors 28 = .ok (.if_icmp .ge 48, 3) := by decide +kernel
theorem dX4_divisorOfMinors_76 : decode cX4_divisorOfMinors 76 = .ok (.iinc 5 1, 3) := by decide +kernel
theorem dX4_divisorOfMinors_79 : decode cX4_divisorOfMinors 79 = .ok (.goto (-64), 3) := by decide +kernel
theorem dX4_divisorOfMinors_31 : decode cX4_divisorOfMinors 31 = .ok (.iload 5, 2) := by decide +kernel
theorem dX4_divisorOfMinors_33 : decode cX4_divisorOfMinors 33 = .ok (.invokestatic 75, 3) := by decide +kernel
theorem q_283 : (Jvm.Cond.code ({ cls := "java/lang/Integer", name := "bitCount", desc := "(I)I" } : Jvm.MethodName) prog_21_method_49_code (1 : Nat) (Option.some Jvm.ClassFile.FieldType.int)) ∈ WG := wg_5 (List.mem_of_getElem? (i := 47) rfl) rfl
theorem q_284 : (Jvm.Cond.initialized "java/lang/Integer") ∈ WG := wg_1 (List.mem_of_getElem? (i := 22) (by decide +kernel)) (by decide +kernel)
theorem q_285 : (Jvm.Cond.methodLink "Chipfold$Group" (75 : Nat) ({ cls := "java/lang/Integer", name := "bitCount", desc := "(I)I" } : Jvm.MethodName)) ∈ WG := wg_5 (List.mem_of_getElem? (i := 45) (by decide +kernel)) (by decide +kernel)
theorem q_286 : (Jvm.Cond.static ({ cls := "java/lang/Integer", name := "bitCount", desc := "(I)I" } : Jvm.MethodName)) ∈ WG := wg_5 (List.mem_of_getElem? (i := 46) (by decide +kernel)) (by decide +kernel)
theorem dX4_divisorOfMinors_36 : decode cX4_divisorOfMinors 36 = .ok (.iload_n 1, 1) := by decide +kernel
theorem dX4_divisorOfMinors_37 : decode cX4_divisorOfMinors 37 = .ok (.if_icmp .ne 25, 3) := by decide +kernel
theorem dX4_divisorOfMinors_62 : decode cX4_divisorOfMinors 62 = .ok (.lload_n 3, 1) := by decide +kernel
theorem dX4_divisorOfMinors_63 : decode cX4_divisorOfMinors 63 = .ok (.lconst 1, 1) := by decide +kernel
theorem dX4_divisorOfMinors_64 : decode cX4_divisorOfMinors 64 = .ok (.lcmp, 1) := by decide +kernel
theorem dX4_divisorOfMinors_65 : decode cX4_divisorOfMinors 65 = .ok (.ifCond .ne 5, 3) := by decide +kernel
theorem dX4_divisorOfMinors_70 : decode cX4_divisorOfMinors 70 = .ok (.iinc 6 1, 3) := by decide +kernel
theorem dX4_divisorOfMinors_73 : decode cX4_divisorOfMinors 73 = .ok (.goto (-48), 3) := by decide +kernel
theorem dX4_divisorOfMinors_68 : decode cX4_divisorOfMinors 68 = .ok (.lconst 1, 1) := by decide +kernel
theorem dX4_divisorOfMinors_69 : decode cX4_divisorOfMinors 69 = .ok (.lreturn, 1) := by decide +kernel
theorem dX4_divisorOfMinors_40 : decode cX4_divisorOfMinors 40 = .ok (.iload 6, 2) := by decide +kernel
theorem dX4_divisorOfMinors_42 : decode cX4_divisorOfMinors 42 = .ok (.invokestatic 75, 3) := by decide +kernel
theorem dX4_divisorOfMinors_45 : decode cX4_divisorOfMinors 45 = .ok (.iload_n 1, 1) := by decide +kernel
theorem dX4_divisorOfMinors_46 : decode cX4_divisorOfMinors 46 = .ok (.if_icmp .ne 16, 3) := by decide +kernel
theorem dX4_divisorOfMinors_49 : decode cX4_divisorOfMinors 49 = .ok (.lload_n 3, 1) := by decide +kernel
theorem dX4_divisorOfMinors_50 : decode cX4_divisorOfMinors 50 = .ok (.aload_n 0, 1) := by decide +kernel
theorem dX4_divisorOfMinors_51 : decode cX4_divisorOfMinors 51 = .ok (.iload 5, 2) := by decide +kernel
theorem dX4_divisorOfMinors_53 : decode cX4_divisorOfMinors 53 = .ok (.iload 6, 2) := by decide +kernel
theorem dX4_divisorOfMinors_55 : decode cX4_divisorOfMinors 55 = .ok (.invokevirtual 62, 3) := by decide +kernel
theorem dX4_divisorOfMinors_58 : decode cX4_divisorOfMinors 58 = .ok (.invokestatic 80, 3) := by decide +kernel
theorem q_287 : (Jvm.Cond.code ({ cls := "Chipfold$Group", name := "commonDivisor", desc := "(JJ)J" } : Jvm.MethodName) prog_6_method_10_code (11 : Nat) (Option.some Jvm.ClassFile.FieldType.long)) ∈ WG := wg_4 (List.mem_of_getElem? (i := 5) rfl) rfl
theorem q_288 : (Jvm.Cond.methodLink "Chipfold$Group" (80 : Nat) ({ cls := "Chipfold$Group", name := "commonDivisor", desc := "(JJ)J" } : Jvm.MethodName)) ∈ WG := wg_4 (List.mem_of_getElem? (i := 3) (by decide +kernel)) (by decide +kernel)
theorem q_289 : (Jvm.Cond.static ({ cls := "Chipfold$Group", name := "commonDivisor", desc := "(JJ)J" } : Jvm.MethodName)) ∈ WG := wg_4 (List.mem_of_getElem? (i := 4) (by decide +kernel)) (by decide +kernel)
theorem dX4_divisorOfMinors_61 : decode cX4_divisorOfMinors 61 = .ok (.lstore_n 3, 1) := by decide +kernel
theorem dX4_findFactors_0 : decode cX4_findFactors 0 = .ok (.iconst 0, 1) := by decide +kernel
theorem dX4_findFactors_1 : decode cX4_findFactors 1 = .ok (.istore_n 1, 1) := by decide +kernel
theorem dX4_findFactors_2 : decode cX4_findFactors 2 = .ok (.lconst 1, 1) := by decide +kernel
theorem dX4_findFactors_3 : decode cX4_findFactors 3 = .ok (.lstore_n 2, 1) := by decide +kernel
theorem dX4_findFactors_4 : decode cX4_findFactors 4 = .ok (.iconst 1, 1) := by decide +kernel
theorem dX4_findFactors_5 : decode cX4_findFactors 5 = .ok (.istore 4, 2) := by decide +kernel
theorem dX4_findFactors_7 : decode cX4_findFactors 7 = .ok (.iload 4, 2) := by decide +kernel
theorem dX4_findFactors_9 : decode cX4_findFactors 9 = .ok (.aload_n 0, 1) := by decide +kernel
theorem dX4_findFactors_10 : decode cX4_findFactors 10 = .ok (.getfield 27, 3) := by decide +kernel
theorem dX4_findFactors_13 : decode cX4_findFactors 13 = .ok (.invokevirtual 44, 3) := by decide +kernel
theorem dX4_findFactors_16 : decode cX4_findFactors 16 = .ok (.if_icmp .gt 51, 3) := by decide +kernel
theorem dX4_findFactors_67 : decode cX4_findFactors 67 = .ok (.iload_n 1, 1) := by decide +kernel
theorem dX4_findFactors_68 : decode cX4_findFactors 68 = .ok (.ireturn, 1) := by decide +kernel
theorem dX4_findFactors_19 : decode cX4_findFactors 19 = .ok (.aload_n 0, 1) := by decide +kernel
theorem dX4_findFactors_20 : decode cX4_findFactors 20 = .ok (.iload 4, 2) := by decide +kernel
theorem dX4_findFactors_22 : decode cX4_findFactors 22 = .ok (.invokevirtual 66, 3) := by decide +kernel
theorem q_290 : (Jvm.Cond.code ({ cls := "Chipfold$Group", name := "divisorOfMinors", desc := "(I)J" } : Jvm.MethodName) prog_6_method_7_code (7 : Nat) (Option.some Jvm.ClassFile.FieldType.long)) ∈ WG := wg_5 (List.mem_of_getElem? (i := 44) rfl) rfl
theorem q_291 : (Jvm.Cond.selects "Chipfold$Group" ({ cls := "Chipfold$Group", name := "divisorOfMinors", desc := "(I)J" } : Jvm.MethodName) ({ cls := "Chipfold$Group", name := "divisorOfMinors", desc := "(I)J" } : Jvm.MethodName)) ∈ WG := wg_0 (by decide +kernel) (by decide +kernel)
theorem q_292 : (Jvm.Cond.methodLink "Chipfold$Group" (66 : Nat) ({ cls := "Chipfold$Group", name := "divisorOfMinors", desc := "(I)J" } : Jvm.MethodName)) ∈ WG := wg_5 (List.mem_of_getElem? (i := 41) (by decide +kernel)) (by decide +kernel)
theorem q_293 : (Jvm.Cond.instanceMethod ({ cls := "Chipfold$Group", name := "divisorOfMinors", desc := "(I)J" } : Jvm.MethodName)) ∈ WG := wg_5 (List.mem_of_getElem? (i := 43) (by decide +kernel)) (by decide +kernel)
theorem dX4_findFactors_25 : decode cX4_findFactors 25 = .ok (.lstore 5, 2) := by decide +kernel
theorem dX4_findFactors_27 : decode cX4_findFactors 27 = .ok (.lload_n 2, 1) := by decide +kernel
theorem dX4_findFactors_28 : decode cX4_findFactors 28 = .ok (.lconst 0, 1) := by decide +kernel
theorem dX4_findFactors_29 : decode cX4_findFactors 29 = .ok (.lcmp, 1) := by decide +kernel
theorem dX4_findFactors_30 : decode cX4_findFactors 30 = .ok (.ifCond .eq 28, 3) := by decide +kernel
theorem dX4_findFactors_58 : decode cX4_findFactors 58 = .ok (.lload 5, 2) := by decide +kernel
theorem dX4_findFactors_60 : decode cX4_findFactors 60 = .ok (.lstore_n 2, 1) := by decide +kernel
theorem dX4_findFactors_61 : decode cX4_findFactors 61 = .ok (.iinc 4 1, 3) := by decide +kernel
theorem dX4_findFactors_64 : decode cX4_findFactors 64 = .ok (.goto (-57), 3) := by decide +kernel
theorem dX4_findFactors_33 : decode cX4_findFactors 33 = .ok (.lload 5, 2) := by decide +kernel
theorem dX4_findFactors_35 : decode cX4_findFactors 35 = .ok (.lload_n 2, 1) := by decide +kernel
theorem dX4_findFactors_36 : decode cX4_findFactors 36 = .ok (.ldiv, 1) := by decide +kernel
theorem dX4_findFactors_37 : decode cX4_findFactors 37 = .ok (.lconst 1, 1) := by decide +kernel
theorem dX4_findFactors_38 : decode cX4_findFactors 38 = .ok (.lcmp, 1) := by decide +kernel
theorem dX4_findFactors_39 : decode cX4_findFactors 39 = .ok (.ifCond .le 19, 3) := by decide +kernel
theorem dX4_findFactors_42 : decode cX4_findFactors 42 = .ok (.aload_n 0, 1) := by decide +kernel
theorem dX4_findFactors_43 : decode cX4_findFactors 43 = .ok (.getfield 23, 3) := by decide +kernel
theorem dX4_findFactors_46 : decode cX4_findFactors 46 = .ok (.iload_n 1, 1) := by decide +kernel
theorem dX4_findFactors_47 : decode cX4_findFactors 47 = .ok (.lload 5, 2) := by decide +kernel
theorem dX4_findFactors_49 : decode cX4_findFactors 49 = .ok (.lload_n 2, 1) := by decide +kernel
theorem dX4_findFactors_50 : decode cX4_findFactors 50 = .ok (.ldiv, 1) := by decide +kernel
theorem dX4_findFactors_51 : decode cX4_findFactors 51 = .ok (.l2i, 1) := by decide +kernel
theorem dX4_findFactors_52 : decode cX4_findFactors 52 = .ok (.invokevirtual 69, 3) := by decide +kernel
theorem q_294 : (Jvm.Cond.methodLink "Chipfold$Group" (69 : Nat) ({ cls := "Chipfold$Row", name := "write", desc := "(II)V" } : Jvm.MethodName)) ∈ WG := wg_5 (List.mem_of_getElem? (i := 51) (by decide +kernel)) (by decide +kernel)
theorem dX4_findFactors_55 : decode cX4_findFactors 55 = .ok (.iinc 1 1, 3) := by decide +kernel
theorem dX4_factorFound_0 : decode cX4_factorFound 0 = .ok (.aload_n 0, 1) := by decide +kernel
theorem dX4_factorFound_1 : decode cX4_factorFound 1 = .ok (.getfield 23, 3) := by decide +kernel
theorem dX4_factorFound_4 : decode cX4_factorFound 4 = .ok (.iload_n 1, 1) := by decide +kernel
theorem dX4_factorFound_5 : decode cX4_factorFound 5 = .ok (.invokevirtual 72, 3) := by decide +kernel
theorem q_295 : (Jvm.Cond.methodLink "Chipfold$Group" (72 : Nat) ({ cls := "Chipfold$Row", name := "at", desc := "(I)I" } : Jvm.MethodName)) ∈ WG := wg_5 (List.mem_of_getElem? (i := 64) (by decide +kernel)) (by decide +kernel)
theorem dX4_factorFound_8 : decode cX4_factorFound 8 = .ok (.ireturn, 1) := by decide +kernel
theorem dX4_determinantWith_0 : decode cX4_determinantWith 0 = .ok (.iconst 0, 1) := by decide +kernel
theorem dX4_determinantWith_1 : decode cX4_determinantWith 1 = .ok (.istore_n 3, 1) := by decide +kernel
theorem dX4_determinantWith_2 : decode cX4_determinantWith 2 = .ok (.iload_n 3, 1) := by decide +kernel
theorem dX4_determinantWith_3 : decode cX4_determinantWith 3 = .ok (.aload_n 0, 1) := by decide +kernel
theorem dX4_determinantWith_4 : decode cX4_determinantWith 4 = .ok (.getfield 27, 3) := by decide +kernel
theorem dX4_determinantWith_7 : decode cX4_determinantWith 7 = .ok (.invokevirtual 44, 3) := by decide +kernel
theorem dX4_determinantWith_10 : decode cX4_determinantWith 10 = .ok (.if_icmp .ge 73, 3) := by decide +kernel
theorem dX4_determinantWith_83 : decode cX4_determinantWith 83 = .ok (.aload_n 0, 1) := by decide +kernel
theorem dX4_determinantWith_84 : decode cX4_determinantWith 84 = .ok (.getfield 12, 3) := by decide +kernel
theorem dX4_determinantWith_87 : decode cX4_determinantWith 87 = .ok (.aload_n 0, 1) := by decide +kernel
theorem dX4_determinantWith_88 : decode cX4_determinantWith 88 = .ok (.getfield 27, 3) := by decide +kernel
theorem dX4_determinantWith_91 : decode cX4_determinantWith 91 = .ok (.invokevirtual 44, 3) := by decide +kernel
theorem dX4_determinantWith_94 : decode cX4_determinantWith 94 = .ok (.invokevirtual 55, 3) := by decide +kernel
theorem dX4_determinantWith_97 : decode cX4_determinantWith 97 = .ok (.lreturn, 1) := by decide +kernel
theorem dX4_determinantWith_13 : decode cX4_determinantWith 13 = .ok (.iconst 0, 1) := by decide +kernel
theorem dX4_determinantWith_14 : decode cX4_determinantWith 14 = .ok (.istore 4, 2) := by decide +kernel
theorem dX4_determinantWith_16 : decode cX4_determinantWith 16 = .ok (.iload 4, 2) := by decide +kernel
theorem dX4_determinantWith_18 : decode cX4_determinantWith 18 = .ok (.aload_n 0, 1) := by decide +kernel
theorem dX4_determinantWith_19 : decode cX4_determinantWith 19 = .ok (.getfield 27, 3) := by decide +kernel
theorem dX4_determinantWith_22 : decode cX4_determinantWith 22 = .ok (.invokevirtual 44, 3) := by decide +kernel
theorem dX4_determinantWith_25 : decode cX4_determinantWith 25 = .ok (.if_icmp .ge 52, 3) := by decide +kernel
theorem dX4_determinantWith_77 : decode cX4_determinantWith 77 = .ok (.iinc 3 1, 3) := by decide +kernel
theorem dX4_determinantWith_80 : decode cX4_determinantWith 80 = .ok (.goto (-78), 3) := by decide +kernel
theorem dX4_determinantWith_28 : decode cX4_determinantWith 28 = .ok (.iload 4, 2) := by decide +kernel
theorem dX4_determinantWith_30 : decode cX4_determinantWith 30 = .ok (.iload_n 2, 1) := by decide +kernel
theorem dX4_determinantWith_31 : decode cX4_determinantWith 31 = .ok (.if_icmp .ne 18, 3) := by decide +kernel
theorem dX4_determinantWith_49 : decode cX4_determinantWith 49 = .ok (.aload_n 0, 1) := by decide +kernel
theorem dX4_determinantWith_50 : decode cX4_determinantWith 50 = .ok (.iload_n 3, 1) := by decide +kernel
theorem dX4_determinantWith_51 : decode cX4_determinantWith 51 = .ok (.iload 4, 2) := by decide +kernel
theorem dX4_determinantWith_53 : decode cX4_determinantWith 53 = .ok (.invokevirtual 48, 3) := by decide +kernel
theorem dX4_determinantWith_56 : decode cX4_determinantWith 56 = .ok (.istore 5, 2) := by decide +kernel
theorem dX4_determinantWith_58 : decode cX4_determinantWith 58 = .ok (.aload_n 0, 1) := by decide +kernel
theorem dX4_determinantWith_59 : decode cX4_determinantWith 59 = .ok (.getfield 12, 3) := by decide +kernel
theorem dX4_determinantWith_62 : decode cX4_determinantWith 62 = .ok (.iload_n 3, 1) := by decide +kernel
theorem dX4_determinantWith_63 : decode cX4_determinantWith 63 = .ok (.iload 4, 2) := by decide +kernel
theorem dX4_determinantWith_65 : decode cX4_determinantWith 65 = .ok (.iload 5, 2) := by decide +kernel
theorem dX4_determinantWith_67 : decode cX4_determinantWith 67 = .ok (.i2l, 1) := by decide +kernel
theorem dX4_determinantWith_68 : decode cX4_determinantWith 68 = .ok (.invokevirtual 51, 3) := by decide +kernel
theorem dX4_determinantWith_71 : decode cX4_determinantWith 71 = .ok (.iinc 4 1, 3) := by decide +kernel
theorem dX4_determinantWith_74 : decode cX4_determinantWith 74 = .ok (.goto (-58), 3) := by decide +kernel
theorem dX4_determinantWith_34 : decode cX4_determinantWith 34 = .ok (.aload_n 1, 1) := by decide +kernel
theorem dX4_determinantWith_35 : decode cX4_determinantWith 35 = .ok (.aload_n 0, 1) := by decide +kernel
theorem dX4_determinantWith_36 : decode cX4_determinantWith 36 = .ok (.getfield 27, 3) := by decide +kernel
theorem dX4_determinantWith_39 : decode cX4_determinantWith 39 = .ok (.iload_n 3, 1) := by decide +kernel
theorem dX4_determinantWith_40 : decode cX4_determinantWith 40 = .ok (.invokevirtual 31, 3) := by decide +kernel
theorem dX4_determinantWith_43 : decode cX4_determinantWith 43 = .ok (.invokevirtual 92, 3) := by decide +kernel
theorem q_296 : (Jvm.Cond.methodLink "Chipfold$Group" (92 : Nat) ({ cls := "Chipfold$Pile", name := "at", desc := "(I)I" } : Jvm.MethodName)) ∈ WG := wg_4 (List.mem_of_getElem? (i := 2) (by decide +kernel)) (by decide +kernel)
theorem dX4_determinantWith_46 : decode cX4_determinantWith 46 = .ok (.goto 10, 3) := by decide +kernel
theorem dX4_orderOf_0 : decode cX4_orderOf 0 = .ok (.aload_n 0, 1) := by decide +kernel
theorem dX4_orderOf_1 : decode cX4_orderOf 1 = .ok (.invokevirtual 84, 3) := by decide +kernel
theorem q_297 : (Jvm.Cond.code ({ cls := "Chipfold$Group", name := "treeNumber", desc := "()J" } : Jvm.MethodName) prog_6_method_4_code (2 : Nat) (Option.some Jvm.ClassFile.FieldType.long)) ∈ WG := wg_3 (List.mem_of_getElem? (i := 193) rfl) rfl
theorem q_298 : (Jvm.Cond.selects "Chipfold$Group" ({ cls := "Chipfold$Group", name := "treeNumber", desc := "()J" } : Jvm.MethodName) ({ cls := "Chipfold$Group", name := "treeNumber", desc := "()J" } : Jvm.MethodName)) ∈ WG := wg_3 (List.mem_of_getElem? (i := 192) (by decide +kernel)) (by decide +kernel)
theorem q_299 : (Jvm.Cond.methodLink "Chipfold$Group" (84 : Nat) ({ cls := "Chipfold$Group", name := "treeNumber", desc := "()J" } : Jvm.MethodName)) ∈ WG := wg_3 (List.mem_of_getElem? (i := 190) (by decide +kernel)) (by decide +kernel)
theorem q_300 : (Jvm.Cond.instanceMethod ({ cls := "Chipfold$Group", name := "treeNumber", desc := "()J" } : Jvm.MethodName)) ∈ WG := wg_3 (List.mem_of_getElem? (i := 191) (by decide +kernel)) (by decide +kernel)
theorem dX4_orderOf_4 : decode cX4_orderOf 4 = .ok (.lstore_n 2, 1) := by decide +kernel
theorem dX4_orderOf_5 : decode cX4_orderOf 5 = .ok (.lload_n 2, 1) := by decide +kernel
theorem dX4_orderOf_6 : decode cX4_orderOf 6 = .ok (.lstore 4, 2) := by decide +kernel
theorem dX4_orderOf_8 : decode cX4_orderOf 8 = .ok (.iconst 0, 1) := by decide +kernel
theorem dX4_orderOf_9 : decode cX4_orderOf 9 = .ok (.istore 6, 2) := by decide +kernel
theorem dX4_orderOf_11 : decode cX4_orderOf 11 = .ok (.iload 6, 2) := by decide +kernel
theorem dX4_orderOf_13 : decode cX4_orderOf 13 = .ok (.aload_n 0, 1) := by decide +kernel
theorem dX4_orderOf_14 : decode cX4_orderOf 14 = .ok (.getfield 27, 3) := by decide +kernel
theorem dX4_orderOf_17 : decode cX4_orderOf 17 = .ok (.invokevirtual 44, 3) := by decide +kernel
theorem dX4_orderOf_20 : decode cX4_orderOf 20 = .ok (.if_icmp .ge 23, 3) := by decide +kernel
theorem dX4_orderOf_43 : decode cX4_orderOf 43 = .ok (.lload 4, 2) := by decide +kernel
theorem dX4_orderOf_45 : decode cX4_orderOf 45 = .ok (.lconst 0, 1) := by decide +kernel
theorem dX4_orderOf_46 : decode cX4_orderOf 46 = .ok (.lcmp, 1) := by decide +kernel
theorem dX4_orderOf_47 : decode cX4_orderOf 47 = .ok (.ifCond .ne 7, 3) := by decide +kernel
theorem dX4_orderOf_54 : decode cX4_orderOf 54 = .ok (.lload_n 2, 1) := by decide +kernel
theorem dX4_orderOf_55 : decode cX4_orderOf 55 = .ok (.lload 4, 2) := by decide +kernel
theorem dX4_orderOf_57 : decode cX4_orderOf 57 = .ok (.ldiv, 1) := by decide +kernel
theorem dX4_orderOf_58 : decode cX4_orderOf 58 = .ok (.lreturn, 1) := by decide +kernel
theorem dX4_orderOf_50 : decode cX4_orderOf 50 = .ok (.lconst 0, 1) := by decide +kernel
theorem dX4_orderOf_51 : decode cX4_orderOf 51 = .ok (.goto 7, 3) := by decide +kernel
theorem dX4_orderOf_23 : decode cX4_orderOf 23 = .ok (.lload 4, 2) := by decide +kernel
theorem dX4_orderOf_25 : decode cX4_orderOf 25 = .ok (.aload_n 0, 1) := by decide +kernel
theorem dX4_orderOf_26 : decode cX4_orderOf 26 = .ok (.aload_n 1, 1) := by decide +kernel
theorem dX4_orderOf_27 : decode cX4_orderOf 27 = .ok (.iload 6, 2) := by decide +kernel
theorem dX4_orderOf_29 : decode cX4_orderOf 29 = .ok (.invokevirtual 88, 3) := by decide +kernel
theorem q_301 : (Jvm.Cond.code ({ cls := "Chipfold$Group", name := "determinantWith", desc := "(LChipfold$Pile;I)J" } : Jvm.MethodName) prog_6_method_9_code (6 : Nat) (Option.some Jvm.ClassFile.FieldType.long)) ∈ WG := wg_4 (List.mem_of_getElem? (i := 1) rfl) rfl
theorem q_302 : (Jvm.Cond.selects "Chipfold$Group" ({ cls := "Chipfold$Group", name := "determinantWith", desc := "(LChipfold$Pile;I)J" } : Jvm.MethodName) ({ cls := "Chipfold$Group", name := "determinantWith", desc := "(LChipfold$Pile;I)J" } : Jvm.MethodName)) ∈ WG := wg_0 (by decide +kernel) (by decide +kernel)
theorem q_303 : (Jvm.Cond.methodLink "Chipfold$Group" (88 : Nat) ({ cls := "Chipfold$Group", name := "determinantWith", desc := "(LChipfold$Pile;I)J" } : Jvm.MethodName)) ∈ WG := wg_3 (List.mem_of_getElem? (i := 238) (by decide +kernel)) (by decide +kernel)
theorem q_304 : (Jvm.Cond.instanceMethod ({ cls := "Chipfold$Group", name := "determinantWith", desc := "(LChipfold$Pile;I)J" } : Jvm.MethodName)) ∈ WG := wg_4 (List.mem_of_getElem? (i := 0) (by decide +kernel)) (by decide +kernel)
theorem dX4_orderOf_32 : decode cX4_orderOf 32 = .ok (.invokestatic 80, 3) := by decide +kernel
theorem dX4_orderOf_35 : decode cX4_orderOf 35 = .ok (.lstore 4, 2) := by decide +kernel
theorem dX4_orderOf_37 : decode cX4_orderOf 37 = .ok (.iinc 6 1, 3) := by decide +kernel
theorem dX4_orderOf_40 : decode cX4_orderOf 40 = .ok (.goto (-29), 3) := by decide +kernel
theorem p2_le {n : Nat} (h : n ≤ 6) : 2 ^ (n - 1) ≤ 32 := Nat.pow_le_pow_right (n := 2) (by omega) (show n - 1 ≤ 5 by omega)
theorem p2_sh {n : Nat} (h : n ≤ 6) : (1 : Int32) <<< (nI (n - 1) &&& 31) = nI (2 ^ (n - 1)) := by
  rcases (show n = 0 ∨ n = 1 ∨ n = 2 ∨ n = 3 ∨ n = 4 ∨ n = 5 ∨ n = 6 by omega) with rfl | rfl | rfl | rfl | rfl | rfl | rfl <;> decide
theorem bc_all : (List.range 6).all (fun m => (List.range (2 ^ m)).all fun k => bcI (nI k) == nI (pcI (nI k) m)) = true := by decide +kernel
theorem bc_pc {n k : Nat} (hn : n ≤ 6) (hk : k < 2 ^ (n - 1)) : bcI (nI k) = nI (pcI (nI k) (n - 1)) := by
  have h1 := List.all_eq_true.mp bc_all (n - 1) (List.mem_range.mpr (by omega))
  have h2 := List.all_eq_true.mp h1 k (List.mem_range.mpr hk)
  exact eq_of_beq h2
theorem bc_same {n a b : Nat} {s : Int32} (hn : n ≤ 6) (ha : a < 2 ^ (n - 1)) (hb : b < 2 ^ (n - 1)) (h1 : bcI (nI a) = s) (h2 : bcI (nI b) = s) : pcI (nI a) (n - 1) = pcI (nI b) (n - 1) := by
  rw [bc_pc hn ha] at h1
  rw [bc_pc hn hb] at h2
  have l1 := pcI_le (nI a) (n - 1)
  have l2 := pcI_le (nI b) (n - 1)
  exact (nI_eq (by omega) (by omega)).mp (h1.trans h2.symm)
/-- the divisor of all minors of so many rows: over the columns from r on, over the rows -/
def dvC (fj fd : Nat → Int32) (n z : Nat) (sd : Nat) (r : Nat) (d : Int64) : Nat → Int64
  | 0 => d
  | y + 1 => if dvC fj fd n z sd r d y = 1 then 1 else if bcI (nI r) = nI sd ∧ bcI (nI (r + y)) = nI sd then cdV (dvC fj fd n z sd r d y) (mnV fj fd n z (nI r) (nI (r + y))) else dvC fj fd n z sd r d y
def dvO (fj fd : Nat → Int32) (n z : Nat) (sd : Nat) : Nat → Int64
  | 0 => 0
  | x + 1 => if dvO fj fd n z sd x = 1 then 1 else dvC fj fd n z sd (x + 1) (dvO fj fd n z sd x) (2 ^ (n - 1) - (x + 1))
def dvV (fj fd : Nat → Int32) (n z : Nat) (sd : Nat) : Int64 := dvO fj fd n z sd (2 ^ (n - 1) - 1)
theorem dvC_y {fj fd : Nat → Int32} {n z sd r y : Nat} {d : Int64} (h : ¬ dvC fj fd n z sd r d y = 1) (h1 : bcI (nI r) = nI sd) (h2 : bcI (nI (r + y)) = nI sd) : dvC fj fd n z sd r d (y + 1) = cdV (dvC fj fd n z sd r d y) (mnV fj fd n z (nI r) (nI (r + y))) := by
  show (if _ then _ else _) = _
  rw [if_neg h, if_pos ⟨h1, h2⟩]
theorem dvC_n {fj fd : Nat → Int32} {n z sd r y : Nat} {d : Int64} (h : ¬ dvC fj fd n z sd r d y = 1) (h1 : ¬ (bcI (nI r) = nI sd ∧ bcI (nI (r + y)) = nI sd)) : dvC fj fd n z sd r d (y + 1) = dvC fj fd n z sd r d y := by
  show (if _ then _ else _) = _
  rw [if_neg h, if_neg h1]
theorem dvC_1 {fj fd : Nat → Int32} {n z sd r : Nat} {d : Int64} {y : Nat} (h : dvC fj fd n z sd r d y = 1) : ∀ k, dvC fj fd n z sd r d (y + k) = 1
  | 0 => h
  | k + 1 => by
    exact if_pos (dvC_1 h k)
theorem dvO_1 {fj fd : Nat → Int32} {n z sd x : Nat} (h : dvO fj fd n z sd x = 1) : ∀ k, dvO fj fd n z sd (x + k) = 1
  | 0 => h
  | k + 1 => by
    exact if_pos (dvO_1 h k)
theorem dvO_s {fj fd : Nat → Int32} {n z sd x : Nat} (h : ¬ dvO fj fd n z sd x = 1) : dvO fj fd n z sd (x + 1) = dvC fj fd n z sd (x + 1) (dvO fj fd n z sd x) (2 ^ (n - 1) - (x + 1)) := if_neg h
theorem dvV_1 {fj fd : Nat → Int32} {n z sd x y : Nat} (h : ¬ dvO fj fd n z sd x = 1) (hx : x + 1 + y < 2 ^ (n - 1)) (h1 : dvC fj fd n z sd (x + 1) (dvO fj fd n z sd x) (y + 1) = 1) : dvV fj fd n z sd = 1 := by
  have h2 := dvC_1 h1 (2 ^ (n - 1) - (x + 1) - (y + 1))
  rw [show y + 1 + (2 ^ (n - 1) - (x + 1) - (y + 1)) = 2 ^ (n - 1) - (x + 1) by omega] at h2
  have h3 := dvO_1 ((dvO_s h).trans h2) (2 ^ (n - 1) - 1 - (x + 1))
  rw [show x + 1 + (2 ^ (n - 1) - 1 - (x + 1)) = 2 ^ (n - 1) - 1 by omega] at h3
  exact h3
/-- the factors, side by side: the divisor before, how many, their row -/
def ffS (fj fd : Nat → Int32) (n z : Nat) (f8 : Nat → Int32) : Nat → Int64 × Nat × (Nat → Int32)
  | 0 => (1, 0, f8)
  | s + 1 => if ¬ (ffS fj fd n z f8 s).1 = 0 ∧ 1 < dvV fj fd n z (s + 1) / (ffS fj fd n z f8 s).1 then (dvV fj fd n z (s + 1), (ffS fj fd n z f8 s).2.1 + 1, upd (ffS fj fd n z f8 s).2.2 (ffS fj fd n z f8 s).2.1 (dvV fj fd n z (s + 1) / (ffS fj fd n z f8 s).1).toInt32) else (dvV fj fd n z (s + 1), (ffS fj fd n z f8 s).2.1, (ffS fj fd n z f8 s).2.2)
theorem ffS_le (fj fd : Nat → Int32) (n z : Nat) (f8 : Nat → Int32) : ∀ s, (ffS fj fd n z f8 s).2.1 ≤ s
  | 0 => Nat.le_refl _
  | s + 1 => by
    have := ffS_le fj fd n z f8 s
    unfold ffS
    split
    · show _ + 1 ≤ _; omega
    · show (ffS fj fd n z f8 s).2.1 ≤ _; omega
theorem ffS_y {fj fd : Nat → Int32} {n z : Nat} {f8 : Nat → Int32} {s : Nat} (h : ¬ (ffS fj fd n z f8 s).1 = 0) (h1 : 1 < dvV fj fd n z (s + 1) / (ffS fj fd n z f8 s).1) : ffS fj fd n z f8 (s + 1) = (dvV fj fd n z (s + 1), (ffS fj fd n z f8 s).2.1 + 1, upd (ffS fj fd n z f8 s).2.2 (ffS fj fd n z f8 s).2.1 (dvV fj fd n z (s + 1) / (ffS fj fd n z f8 s).1).toInt32) := if_pos ⟨h, h1⟩
theorem ffS_n {fj fd : Nat → Int32} {n z : Nat} {f8 : Nat → Int32} {s : Nat} (h : ¬ (¬ (ffS fj fd n z f8 s).1 = 0 ∧ 1 < dvV fj fd n z (s + 1) / (ffS fj fd n z f8 s).1)) : ffS fj fd n z f8 (s + 1) = (dvV fj fd n z (s + 1), (ffS fj fd n z f8 s).2.1, (ffS fj fd n z f8 s).2.2) := if_neg h
/-- the matrix with a pile for a column -/
def dwI (fj fd : Nat → Int32) (z : Nat) (f : Nat → Int32) (pl i j : Nat) : Int32 := if j = pl then f (skp z i) else entI fj fd z i j
def dwC (fj fd : Nat → Int32) (z : Nat) (f : Nat → Int32) (pl i : Nat) (M : Nat → Int64) : Nat → Nat → Int64
  | 0 => M
  | j + 1 => vp_updL (dwC fj fd z f pl i M j) (i * 5 + j) (dwI fj fd z f pl i j).toInt64
def dwR (fj fd : Nat → Int32) (z m : Nat) (f : Nat → Int32) (pl : Nat) (M : Nat → Int64) : Nat → Nat → Int64
  | 0 => M
  | i + 1 => dwC fj fd z f pl i (dwR fj fd z m f pl M i) m
def dwV (fj fd : Nat → Int32) (n z : Nat) (f : Nat → Int32) (pl : Nat) : Int64 := dtV (n - 1) (dwR fj fd z (n - 1) f pl (fun _ => 0) (n - 1))
theorem dwC_at {fj fd : Nat → Int32} {z : Nat} {f : Nat → Int32} {pl i : Nat} {M : Nat → Int64} : ∀ j, j ≤ 5 → (∀ a b, a ≠ i → b < 5 → dwC fj fd z f pl i M j (a * 5 + b) = M (a * 5 + b)) ∧ ∀ b, b < j → dwC fj fd z f pl i M j (i * 5 + b) = (dwI fj fd z f pl i b).toInt64
  | 0, _ => ⟨fun _ _ _ _ => rfl, fun b hb => absurd hb (Nat.not_lt_zero _)⟩
  | j + 1, hj => by
    obtain ⟨h1, h2⟩ := dwC_at (fj := fj) (fd := fd) (z := z) (f := f) (pl := pl) (i := i) (M := M) j (by omega)
    unfold dwC
    constructor
    · intro a b ha hb
      rw [pk_uLn (by omega)]
      exact h1 a b ha hb
    · intro b hb
      by_cases qb : b = j
      · subst qb; rw [pk_uLs]
      · rw [pk_uLn (by omega)]
        exact h2 b (by omega)
theorem dwR_at {fj fd : Nat → Int32} {z m : Nat} {f : Nat → Int32} {pl : Nat} {M : Nat → Int64} (hm : m ≤ 5) : ∀ i, i ≤ m → ∀ a b, a < i → b < m → dwR fj fd z m f pl M i (a * 5 + b) = (dwI fj fd z f pl a b).toInt64
  | 0, _ => fun a b ha _ => absurd ha (Nat.not_lt_zero _)
  | i + 1, hi => fun a b ha hb => by
    have h3 := dwC_at (fj := fj) (fd := fd) (z := z) (f := f) (pl := pl) (i := i) (M := dwR fj fd z m f pl M i) m hm
    unfold dwR
    by_cases qa : a = i
    · subst qa; exact h3.2 b hb
    · rw [h3.1 a b qa (by omega)]
      exact dwR_at hm i (by omega) a b (by omega) hb
theorem dw_same {fj fd : Nat → Int32} {n z : Nat} {f : Nat → Int32} {pl : Nat} (hn : n ≤ 6) (M : Nat → Int64) : dtV (n - 1) (dwR fj fd z (n - 1) f pl M (n - 1)) = dwV fj fd n z f pl :=
  dtV_congr (by omega) fun i j hi hj => (dwR_at (by omega) (n - 1) (Nat.le_refl _) i j hi hj).trans (dwR_at (by omega) (n - 1) (Nat.le_refl _) i j hi hj).symm
/-- the order -/
def odC (fj fd : Nat → Int32) (n z : Nat) (f : Nat → Int32) (tn : Int64) : Nat → Int64
  | 0 => tn
  | i + 1 => cdV (odC fj fd n z f tn i) (dwV fj fd n z f i)
def odV (fj fd : Nat → Int32) (n z : Nat) (f : Nat → Int32) (tn : Int64) : Int64 := if odC fj fd n z f tn (n - 1) = 0 then 0 else tn / odC fj fd n z f tn (n - 1)

set_option maxRecDepth 100000 in
set_option maxHeartbeats 400000 in
theorem c_X4_divisorOfMinors {l : Launch} {D : va_G} {k : Nat → ClassId} (h : Nat) (jj : Nat) (dd : Nat) (n : Nat) (z : Nat) (fj : Nat → Int32) (fd : Nat → Int32) (o4 : Nat) (m1 : Nat) (m2 : Nat) (m3 : Nat) (fm : Nat → Int64) (sN : Nat) (hn : n ≤ 6) (hz : z < n) (h1 : 1 ≤ n) : CM l D k yX4_divisorOfMinors cX4_divisorOfMinors 7 (some .long)  4 106 [.ref o4, .int (nI sN)] [(o4, .inr (6, [.ref h, .ref m1, .ref m2])), (m1, .inr (7, [.ref m3])), (m3, aJ k 25 fm), (h, .inr (5, [.ref jj, .ref dd, .int (nI n), .int (nI z)])), (jj, aI k 36 fj), (dd, aI k 6 fd)] (fun rv9 w9 => rv9 = (some (.long (dvV fj fd n z sN))) ∧ ∃ (gm : Nat → Int64), w9 = [(o4, .inr (6, [.ref h, .ref m1, .ref m2])), (m1, .inr (7, [.ref m3])), (m3, aJ k 25 gm), (h, .inr (5, [.ref jj, .ref dd, .int (nI n), .int (nI z)])), (jj, aI k 36 fj), (dd, aI k 6 fd)]) 0 0 0 := by
  refine CM.of (lv0 := [(0, .ref o4), (1, .int (nI sN))]) (by decide +kernel) (Nat.le_of_ble_eq_true rfl) rfl ?_
  intro p9 e9 s9 m9 bl9 me9 co9 C hr hlk hin had
  have hP := p2_le hn
  have hP1 : 1 ≤ 2 ^ (n - 1) := Nat.one_le_two_pow
  refine g_iconst (pc := 0) (v := 1) C (by decide) dX4_divisorOfMinors_0 ?_
  refine g_aload_n (pc := 1) C 0 rfl rfl dX4_divisorOfMinors_1 ?_
  refine g_get (pc := 2) C (T := TX4) inX4 0 rfl rfl 0 (by decide) q_122 rfl rfl dX4_divisorOfMinors_2 ?_
  refine g_callV (pc := 5) (cells := 0) (slots := 0) (g := 0) (As := []) (st := [.int 1]) (T := TX3) (q0 := 3) C (nA := 0) rfl (c_X3_others h jj dd n z fj fd (by first | assumption | decide | omega) (by first | assumption | decide | omega)) q_263 q_264 q_262 q_16 q_261 (by decide +kernel) rfl rfl dX4_divisorOfMinors_5 ⟨Nat.le_of_ble_eq_true rfl, Nat.le_of_ble_eq_true rfl⟩ [3, 4, 5] [0, 1, 2] rfl (wr := [(o4, .inr (6, [.ref h, .ref m1, .ref m2])), (m1, .inr (7, [.ref m3])), (m3, aJ k 25 fm)]) rfl (by decide) (by decide) (by decide) (Nat.le_of_ble_eq_true rfl) ⟨Nat.le_of_ble_eq_true rfl, Nat.le_of_ble_eq_true rfl⟩ (fun rv w1 h1 => ?_)
  obtain ⟨rfl, rfl⟩ := h1
  refine G.aft [0, 1, 2, 3, 4, 5] (ws' := [(o4, .inr (6, [.ref h, .ref m1, .ref m2])), (m1, .inr (7, [.ref m3])), (m3, aJ k 25 fm), (h, .inr (5, [.ref jj, .ref dd, .int (nI n), .int (nI z)])), (jj, aI k 36 fj), (dd, aI k 6 fd)]) (st' := [.int (nI (n - 1)), .int 1]) (cells' := 0) (slots' := 0) (g' := 0) (by decide) rfl rfl rfl rfl rfl ?_
  refine g_ishl (pc := 8) C dX4_divisorOfMinors_8 ?_
  refine G.eqs (st' := [.int (nI (2 ^ (n - 1)))]) (congrArg (β := List Value) (fun z9 => [.int z9]) (show ((1 <<< ((nI (n - 1)) &&& 31)) : Int32) = (nI (2 ^ (n - 1))) from p2_sh hn)) ?_
  refine g_istore_n (pc := 9) C [(2, .int (nI (2 ^ (n - 1)))), (0, .ref o4), (1, .int (nI sN))] rfl dX4_divisorOfMinors_9 (by decide) rfl ?_
  refine g_lconst (pc := 10) (v := 0) C (by decide) dX4_divisorOfMinors_10 ?_
  refine g_lstore_n (pc := 11) C [(3, .long 0), (2, .int (nI (2 ^ (n - 1)))), (0, .ref o4), (1, .int (nI sN))] rfl dX4_divisorOfMinors_11 (by decide) rfl ?_
  refine g_iconst (pc := 12) (v := 1) C (by decide) dX4_divisorOfMinors_12 ?_
  refine g_istore (pc := 13) C [(5, .int 1), (3, .long 0), (2, .int (nI (2 ^ (n - 1)))), (0, .ref o4), (1, .int (nI sN))] dX4_divisorOfMinors_13 (by decide) rfl ?_
  have key_15 : ∀ (fuel : Nat) (x : Nat) (ga : Nat → Int64), x + 1 ≤ 2 ^ (n - 1) → ¬ dvO fj fd n z sN x = 1 → 2 ^ (n - 1) - x < fuel → G p9 l e9 { frames := 4, cells := 0, slots := 0, locals := 106 } s9 m9 ([.ref o4, .int (nI sN)] : List Value).toArray bl9 me9 co9 D 7 (va_A [(o4, .inr (6, [.ref h, .ref m1, .ref m2])), (m1, .inr (7, [.ref m3])), (m3, aJ k 25 fm), (h, .inr (5, [.ref jj, .ref dd, .int (nI n), .int (nI z)])), (jj, aI k 36 fj), (dd, aI k 6 fd)] s9.heap.size) (QM bl9 D ([.ref o4, .int (nI sN)] : List Value).toArray s9 [(o4, .inr (6, [.ref h, .ref m1, .ref m2])), (m1, .inr (7, [.ref m3])), (m3, aJ k 25 fm), (h, .inr (5, [.ref jj, .ref dd, .int (nI n), .int (nI z)])), (jj, aI k 36 fj), (dd, aI k 6 fd)] (fun rv9 w9 => rv9 = (some (.long (dvV fj fd n z sN))) ∧ ∃ (gm : Nat → Int64), w9 = [(o4, .inr (6, [.ref h, .ref m1, .ref m2])), (m1, .inr (7, [.ref m3])), (m3, aJ k 25 gm), (h, .inr (5, [.ref jj, .ref dd, .int (nI n), .int (nI z)])), (jj, aI k 36 fj), (dd, aI k 6 fd)]) 0 0 0) [(o4, .inr (6, [.ref h, .ref m1, .ref m2])), (m1, .inr (7, [.ref m3])), (m3, aJ k 25 ga), (h, .inr (5, [.ref jj, .ref dd, .int (nI n), .int (nI z)])), (jj, aI k 36 fj), (dd, aI k 6 fd)] [(0, .ref o4), (1, .int (nI sN)), (2, .int (nI (2 ^ (n - 1)))), (3, .long (dvO fj fd n z sN x)), (5, .int (nI (x + 1)))] 0 0 0 15 [] := by
    intro fuel
    induction fuel with
    | zero => intro x ga hx h1o hm; exact absurd hm (Nat.not_lt_zero _)
    | succ fuel ih =>
      intro x ga hx h1o hm
      have ih_15 := ih
      refine g_iload (pc := 15) C 4 rfl dX4_divisorOfMinors_15 ?_
      refine g_iload_n (pc := 17) C 2 rfl rfl dX4_divisorOfMinors_17 ?_
      refine g_icmp_ge (pc := 18) C 82 (by decide) dX4_divisorOfMinors_18 (fun c_18 => ?_) (fun c_18 => ?_)
      · have h3 : x = 2 ^ (n - 1) - 1 := by { have := nle_ge (by omega) c_18; omega }
        refine g_lload_n (pc := 82) C 3 rfl rfl dX4_divisorOfMinors_82 ?_
        refine G.eqs (st' := [.long (dvV fj fd n z sN)]) (congrArg (fun z9 => [Value.long z9]) (show ((dvO fj fd n z sN x) : Int64) = (dvV fj fd n z sN) from by { rw [h3]; try rfl })) ?_
        exact g_lret (pc := 83) C hr hlk (by first | decide | omega) (by first | decide | omega) (by first | decide | omega) dX4_divisorOfMinors_83 ⟨rfl, ga, rfl⟩
      · have hl18 : x + 1 < 2 ^ (n - 1) := nle_lt (by omega) c_18
        refine g_iload (pc := 21) C 4 rfl dX4_divisorOfMinors_21 ?_
        refine g_istore (pc := 23) C [(6, .int (nI (x + 1))), (0, .ref o4), (1, .int (nI sN)), (2, .int (nI (2 ^ (n - 1)))), (3, .long (dvO fj fd n z sN x)), (5, .int (nI (x + 1)))] dX4_divisorOfMinors_23 (by decide) rfl ?_
        have key_25 : ∀ (fuel : Nat) (y : Nat) (gb : Nat → Int64), y ≤ 2 ^ (n - 1) - (x + 1) → ¬ dvC fj fd n z sN (x + 1) (dvO fj fd n z sN x) y = 1 → 2 ^ (n - 1) - (x + 1) - y < fuel → G p9 l e9 { frames := 4, cells := 0, slots := 0, locals := 106 } s9 m9 ([.ref o4, .int (nI sN)] : List Value).toArray bl9 me9 co9 D 7 (va_A [(o4, .inr (6, [.ref h, .ref m1, .ref m2])), (m1, .inr (7, [.ref m3])), (m3, aJ k 25 fm), (h, .inr (5, [.ref jj, .ref dd, .int (nI n), .int (nI z)])), (jj, aI k 36 fj), (dd, aI k 6 fd)] s9.heap.size) (QM bl9 D ([.ref o4, .int (nI sN)] : List Value).toArray s9 [(o4, .inr (6, [.ref h, .ref m1, .ref m2])), (m1, .inr (7, [.ref m3])), (m3, aJ k 25 fm), (h, .inr (5, [.ref jj, .ref dd, .int (nI n), .int (nI z)])), (jj, aI k 36 fj), (dd, aI k 6 fd)] (fun rv9 w9 => rv9 = (some (.long (dvV fj fd n z sN))) ∧ ∃ (gm : Nat → Int64), w9 = [(o4, .inr (6, [.ref h, .ref m1, .ref m2])), (m1, .inr (7, [.ref m3])), (m3, aJ k 25 gm), (h, .inr (5, [.ref jj, .ref dd, .int (nI n), .int (nI z)])), (jj, aI k 36 fj), (dd, aI k 6 fd)]) 0 0 0) [(o4, .inr (6, [.ref h, .ref m1, .ref m2])), (m1, .inr (7, [.ref m3])), (m3, aJ k 25 gb), (h, .inr (5, [.ref jj, .ref dd, .int (nI n), .int (nI z)])), (jj, aI k 36 fj), (dd, aI k 6 fd)] [(0, .ref o4), (1, .int (nI sN)), (2, .int (nI (2 ^ (n - 1)))), (3, .long (dvC fj fd n z sN (x + 1) (dvO fj fd n z sN x) y)), (5, .int (nI (x + 1))), (6, .int (nI (x + 1 + y)))] 0 0 0 25 [] := by
          intro fuel
          induction fuel with
          | zero => intro y gb hy h1q hm; exact absurd hm (Nat.not_lt_zero _)
          | succ fuel ih =>
            intro y gb hy h1q hm
            have ih_25 := ih
            refine g_iload (pc := 25) C 5 rfl dX4_divisorOfMinors_25 ?_
            refine g_iload_n (pc := 27) C 2 rfl rfl dX4_divisorOfMinors_27 ?_
            refine g_icmp_ge (pc := 28) C 76 (by decide) dX4_divisorOfMinors_28 (fun c_28 => ?_) (fun c_28 => ?_)
            · have h4 : y = 2 ^ (n - 1) - (x + 1) := by { have := nle_ge (by omega) c_28; omega }
              refine g_iinc (pc := 76) (n := 1) (v := (nI ((x + 1) + 1))) C 4 [(5, .int (nI ((x + 1) + 1))), (0, .ref o4), (1, .int (nI sN)), (2, .int (nI (2 ^ (n - 1)))), (3, .long (dvC fj fd n z sN (x + 1) (dvO fj fd n z sN x) y)), (6, .int (nI (x + 1 + y)))] rfl (nI_1 (x + 1)) dX4_divisorOfMinors_76 (by decide) rfl ?_
              refine g_goto (pc := 79) C 15 (by decide) dX4_divisorOfMinors_79 ?_
              refine G.loc [1, 2, 3, 4, 0] (lv' := [(0, .ref o4), (1, .int (nI sN)), (2, .int (nI (2 ^ (n - 1)))), (3, .long (dvC fj fd n z sN (x + 1) (dvO fj fd n z sN x) y)), (5, .int (nI ((x + 1) + 1)))]) rfl ?_
              refine G.eql (lv' := [(0, .ref o4), (1, .int (nI sN)), (2, .int (nI (2 ^ (n - 1)))), (3, .long (dvO fj fd n z sN (x + 1))), (5, .int (nI ((x + 1) + 1)))]) (congrArg (β := List (Nat × Value)) (fun z9 => [(0, .ref o4), (1, .int (nI sN)), (2, .int (nI (2 ^ (n - 1)))), (3, .long z9), (5, .int (nI ((x + 1) + 1)))]) (show ((dvC fj fd n z sN (x + 1) (dvO fj fd n z sN x) y) : Int64) = (dvO fj fd n z sN (x + 1)) from by first | rfl | (rw [h4]; exact (dvO_s h1o).symm))) ?_
              exact ih_15 (x + 1) gb (by omega) (by rw [dvO_s h1o, ← h4]; exact h1q) (by omega)
            · have hl28 : x + 1 + y < 2 ^ (n - 1) := nle_lt (by omega) c_28
              refine g_iload (pc := 31) C 4 rfl dX4_divisorOfMinors_31 ?_
              refine g_callSO (pc := 33) (cells := 0) (slots := 0) (g := 0) (As := [.int (nI (x + 1))]) (st := []) (b := 0) C (nA := 1) rfl (c_J6_bitCount_0f7a4 (nI (x + 1)) ) q_285 q_286 q_284 q_283 (by decide +kernel) dX4_divisorOfMinors_33 ⟨Nat.le_of_ble_eq_true rfl, Nat.le_of_ble_eq_true rfl⟩ [] [0, 1, 2, 3, 4, 5] rfl (wr := [(o4, .inr (6, [.ref h, .ref m1, .ref m2])), (m1, .inr (7, [.ref m3])), (m3, aJ k 25 gb), (h, .inr (5, [.ref jj, .ref dd, .int (nI n), .int (nI z)])), (jj, aI k 36 fj), (dd, aI k 6 fd)]) rfl (by decide) (by decide) (by decide) (Nat.le_of_ble_eq_true rfl) ⟨Nat.le_of_ble_eq_true rfl, Nat.le_of_ble_eq_true rfl⟩ (fun rv w1 h1 => ?_)
              obtain ⟨rfl, rfl⟩ := h1
              refine G.aft [0, 1, 2, 3, 4, 5] (ws' := [(o4, .inr (6, [.ref h, .ref m1, .ref m2])), (m1, .inr (7, [.ref m3])), (m3, aJ k 25 gb), (h, .inr (5, [.ref jj, .ref dd, .int (nI n), .int (nI z)])), (jj, aI k 36 fj), (dd, aI k 6 fd)]) (st' := [.int (bcI (nI (x + 1)))]) (cells' := 0) (slots' := 0) (g' := 0) (by decide) rfl rfl rfl rfl rfl ?_
              refine g_iload_n (pc := 36) C 1 rfl rfl dX4_divisorOfMinors_36 ?_
              refine g_icmp_ne (pc := 37) C 62 (by decide) dX4_divisorOfMinors_37 (fun c_37 => ?_) (fun c_37 => ?_)
              · refine g_lload_n (pc := 62) C 3 rfl rfl dX4_divisorOfMinors_62 ?_
                refine g_lconst (pc := 63) (v := 1) C (by decide) dX4_divisorOfMinors_63 ?_
                refine g_lcmp (pc := 64) C dX4_divisorOfMinors_64 ?_
                refine g_if_ne (pc := 65) C 70 (by decide) dX4_divisorOfMinors_65 (fun c_65 => ?_) (fun c_65 => ?_)
                · rw [lc_0] at c_65
                  refine g_iinc (pc := 70) (n := 1) (v := (nI ((x + 1 + y) + 1))) C 5 [(6, .int (nI ((x + 1 + y) + 1))), (0, .ref o4), (1, .int (nI sN)), (2, .int (nI (2 ^ (n - 1)))), (3, .long (dvC fj fd n z sN (x + 1) (dvO fj fd n z sN x) y)), (5, .int (nI (x + 1)))] rfl (nI_1 (x + 1 + y)) dX4_divisorOfMinors_70 (by decide) rfl ?_
                  refine g_goto (pc := 73) C 25 (by decide) dX4_divisorOfMinors_73 ?_
                  refine G.loc [1, 2, 3, 4, 5, 0] (lv' := [(0, .ref o4), (1, .int (nI sN)), (2, .int (nI (2 ^ (n - 1)))), (3, .long (dvC fj fd n z sN (x + 1) (dvO fj fd n z sN x) y)), (5, .int (nI (x + 1))), (6, .int (nI ((x + 1 + y) + 1)))]) rfl ?_
                  refine G.eql (lv' := [(0, .ref o4), (1, .int (nI sN)), (2, .int (nI (2 ^ (n - 1)))), (3, .long (dvC fj fd n z sN (x + 1) (dvO fj fd n z sN x) (y + 1))), (5, .int (nI (x + 1))), (6, .int (nI (x + 1 + (y + 1))))]) ((congrArg (β := List (Nat × Value)) (fun z9 => [(0, .ref o4), (1, .int (nI sN)), (2, .int (nI (2 ^ (n - 1)))), (3, .long z9), (5, .int (nI (x + 1))), (6, .int (nI ((x + 1 + y) + 1)))]) (show ((dvC fj fd n z sN (x + 1) (dvO fj fd n z sN x) y) : Int64) = (dvC fj fd n z sN (x + 1) (dvO fj fd n z sN x) (y + 1)) from by first | rfl | (first | (rw [dvC_n h1q (fun q => c_37 q.1)]) | (rw [dvC_n h1q (fun q => c_46 q.2)]) | (rw [dvC_y h1q c_37 c_46])))).trans (congrArg (β := List (Nat × Value)) (fun z9 => [(0, .ref o4), (1, .int (nI sN)), (2, .int (nI (2 ^ (n - 1)))), (3, .long (dvC fj fd n z sN (x + 1) (dvO fj fd n z sN x) (y + 1))), (5, .int (nI (x + 1))), (6, .int z9)]) (show ((nI ((x + 1 + y) + 1)) : Int32) = (nI (x + 1 + (y + 1))) from by first | rfl | (first | (rw [dvC_n h1q (fun q => c_37 q.1)]) | (rw [dvC_n h1q (fun q => c_46 q.2)]) | (rw [dvC_y h1q c_37 c_46]))))) ?_
                  exact ih_25 (y + 1) gb (by omega) (by first | (rw [dvC_n h1q (fun q => c_37 q.1)]; exact c_65) | (rw [dvC_n h1q (fun q => c_46 q.2)]; exact c_65) | (rw [dvC_y h1q c_37 c_46]; exact c_65)) (by omega)
                · rw [lc_0] at c_65
                  refine g_lconst (pc := 68) (v := 1) C (by decide) dX4_divisorOfMinors_68 ?_
                  refine G.eqs (st' := [.long (dvV fj fd n z sN)]) (congrArg (fun z9 => [Value.long z9]) (show (1 : Int64) = (dvV fj fd n z sN) from by first | exact absurd c_65 h1q | (rw [dvV_1 h1o hl28 ((dvC_y h1q c_37 c_46).trans c_65)]))) ?_
                  exact g_lret (pc := 69) C hr hlk (by first | decide | omega) (by first | decide | omega) (by first | decide | omega) dX4_divisorOfMinors_69 ⟨rfl, gb, rfl⟩
              · refine g_iload (pc := 40) C 5 rfl dX4_divisorOfMinors_40 ?_
                refine g_callSO (pc := 42) (cells := 0) (slots := 0) (g := 0) (As := [.int (nI (x + 1 + y))]) (st := []) (b := 0) C (nA := 1) rfl (c_J6_bitCount_0f7a4 (nI (x + 1 + y)) ) q_285 q_286 q_284 q_283 (by decide +kernel) dX4_divisorOfMinors_42 ⟨Nat.le_of_ble_eq_true rfl, Nat.le_of_ble_eq_true rfl⟩ [] [0, 1, 2, 3, 4, 5] rfl (wr := [(o4, .inr (6, [.ref h, .ref m1, .ref m2])), (m1, .inr (7, [.ref m3])), (m3, aJ k 25 gb), (h, .inr (5, [.ref jj, .ref dd, .int (nI n), .int (nI z)])), (jj, aI k 36 fj), (dd, aI k 6 fd)]) rfl (by decide) (by decide) (by decide) (Nat.le_of_ble_eq_true rfl) ⟨Nat.le_of_ble_eq_true rfl, Nat.le_of_ble_eq_true rfl⟩ (fun rv w1 h1 => ?_)
                obtain ⟨rfl, rfl⟩ := h1
                refine G.aft [0, 1, 2, 3, 4, 5] (ws' := [(o4, .inr (6, [.ref h, .ref m1, .ref m2])), (m1, .inr (7, [.ref m3])), (m3, aJ k 25 gb), (h, .inr (5, [.ref jj, .ref dd, .int (nI n), .int (nI z)])), (jj, aI k 36 fj), (dd, aI k 6 fd)]) (st' := [.int (bcI (nI (x + 1 + y)))]) (cells' := 0) (slots' := 0) (g' := 0) (by decide) rfl rfl rfl rfl rfl ?_
                refine g_iload_n (pc := 45) C 1 rfl rfl dX4_divisorOfMinors_45 ?_
                refine g_icmp_ne (pc := 46) C 62 (by decide) dX4_divisorOfMinors_46 (fun c_46 => ?_) (fun c_46 => ?_)
                · refine g_lload_n (pc := 62) C 3 rfl rfl dX4_divisorOfMinors_62 ?_
                  refine g_lconst (pc := 63) (v := 1) C (by decide) dX4_divisorOfMinors_63 ?_
                  refine g_lcmp (pc := 64) C dX4_divisorOfMinors_64 ?_
                  refine g_if_ne (pc := 65) C 70 (by decide) dX4_divisorOfMinors_65 (fun c_65 => ?_) (fun c_65 => ?_)
                  · rw [lc_0] at c_65
                    refine g_iinc (pc := 70) (n := 1) (v := (nI ((x + 1 + y) + 1))) C 5 [(6, .int (nI ((x + 1 + y) + 1))), (0, .ref o4), (1, .int (nI sN)), (2, .int (nI (2 ^ (n - 1)))), (3, .long (dvC fj fd n z sN (x + 1) (dvO fj fd n z sN x) y)), (5, .int (nI (x + 1)))] rfl (nI_1 (x + 1 + y)) dX4_divisorOfMinors_70 (by decide) rfl ?_
                    refine g_goto (pc := 73) C 25 (by decide) dX4_divisorOfMinors_73 ?_
                    refine G.loc [1, 2, 3, 4, 5, 0] (lv' := [(0, .ref o4), (1, .int (nI sN)), (2, .int (nI (2 ^ (n - 1)))), (3, .long (dvC fj fd n z sN (x + 1) (dvO fj fd n z sN x) y)), (5, .int (nI (x + 1))), (6, .int (nI ((x + 1 + y) + 1)))]) rfl ?_
                    refine G.eql (lv' := [(0, .ref o4), (1, .int (nI sN)), (2, .int (nI (2 ^ (n - 1)))), (3, .long (dvC fj fd n z sN (x + 1) (dvO fj fd n z sN x) (y + 1))), (5, .int (nI (x + 1))), (6, .int (nI (x + 1 + (y + 1))))]) ((congrArg (β := List (Nat × Value)) (fun z9 => [(0, .ref o4), (1, .int (nI sN)), (2, .int (nI (2 ^ (n - 1)))), (3, .long z9), (5, .int (nI (x + 1))), (6, .int (nI ((x + 1 + y) + 1)))]) (show ((dvC fj fd n z sN (x + 1) (dvO fj fd n z sN x) y) : Int64) = (dvC fj fd n z sN (x + 1) (dvO fj fd n z sN x) (y + 1)) from by first | rfl | (first | (rw [dvC_n h1q (fun q => c_37 q.1)]) | (rw [dvC_n h1q (fun q => c_46 q.2)]) | (rw [dvC_y h1q c_37 c_46])))).trans (congrArg (β := List (Nat × Value)) (fun z9 => [(0, .ref o4), (1, .int (nI sN)), (2, .int (nI (2 ^ (n - 1)))), (3, .long (dvC fj fd n z sN (x + 1) (dvO fj fd n z sN x) (y + 1))), (5, .int (nI (x + 1))), (6, .int z9)]) (show ((nI ((x + 1 + y) + 1)) : Int32) = (nI (x + 1 + (y + 1))) from by first | rfl | (first | (rw [dvC_n h1q (fun q => c_37 q.1)]) | (rw [dvC_n h1q (fun q => c_46 q.2)]) | (rw [dvC_y h1q c_37 c_46]))))) ?_
                    exact ih_25 (y + 1) gb (by omega) (by first | (rw [dvC_n h1q (fun q => c_37 q.1)]; exact c_65) | (rw [dvC_n h1q (fun q => c_46 q.2)]; exact c_65) | (rw [dvC_y h1q c_37 c_46]; exact c_65)) (by omega)
                  · rw [lc_0] at c_65
                    refine g_lconst (pc := 68) (v := 1) C (by decide) dX4_divisorOfMinors_68 ?_
                    refine G.eqs (st' := [.long (dvV fj fd n z sN)]) (congrArg (fun z9 => [Value.long z9]) (show (1 : Int64) = (dvV fj fd n z sN) from by first | exact absurd c_65 h1q | (rw [dvV_1 h1o hl28 ((dvC_y h1q c_37 c_46).trans c_65)]))) ?_
                    exact g_lret (pc := 69) C hr hlk (by first | decide | omega) (by first | decide | omega) (by first | decide | omega) dX4_divisorOfMinors_69 ⟨rfl, gb, rfl⟩
                · refine g_lload_n (pc := 49) C 3 rfl rfl dX4_divisorOfMinors_49 ?_
                  refine g_aload_n (pc := 50) C 0 rfl rfl dX4_divisorOfMinors_50 ?_
                  refine g_iload (pc := 51) C 4 rfl dX4_divisorOfMinors_51 ?_
                  refine g_iload (pc := 53) C 5 rfl dX4_divisorOfMinors_53 ?_
                  refine g_callV (pc := 55) (cells := 0) (slots := 0) (g := 0) (As := [.int (nI (x + 1)), .int (nI (x + 1 + y))]) (st := [.long (dvC fj fd n z sN (x + 1) (dvO fj fd n z sN x) y)]) (T := TX4) (q0 := 0) C (nA := 2) rfl (c_X4_minor h jj dd n z fj fd o4 m1 m2 m3 gb (nI (x + 1)) (nI (x + 1 + y)) (by first | assumption | decide | omega) (by first | assumption | decide | omega) (by first | assumption | decide | omega) (bc_same hn hl18 hl28 c_37 c_46)) q_277 q_278 q_276 q_155 q_275 (by decide +kernel) rfl rfl dX4_divisorOfMinors_55 ⟨Nat.le_of_ble_eq_true rfl, Nat.le_of_ble_eq_true rfl⟩ [0, 1, 2, 3, 4, 5] [] rfl (wr := []) rfl (by decide) (by decide) (by decide) (Nat.le_of_ble_eq_true rfl) ⟨Nat.le_of_ble_eq_true rfl, Nat.le_of_ble_eq_true rfl⟩ (fun rv w1 h1 => ?_)
                  obtain ⟨rfl, q1, rfl⟩ := h1
                  refine G.aft [0, 1, 2, 3, 4, 5] (ws' := [(o4, .inr (6, [.ref h, .ref m1, .ref m2])), (m1, .inr (7, [.ref m3])), (m3, aJ k 25 q1), (h, .inr (5, [.ref jj, .ref dd, .int (nI n), .int (nI z)])), (jj, aI k 36 fj), (dd, aI k 6 fd)]) (st' := [.long (mnV fj fd n z (nI (x + 1)) (nI (x + 1 + y))), .long (dvC fj fd n z sN (x + 1) (dvO fj fd n z sN x) y)]) (cells' := 0) (slots' := 0) (g' := 0) (by decide) rfl rfl rfl rfl rfl ?_
                  refine g_callS (pc := 58) (cells := 0) (slots := 0) (g := 0) (As := [.long (dvC fj fd n z sN (x + 1) (dvO fj fd n z sN x) y), .long (mnV fj fd n z (nI (x + 1)) (nI (x + 1 + y)))]) (st := []) (b := 0) C (nA := 2) rfl (c_X4_commonDivisor (dvC fj fd n z sN (x + 1) (dvO fj fd n z sN x) y) (mnV fj fd n z (nI (x + 1)) (nI (x + 1 + y))) ) q_288 q_289 q_155 q_287 (by decide +kernel) dX4_divisorOfMinors_58 ⟨Nat.le_of_ble_eq_true rfl, Nat.le_of_ble_eq_true rfl⟩ [] [0, 1, 2, 3, 4, 5] rfl (wr := [(o4, .inr (6, [.ref h, .ref m1, .ref m2])), (m1, .inr (7, [.ref m3])), (m3, aJ k 25 q1), (h, .inr (5, [.ref jj, .ref dd, .int (nI n), .int (nI z)])), (jj, aI k 36 fj), (dd, aI k 6 fd)]) rfl (by decide) (by decide) (by decide) (Nat.le_of_ble_eq_true rfl) ⟨Nat.le_of_ble_eq_true rfl, Nat.le_of_ble_eq_true rfl⟩ (fun rv w1 h1 => ?_)
                  obtain ⟨rfl, rfl⟩ := h1
                  refine G.aft [0, 1, 2, 3, 4, 5] (ws' := [(o4, .inr (6, [.ref h, .ref m1, .ref m2])), (m1, .inr (7, [.ref m3])), (m3, aJ k 25 q1), (h, .inr (5, [.ref jj, .ref dd, .int (nI n), .int (nI z)])), (jj, aI k 36 fj), (dd, aI k 6 fd)]) (st' := [.long (cdV (dvC fj fd n z sN (x + 1) (dvO fj fd n z sN x) y) (mnV fj fd n z (nI (x + 1)) (nI (x + 1 + y))))]) (cells' := 0) (slots' := 0) (g' := 0) (by decide) rfl rfl rfl rfl rfl ?_
                  refine g_lstore_n (pc := 61) C [(3, .long (cdV (dvC fj fd n z sN (x + 1) (dvO fj fd n z sN x) y) (mnV fj fd n z (nI (x + 1)) (nI (x + 1 + y))))), (0, .ref o4), (1, .int (nI sN)), (2, .int (nI (2 ^ (n - 1)))), (5, .int (nI (x + 1))), (6, .int (nI (x + 1 + y)))] rfl dX4_divisorOfMinors_61 (by decide) rfl ?_
                  refine g_lload_n (pc := 62) C 0 rfl rfl dX4_divisorOfMinors_62 ?_
                  refine g_lconst (pc := 63) (v := 1) C (by decide) dX4_divisorOfMinors_63 ?_
                  refine g_lcmp (pc := 64) C dX4_divisorOfMinors_64 ?_
                  refine g_if_ne (pc := 65) C 70 (by decide) dX4_divisorOfMinors_65 (fun c_65 => ?_) (fun c_65 => ?_)
                  · rw [lc_0] at c_65
                    refine g_iinc (pc := 70) (n := 1) (v := (nI ((x + 1 + y) + 1))) C 5 [(6, .int (nI ((x + 1 + y) + 1))), (3, .long (cdV (dvC fj fd n z sN (x + 1) (dvO fj fd n z sN x) y) (mnV fj fd n z (nI (x + 1)) (nI (x + 1 + y))))), (0, .ref o4), (1, .int (nI sN)), (2, .int (nI (2 ^ (n - 1)))), (5, .int (nI (x + 1)))] rfl (nI_1 (x + 1 + y)) dX4_divisorOfMinors_70 (by decide) rfl ?_
                    refine g_goto (pc := 73) C 25 (by decide) dX4_divisorOfMinors_73 ?_
                    refine G.loc [2, 3, 4, 1, 5, 0] (lv' := [(0, .ref o4), (1, .int (nI sN)), (2, .int (nI (2 ^ (n - 1)))), (3, .long (cdV (dvC fj fd n z sN (x + 1) (dvO fj fd n z sN x) y) (mnV fj fd n z (nI (x + 1)) (nI (x + 1 + y))))), (5, .int (nI (x + 1))), (6, .int (nI ((x + 1 + y) + 1)))]) rfl ?_
                    refine G.eql (lv' := [(0, .ref o4), (1, .int (nI sN)), (2, .int (nI (2 ^ (n - 1)))), (3, .long (dvC fj fd n z sN (x + 1) (dvO fj fd n z sN x) (y + 1))), (5, .int (nI (x + 1))), (6, .int (nI (x + 1 + (y + 1))))]) ((congrArg (β := List (Nat × Value)) (fun z9 => [(0, .ref o4), (1, .int (nI sN)), (2, .int (nI (2 ^ (n - 1)))), (3, .long z9), (5, .int (nI (x + 1))), (6, .int (nI ((x + 1 + y) + 1)))]) (show ((cdV (dvC fj fd n z sN (x + 1) (dvO fj fd n z sN x) y) (mnV fj fd n z (nI (x + 1)) (nI (x + 1 + y)))) : Int64) = (dvC fj fd n z sN (x + 1) (dvO fj fd n z sN x) (y + 1)) from by first | rfl | (first | (rw [dvC_n h1q (fun q => c_37 q.1)]) | (rw [dvC_n h1q (fun q => c_46 q.2)]) | (rw [dvC_y h1q c_37 c_46])))).trans (congrArg (β := List (Nat × Value)) (fun z9 => [(0, .ref o4), (1, .int (nI sN)), (2, .int (nI (2 ^ (n - 1)))), (3, .long (dvC fj fd n z sN (x + 1) (dvO fj fd n z sN x) (y + 1))), (5, .int (nI (x + 1))), (6, .int z9)]) (show ((nI ((x + 1 + y) + 1)) : Int32) = (nI (x + 1 + (y + 1))) from by first | rfl | (first | (rw [dvC_n h1q (fun q => c_37 q.1)]) | (rw [dvC_n h1q (fun q => c_46 q.2)]) | (rw [dvC_y h1q c_37 c_46]))))) ?_
                    exact ih_25 (y + 1) q1 (by omega) (by first | (rw [dvC_n h1q (fun q => c_37 q.1)]; exact c_65) | (rw [dvC_n h1q (fun q => c_46 q.2)]; exact c_65) | (rw [dvC_y h1q c_37 c_46]; exact c_65)) (by omega)
                  · rw [lc_0] at c_65
                    refine g_lconst (pc := 68) (v := 1) C (by decide) dX4_divisorOfMinors_68 ?_
                    refine G.eqs (st' := [.long (dvV fj fd n z sN)]) (congrArg (fun z9 => [Value.long z9]) (show (1 : Int64) = (dvV fj fd n z sN) from by first | exact absurd c_65 h1q | (rw [dvV_1 h1o hl28 ((dvC_y h1q c_37 c_46).trans c_65)]))) ?_
                    exact g_lret (pc := 69) C hr hlk (by first | decide | omega) (by first | decide | omega) (by first | decide | omega) dX4_divisorOfMinors_69 ⟨rfl, q1, rfl⟩
        refine G.loc [1, 2, 3, 4, 5, 0] (lv' := [(0, .ref o4), (1, .int (nI sN)), (2, .int (nI (2 ^ (n - 1)))), (3, .long (dvO fj fd n z sN x)), (5, .int (nI (x + 1))), (6, .int (nI (x + 1)))]) rfl ?_
        refine G.eql (lv' := [(0, .ref o4), (1, .int (nI sN)), (2, .int (nI (2 ^ (n - 1)))), (3, .long (dvC fj fd n z sN (x + 1) (dvO fj fd n z sN x) 0)), (5, .int (nI (x + 1))), (6, .int (nI (x + 1 + 0)))]) ((congrArg (β := List (Nat × Value)) (fun z9 => [(0, .ref o4), (1, .int (nI sN)), (2, .int (nI (2 ^ (n - 1)))), (3, .long z9), (5, .int (nI (x + 1))), (6, .int (nI (x + 1)))]) (show ((dvO fj fd n z sN x) : Int64) = (dvC fj fd n z sN (x + 1) (dvO fj fd n z sN x) 0) from by first | rfl)).trans (congrArg (β := List (Nat × Value)) (fun z9 => [(0, .ref o4), (1, .int (nI sN)), (2, .int (nI (2 ^ (n - 1)))), (3, .long (dvC fj fd n z sN (x + 1) (dvO fj fd n z sN x) 0)), (5, .int (nI (x + 1))), (6, .int z9)]) (show ((nI (x + 1)) : Int32) = (nI (x + 1 + 0)) from by first | rfl))) ?_
        exact key_25 (2 ^ (n - 1) - (x + 1) - 0 + 1) 0 ga (by omega) h1o (Nat.lt_succ_self _)
  refine G.loc [3, 4, 2, 1, 0] (lv' := [(0, .ref o4), (1, .int (nI sN)), (2, .int (nI (2 ^ (n - 1)))), (3, .long 0), (5, .int 1)]) rfl ?_
  refine G.eql (lv' := [(0, .ref o4), (1, .int (nI sN)), (2, .int (nI (2 ^ (n - 1)))), (3, .long (dvO fj fd n z sN 0)), (5, .int (nI (0 + 1)))]) ((congrArg (β := List (Nat × Value)) (fun z9 => [(0, .ref o4), (1, .int (nI sN)), (2, .int (nI (2 ^ (n - 1)))), (3, .long z9), (5, .int 1)]) (show (0 : Int64) = (dvO fj fd n z sN 0) from by first | rfl)).trans (congrArg (β := List (Nat × Value)) (fun z9 => [(0, .ref o4), (1, .int (nI sN)), (2, .int (nI (2 ^ (n - 1)))), (3, .long (dvO fj fd n z sN 0)), (5, .int z9)]) (show (1 : Int32) = (nI (0 + 1)) from by first | rfl))) ?_
  exact key_15 (2 ^ (n - 1) - 0 + 1) 0 fm (by omega) (by show ¬ (0 : Int64) = 1; decide) (Nat.lt_succ_self _)
set_option maxRecDepth 100000 in
set_option maxHeartbeats 400000 in
theorem c_X4_findFactors {l : Launch} {D : va_G} {k : Nat → ClassId} (h : Nat) (jj : Nat) (dd : Nat) (n : Nat) (z : Nat) (fj : Nat → Int32) (fd : Nat → Int32) (o4 : Nat) (m1 : Nat) (m2 : Nat) (m3 : Nat) (fm : Nat → Int64) (m4 : Nat) (f8 : Nat → Int32) (hn : n ≤ 6) (hz : z < n) (h1 : 1 ≤ n) : CM l D k yX4_findFactors cX4_findFactors 7 (some .int)  5 132 [.ref o4] [(o4, .inr (6, [.ref h, .ref m1, .ref m2])), (m1, .inr (7, [.ref m3])), (m3, aJ k 25 fm), (h, .inr (5, [.ref jj, .ref dd, .int (nI n), .int (nI z)])), (jj, aI k 36 fj), (dd, aI k 6 fd), (m2, .inr (10, [.ref m4])), (m4, aI k 6 f8)] (fun rv9 w9 => rv9 = (some (.int (nI (ffS fj fd n z f8 (n - 1)).2.1))) ∧ ∃ (gm : Nat → Int64), w9 = [(o4, .inr (6, [.ref h, .ref m1, .ref m2])), (m1, .inr (7, [.ref m3])), (m3, aJ k 25 gm), (h, .inr (5, [.ref jj, .ref dd, .int (nI n), .int (nI z)])), (jj, aI k 36 fj), (dd, aI k 6 fd), (m2, .inr (10, [.ref m4])), (m4, aI k 6 ((ffS fj fd n z f8 (n - 1)).2.2))]) 0 0 0 := by
  refine CM.of (lv0 := [(0, .ref o4)]) (by decide +kernel) (Nat.le_of_ble_eq_true rfl) rfl ?_
  intro p9 e9 s9 m9 bl9 me9 co9 C hr hlk hin had
  refine g_iconst (pc := 0) (v := 0) C (by decide) dX4_findFactors_0 ?_
  refine g_istore_n (pc := 1) C [(1, .int 0), (0, .ref o4)] rfl dX4_findFactors_1 (by decide) rfl ?_
  refine g_lconst (pc := 2) (v := 1) C (by decide) dX4_findFactors_2 ?_
  refine g_lstore_n (pc := 3) C [(2, .long 1), (1, .int 0), (0, .ref o4)] rfl dX4_findFactors_3 (by decide) rfl ?_
  refine g_iconst (pc := 4) (v := 1) C (by decide) dX4_findFactors_4 ?_
  refine g_istore (pc := 5) C [(4, .int 1), (2, .long 1), (1, .int 0), (0, .ref o4)] dX4_findFactors_5 (by decide) rfl ?_
  have key_7 : ∀ (fuel : Nat) (s : Nat) (ga : Nat → Int64), s ≤ n - 1 → n - s < fuel → G p9 l e9 { frames := 5, cells := 0, slots := 0, locals := 132 } s9 m9 ([.ref o4] : List Value).toArray bl9 me9 co9 D 7 (va_A [(o4, .inr (6, [.ref h, .ref m1, .ref m2])), (m1, .inr (7, [.ref m3])), (m3, aJ k 25 fm), (h, .inr (5, [.ref jj, .ref dd, .int (nI n), .int (nI z)])), (jj, aI k 36 fj), (dd, aI k 6 fd), (m2, .inr (10, [.ref m4])), (m4, aI k 6 f8)] s9.heap.size) (QM bl9 D ([.ref o4] : List Value).toArray s9 [(o4, .inr (6, [.ref h, .ref m1, .ref m2])), (m1, .inr (7, [.ref m3])), (m3, aJ k 25 fm), (h, .inr (5, [.ref jj, .ref dd, .int (nI n), .int (nI z)])), (jj, aI k 36 fj), (dd, aI k 6 fd), (m2, .inr (10, [.ref m4])), (m4, aI k 6 f8)] (fun rv9 w9 => rv9 = (some (.int (nI (ffS fj fd n z f8 (n - 1)).2.1))) ∧ ∃ (gm : Nat → Int64), w9 = [(o4, .inr (6, [.ref h, .ref m1, .ref m2])), (m1, .inr (7, [.ref m3])), (m3, aJ k 25 gm), (h, .inr (5, [.ref jj, .ref dd, .int (nI n), .int (nI z)])), (jj, aI k 36 fj), (dd, aI k 6 fd), (m2, .inr (10, [.ref m4])), (m4, aI k 6 ((ffS fj fd n z f8 (n - 1)).2.2))]) 0 0 0) [(o4, .inr (6, [.ref h, .ref m1, .ref m2])), (m1, .inr (7, [.ref m3])), (m3, aJ k 25 ga), (h, .inr (5, [.ref jj, .ref dd, .int (nI n), .int (nI z)])), (jj, aI k 36 fj), (dd, aI k 6 fd), (m2, .inr (10, [.ref m4])), (m4, aI k 6 ((ffS fj fd n z f8 s).2.2))] [(0, .ref o4), (1, .int (nI (ffS fj fd n z f8 s).2.1)), (2, .long ((ffS fj fd n z f8 s).1)), (4, .int (nI (s + 1)))] 0 0 0 7 [] := by
    intro fuel
    induction fuel with
    | zero => intro s ga hs hm; exact absurd hm (Nat.not_lt_zero _)
    | succ fuel ih =>
      intro s ga hs hm
      have ih_7 := ih
      refine g_iload (pc := 7) C 3 rfl dX4_findFactors_7 ?_
      refine g_aload_n (pc := 9) C 0 rfl rfl dX4_findFactors_9 ?_
      refine g_get (pc := 10) C (T := TX4) inX4 0 rfl rfl 0 (by decide) q_122 rfl rfl dX4_findFactors_10 ?_
      refine g_callV (pc := 13) (cells := 0) (slots := 0) (g := 0) (As := []) (st := [.int (nI (s + 1))]) (T := TX3) (q0 := 3) C (nA := 0) rfl (c_X3_others h jj dd n z fj fd (by first | assumption | decide | omega) (by first | assumption | decide | omega)) q_263 q_264 q_262 q_16 q_261 (by decide +kernel) rfl rfl dX4_findFactors_13 ⟨Nat.le_of_ble_eq_true rfl, Nat.le_of_ble_eq_true rfl⟩ [3, 4, 5] [0, 1, 2, 6, 7] rfl (wr := [(o4, .inr (6, [.ref h, .ref m1, .ref m2])), (m1, .inr (7, [.ref m3])), (m3, aJ k 25 ga), (m2, .inr (10, [.ref m4])), (m4, aI k 6 ((ffS fj fd n z f8 s).2.2))]) rfl (by decide) (by decide) (by decide) (Nat.le_of_ble_eq_true rfl) ⟨Nat.le_of_ble_eq_true rfl, Nat.le_of_ble_eq_true rfl⟩ (fun rv w1 h1 => ?_)
      obtain ⟨rfl, rfl⟩ := h1
      refine G.aft [0, 1, 2, 5, 6, 7, 3, 4] (ws' := [(o4, .inr (6, [.ref h, .ref m1, .ref m2])), (m1, .inr (7, [.ref m3])), (m3, aJ k 25 ga), (h, .inr (5, [.ref jj, .ref dd, .int (nI n), .int (nI z)])), (jj, aI k 36 fj), (dd, aI k 6 fd), (m2, .inr (10, [.ref m4])), (m4, aI k 6 ((ffS fj fd n z f8 s).2.2))]) (st' := [.int (nI (n - 1)), .int (nI (s + 1))]) (cells' := 0) (slots' := 0) (g' := 0) (by decide) rfl rfl rfl rfl rfl ?_
      refine g_icmp_gt (pc := 16) C 67 (by decide) dX4_findFactors_16 (fun c_16 => ?_) (fun c_16 => ?_)
      · have h3 : s = n - 1 := by { rcases Nat.lt_or_ge s (n - 1) with q | q; exact absurd c_16 (nI_nlt (show s + 1 ≤ n - 1 by omega) (by omega)); omega }
        refine g_iload_n (pc := 67) C 1 rfl rfl dX4_findFactors_67 ?_
        refine G.fn ((ffS fj fd n z f8 (n - 1)).2.2) 7 [(o4, .inr (6, [.ref h, .ref m1, .ref m2])), (m1, .inr (7, [.ref m3])), (m3, aJ k 25 ga), (h, .inr (5, [.ref jj, .ref dd, .int (nI n), .int (nI z)])), (jj, aI k 36 fj), (dd, aI k 6 fd), (m2, .inr (10, [.ref m4])), (m4, aI k 6 ((ffS fj fd n z f8 (n - 1)).2.2))] rfl (fun j hj => by rw [h3]) rfl ?_
        refine G.eqs (st' := [.int (nI (ffS fj fd n z f8 (n - 1)).2.1)]) (congrArg (fun z9 => [Value.int z9]) (show ((nI (ffS fj fd n z f8 s).2.1) : Int32) = (nI (ffS fj fd n z f8 (n - 1)).2.1) from by rw [h3])) ?_
        exact g_iret (pc := 68) C hr hlk (by first | decide | omega) (by first | decide | omega) (by first | decide | omega) dX4_findFactors_68 ⟨rfl, ga, rfl⟩
      · have hl16 : s < n - 1 := by { rcases Nat.lt_or_ge s (n - 1) with q | q; exact q; exact absurd (nI_lt (show n - 1 < s + 1 by omega) (by omega)) c_16 }
        have hfs := ffS_le fj fd n z f8 s
        refine g_aload_n (pc := 19) C 0 rfl rfl dX4_findFactors_19 ?_
        refine g_iload (pc := 20) C 3 rfl dX4_findFactors_20 ?_
        refine g_callV (pc := 22) (cells := 0) (slots := 0) (g := 0) (As := [.int (nI (s + 1))]) (st := []) (T := TX4) (q0 := 0) C (nA := 1) rfl (c_X4_divisorOfMinors h jj dd n z fj fd o4 m1 m2 m3 ga (s + 1) (by first | assumption | decide | omega) (by first | assumption | decide | omega) (by first | assumption | decide | omega)) q_292 q_293 q_291 q_155 q_290 (by decide +kernel) rfl rfl dX4_findFactors_22 ⟨Nat.le_of_ble_eq_true rfl, Nat.le_of_ble_eq_true rfl⟩ [0, 1, 2, 3, 4, 5] [6, 7] rfl (wr := [(m2, .inr (10, [.ref m4])), (m4, aI k 6 ((ffS fj fd n z f8 s).2.2))]) rfl (by decide) (by decide) (by decide) (Nat.le_of_ble_eq_true rfl) ⟨Nat.le_of_ble_eq_true rfl, Nat.le_of_ble_eq_true rfl⟩ (fun rv w1 h1 => ?_)
        obtain ⟨rfl, q1, rfl⟩ := h1
        refine G.aft [2, 3, 4, 5, 6, 7, 0, 1] (ws' := [(o4, .inr (6, [.ref h, .ref m1, .ref m2])), (m1, .inr (7, [.ref m3])), (m3, aJ k 25 q1), (h, .inr (5, [.ref jj, .ref dd, .int (nI n), .int (nI z)])), (jj, aI k 36 fj), (dd, aI k 6 fd), (m2, .inr (10, [.ref m4])), (m4, aI k 6 ((ffS fj fd n z f8 s).2.2))]) (st' := [.long (dvV fj fd n z (s + 1))]) (cells' := 0) (slots' := 0) (g' := 0) (by decide) rfl rfl rfl rfl rfl ?_
        refine g_lstore (pc := 25) C [(5, .long (dvV fj fd n z (s + 1))), (0, .ref o4), (1, .int (nI (ffS fj fd n z f8 s).2.1)), (2, .long ((ffS fj fd n z f8 s).1)), (4, .int (nI (s + 1)))] dX4_findFactors_25 (by decide) rfl ?_
        refine g_lload_n (pc := 27) C 3 rfl rfl dX4_findFactors_27 ?_
        refine g_lconst (pc := 28) (v := 0) C (by decide) dX4_findFactors_28 ?_
        refine g_lcmp (pc := 29) C dX4_findFactors_29 ?_
        refine g_if_eq (pc := 30) C 58 (by decide) dX4_findFactors_30 (fun c_30 => ?_) (fun c_30 => ?_)
        · rw [lc_0] at c_30
          refine g_lload (pc := 58) C 0 rfl dX4_findFactors_58 ?_
          refine g_lstore_n (pc := 60) C [(2, .long (dvV fj fd n z (s + 1))), (5, .long (dvV fj fd n z (s + 1))), (0, .ref o4), (1, .int (nI (ffS fj fd n z f8 s).2.1)), (4, .int (nI (s + 1)))] rfl dX4_findFactors_60 (by decide) rfl ?_
          refine g_iinc (pc := 61) (n := 1) (v := (nI ((s + 1) + 1))) C 4 [(4, .int (nI ((s + 1) + 1))), (2, .long (dvV fj fd n z (s + 1))), (5, .long (dvV fj fd n z (s + 1))), (0, .ref o4), (1, .int (nI (ffS fj fd n z f8 s).2.1))] rfl (nI_1 (s + 1)) dX4_findFactors_61 (by decide) rfl ?_
          refine g_goto (pc := 64) C 7 (by decide) dX4_findFactors_64 ?_
          refine G.loc [3, 4, 1, 0] (lv' := [(0, .ref o4), (1, .int (nI (ffS fj fd n z f8 s).2.1)), (2, .long (dvV fj fd n z (s + 1))), (4, .int (nI ((s + 1) + 1)))]) rfl ?_
          refine G.fn ((ffS fj fd n z f8 (s + 1)).2.2) 7 [(o4, .inr (6, [.ref h, .ref m1, .ref m2])), (m1, .inr (7, [.ref m3])), (m3, aJ k 25 q1), (h, .inr (5, [.ref jj, .ref dd, .int (nI n), .int (nI z)])), (jj, aI k 36 fj), (dd, aI k 6 fd), (m2, .inr (10, [.ref m4])), (m4, aI k 6 ((ffS fj fd n z f8 (s + 1)).2.2))] rfl (fun j hj => by first | rfl | (rw [ffS_y c_30 c_39]) | (rw [ffS_n (fun q => q.1 c_30)]) | (rw [ffS_n (fun q => c_39 q.2)])) rfl ?_
          refine G.eql (lv' := [(0, .ref o4), (1, .int (nI (ffS fj fd n z f8 (s + 1)).2.1)), (2, .long ((ffS fj fd n z f8 (s + 1)).1)), (4, .int (nI ((s + 1) + 1)))]) ((congrArg (β := List (Nat × Value)) (fun z9 => [(0, .ref o4), (1, .int z9), (2, .long (dvV fj fd n z (s + 1))), (4, .int (nI ((s + 1) + 1)))]) (show ((nI (ffS fj fd n z f8 s).2.1) : Int32) = (nI (ffS fj fd n z f8 (s + 1)).2.1) from by first | rfl | (rw [ffS_y c_30 c_39]) | (rw [ffS_n (fun q => q.1 c_30)]) | (rw [ffS_n (fun q => c_39 q.2)]))).trans (congrArg (β := List (Nat × Value)) (fun z9 => [(0, .ref o4), (1, .int (nI (ffS fj fd n z f8 (s + 1)).2.1)), (2, .long z9), (4, .int (nI ((s + 1) + 1)))]) (show ((dvV fj fd n z (s + 1)) : Int64) = (ffS fj fd n z f8 (s + 1)).1 from by first | rfl | (rw [ffS_y c_30 c_39]) | (rw [ffS_n (fun q => q.1 c_30)]) | (rw [ffS_n (fun q => c_39 q.2)])))) ?_
          exact ih_7 (s + 1) q1 (by omega) (by omega)
        · rw [lc_0] at c_30
          refine g_lload (pc := 33) C 0 rfl dX4_findFactors_33 ?_
          refine g_lload_n (pc := 35) C 3 rfl rfl dX4_findFactors_35 ?_
          refine g_ldiv (pc := 36) C c_30 dX4_findFactors_36 ?_
          refine g_lconst (pc := 37) (v := 1) C (by decide) dX4_findFactors_37 ?_
          refine g_lcmp (pc := 38) C dX4_findFactors_38 ?_
          refine g_if_le (pc := 39) C 58 (by decide) dX4_findFactors_39 (fun c_39 => ?_) (fun c_39 => ?_)
          · rw [lc_le] at c_39
            refine g_lload (pc := 58) C 0 rfl dX4_findFactors_58 ?_
            refine g_lstore_n (pc := 60) C [(2, .long (dvV fj fd n z (s + 1))), (5, .long (dvV fj fd n z (s + 1))), (0, .ref o4), (1, .int (nI (ffS fj fd n z f8 s).2.1)), (4, .int (nI (s + 1)))] rfl dX4_findFactors_60 (by decide) rfl ?_
            refine g_iinc (pc := 61) (n := 1) (v := (nI ((s + 1) + 1))) C 4 [(4, .int (nI ((s + 1) + 1))), (2, .long (dvV fj fd n z (s + 1))), (5, .long (dvV fj fd n z (s + 1))), (0, .ref o4), (1, .int (nI (ffS fj fd n z f8 s).2.1))] rfl (nI_1 (s + 1)) dX4_findFactors_61 (by decide) rfl ?_
            refine g_goto (pc := 64) C 7 (by decide) dX4_findFactors_64 ?_
            refine G.loc [3, 4, 1, 0] (lv' := [(0, .ref o4), (1, .int (nI (ffS fj fd n z f8 s).2.1)), (2, .long (dvV fj fd n z (s + 1))), (4, .int (nI ((s + 1) + 1)))]) rfl ?_
            refine G.fn ((ffS fj fd n z f8 (s + 1)).2.2) 7 [(o4, .inr (6, [.ref h, .ref m1, .ref m2])), (m1, .inr (7, [.ref m3])), (m3, aJ k 25 q1), (h, .inr (5, [.ref jj, .ref dd, .int (nI n), .int (nI z)])), (jj, aI k 36 fj), (dd, aI k 6 fd), (m2, .inr (10, [.ref m4])), (m4, aI k 6 ((ffS fj fd n z f8 (s + 1)).2.2))] rfl (fun j hj => by first | rfl | (rw [ffS_y c_30 c_39]) | (rw [ffS_n (fun q => q.1 c_30)]) | (rw [ffS_n (fun q => c_39 q.2)])) rfl ?_
            refine G.eql (lv' := [(0, .ref o4), (1, .int (nI (ffS fj fd n z f8 (s + 1)).2.1)), (2, .long ((ffS fj fd n z f8 (s + 1)).1)), (4, .int (nI ((s + 1) + 1)))]) ((congrArg (β := List (Nat × Value)) (fun z9 => [(0, .ref o4), (1, .int z9), (2, .long (dvV fj fd n z (s + 1))), (4, .int (nI ((s + 1) + 1)))]) (show ((nI (ffS fj fd n z f8 s).2.1) : Int32) = (nI (ffS fj fd n z f8 (s + 1)).2.1) from by first | rfl | (rw [ffS_y c_30 c_39]) | (rw [ffS_n (fun q => q.1 c_30)]) | (rw [ffS_n (fun q => c_39 q.2)]))).trans (congrArg (β := List (Nat × Value)) (fun z9 => [(0, .ref o4), (1, .int (nI (ffS fj fd n z f8 (s + 1)).2.1)), (2, .long z9), (4, .int (nI ((s + 1) + 1)))]) (show ((dvV fj fd n z (s + 1)) : Int64) = (ffS fj fd n z f8 (s + 1)).1 from by first | rfl | (rw [ffS_y c_30 c_39]) | (rw [ffS_n (fun q => q.1 c_30)]) | (rw [ffS_n (fun q => c_39 q.2)])))) ?_
            exact ih_7 (s + 1) q1 (by omega) (by omega)
          · rw [lc_le, Decidable.not_not] at c_39
            refine g_aload_n (pc := 42) C 1 rfl rfl dX4_findFactors_42 ?_
            refine g_get (pc := 43) C (T := TX4) inX4 0 rfl rfl 2 (by decide) q_121 rfl rfl dX4_findFactors_43 ?_
            refine g_iload_n (pc := 46) C 2 rfl rfl dX4_findFactors_46 ?_
            refine g_lload (pc := 47) C 0 rfl dX4_findFactors_47 ?_
            refine g_lload_n (pc := 49) C 3 rfl rfl dX4_findFactors_49 ?_
            refine g_ldiv (pc := 50) C c_30 dX4_findFactors_50 ?_
            refine g_l2i (pc := 51) C dX4_findFactors_51 ?_
            refine g_callV (pc := 52) (cells := 0) (slots := 0) (g := 0) (As := [.int (nI (ffS fj fd n z f8 s).2.1), .int (((dvV fj fd n z (s + 1)) / ((ffS fj fd n z f8 s).1)).toInt32)]) (st := []) (T := TX8) (q0 := 6) C (nA := 2) rfl (c_X8_write_n m2 m4 6 ((ffS fj fd n z f8 s).2.2) ((ffS fj fd n z f8 s).2.1) (((dvV fj fd n z (s + 1)) / ((ffS fj fd n z f8 s).1)).toInt32) (by first | assumption | decide | omega) (by first | assumption | decide | omega)) q_294 q_202 q_200 q_6 q_199 (by decide +kernel) rfl rfl dX4_findFactors_52 ⟨Nat.le_of_ble_eq_true rfl, Nat.le_of_ble_eq_true rfl⟩ [6, 7] [0, 1, 2, 3, 4, 5] rfl (wr := [(o4, .inr (6, [.ref h, .ref m1, .ref m2])), (m1, .inr (7, [.ref m3])), (m3, aJ k 25 q1), (h, .inr (5, [.ref jj, .ref dd, .int (nI n), .int (nI z)])), (jj, aI k 36 fj), (dd, aI k 6 fd)]) rfl (by decide) (by decide) (by decide) (Nat.le_of_ble_eq_true rfl) ⟨Nat.le_of_ble_eq_true rfl, Nat.le_of_ble_eq_true rfl⟩ (fun rv w1 h1 => ?_)
            obtain ⟨rfl, rfl⟩ := h1
            refine G.aft [0, 1, 2, 3, 4, 5, 6, 7] (ws' := [(o4, .inr (6, [.ref h, .ref m1, .ref m2])), (m1, .inr (7, [.ref m3])), (m3, aJ k 25 q1), (h, .inr (5, [.ref jj, .ref dd, .int (nI n), .int (nI z)])), (jj, aI k 36 fj), (dd, aI k 6 fd), (m2, .inr (10, [.ref m4])), (m4, aI k 6 (upd ((ffS fj fd n z f8 s).2.2) ((ffS fj fd n z f8 s).2.1) (((dvV fj fd n z (s + 1)) / ((ffS fj fd n z f8 s).1)).toInt32)))]) (st' := []) (cells' := 0) (slots' := 0) (g' := 0) (by decide) rfl rfl rfl rfl rfl ?_
            refine g_iinc (pc := 55) (n := 1) (v := (nI ((ffS fj fd n z f8 s).2.1 + 1))) C 2 [(1, .int (nI ((ffS fj fd n z f8 s).2.1 + 1))), (5, .long (dvV fj fd n z (s + 1))), (0, .ref o4), (2, .long ((ffS fj fd n z f8 s).1)), (4, .int (nI (s + 1)))] rfl (nI_1 ((ffS fj fd n z f8 s).2.1)) dX4_findFactors_55 (by decide) rfl ?_
            refine g_lload (pc := 58) C 1 rfl dX4_findFactors_58 ?_
            refine g_lstore_n (pc := 60) C [(2, .long (dvV fj fd n z (s + 1))), (1, .int (nI ((ffS fj fd n z f8 s).2.1 + 1))), (5, .long (dvV fj fd n z (s + 1))), (0, .ref o4), (4, .int (nI (s + 1)))] rfl dX4_findFactors_60 (by decide) rfl ?_
            refine g_iinc (pc := 61) (n := 1) (v := (nI ((s + 1) + 1))) C 4 [(4, .int (nI ((s + 1) + 1))), (2, .long (dvV fj fd n z (s + 1))), (1, .int (nI ((ffS fj fd n z f8 s).2.1 + 1))), (5, .long (dvV fj fd n z (s + 1))), (0, .ref o4)] rfl (nI_1 (s + 1)) dX4_findFactors_61 (by decide) rfl ?_
            refine g_goto (pc := 64) C 7 (by decide) dX4_findFactors_64 ?_
            refine G.loc [4, 2, 1, 0] (lv' := [(0, .ref o4), (1, .int (nI ((ffS fj fd n z f8 s).2.1 + 1))), (2, .long (dvV fj fd n z (s + 1))), (4, .int (nI ((s + 1) + 1)))]) rfl ?_
            refine G.fn ((ffS fj fd n z f8 (s + 1)).2.2) 7 [(o4, .inr (6, [.ref h, .ref m1, .ref m2])), (m1, .inr (7, [.ref m3])), (m3, aJ k 25 q1), (h, .inr (5, [.ref jj, .ref dd, .int (nI n), .int (nI z)])), (jj, aI k 36 fj), (dd, aI k 6 fd), (m2, .inr (10, [.ref m4])), (m4, aI k 6 ((ffS fj fd n z f8 (s + 1)).2.2))] rfl (fun j hj => by first | rfl | (rw [ffS_y c_30 c_39]) | (rw [ffS_n (fun q => q.1 c_30)]) | (rw [ffS_n (fun q => c_39 q.2)])) rfl ?_
            refine G.eql (lv' := [(0, .ref o4), (1, .int (nI (ffS fj fd n z f8 (s + 1)).2.1)), (2, .long ((ffS fj fd n z f8 (s + 1)).1)), (4, .int (nI ((s + 1) + 1)))]) ((congrArg (β := List (Nat × Value)) (fun z9 => [(0, .ref o4), (1, .int z9), (2, .long (dvV fj fd n z (s + 1))), (4, .int (nI ((s + 1) + 1)))]) (show ((nI ((ffS fj fd n z f8 s).2.1 + 1)) : Int32) = (nI (ffS fj fd n z f8 (s + 1)).2.1) from by first | rfl | (rw [ffS_y c_30 c_39]) | (rw [ffS_n (fun q => q.1 c_30)]) | (rw [ffS_n (fun q => c_39 q.2)]))).trans (congrArg (β := List (Nat × Value)) (fun z9 => [(0, .ref o4), (1, .int (nI (ffS fj fd n z f8 (s + 1)).2.1)), (2, .long z9), (4, .int (nI ((s + 1) + 1)))]) (show ((dvV fj fd n z (s + 1)) : Int64) = (ffS fj fd n z f8 (s + 1)).1 from by first | rfl | (rw [ffS_y c_30 c_39]) | (rw [ffS_n (fun q => q.1 c_30)]) | (rw [ffS_n (fun q => c_39 q.2)])))) ?_
            exact ih_7 (s + 1) q1 (by omega) (by omega)
  refine G.loc [3, 2, 1, 0] (lv' := [(0, .ref o4), (1, .int 0), (2, .long 1), (4, .int 1)]) rfl ?_
  refine G.fn ((ffS fj fd n z f8 0).2.2) 7 [(o4, .inr (6, [.ref h, .ref m1, .ref m2])), (m1, .inr (7, [.ref m3])), (m3, aJ k 25 fm), (h, .inr (5, [.ref jj, .ref dd, .int (nI n), .int (nI z)])), (jj, aI k 36 fj), (dd, aI k 6 fd), (m2, .inr (10, [.ref m4])), (m4, aI k 6 ((ffS fj fd n z f8 0).2.2))] rfl (fun j hj => by rfl) rfl ?_
  refine G.eql (lv' := [(0, .ref o4), (1, .int (nI (ffS fj fd n z f8 0).2.1)), (2, .long ((ffS fj fd n z f8 0).1)), (4, .int (nI (0 + 1)))]) ((congrArg (β := List (Nat × Value)) (fun z9 => [(0, .ref o4), (1, .int z9), (2, .long 1), (4, .int 1)]) (show (0 : Int32) = (nI (ffS fj fd n z f8 0).2.1) from by first | rfl | exact nI_0.symm)).trans ((congrArg (β := List (Nat × Value)) (fun z9 => [(0, .ref o4), (1, .int (nI (ffS fj fd n z f8 0).2.1)), (2, .long z9), (4, .int 1)]) (show (1 : Int64) = (ffS fj fd n z f8 0).1 from by first | rfl | exact nI_0.symm)).trans (congrArg (β := List (Nat × Value)) (fun z9 => [(0, .ref o4), (1, .int (nI (ffS fj fd n z f8 0).2.1)), (2, .long ((ffS fj fd n z f8 0).1)), (4, .int z9)]) (show (1 : Int32) = (nI (0 + 1)) from by first | rfl | exact nI_0.symm)))) ?_
  exact key_7 (n - 0 + 1) 0 fm (by omega) (Nat.lt_succ_self _)
set_option maxRecDepth 100000 in
set_option maxHeartbeats 400000 in
theorem c_X4_factorFound {l : Launch} {D : va_G} {k : Nat → ClassId} (h : Nat) (o4 : Nat) (m1 : Nat) (m2 : Nat) (m4 : Nat) (f8 : Nat → Int32) (i : Nat) (hi : i < 6) : CM l D k yX4_factorFound cX4_factorFound 2 (some .int)  1 21 [.ref o4, .int (nI i)] [(o4, .inr (6, [.ref h, .ref m1, .ref m2])), (m2, .inr (10, [.ref m4])), (m4, aI k 6 f8)] (is1 (some (.int (f8 i))) [(o4, .inr (6, [.ref h, .ref m1, .ref m2])), (m2, .inr (10, [.ref m4])), (m4, aI k 6 f8)]) 0 0 0 := by
  refine CM.of (lv0 := [(0, .ref o4), (1, .int (nI i))]) (by decide +kernel) (Nat.le_of_ble_eq_true rfl) rfl ?_
  intro p9 e9 s9 m9 bl9 me9 co9 C hr hlk hin had
  refine g_aload_n (pc := 0) C 0 rfl rfl dX4_factorFound_0 ?_
  refine g_get (pc := 1) C (T := TX4) inX4 0 rfl rfl 2 (by decide) q_121 rfl rfl dX4_factorFound_1 ?_
  refine g_iload_n (pc := 4) C 1 rfl rfl dX4_factorFound_4 ?_
  refine g_callV (pc := 5) (cells := 0) (slots := 0) (g := 0) (As := [.int (nI i)]) (st := []) (T := TX8) (q0 := 1) C (nA := 1) rfl (c_X8_at_n m2 m4 6 f8 i (by first | assumption | decide | omega) (by first | assumption | decide | omega)) q_295 q_9 q_7 q_6 q_5 (by decide +kernel) rfl rfl dX4_factorFound_5 ⟨Nat.le_of_ble_eq_true rfl, Nat.le_of_ble_eq_true rfl⟩ [1, 2] [0] rfl (wr := [(o4, .inr (6, [.ref h, .ref m1, .ref m2]))]) rfl (by decide) (by decide) (by decide) (Nat.le_of_ble_eq_true rfl) ⟨Nat.le_of_ble_eq_true rfl, Nat.le_of_ble_eq_true rfl⟩ (fun rv w1 h1 => ?_)
  obtain ⟨rfl, rfl⟩ := h1
  refine G.aft [0, 1, 2] (ws' := [(o4, .inr (6, [.ref h, .ref m1, .ref m2])), (m2, .inr (10, [.ref m4])), (m4, aI k 6 f8)]) (st' := [.int (f8 i)]) (cells' := 0) (slots' := 0) (g' := 0) (by decide) rfl rfl rfl rfl rfl ?_
  exact g_iret (pc := 8) C hr hlk (by first | decide | omega) (by first | decide | omega) (by first | decide | omega) dX4_factorFound_8 ⟨rfl, rfl⟩
set_option maxRecDepth 100000 in
set_option maxHeartbeats 400000 in
theorem c_X4_determinantWith {l : Launch} {D : va_G} {k : Nat → ClassId} (h : Nat) (jj : Nat) (dd : Nat) (n : Nat) (z : Nat) (fj : Nat → Int32) (fd : Nat → Int32) (o4 : Nat) (m1 : Nat) (m2 : Nat) (m3 : Nat) (fm : Nat → Int64) (pp : Nat) (r1 : Nat) (a1 : Nat) (r2 : Nat) (a2 : Nat) (f : Nat → Int32) (ct : Nat → Int32) (tk : Int32) (p8 : Nat) (hn : n ≤ 6) (hz : z < n) (h1 : 1 ≤ n) (hp8 : p8 < 6) : CM l D k yX4_determinantWith cX4_determinantWith 6 (some .long)  3 80 [.ref o4, .ref pp, .int (nI p8)] [(o4, .inr (6, [.ref h, .ref m1, .ref m2])), (m1, .inr (7, [.ref m3])), (m3, aJ k 25 fm), (h, .inr (5, [.ref jj, .ref dd, .int (nI n), .int (nI z)])), (jj, aI k 36 fj), (dd, aI k 6 fd), (pp, .inr (8, [.ref h, .ref r1, .ref r2, .int tk])), (r1, .inr (10, [.ref a1])), (a1, aI k 6 f), (r2, .inr (10, [.ref a2])), (a2, aI k 6 ct)] (fun rv9 w9 => rv9 = (some (.long (dwV fj fd n z f p8))) ∧ ∃ (gm : Nat → Int64), w9 = [(o4, .inr (6, [.ref h, .ref m1, .ref m2])), (m1, .inr (7, [.ref m3])), (m3, aJ k 25 gm), (h, .inr (5, [.ref jj, .ref dd, .int (nI n), .int (nI z)])), (jj, aI k 36 fj), (dd, aI k 6 fd), (pp, .inr (8, [.ref h, .ref r1, .ref r2, .int tk])), (r1, .inr (10, [.ref a1])), (a1, aI k 6 f), (r2, .inr (10, [.ref a2])), (a2, aI k 6 ct)]) 0 0 0 := by
  refine CM.of (lv0 := [(0, .ref o4), (1, .ref pp), (2, .int (nI p8))]) (by decide +kernel) (Nat.le_of_ble_eq_true rfl) rfl ?_
  intro p9 e9 s9 m9 bl9 me9 co9 C hr hlk hin had
  refine g_iconst (pc := 0) (v := 0) C (by decide) dX4_determinantWith_0 ?_
  refine g_istore_n (pc := 1) C [(3, .int 0), (0, .ref o4), (1, .ref pp), (2, .int (nI p8))] rfl dX4_determinantWith_1 (by decide) rfl ?_
  have key_2 : ∀ (fuel : Nat) (i : Nat), i ≤ n - 1 → n - 1 - i < fuel → G p9 l e9 { frames := 3, cells := 0, slots := 0, locals := 80 } s9 m9 ([.ref o4, .ref pp, .int (nI p8)] : List Value).toArray bl9 me9 co9 D 6 (va_A [(o4, .inr (6, [.ref h, .ref m1, .ref m2])), (m1, .inr (7, [.ref m3])), (m3, aJ k 25 fm), (h, .inr (5, [.ref jj, .ref dd, .int (nI n), .int (nI z)])), (jj, aI k 36 fj), (dd, aI k 6 fd), (pp, .inr (8, [.ref h, .ref r1, .ref r2, .int tk])), (r1, .inr (10, [.ref a1])), (a1, aI k 6 f), (r2, .inr (10, [.ref a2])), (a2, aI k 6 ct)] s9.heap.size) (QM bl9 D ([.ref o4, .ref pp, .int (nI p8)] : List Value).toArray s9 [(o4, .inr (6, [.ref h, .ref m1, .ref m2])), (m1, .inr (7, [.ref m3])), (m3, aJ k 25 fm), (h, .inr (5, [.ref jj, .ref dd, .int (nI n), .int (nI z)])), (jj, aI k 36 fj), (dd, aI k 6 fd), (pp, .inr (8, [.ref h, .ref r1, .ref r2, .int tk])), (r1, .inr (10, [.ref a1])), (a1, aI k 6 f), (r2, .inr (10, [.ref a2])), (a2, aI k 6 ct)] (fun rv9 w9 => rv9 = (some (.long (dwV fj fd n z f p8))) ∧ ∃ (gm : Nat → Int64), w9 = [(o4, .inr (6, [.ref h, .ref m1, .ref m2])), (m1, .inr (7, [.ref m3])), (m3, aJ k 25 gm), (h, .inr (5, [.ref jj, .ref dd, .int (nI n), .int (nI z)])), (jj, aI k 36 fj), (dd, aI k 6 fd), (pp, .inr (8, [.ref h, .ref r1, .ref r2, .int tk])), (r1, .inr (10, [.ref a1])), (a1, aI k 6 f), (r2, .inr (10, [.ref a2])), (a2, aI k 6 ct)]) 0 0 0) [(o4, .inr (6, [.ref h, .ref m1, .ref m2])), (m1, .inr (7, [.ref m3])), (m3, aJ k 25 (dwR fj fd z (n - 1) f p8 fm i)), (h, .inr (5, [.ref jj, .ref dd, .int (nI n), .int (nI z)])), (jj, aI k 36 fj), (dd, aI k 6 fd), (pp, .inr (8, [.ref h, .ref r1, .ref r2, .int tk])), (r1, .inr (10, [.ref a1])), (a1, aI k 6 f), (r2, .inr (10, [.ref a2])), (a2, aI k 6 ct)] [(0, .ref o4), (1, .ref pp), (2, .int (nI p8)), (3, .int (nI i))] 0 0 0 2 [] := by
    intro fuel
    induction fuel with
    | zero => intro i hi hm; exact absurd hm (Nat.not_lt_zero _)
    | succ fuel ih =>
      intro i hi hm
      have ih_2 := ih
      refine g_iload_n (pc := 2) C 3 rfl rfl dX4_determinantWith_2 ?_
      refine g_aload_n (pc := 3) C 0 rfl rfl dX4_determinantWith_3 ?_
      refine g_get (pc := 4) C (T := TX4) inX4 0 rfl rfl 0 (by decide) q_122 rfl rfl dX4_determinantWith_4 ?_
      refine g_callV (pc := 7) (cells := 0) (slots := 0) (g := 0) (As := []) (st := [.int (nI i)]) (T := TX3) (q0 := 3) C (nA := 0) rfl (c_X3_others h jj dd n z fj fd (by first | assumption | decide | omega) (by first | assumption | decide | omega)) q_263 q_264 q_262 q_16 q_261 (by decide +kernel) rfl rfl dX4_determinantWith_7 ⟨Nat.le_of_ble_eq_true rfl, Nat.le_of_ble_eq_true rfl⟩ [3, 4, 5] [0, 1, 2, 6, 7, 8, 9, 10] rfl (wr := [(o4, .inr (6, [.ref h, .ref m1, .ref m2])), (m1, .inr (7, [.ref m3])), (m3, aJ k 25 (dwR fj fd z (n - 1) f p8 fm i)), (pp, .inr (8, [.ref h, .ref r1, .ref r2, .int tk])), (r1, .inr (10, [.ref a1])), (a1, aI k 6 f), (r2, .inr (10, [.ref a2])), (a2, aI k 6 ct)]) rfl (by decide) (by decide) (by decide) (Nat.le_of_ble_eq_true rfl) ⟨Nat.le_of_ble_eq_true rfl, Nat.le_of_ble_eq_true rfl⟩ (fun rv w1 h1 => ?_)
      obtain ⟨rfl, rfl⟩ := h1
      refine G.aft [0, 1, 2, 8, 9, 10, 3, 4, 5, 6, 7] (ws' := [(o4, .inr (6, [.ref h, .ref m1, .ref m2])), (m1, .inr (7, [.ref m3])), (m3, aJ k 25 (dwR fj fd z (n - 1) f p8 fm i)), (h, .inr (5, [.ref jj, .ref dd, .int (nI n), .int (nI z)])), (jj, aI k 36 fj), (dd, aI k 6 fd), (pp, .inr (8, [.ref h, .ref r1, .ref r2, .int tk])), (r1, .inr (10, [.ref a1])), (a1, aI k 6 f), (r2, .inr (10, [.ref a2])), (a2, aI k 6 ct)]) (st' := [.int (nI (n - 1)), .int (nI i)]) (cells' := 0) (slots' := 0) (g' := 0) (by decide) rfl rfl rfl rfl rfl ?_
      refine g_icmp_ge (pc := 10) C 83 (by decide) dX4_determinantWith_10 (fun c_10 => ?_) (fun c_10 => ?_)
      · have h3 : i = n - 1 := by { have := nle_ge (b := n - 1) (a := i) (by omega) c_10; omega }
        refine G.fnJ (dwR fj fd z (n - 1) f p8 fm (n - 1)) 2 [(o4, .inr (6, [.ref h, .ref m1, .ref m2])), (m1, .inr (7, [.ref m3])), (m3, aJ k 25 (dwR fj fd z (n - 1) f p8 fm (n - 1))), (h, .inr (5, [.ref jj, .ref dd, .int (nI n), .int (nI z)])), (jj, aI k 36 fj), (dd, aI k 6 fd), (pp, .inr (8, [.ref h, .ref r1, .ref r2, .int tk])), (r1, .inr (10, [.ref a1])), (a1, aI k 6 f), (r2, .inr (10, [.ref a2])), (a2, aI k 6 ct)] rfl (fun j hj => by rw [h3]) rfl ?_
        refine g_aload_n (pc := 83) C 0 rfl rfl dX4_determinantWith_83 ?_
        refine g_get (pc := 84) C (T := TX4) inX4 0 rfl rfl 1 (by decide) q_118 rfl rfl dX4_determinantWith_84 ?_
        refine g_aload_n (pc := 87) C 0 rfl rfl dX4_determinantWith_87 ?_
        refine g_get (pc := 88) C (T := TX4) inX4 0 rfl rfl 0 (by decide) q_122 rfl rfl dX4_determinantWith_88 ?_
        refine g_callV (pc := 91) (cells := 0) (slots := 0) (g := 0) (As := []) (st := [.ref m1]) (T := TX3) (q0 := 3) C (nA := 0) rfl (c_X3_others h jj dd n z fj fd (by first | assumption | decide | omega) (by first | assumption | decide | omega)) q_263 q_264 q_262 q_16 q_261 (by decide +kernel) rfl rfl dX4_determinantWith_91 ⟨Nat.le_of_ble_eq_true rfl, Nat.le_of_ble_eq_true rfl⟩ [3, 4, 5] [0, 1, 2, 6, 7, 8, 9, 10] rfl (wr := [(o4, .inr (6, [.ref h, .ref m1, .ref m2])), (m1, .inr (7, [.ref m3])), (m3, aJ k 25 (dwR fj fd z (n - 1) f p8 fm (n - 1))), (pp, .inr (8, [.ref h, .ref r1, .ref r2, .int tk])), (r1, .inr (10, [.ref a1])), (a1, aI k 6 f), (r2, .inr (10, [.ref a2])), (a2, aI k 6 ct)]) rfl (by decide) (by decide) (by decide) (Nat.le_of_ble_eq_true rfl) ⟨Nat.le_of_ble_eq_true rfl, Nat.le_of_ble_eq_true rfl⟩ (fun rv w1 h1 => ?_)
        obtain ⟨rfl, rfl⟩ := h1
        refine G.aft [0, 1, 2, 8, 9, 10, 3, 4, 5, 6, 7] (ws' := [(o4, .inr (6, [.ref h, .ref m1, .ref m2])), (m1, .inr (7, [.ref m3])), (m3, aJ k 25 (dwR fj fd z (n - 1) f p8 fm (n - 1))), (h, .inr (5, [.ref jj, .ref dd, .int (nI n), .int (nI z)])), (jj, aI k 36 fj), (dd, aI k 6 fd), (pp, .inr (8, [.ref h, .ref r1, .ref r2, .int tk])), (r1, .inr (10, [.ref a1])), (a1, aI k 6 f), (r2, .inr (10, [.ref a2])), (a2, aI k 6 ct)]) (st' := [.int (nI (n - 1)), .ref m1]) (cells' := 0) (slots' := 0) (g' := 0) (by decide) rfl rfl rfl rfl rfl ?_
        refine g_callV (pc := 94) (cells := 0) (slots := 0) (g := 0) (As := [.int (nI (n - 1))]) (st := []) (T := TX5) (q0 := 1) C (nA := 1) rfl (c_X5_determinant m1 m3 (dwR fj fd z (n - 1) f p8 fm (n - 1)) (n - 1) (by first | assumption | decide | omega)) q_267 q_268 q_266 q_115 q_265 (by decide +kernel) rfl rfl dX4_determinantWith_94 ⟨Nat.le_of_ble_eq_true rfl, Nat.le_of_ble_eq_true rfl⟩ [1, 2] [0, 3, 4, 5, 6, 7, 8, 9, 10] rfl (wr := [(o4, .inr (6, [.ref h, .ref m1, .ref m2])), (h, .inr (5, [.ref jj, .ref dd, .int (nI n), .int (nI z)])), (jj, aI k 36 fj), (dd, aI k 6 fd), (pp, .inr (8, [.ref h, .ref r1, .ref r2, .int tk])), (r1, .inr (10, [.ref a1])), (a1, aI k 6 f), (r2, .inr (10, [.ref a2])), (a2, aI k 6 ct)]) rfl (by decide) (by decide) (by decide) (Nat.le_of_ble_eq_true rfl) ⟨Nat.le_of_ble_eq_true rfl, Nat.le_of_ble_eq_true rfl⟩ (fun rv w1 h1 => ?_)
        obtain ⟨rfl, q1, rfl⟩ := h1
        refine G.aft [0, 9, 10, 1, 2, 3, 4, 5, 6, 7, 8] (ws' := [(o4, .inr (6, [.ref h, .ref m1, .ref m2])), (m1, .inr (7, [.ref m3])), (m3, aJ k 25 q1), (h, .inr (5, [.ref jj, .ref dd, .int (nI n), .int (nI z)])), (jj, aI k 36 fj), (dd, aI k 6 fd), (pp, .inr (8, [.ref h, .ref r1, .ref r2, .int tk])), (r1, .inr (10, [.ref a1])), (a1, aI k 6 f), (r2, .inr (10, [.ref a2])), (a2, aI k 6 ct)]) (st' := [.long (dtV (n - 1) (dwR fj fd z (n - 1) f p8 fm (n - 1)))]) (cells' := 0) (slots' := 0) (g' := 0) (by decide) rfl rfl rfl rfl rfl ?_
        refine G.eqs (st' := [.long (dwV fj fd n z f p8)]) (congrArg (fun z9 => [Value.long z9]) (show ((dtV (n - 1) (dwR fj fd z (n - 1) f p8 fm (n - 1))) : Int64) = (dwV fj fd n z f p8) from by exact dw_same hn fm)) ?_
        exact g_lret (pc := 97) C hr hlk (by first | decide | omega) (by first | decide | omega) (by first | decide | omega) dX4_determinantWith_97 ⟨rfl, q1, rfl⟩
      · have hl10 : i < n - 1 := nle_lt (by omega) c_10
        refine g_iconst (pc := 13) (v := 0) C (by decide) dX4_determinantWith_13 ?_
        refine g_istore (pc := 14) C [(4, .int 0), (0, .ref o4), (1, .ref pp), (2, .int (nI p8)), (3, .int (nI i))] dX4_determinantWith_14 (by decide) rfl ?_
        have key_16 : ∀ (fuel : Nat) (yj : Nat), yj ≤ n - 1 → n - 1 - yj < fuel → G p9 l e9 { frames := 3, cells := 0, slots := 0, locals := 80 } s9 m9 ([.ref o4, .ref pp, .int (nI p8)] : List Value).toArray bl9 me9 co9 D 6 (va_A [(o4, .inr (6, [.ref h, .ref m1, .ref m2])), (m1, .inr (7, [.ref m3])), (m3, aJ k 25 fm), (h, .inr (5, [.ref jj, .ref dd, .int (nI n), .int (nI z)])), (jj, aI k 36 fj), (dd, aI k 6 fd), (pp, .inr (8, [.ref h, .ref r1, .ref r2, .int tk])), (r1, .inr (10, [.ref a1])), (a1, aI k 6 f), (r2, .inr (10, [.ref a2])), (a2, aI k 6 ct)] s9.heap.size) (QM bl9 D ([.ref o4, .ref pp, .int (nI p8)] : List Value).toArray s9 [(o4, .inr (6, [.ref h, .ref m1, .ref m2])), (m1, .inr (7, [.ref m3])), (m3, aJ k 25 fm), (h, .inr (5, [.ref jj, .ref dd, .int (nI n), .int (nI z)])), (jj, aI k 36 fj), (dd, aI k 6 fd), (pp, .inr (8, [.ref h, .ref r1, .ref r2, .int tk])), (r1, .inr (10, [.ref a1])), (a1, aI k 6 f), (r2, .inr (10, [.ref a2])), (a2, aI k 6 ct)] (fun rv9 w9 => rv9 = (some (.long (dwV fj fd n z f p8))) ∧ ∃ (gm : Nat → Int64), w9 = [(o4, .inr (6, [.ref h, .ref m1, .ref m2])), (m1, .inr (7, [.ref m3])), (m3, aJ k 25 gm), (h, .inr (5, [.ref jj, .ref dd, .int (nI n), .int (nI z)])), (jj, aI k 36 fj), (dd, aI k 6 fd), (pp, .inr (8, [.ref h, .ref r1, .ref r2, .int tk])), (r1, .inr (10, [.ref a1])), (a1, aI k 6 f), (r2, .inr (10, [.ref a2])), (a2, aI k 6 ct)]) 0 0 0) [(o4, .inr (6, [.ref h, .ref m1, .ref m2])), (m1, .inr (7, [.ref m3])), (m3, aJ k 25 (dwC fj fd z f p8 i (dwR fj fd z (n - 1) f p8 fm i) yj)), (h, .inr (5, [.ref jj, .ref dd, .int (nI n), .int (nI z)])), (jj, aI k 36 fj), (dd, aI k 6 fd), (pp, .inr (8, [.ref h, .ref r1, .ref r2, .int tk])), (r1, .inr (10, [.ref a1])), (a1, aI k 6 f), (r2, .inr (10, [.ref a2])), (a2, aI k 6 ct)] [(0, .ref o4), (1, .ref pp), (2, .int (nI p8)), (3, .int (nI i)), (4, .int (nI yj))] 0 0 0 16 [] := by
          intro fuel
          induction fuel with
          | zero => intro yj hj hm; exact absurd hm (Nat.not_lt_zero _)
          | succ fuel ih =>
            intro yj hj hm
            have ih_16 := ih
            refine g_iload (pc := 16) C 4 rfl dX4_determinantWith_16 ?_
            refine g_aload_n (pc := 18) C 0 rfl rfl dX4_determinantWith_18 ?_
            refine g_get (pc := 19) C (T := TX4) inX4 0 rfl rfl 0 (by decide) q_122 rfl rfl dX4_determinantWith_19 ?_
            refine g_callV (pc := 22) (cells := 0) (slots := 0) (g := 0) (As := []) (st := [.int (nI yj)]) (T := TX3) (q0 := 3) C (nA := 0) rfl (c_X3_others h jj dd n z fj fd (by first | assumption | decide | omega) (by first | assumption | decide | omega)) q_263 q_264 q_262 q_16 q_261 (by decide +kernel) rfl rfl dX4_determinantWith_22 ⟨Nat.le_of_ble_eq_true rfl, Nat.le_of_ble_eq_true rfl⟩ [3, 4, 5] [0, 1, 2, 6, 7, 8, 9, 10] rfl (wr := [(o4, .inr (6, [.ref h, .ref m1, .ref m2])), (m1, .inr (7, [.ref m3])), (m3, aJ k 25 (dwC fj fd z f p8 i (dwR fj fd z (n - 1) f p8 fm i) yj)), (pp, .inr (8, [.ref h, .ref r1, .ref r2, .int tk])), (r1, .inr (10, [.ref a1])), (a1, aI k 6 f), (r2, .inr (10, [.ref a2])), (a2, aI k 6 ct)]) rfl (by decide) (by decide) (by decide) (Nat.le_of_ble_eq_true rfl) ⟨Nat.le_of_ble_eq_true rfl, Nat.le_of_ble_eq_true rfl⟩ (fun rv w1 h1 => ?_)
            obtain ⟨rfl, rfl⟩ := h1
            refine G.aft [0, 1, 2, 8, 9, 10, 3, 4, 5, 6, 7] (ws' := [(o4, .inr (6, [.ref h, .ref m1, .ref m2])), (m1, .inr (7, [.ref m3])), (m3, aJ k 25 (dwC fj fd z f p8 i (dwR fj fd z (n - 1) f p8 fm i) yj)), (h, .inr (5, [.ref jj, .ref dd, .int (nI n), .int (nI z)])), (jj, aI k 36 fj), (dd, aI k 6 fd), (pp, .inr (8, [.ref h, .ref r1, .ref r2, .int tk])), (r1, .inr (10, [.ref a1])), (a1, aI k 6 f), (r2, .inr (10, [.ref a2])), (a2, aI k 6 ct)]) (st' := [.int (nI (n - 1)), .int (nI yj)]) (cells' := 0) (slots' := 0) (g' := 0) (by decide) rfl rfl rfl rfl rfl ?_
            refine g_icmp_ge (pc := 25) C 77 (by decide) dX4_determinantWith_25 (fun c_25 => ?_) (fun c_25 => ?_)
            · have h4 : yj = n - 1 := by { have := nle_ge (b := n - 1) (a := yj) (by omega) c_25; omega }
              refine g_iinc (pc := 77) (n := 1) (v := (nI (i + 1))) C 3 [(3, .int (nI (i + 1))), (0, .ref o4), (1, .ref pp), (2, .int (nI p8)), (4, .int (nI yj))] rfl (nI_1 i) dX4_determinantWith_77 (by decide) rfl ?_
              refine g_goto (pc := 80) C 2 (by decide) dX4_determinantWith_80 ?_
              refine G.loc [1, 2, 3, 0] (lv' := [(0, .ref o4), (1, .ref pp), (2, .int (nI p8)), (3, .int (nI (i + 1)))]) rfl ?_
              refine G.fnJ (dwR fj fd z (n - 1) f p8 fm (i + 1)) 2 [(o4, .inr (6, [.ref h, .ref m1, .ref m2])), (m1, .inr (7, [.ref m3])), (m3, aJ k 25 (dwR fj fd z (n - 1) f p8 fm (i + 1))), (h, .inr (5, [.ref jj, .ref dd, .int (nI n), .int (nI z)])), (jj, aI k 36 fj), (dd, aI k 6 fd), (pp, .inr (8, [.ref h, .ref r1, .ref r2, .int tk])), (r1, .inr (10, [.ref a1])), (a1, aI k 6 f), (r2, .inr (10, [.ref a2])), (a2, aI k 6 ct)] rfl (fun j hj => by rw [h4]; try rfl) rfl ?_
              exact ih_2 (i + 1) (by omega) (by omega)
            · have hl25 : yj < n - 1 := nle_lt (by omega) c_25
              refine g_iload (pc := 28) C 4 rfl dX4_determinantWith_28 ?_
              refine g_iload_n (pc := 30) C 2 rfl rfl dX4_determinantWith_30 ?_
              refine g_icmp_ne (pc := 31) C 49 (by decide) dX4_determinantWith_31 (fun c_31 => ?_) (fun c_31 => ?_)
              · have c31 : ¬ yj = p8 := fun q => c_31 (by rw [q])
                refine g_aload_n (pc := 49) C 0 rfl rfl dX4_determinantWith_49 ?_
                refine g_iload_n (pc := 50) C 3 rfl rfl dX4_determinantWith_50 ?_
                refine g_iload (pc := 51) C 4 rfl dX4_determinantWith_51 ?_
                refine g_callV (pc := 53) (cells := 0) (slots := 0) (g := 0) (As := [.int (nI i), .int (nI yj)]) (st := []) (T := TX4) (q0 := 0) C (nA := 2) rfl (c_X4_entry h jj dd n z fj fd o4 m1 m2 i yj (by first | assumption | decide | omega) (by first | assumption | decide | omega) (by first | assumption | decide | omega) (by first | assumption | decide | omega)) q_271 q_272 q_270 q_155 q_269 (by decide +kernel) rfl rfl dX4_determinantWith_53 ⟨Nat.le_of_ble_eq_true rfl, Nat.le_of_ble_eq_true rfl⟩ [0, 3, 4, 5] [1, 2, 6, 7, 8, 9, 10] rfl (wr := [(m1, .inr (7, [.ref m3])), (m3, aJ k 25 (dwC fj fd z f p8 i (dwR fj fd z (n - 1) f p8 fm i) yj)), (pp, .inr (8, [.ref h, .ref r1, .ref r2, .int tk])), (r1, .inr (10, [.ref a1])), (a1, aI k 6 f), (r2, .inr (10, [.ref a2])), (a2, aI k 6 ct)]) rfl (by decide) (by decide) (by decide) (Nat.le_of_ble_eq_true rfl) ⟨Nat.le_of_ble_eq_true rfl, Nat.le_of_ble_eq_true rfl⟩ (fun rv w1 h1 => ?_)
                obtain ⟨rfl, rfl⟩ := h1
                refine G.aft [7, 0, 1, 8, 9, 10, 2, 3, 4, 5, 6] (ws' := [(o4, .inr (6, [.ref h, .ref m1, .ref m2])), (m1, .inr (7, [.ref m3])), (m3, aJ k 25 (dwC fj fd z f p8 i (dwR fj fd z (n - 1) f p8 fm i) yj)), (h, .inr (5, [.ref jj, .ref dd, .int (nI n), .int (nI z)])), (jj, aI k 36 fj), (dd, aI k 6 fd), (pp, .inr (8, [.ref h, .ref r1, .ref r2, .int tk])), (r1, .inr (10, [.ref a1])), (a1, aI k 6 f), (r2, .inr (10, [.ref a2])), (a2, aI k 6 ct)]) (st' := [.int (entI fj fd z i yj)]) (cells' := 0) (slots' := 0) (g' := 0) (by decide) rfl rfl rfl rfl rfl ?_
                refine g_istore (pc := 56) C [(5, .int (entI fj fd z i yj)), (0, .ref o4), (1, .ref pp), (2, .int (nI p8)), (3, .int (nI i)), (4, .int (nI yj))] dX4_determinantWith_56 (by decide) rfl ?_
                refine g_aload_n (pc := 58) C 1 rfl rfl dX4_determinantWith_58 ?_
                refine g_get (pc := 59) C (T := TX4) inX4 0 rfl rfl 1 (by decide) q_118 rfl rfl dX4_determinantWith_59 ?_
                refine g_iload_n (pc := 62) C 4 rfl rfl dX4_determinantWith_62 ?_
                refine g_iload (pc := 63) C 5 rfl dX4_determinantWith_63 ?_
                refine g_iload (pc := 65) C 0 rfl dX4_determinantWith_65 ?_
                refine g_i2l (pc := 67) C dX4_determinantWith_67 ?_
                refine g_callV (pc := 68) (cells := 0) (slots := 0) (g := 0) (As := [.int (nI i), .int (nI yj), .long ((entI fj fd z i yj).toInt64)]) (st := []) (T := TX5) (q0 := 1) C (nA := 3) rfl (c_X5_write m1 m3 (dwC fj fd z f p8 i (dwR fj fd z (n - 1) f p8 fm i) yj) i yj ((entI fj fd z i yj).toInt64) (by first | assumption | decide | omega) (by first | assumption | decide | omega)) q_273 q_239 q_237 q_115 q_236 (by decide +kernel) rfl rfl dX4_determinantWith_68 ⟨Nat.le_of_ble_eq_true rfl, Nat.le_of_ble_eq_true rfl⟩ [1, 2] [0, 3, 4, 5, 6, 7, 8, 9, 10] rfl (wr := [(o4, .inr (6, [.ref h, .ref m1, .ref m2])), (h, .inr (5, [.ref jj, .ref dd, .int (nI n), .int (nI z)])), (jj, aI k 36 fj), (dd, aI k 6 fd), (pp, .inr (8, [.ref h, .ref r1, .ref r2, .int tk])), (r1, .inr (10, [.ref a1])), (a1, aI k 6 f), (r2, .inr (10, [.ref a2])), (a2, aI k 6 ct)]) rfl (by decide) (by decide) (by decide) (Nat.le_of_ble_eq_true rfl) ⟨Nat.le_of_ble_eq_true rfl, Nat.le_of_ble_eq_true rfl⟩ (fun rv w1 h1 => ?_)
                obtain ⟨rfl, rfl⟩ := h1
                refine G.aft [0, 9, 10, 1, 2, 3, 4, 5, 6, 7, 8] (ws' := [(o4, .inr (6, [.ref h, .ref m1, .ref m2])), (m1, .inr (7, [.ref m3])), (m3, aJ k 25 (vp_updL (dwC fj fd z f p8 i (dwR fj fd z (n - 1) f p8 fm i) yj) (i * 5 + yj) ((entI fj fd z i yj).toInt64))), (h, .inr (5, [.ref jj, .ref dd, .int (nI n), .int (nI z)])), (jj, aI k 36 fj), (dd, aI k 6 fd), (pp, .inr (8, [.ref h, .ref r1, .ref r2, .int tk])), (r1, .inr (10, [.ref a1])), (a1, aI k 6 f), (r2, .inr (10, [.ref a2])), (a2, aI k 6 ct)]) (st' := []) (cells' := 0) (slots' := 0) (g' := 0) (by decide) rfl rfl rfl rfl rfl ?_
                refine g_iinc (pc := 71) (n := 1) (v := (nI (yj + 1))) C 5 [(4, .int (nI (yj + 1))), (5, .int (entI fj fd z i yj)), (0, .ref o4), (1, .ref pp), (2, .int (nI p8)), (3, .int (nI i))] rfl (nI_1 yj) dX4_determinantWith_71 (by decide) rfl ?_
                refine g_goto (pc := 74) C 16 (by decide) dX4_determinantWith_74 ?_
                refine G.loc [2, 3, 4, 5, 0] (lv' := [(0, .ref o4), (1, .ref pp), (2, .int (nI p8)), (3, .int (nI i)), (4, .int (nI (yj + 1)))]) rfl ?_
                refine G.fnJ (dwC fj fd z f p8 i (dwR fj fd z (n - 1) f p8 fm i) (yj + 1)) 2 [(o4, .inr (6, [.ref h, .ref m1, .ref m2])), (m1, .inr (7, [.ref m3])), (m3, aJ k 25 (dwC fj fd z f p8 i (dwR fj fd z (n - 1) f p8 fm i) (yj + 1))), (h, .inr (5, [.ref jj, .ref dd, .int (nI n), .int (nI z)])), (jj, aI k 36 fj), (dd, aI k 6 fd), (pp, .inr (8, [.ref h, .ref r1, .ref r2, .int tk])), (r1, .inr (10, [.ref a1])), (a1, aI k 6 f), (r2, .inr (10, [.ref a2])), (a2, aI k 6 ct)] rfl (fun j hj => by first | rfl | (show _ = vp_updL _ _ (dwI fj fd z f p8 i yj).toInt64 _; rw [dwI, if_pos c31]) | (show _ = vp_updL _ _ (dwI fj fd z f p8 i yj).toInt64 _; rw [dwI, if_neg c31])) rfl ?_
                exact ih_16 (yj + 1) (by omega) (by omega)
              · have c31 : yj = p8 := (nI_eq (by omega) (by omega)).mp c_31
                refine g_aload_n (pc := 34) C 1 rfl rfl dX4_determinantWith_34 ?_
                refine g_aload_n (pc := 35) C 0 rfl rfl dX4_determinantWith_35 ?_
                refine g_get (pc := 36) C (T := TX4) inX4 0 rfl rfl 0 (by decide) q_122 rfl rfl dX4_determinantWith_36 ?_
                refine g_iload_n (pc := 39) C 3 rfl rfl dX4_determinantWith_39 ?_
                refine g_callV (pc := 40) (cells := 0) (slots := 0) (g := 0) (As := [.int (nI i)]) (st := [.ref pp]) (T := TX3) (q0 := 3) C (nA := 1) rfl (c_X3_otherAt h jj dd n z fj fd i (by first | assumption | decide | omega) (by first | assumption | decide | omega)) q_257 q_258 q_256 q_16 q_255 (by decide +kernel) rfl rfl dX4_determinantWith_40 ⟨Nat.le_of_ble_eq_true rfl, Nat.le_of_ble_eq_true rfl⟩ [3, 4, 5] [0, 1, 2, 6, 7, 8, 9, 10] rfl (wr := [(o4, .inr (6, [.ref h, .ref m1, .ref m2])), (m1, .inr (7, [.ref m3])), (m3, aJ k 25 (dwC fj fd z f p8 i (dwR fj fd z (n - 1) f p8 fm i) yj)), (pp, .inr (8, [.ref h, .ref r1, .ref r2, .int tk])), (r1, .inr (10, [.ref a1])), (a1, aI k 6 f), (r2, .inr (10, [.ref a2])), (a2, aI k 6 ct)]) rfl (by decide) (by decide) (by decide) (Nat.le_of_ble_eq_true rfl) ⟨Nat.le_of_ble_eq_true rfl, Nat.le_of_ble_eq_true rfl⟩ (fun rv w1 h1 => ?_)
                obtain ⟨rfl, rfl⟩ := h1
                refine G.aft [0, 1, 2, 8, 9, 10, 3, 4, 5, 6, 7] (ws' := [(o4, .inr (6, [.ref h, .ref m1, .ref m2])), (m1, .inr (7, [.ref m3])), (m3, aJ k 25 (dwC fj fd z f p8 i (dwR fj fd z (n - 1) f p8 fm i) yj)), (h, .inr (5, [.ref jj, .ref dd, .int (nI n), .int (nI z)])), (jj, aI k 36 fj), (dd, aI k 6 fd), (pp, .inr (8, [.ref h, .ref r1, .ref r2, .int tk])), (r1, .inr (10, [.ref a1])), (a1, aI k 6 f), (r2, .inr (10, [.ref a2])), (a2, aI k 6 ct)]) (st' := [.int (nI (skp z i)), .ref pp]) (cells' := 0) (slots' := 0) (g' := 0) (by decide) rfl rfl rfl rfl rfl ?_
                refine g_callV (pc := 43) (cells := 0) (slots := 0) (g := 0) (As := [.int (nI (skp z i))]) (st := []) (T := TX6) (q0 := 6) C (nA := 1) rfl (c_X6_at h pp r1 a1 r2 a2 f ct tk (skp z i) (skp_6 hn (by omega))) q_296 q_217 q_215 q_43 q_214 (by decide +kernel) rfl rfl dX4_determinantWith_43 ⟨Nat.le_of_ble_eq_true rfl, Nat.le_of_ble_eq_true rfl⟩ [6, 7, 8, 9, 10] [0, 1, 2, 3, 4, 5] rfl (wr := [(o4, .inr (6, [.ref h, .ref m1, .ref m2])), (m1, .inr (7, [.ref m3])), (m3, aJ k 25 (dwC fj fd z f p8 i (dwR fj fd z (n - 1) f p8 fm i) yj)), (h, .inr (5, [.ref jj, .ref dd, .int (nI n), .int (nI z)])), (jj, aI k 36 fj), (dd, aI k 6 fd)]) rfl (by decide) (by decide) (by decide) (Nat.le_of_ble_eq_true rfl) ⟨Nat.le_of_ble_eq_true rfl, Nat.le_of_ble_eq_true rfl⟩ (fun rv w1 h1 => ?_)
                obtain ⟨rfl, rfl⟩ := h1
                refine G.aft [0, 1, 2, 3, 4, 5, 6, 7, 8, 9, 10] (ws' := [(o4, .inr (6, [.ref h, .ref m1, .ref m2])), (m1, .inr (7, [.ref m3])), (m3, aJ k 25 (dwC fj fd z f p8 i (dwR fj fd z (n - 1) f p8 fm i) yj)), (h, .inr (5, [.ref jj, .ref dd, .int (nI n), .int (nI z)])), (jj, aI k 36 fj), (dd, aI k 6 fd), (pp, .inr (8, [.ref h, .ref r1, .ref r2, .int tk])), (r1, .inr (10, [.ref a1])), (a1, aI k 6 f), (r2, .inr (10, [.ref a2])), (a2, aI k 6 ct)]) (st' := [.int (f (skp z i))]) (cells' := 0) (slots' := 0) (g' := 0) (by decide) rfl rfl rfl rfl rfl ?_
                refine g_goto (pc := 46) C 56 (by decide) dX4_determinantWith_46 ?_
                refine g_istore (pc := 56) C [(5, .int (f (skp z i))), (0, .ref o4), (1, .ref pp), (2, .int (nI p8)), (3, .int (nI i)), (4, .int (nI yj))] dX4_determinantWith_56 (by decide) rfl ?_
                refine g_aload_n (pc := 58) C 1 rfl rfl dX4_determinantWith_58 ?_
                refine g_get (pc := 59) C (T := TX4) inX4 0 rfl rfl 1 (by decide) q_118 rfl rfl dX4_determinantWith_59 ?_
                refine g_iload_n (pc := 62) C 4 rfl rfl dX4_determinantWith_62 ?_
                refine g_iload (pc := 63) C 5 rfl dX4_determinantWith_63 ?_
                refine g_iload (pc := 65) C 0 rfl dX4_determinantWith_65 ?_
                refine g_i2l (pc := 67) C dX4_determinantWith_67 ?_
                refine g_callV (pc := 68) (cells := 0) (slots := 0) (g := 0) (As := [.int (nI i), .int (nI yj), .long ((f (skp z i)).toInt64)]) (st := []) (T := TX5) (q0 := 1) C (nA := 3) rfl (c_X5_write m1 m3 (dwC fj fd z f p8 i (dwR fj fd z (n - 1) f p8 fm i) yj) i yj ((f (skp z i)).toInt64) (by first | assumption | decide | omega) (by first | assumption | decide | omega)) q_273 q_239 q_237 q_115 q_236 (by decide +kernel) rfl rfl dX4_determinantWith_68 ⟨Nat.le_of_ble_eq_true rfl, Nat.le_of_ble_eq_true rfl⟩ [1, 2] [0, 3, 4, 5, 6, 7, 8, 9, 10] rfl (wr := [(o4, .inr (6, [.ref h, .ref m1, .ref m2])), (h, .inr (5, [.ref jj, .ref dd, .int (nI n), .int (nI z)])), (jj, aI k 36 fj), (dd, aI k 6 fd), (pp, .inr (8, [.ref h, .ref r1, .ref r2, .int tk])), (r1, .inr (10, [.ref a1])), (a1, aI k 6 f), (r2, .inr (10, [.ref a2])), (a2, aI k 6 ct)]) rfl (by decide) (by decide) (by decide) (Nat.le_of_ble_eq_true rfl) ⟨Nat.le_of_ble_eq_true rfl, Nat.le_of_ble_eq_true rfl⟩ (fun rv w1 h1 => ?_)
                obtain ⟨rfl, rfl⟩ := h1
                refine G.aft [0, 9, 10, 1, 2, 3, 4, 5, 6, 7, 8] (ws' := [(o4, .inr (6, [.ref h, .ref m1, .ref m2])), (m1, .inr (7, [.ref m3])), (m3, aJ k 25 (vp_updL (dwC fj fd z f p8 i (dwR fj fd z (n - 1) f p8 fm i) yj) (i * 5 + yj) ((f (skp z i)).toInt64))), (h, .inr (5, [.ref jj, .ref dd, .int (nI n), .int (nI z)])), (jj, aI k 36 fj), (dd, aI k 6 fd), (pp, .inr (8, [.ref h, .ref r1, .ref r2, .int tk])), (r1, .inr (10, [.ref a1])), (a1, aI k 6 f), (r2, .inr (10, [.ref a2])), (a2, aI k 6 ct)]) (st' := []) (cells' := 0) (slots' := 0) (g' := 0) (by decide) rfl rfl rfl rfl rfl ?_
                refine g_iinc (pc := 71) (n := 1) (v := (nI (yj + 1))) C 5 [(4, .int (nI (yj + 1))), (5, .int (f (skp z i))), (0, .ref o4), (1, .ref pp), (2, .int (nI p8)), (3, .int (nI i))] rfl (nI_1 yj) dX4_determinantWith_71 (by decide) rfl ?_
                refine g_goto (pc := 74) C 16 (by decide) dX4_determinantWith_74 ?_
                refine G.loc [2, 3, 4, 5, 0] (lv' := [(0, .ref o4), (1, .ref pp), (2, .int (nI p8)), (3, .int (nI i)), (4, .int (nI (yj + 1)))]) rfl ?_
                refine G.fnJ (dwC fj fd z f p8 i (dwR fj fd z (n - 1) f p8 fm i) (yj + 1)) 2 [(o4, .inr (6, [.ref h, .ref m1, .ref m2])), (m1, .inr (7, [.ref m3])), (m3, aJ k 25 (dwC fj fd z f p8 i (dwR fj fd z (n - 1) f p8 fm i) (yj + 1))), (h, .inr (5, [.ref jj, .ref dd, .int (nI n), .int (nI z)])), (jj, aI k 36 fj), (dd, aI k 6 fd), (pp, .inr (8, [.ref h, .ref r1, .ref r2, .int tk])), (r1, .inr (10, [.ref a1])), (a1, aI k 6 f), (r2, .inr (10, [.ref a2])), (a2, aI k 6 ct)] rfl (fun j hj => by first | rfl | (show _ = vp_updL _ _ (dwI fj fd z f p8 i yj).toInt64 _; rw [dwI, if_pos c31]) | (show _ = vp_updL _ _ (dwI fj fd z f p8 i yj).toInt64 _; rw [dwI, if_neg c31])) rfl ?_
                exact ih_16 (yj + 1) (by omega) (by omega)
        refine G.loc [1, 2, 3, 4, 0] (lv' := [(0, .ref o4), (1, .ref pp), (2, .int (nI p8)), (3, .int (nI i)), (4, .int 0)]) rfl ?_
        refine G.fnJ (dwC fj fd z f p8 i (dwR fj fd z (n - 1) f p8 fm i) 0) 2 [(o4, .inr (6, [.ref h, .ref m1, .ref m2])), (m1, .inr (7, [.ref m3])), (m3, aJ k 25 (dwC fj fd z f p8 i (dwR fj fd z (n - 1) f p8 fm i) 0)), (h, .inr (5, [.ref jj, .ref dd, .int (nI n), .int (nI z)])), (jj, aI k 36 fj), (dd, aI k 6 fd), (pp, .inr (8, [.ref h, .ref r1, .ref r2, .int tk])), (r1, .inr (10, [.ref a1])), (a1, aI k 6 f), (r2, .inr (10, [.ref a2])), (a2, aI k 6 ct)] rfl (fun j hj => by rfl) rfl ?_
        refine G.eql (lv' := [(0, .ref o4), (1, .ref pp), (2, .int (nI p8)), (3, .int (nI i)), (4, .int (nI 0))]) (congrArg (β := List (Nat × Value)) (fun z9 => [(0, .ref o4), (1, .ref pp), (2, .int (nI p8)), (3, .int (nI i)), (4, .int z9)]) (show (0 : Int32) = (nI 0) from by exact nI_0.symm)) ?_
        exact key_16 (n - 1 - 0 + 1) 0 (by omega) (Nat.lt_succ_self _)
  refine G.loc [1, 2, 3, 0] (lv' := [(0, .ref o4), (1, .ref pp), (2, .int (nI p8)), (3, .int 0)]) rfl ?_
  refine G.fnJ (dwR fj fd z (n - 1) f p8 fm 0) 2 [(o4, .inr (6, [.ref h, .ref m1, .ref m2])), (m1, .inr (7, [.ref m3])), (m3, aJ k 25 (dwR fj fd z (n - 1) f p8 fm 0)), (h, .inr (5, [.ref jj, .ref dd, .int (nI n), .int (nI z)])), (jj, aI k 36 fj), (dd, aI k 6 fd), (pp, .inr (8, [.ref h, .ref r1, .ref r2, .int tk])), (r1, .inr (10, [.ref a1])), (a1, aI k 6 f), (r2, .inr (10, [.ref a2])), (a2, aI k 6 ct)] rfl (fun j hj => by rfl) rfl ?_
  refine G.eql (lv' := [(0, .ref o4), (1, .ref pp), (2, .int (nI p8)), (3, .int (nI 0))]) (congrArg (β := List (Nat × Value)) (fun z9 => [(0, .ref o4), (1, .ref pp), (2, .int (nI p8)), (3, .int z9)]) (show (0 : Int32) = (nI 0) from by exact nI_0.symm)) ?_
  exact key_2 (n - 1 - 0 + 1) 0 (by omega) (Nat.lt_succ_self _)
set_option maxRecDepth 100000 in
set_option maxHeartbeats 400000 in
theorem c_X4_orderOf {l : Launch} {D : va_G} {k : Nat → ClassId} (h : Nat) (jj : Nat) (dd : Nat) (n : Nat) (z : Nat) (fj : Nat → Int32) (fd : Nat → Int32) (o4 : Nat) (m1 : Nat) (m2 : Nat) (m3 : Nat) (fm : Nat → Int64) (pp : Nat) (r1 : Nat) (a1 : Nat) (r2 : Nat) (a2 : Nat) (f : Nat → Int32) (ct : Nat → Int32) (tk : Int32) (hn : n ≤ 6) (hz : z < n) (h1 : 1 ≤ n) : CM l D k yX4_orderOf cX4_orderOf 7 (some .long)  5 127 [.ref o4, .ref pp] [(o4, .inr (6, [.ref h, .ref m1, .ref m2])), (m1, .inr (7, [.ref m3])), (m3, aJ k 25 fm), (h, .inr (5, [.ref jj, .ref dd, .int (nI n), .int (nI z)])), (jj, aI k 36 fj), (dd, aI k 6 fd), (pp, .inr (8, [.ref h, .ref r1, .ref r2, .int tk])), (r1, .inr (10, [.ref a1])), (a1, aI k 6 f), (r2, .inr (10, [.ref a2])), (a2, aI k 6 ct)] (fun rv9 w9 => rv9 = (some (.long (odV fj fd n z f (mnV fj fd n z ((1 <<< (nI (n - 1) &&& 31)) - 1) ((1 <<< (nI (n - 1) &&& 31)) - 1))))) ∧ ∃ (gm : Nat → Int64), w9 = [(o4, .inr (6, [.ref h, .ref m1, .ref m2])), (m1, .inr (7, [.ref m3])), (m3, aJ k 25 gm), (h, .inr (5, [.ref jj, .ref dd, .int (nI n), .int (nI z)])), (jj, aI k 36 fj), (dd, aI k 6 fd), (pp, .inr (8, [.ref h, .ref r1, .ref r2, .int tk])), (r1, .inr (10, [.ref a1])), (a1, aI k 6 f), (r2, .inr (10, [.ref a2])), (a2, aI k 6 ct)]) 0 0 0 := by
  refine CM.of (lv0 := [(0, .ref o4), (1, .ref pp)]) (by decide +kernel) (Nat.le_of_ble_eq_true rfl) rfl ?_
  intro p9 e9 s9 m9 bl9 me9 co9 C hr hlk hin had
  refine g_aload_n (pc := 0) C 0 rfl rfl dX4_orderOf_0 ?_
  refine g_callV (pc := 1) (cells := 0) (slots := 0) (g := 0) (As := []) (st := []) (T := TX4) (q0 := 0) C (nA := 0) rfl (c_X4_treeNumber h jj dd n z fj fd o4 m1 m2 m3 fm (by first | assumption | decide | omega) (by first | assumption | decide | omega) (by first | assumption | decide | omega)) q_299 q_300 q_298 q_155 q_297 (by decide +kernel) rfl rfl dX4_orderOf_1 ⟨Nat.le_of_ble_eq_true rfl, Nat.le_of_ble_eq_true rfl⟩ [0, 1, 2, 3, 4, 5] [6, 7, 8, 9, 10] rfl (wr := [(pp, .inr (8, [.ref h, .ref r1, .ref r2, .int tk])), (r1, .inr (10, [.ref a1])), (a1, aI k 6 f), (r2, .inr (10, [.ref a2])), (a2, aI k 6 ct)]) rfl (by decide) (by decide) (by decide) (Nat.le_of_ble_eq_true rfl) ⟨Nat.le_of_ble_eq_true rfl, Nat.le_of_ble_eq_true rfl⟩ (fun rv w1 h1 => ?_)
  obtain ⟨rfl, q1, rfl⟩ := h1
  refine G.aft [5, 6, 7, 8, 9, 10, 0, 1, 2, 3, 4] (ws' := [(o4, .inr (6, [.ref h, .ref m1, .ref m2])), (m1, .inr (7, [.ref m3])), (m3, aJ k 25 q1), (h, .inr (5, [.ref jj, .ref dd, .int (nI n), .int (nI z)])), (jj, aI k 36 fj), (dd, aI k 6 fd), (pp, .inr (8, [.ref h, .ref r1, .ref r2, .int tk])), (r1, .inr (10, [.ref a1])), (a1, aI k 6 f), (r2, .inr (10, [.ref a2])), (a2, aI k 6 ct)]) (st' := [.long (mnV fj fd n z ((1 <<< (nI (n - 1) &&& 31)) - 1) ((1 <<< (nI (n - 1) &&& 31)) - 1))]) (cells' := 0) (slots' := 0) (g' := 0) (by decide) rfl rfl rfl rfl rfl ?_
  refine g_lstore_n (pc := 4) C [(2, .long (mnV fj fd n z ((1 <<< (nI (n - 1) &&& 31)) - 1) ((1 <<< (nI (n - 1) &&& 31)) - 1))), (0, .ref o4), (1, .ref pp)] rfl dX4_orderOf_4 (by decide) rfl ?_
  refine g_lload_n (pc := 5) C 0 rfl rfl dX4_orderOf_5 ?_
  refine g_lstore (pc := 6) C [(4, .long (mnV fj fd n z ((1 <<< (nI (n - 1) &&& 31)) - 1) ((1 <<< (nI (n - 1) &&& 31)) - 1))), (2, .long (mnV fj fd n z ((1 <<< (nI (n - 1) &&& 31)) - 1) ((1 <<< (nI (n - 1) &&& 31)) - 1))), (0, .ref o4), (1, .ref pp)] dX4_orderOf_6 (by decide) rfl ?_
  refine g_iconst (pc := 8) (v := 0) C (by decide) dX4_orderOf_8 ?_
  refine g_istore (pc := 9) C [(6, .int 0), (4, .long (mnV fj fd n z ((1 <<< (nI (n - 1) &&& 31)) - 1) ((1 <<< (nI (n - 1) &&& 31)) - 1))), (2, .long (mnV fj fd n z ((1 <<< (nI (n - 1) &&& 31)) - 1) ((1 <<< (nI (n - 1) &&& 31)) - 1))), (0, .ref o4), (1, .ref pp)] dX4_orderOf_9 (by decide) rfl ?_
  have key_11 : ∀ (fuel : Nat) (i : Nat) (ga : Nat → Int64), i ≤ n - 1 → n - 1 - i < fuel → G p9 l e9 { frames := 5, cells := 0, slots := 0, locals := 127 } s9 m9 ([.ref o4, .ref pp] : List Value).toArray bl9 me9 co9 D 7 (va_A [(o4, .inr (6, [.ref h, .ref m1, .ref m2])), (m1, .inr (7, [.ref m3])), (m3, aJ k 25 fm), (h, .inr (5, [.ref jj, .ref dd, .int (nI n), .int (nI z)])), (jj, aI k 36 fj), (dd, aI k 6 fd), (pp, .inr (8, [.ref h, .ref r1, .ref r2, .int tk])), (r1, .inr (10, [.ref a1])), (a1, aI k 6 f), (r2, .inr (10, [.ref a2])), (a2, aI k 6 ct)] s9.heap.size) (QM bl9 D ([.ref o4, .ref pp] : List Value).toArray s9 [(o4, .inr (6, [.ref h, .ref m1, .ref m2])), (m1, .inr (7, [.ref m3])), (m3, aJ k 25 fm), (h, .inr (5, [.ref jj, .ref dd, .int (nI n), .int (nI z)])), (jj, aI k 36 fj), (dd, aI k 6 fd), (pp, .inr (8, [.ref h, .ref r1, .ref r2, .int tk])), (r1, .inr (10, [.ref a1])), (a1, aI k 6 f), (r2, .inr (10, [.ref a2])), (a2, aI k 6 ct)] (fun rv9 w9 => rv9 = (some (.long (odV fj fd n z f (mnV fj fd n z ((1 <<< (nI (n - 1) &&& 31)) - 1) ((1 <<< (nI (n - 1) &&& 31)) - 1))))) ∧ ∃ (gm : Nat → Int64), w9 = [(o4, .inr (6, [.ref h, .ref m1, .ref m2])), (m1, .inr (7, [.ref m3])), (m3, aJ k 25 gm), (h, .inr (5, [.ref jj, .ref dd, .int (nI n), .int (nI z)])), (jj, aI k 36 fj), (dd, aI k 6 fd), (pp, .inr (8, [.ref h, .ref r1, .ref r2, .int tk])), (r1, .inr (10, [.ref a1])), (a1, aI k 6 f), (r2, .inr (10, [.ref a2])), (a2, aI k 6 ct)]) 0 0 0) [(o4, .inr (6, [.ref h, .ref m1, .ref m2])), (m1, .inr (7, [.ref m3])), (m3, aJ k 25 ga), (h, .inr (5, [.ref jj, .ref dd, .int (nI n), .int (nI z)])), (jj, aI k 36 fj), (dd, aI k 6 fd), (pp, .inr (8, [.ref h, .ref r1, .ref r2, .int tk])), (r1, .inr (10, [.ref a1])), (a1, aI k 6 f), (r2, .inr (10, [.ref a2])), (a2, aI k 6 ct)] [(0, .ref o4), (1, .ref pp), (2, .long (mnV fj fd n z ((1 <<< (nI (n - 1) &&& 31)) - 1) ((1 <<< (nI (n - 1) &&& 31)) - 1))), (4, .long (odC fj fd n z f (mnV fj fd n z ((1 <<< (nI (n - 1) &&& 31)) - 1) ((1 <<< (nI (n - 1) &&& 31)) - 1)) i)), (6, .int (nI i))] 0 0 0 11 [] := by
    intro fuel
    induction fuel with
    | zero => intro i ga hi hm; exact absurd hm (Nat.not_lt_zero _)
    | succ fuel ih =>
      intro i ga hi hm
      have ih_11 := ih
      refine g_iload (pc := 11) C 4 rfl dX4_orderOf_11 ?_
      refine g_aload_n (pc := 13) C 0 rfl rfl dX4_orderOf_13 ?_
      refine g_get (pc := 14) C (T := TX4) inX4 0 rfl rfl 0 (by decide) q_122 rfl rfl dX4_orderOf_14 ?_
      refine g_callV (pc := 17) (cells := 0) (slots := 0) (g := 0) (As := []) (st := [.int (nI i)]) (T := TX3) (q0 := 3) C (nA := 0) rfl (c_X3_others h jj dd n z fj fd (by first | assumption | decide | omega) (by first | assumption | decide | omega)) q_263 q_264 q_262 q_16 q_261 (by decide +kernel) rfl rfl dX4_orderOf_17 ⟨Nat.le_of_ble_eq_true rfl, Nat.le_of_ble_eq_true rfl⟩ [3, 4, 5] [0, 1, 2, 6, 7, 8, 9, 10] rfl (wr := [(o4, .inr (6, [.ref h, .ref m1, .ref m2])), (m1, .inr (7, [.ref m3])), (m3, aJ k 25 ga), (pp, .inr (8, [.ref h, .ref r1, .ref r2, .int tk])), (r1, .inr (10, [.ref a1])), (a1, aI k 6 f), (r2, .inr (10, [.ref a2])), (a2, aI k 6 ct)]) rfl (by decide) (by decide) (by decide) (Nat.le_of_ble_eq_true rfl) ⟨Nat.le_of_ble_eq_true rfl, Nat.le_of_ble_eq_true rfl⟩ (fun rv w1 h1 => ?_)
      obtain ⟨rfl, rfl⟩ := h1
      refine G.aft [0, 1, 2, 8, 9, 10, 3, 4, 5, 6, 7] (ws' := [(o4, .inr (6, [.ref h, .ref m1, .ref m2])), (m1, .inr (7, [.ref m3])), (m3, aJ k 25 ga), (h, .inr (5, [.ref jj, .ref dd, .int (nI n), .int (nI z)])), (jj, aI k 36 fj), (dd, aI k 6 fd), (pp, .inr (8, [.ref h, .ref r1, .ref r2, .int tk])), (r1, .inr (10, [.ref a1])), (a1, aI k 6 f), (r2, .inr (10, [.ref a2])), (a2, aI k 6 ct)]) (st' := [.int (nI (n - 1)), .int (nI i)]) (cells' := 0) (slots' := 0) (g' := 0) (by decide) rfl rfl rfl rfl rfl ?_
      refine g_icmp_ge (pc := 20) C 43 (by decide) dX4_orderOf_20 (fun c_20 => ?_) (fun c_20 => ?_)
      · have h3 : i = n - 1 := by { have := nle_ge (b := n - 1) (a := i) (by omega) c_20; omega }
        refine G.eql (lv' := [(0, .ref o4), (1, .ref pp), (2, .long (mnV fj fd n z ((1 <<< (nI (n - 1) &&& 31)) - 1) ((1 <<< (nI (n - 1) &&& 31)) - 1))), (4, .long (odC fj fd n z f (mnV fj fd n z ((1 <<< (nI (n - 1) &&& 31)) - 1) ((1 <<< (nI (n - 1) &&& 31)) - 1)) (n - 1))), (6, .int (nI i))]) (congrArg (β := List (Nat × Value)) (fun z9 => [(0, .ref o4), (1, .ref pp), (2, .long (mnV fj fd n z ((1 <<< (nI (n - 1) &&& 31)) - 1) ((1 <<< (nI (n - 1) &&& 31)) - 1))), (4, .long z9), (6, .int (nI i))]) (show ((odC fj fd n z f (mnV fj fd n z ((1 <<< (nI (n - 1) &&& 31)) - 1) ((1 <<< (nI (n - 1) &&& 31)) - 1)) i) : Int64) = (odC fj fd n z f (mnV fj fd n z ((1 <<< (nI (n - 1) &&& 31)) - 1) ((1 <<< (nI (n - 1) &&& 31)) - 1)) (n - 1)) from by rw [h3])) ?_
        refine g_lload (pc := 43) C 3 rfl dX4_orderOf_43 ?_
        refine g_lconst (pc := 45) (v := 0) C (by decide) dX4_orderOf_45 ?_
        refine g_lcmp (pc := 46) C dX4_orderOf_46 ?_
        refine g_if_ne (pc := 47) C 54 (by decide) dX4_orderOf_47 (fun c_47 => ?_) (fun c_47 => ?_)
        · rw [lc_0] at c_47
          refine g_lload_n (pc := 54) C 2 rfl rfl dX4_orderOf_54 ?_
          refine g_lload (pc := 55) C 3 rfl dX4_orderOf_55 ?_
          refine g_ldiv (pc := 57) C c_47 dX4_orderOf_57 ?_
          refine G.eqs (st' := [.long (odV fj fd n z f (mnV fj fd n z ((1 <<< (nI (n - 1) &&& 31)) - 1) ((1 <<< (nI (n - 1) &&& 31)) - 1)))]) (congrArg (fun z9 => [Value.long z9]) (show (((mnV fj fd n z ((1 <<< (nI (n - 1) &&& 31)) - 1) ((1 <<< (nI (n - 1) &&& 31)) - 1)) / (odC fj fd n z f (mnV fj fd n z ((1 <<< (nI (n - 1) &&& 31)) - 1) ((1 <<< (nI (n - 1) &&& 31)) - 1)) (n - 1))) : Int64) = (odV fj fd n z f (mnV fj fd n z ((1 <<< (nI (n - 1) &&& 31)) - 1) ((1 <<< (nI (n - 1) &&& 31)) - 1))) from by first | (unfold odV; rw [if_pos c_47]) | (unfold odV; rw [if_neg c_47]))) ?_
          exact g_lret (pc := 58) C hr hlk (by first | decide | omega) (by first | decide | omega) (by first | decide | omega) dX4_orderOf_58 ⟨rfl, ga, rfl⟩
        · rw [lc_0] at c_47
          refine g_lconst (pc := 50) (v := 0) C (by decide) dX4_orderOf_50 ?_
          refine g_goto (pc := 51) C 58 (by decide) dX4_orderOf_51 ?_
          refine G.eqs (st' := [.long (odV fj fd n z f (mnV fj fd n z ((1 <<< (nI (n - 1) &&& 31)) - 1) ((1 <<< (nI (n - 1) &&& 31)) - 1)))]) (congrArg (fun z9 => [Value.long z9]) (show (0 : Int64) = (odV fj fd n z f (mnV fj fd n z ((1 <<< (nI (n - 1) &&& 31)) - 1) ((1 <<< (nI (n - 1) &&& 31)) - 1))) from by first | (unfold odV; rw [if_pos c_47]) | (unfold odV; rw [if_neg c_47]))) ?_
          exact g_lret (pc := 58) C hr hlk (by first | decide | omega) (by first | decide | omega) (by first | decide | omega) dX4_orderOf_58 ⟨rfl, ga, rfl⟩
      · have hl20 : i < n - 1 := nle_lt (by omega) c_20
        refine g_lload (pc := 23) C 3 rfl dX4_orderOf_23 ?_
        refine g_aload_n (pc := 25) C 0 rfl rfl dX4_orderOf_25 ?_
        refine g_aload_n (pc := 26) C 1 rfl rfl dX4_orderOf_26 ?_
        refine g_iload (pc := 27) C 4 rfl dX4_orderOf_27 ?_
        refine g_callV (pc := 29) (cells := 0) (slots := 0) (g := 0) (As := [.ref pp, .int (nI i)]) (st := [.long (odC fj fd n z f (mnV fj fd n z ((1 <<< (nI (n - 1) &&& 31)) - 1) ((1 <<< (nI (n - 1) &&& 31)) - 1)) i)]) (T := TX4) (q0 := 0) C (nA := 2) rfl (c_X4_determinantWith h jj dd n z fj fd o4 m1 m2 m3 ga pp r1 a1 r2 a2 f ct tk i (by first | assumption | decide | omega) (by first | assumption | decide | omega) (by first | assumption | decide | omega) (by first | assumption | decide | omega)) q_303 q_304 q_302 q_155 q_301 (by decide +kernel) rfl rfl dX4_orderOf_29 ⟨Nat.le_of_ble_eq_true rfl, Nat.le_of_ble_eq_true rfl⟩ [0, 1, 2, 3, 4, 5, 6, 7, 8, 9, 10] [] rfl (wr := []) rfl (by decide) (by decide) (by decide) (Nat.le_of_ble_eq_true rfl) ⟨Nat.le_of_ble_eq_true rfl, Nat.le_of_ble_eq_true rfl⟩ (fun rv w1 h1 => ?_)
        obtain ⟨rfl, q2, rfl⟩ := h1
        refine G.aft [0, 1, 2, 3, 4, 5, 6, 7, 8, 9, 10] (ws' := [(o4, .inr (6, [.ref h, .ref m1, .ref m2])), (m1, .inr (7, [.ref m3])), (m3, aJ k 25 q2), (h, .inr (5, [.ref jj, .ref dd, .int (nI n), .int (nI z)])), (jj, aI k 36 fj), (dd, aI k 6 fd), (pp, .inr (8, [.ref h, .ref r1, .ref r2, .int tk])), (r1, .inr (10, [.ref a1])), (a1, aI k 6 f), (r2, .inr (10, [.ref a2])), (a2, aI k 6 ct)]) (st' := [.long (dwV fj fd n z f i), .long (odC fj fd n z f (mnV fj fd n z ((1 <<< (nI (n - 1) &&& 31)) - 1) ((1 <<< (nI (n - 1) &&& 31)) - 1)) i)]) (cells' := 0) (slots' := 0) (g' := 0) (by decide) rfl rfl rfl rfl rfl ?_
        refine g_callS (pc := 32) (cells := 0) (slots := 0) (g := 0) (As := [.long (odC fj fd n z f (mnV fj fd n z ((1 <<< (nI (n - 1) &&& 31)) - 1) ((1 <<< (nI (n - 1) &&& 31)) - 1)) i), .long (dwV fj fd n z f i)]) (st := []) (b := 0) C (nA := 2) rfl (c_X4_commonDivisor (odC fj fd n z f (mnV fj fd n z ((1 <<< (nI (n - 1) &&& 31)) - 1) ((1 <<< (nI (n - 1) &&& 31)) - 1)) i) (dwV fj fd n z f i) ) q_288 q_289 q_155 q_287 (by decide +kernel) dX4_orderOf_32 ⟨Nat.le_of_ble_eq_true rfl, Nat.le_of_ble_eq_true rfl⟩ [] [0, 1, 2, 3, 4, 5, 6, 7, 8, 9, 10] rfl (wr := [(o4, .inr (6, [.ref h, .ref m1, .ref m2])), (m1, .inr (7, [.ref m3])), (m3, aJ k 25 q2), (h, .inr (5, [.ref jj, .ref dd, .int (nI n), .int (nI z)])), (jj, aI k 36 fj), (dd, aI k 6 fd), (pp, .inr (8, [.ref h, .ref r1, .ref r2, .int tk])), (r1, .inr (10, [.ref a1])), (a1, aI k 6 f), (r2, .inr (10, [.ref a2])), (a2, aI k 6 ct)]) rfl (by decide) (by decide) (by decide) (Nat.le_of_ble_eq_true rfl) ⟨Nat.le_of_ble_eq_true rfl, Nat.le_of_ble_eq_true rfl⟩ (fun rv w1 h1 => ?_)
        obtain ⟨rfl, rfl⟩ := h1
        refine G.aft [0, 1, 2, 3, 4, 5, 6, 7, 8, 9, 10] (ws' := [(o4, .inr (6, [.ref h, .ref m1, .ref m2])), (m1, .inr (7, [.ref m3])), (m3, aJ k 25 q2), (h, .inr (5, [.ref jj, .ref dd, .int (nI n), .int (nI z)])), (jj, aI k 36 fj), (dd, aI k 6 fd), (pp, .inr (8, [.ref h, .ref r1, .ref r2, .int tk])), (r1, .inr (10, [.ref a1])), (a1, aI k 6 f), (r2, .inr (10, [.ref a2])), (a2, aI k 6 ct)]) (st' := [.long (cdV (odC fj fd n z f (mnV fj fd n z ((1 <<< (nI (n - 1) &&& 31)) - 1) ((1 <<< (nI (n - 1) &&& 31)) - 1)) i) (dwV fj fd n z f i))]) (cells' := 0) (slots' := 0) (g' := 0) (by decide) rfl rfl rfl rfl rfl ?_
        refine g_lstore (pc := 35) C [(4, .long (cdV (odC fj fd n z f (mnV fj fd n z ((1 <<< (nI (n - 1) &&& 31)) - 1) ((1 <<< (nI (n - 1) &&& 31)) - 1)) i) (dwV fj fd n z f i))), (0, .ref o4), (1, .ref pp), (2, .long (mnV fj fd n z ((1 <<< (nI (n - 1) &&& 31)) - 1) ((1 <<< (nI (n - 1) &&& 31)) - 1))), (6, .int (nI i))] dX4_orderOf_35 (by decide) rfl ?_
        refine g_iinc (pc := 37) (n := 1) (v := (nI (i + 1))) C 4 [(6, .int (nI (i + 1))), (4, .long (cdV (odC fj fd n z f (mnV fj fd n z ((1 <<< (nI (n - 1) &&& 31)) - 1) ((1 <<< (nI (n - 1) &&& 31)) - 1)) i) (dwV fj fd n z f i))), (0, .ref o4), (1, .ref pp), (2, .long (mnV fj fd n z ((1 <<< (nI (n - 1) &&& 31)) - 1) ((1 <<< (nI (n - 1) &&& 31)) - 1)))] rfl (nI_1 i) dX4_orderOf_37 (by decide) rfl ?_
        refine g_goto (pc := 40) C 11 (by decide) dX4_orderOf_40 ?_
        refine G.loc [2, 3, 4, 1, 0] (lv' := [(0, .ref o4), (1, .ref pp), (2, .long (mnV fj fd n z ((1 <<< (nI (n - 1) &&& 31)) - 1) ((1 <<< (nI (n - 1) &&& 31)) - 1))), (4, .long (cdV (odC fj fd n z f (mnV fj fd n z ((1 <<< (nI (n - 1) &&& 31)) - 1) ((1 <<< (nI (n - 1) &&& 31)) - 1)) i) (dwV fj fd n z f i))), (6, .int (nI (i + 1)))]) rfl ?_
        refine G.eql (lv' := [(0, .ref o4), (1, .ref pp), (2, .long (mnV fj fd n z ((1 <<< (nI (n - 1) &&& 31)) - 1) ((1 <<< (nI (n - 1) &&& 31)) - 1))), (4, .long (odC fj fd n z f (mnV fj fd n z ((1 <<< (nI (n - 1) &&& 31)) - 1) ((1 <<< (nI (n - 1) &&& 31)) - 1)) (i + 1))), (6, .int (nI (i + 1)))]) (congrArg (β := List (Nat × Value)) (fun z9 => [(0, .ref o4), (1, .ref pp), (2, .long (mnV fj fd n z ((1 <<< (nI (n - 1) &&& 31)) - 1) ((1 <<< (nI (n - 1) &&& 31)) - 1))), (4, .long z9), (6, .int (nI (i + 1)))]) (show ((cdV (odC fj fd n z f (mnV fj fd n z ((1 <<< (nI (n - 1) &&& 31)) - 1) ((1 <<< (nI (n - 1) &&& 31)) - 1)) i) (dwV fj fd n z f i)) : Int64) = (odC fj fd n z f (mnV fj fd n z ((1 <<< (nI (n - 1) &&& 31)) - 1) ((1 <<< (nI (n - 1) &&& 31)) - 1)) (i + 1)) from by rfl)) ?_
        exact ih_11 (i + 1) q2 (by omega) (by omega)
  refine G.loc [3, 4, 2, 1, 0] (lv' := [(0, .ref o4), (1, .ref pp), (2, .long (mnV fj fd n z ((1 <<< (nI (n - 1) &&& 31)) - 1) ((1 <<< (nI (n - 1) &&& 31)) - 1))), (4, .long (mnV fj fd n z ((1 <<< (nI (n - 1) &&& 31)) - 1) ((1 <<< (nI (n - 1) &&& 31)) - 1))), (6, .int 0)]) rfl ?_
  refine G.eql (lv' := [(0, .ref o4), (1, .ref pp), (2, .long (mnV fj fd n z ((1 <<< (nI (n - 1) &&& 31)) - 1) ((1 <<< (nI (n - 1) &&& 31)) - 1))), (4, .long (odC fj fd n z f (mnV fj fd n z ((1 <<< (nI (n - 1) &&& 31)) - 1) ((1 <<< (nI (n - 1) &&& 31)) - 1)) 0)), (6, .int (nI 0))]) ((congrArg (β := List (Nat × Value)) (fun z9 => [(0, .ref o4), (1, .ref pp), (2, .long (mnV fj fd n z ((1 <<< (nI (n - 1) &&& 31)) - 1) ((1 <<< (nI (n - 1) &&& 31)) - 1))), (4, .long z9), (6, .int 0)]) (show ((mnV fj fd n z ((1 <<< (nI (n - 1) &&& 31)) - 1) ((1 <<< (nI (n - 1) &&& 31)) - 1)) : Int64) = (odC fj fd n z f (mnV fj fd n z ((1 <<< (nI (n - 1) &&& 31)) - 1) ((1 <<< (nI (n - 1) &&& 31)) - 1)) 0) from by first | rfl | exact nI_0.symm)).trans (congrArg (β := List (Nat × Value)) (fun z9 => [(0, .ref o4), (1, .ref pp), (2, .long (mnV fj fd n z ((1 <<< (nI (n - 1) &&& 31)) - 1) ((1 <<< (nI (n - 1) &&& 31)) - 1))), (4, .long (odC fj fd n z f (mnV fj fd n z ((1 <<< (nI (n - 1) &&& 31)) - 1) ((1 <<< (nI (n - 1) &&& 31)) - 1)) 0)), (6, .int z9)]) (show (0 : Int32) = (nI 0) from by first | rfl | exact nI_0.symm))) ?_
  exact key_11 (n - 1 - 0 + 1) 0 q1 (by omega) (Nat.lt_succ_self _)
