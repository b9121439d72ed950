theorem dX5_at_0 : decode cX5_at 0 = .ok (.iload_n 1, 1) := by decide +kernel
theorem dX5_at_1 : decode cX5_at 1 = .ok (.ifCond .lt 17, 3) := by decide +kernel
theorem dX5_at_4 : decode cX5_at 4 = .ok (.iload_n 1, 1) := by decide +kernel
theorem dX5_at_5 : decode cX5_at 5 = .ok (.iconst 5, 1) := by decide +kernel
theorem dX5_at_6 : decode cX5_at 6 = .ok (.if_icmp .ge 12, 3) := by decide +kernel
theorem dX5_at_9 : decode cX5_at 9 = .ok (.iload_n 2, 1) := by decide +kernel
theorem dX5_at_10 : decode cX5_at 10 = .ok (.ifCond .lt 8, 3) := by decide +kernel
theorem dX5_at_13 : decode cX5_at 13 = .ok (.iload_n 2, 1) := by decide +kernel
theorem dX5_at_14 : decode cX5_at 14 = .ok (.iconst 5, 1) := by decide +kernel
theorem dX5_at_15 : decode cX5_at 15 = .ok (.if_icmp .lt 5, 3) := by decide +kernel
theorem dX5_at_20 : decode cX5_at 20 = .ok (.iload_n 1, 1) := by decide +kernel
theorem dX5_at_21 : decode cX5_at 21 = .ok (.iconst 5, 1) := by decide +kernel
theorem dX5_at_22 : decode cX5_at 22 = .ok (.imul, 1) := by decide +kernel
theorem dX5_at_23 : decode cX5_at 23 = .ok (.iload_n 2, 1) := by decide +kernel
theorem dX5_at_24 : decode cX5_at 24 = .ok (.iadd, 1) := by decide +kernel
theorem dX5_at_25 : decode cX5_at 25 = .ok (.istore_n 3, 1) := by decide +kernel
theorem dX5_at_26 : decode cX5_at 26 = .ok (.iload_n 3, 1) := by decide +kernel
theorem dX5_at_27 : decode cX5_at 27 = .ok (.ifCond .lt 21, 3) := by decide +kernel
theorem dX5_at_30 : decode cX5_at 30 = .ok (.iload_n 3, 1) := by decide +kernel
theorem dX5_at_31 : decode cX5_at 31 = .ok (.aload_n 0, 1) := by decide +kernel
theorem dX5_at_32 : decode cX5_at 32 = .ok (.getfield 11, 3) := by decide +kernel
theorem dX5_at_35 : decode cX5_at 35 = .ok (.arraylength, 1) := by decide +kernel
theorem dX5_at_36 : decode cX5_at 36 = .ok (.if_icmp .ge 12, 3) := by decide +kernel
theorem dX5_at_39 : decode cX5_at 39 = .ok (.aload_n 0, 1) := by decide +kernel
theorem dX5_at_40 : decode cX5_at 40 = .ok (.getfield 11, 3) := by decide +kernel
theorem dX5_at_43 : decode cX5_at 43 = .ok (.iload_n 3, 1) := by decide +kernel
theorem dX5_at_44 : decode cX5_at 44 = .ok (.laload, 1) := by decide +kernel
theorem dX5_at_45 : decode cX5_at 45 = .ok (.goto 4, 3) := by decide +kernel
theorem dX5_at_49 : decode cX5_at 49 = .ok (.lreturn, 1) := by decide +kernel
theorem dX5_write_0 : decode cX5_write 0 = .ok (.iload_n 1, 1) := by decide +kernel
theorem dX5_write_1 : decode cX5_write 1 = .ok (.ifCond .lt 17, 3) := by decide +kernel
theorem dX5_write_4 : decode cX5_write 4 = .ok (.iload_n 1, 1) := by decide +kernel
theorem dX5_write_5 : decode cX5_write 5 = .ok (.iconst 5, 1) := by decide +kernel
theorem dX5_write_6 : decode cX5_write 6 = .ok (.if_icmp .ge 12, 3) := by decide +kernel
theorem dX5_write_9 : decode cX5_write 9 = .ok (.iload_n 2, 1) := by decide +kernel
theorem dX5_write_10 : decode cX5_write 10 = .ok (.ifCond .lt 8, 3) := by decide +kernel
theorem dX5_write_13 : decode cX5_write 13 = .ok (.iload_n 2, 1) := by decide +kernel
theorem dX5_write_14 : decode cX5_write 14 = .ok (.iconst 5, 1) := by decide +kernel
theorem dX5_write_15 : decode cX5_write 15 = .ok (.if_icmp .lt 4, 3) := by decide +kernel
theorem dX5_write_19 : decode cX5_write 19 = .ok (.iload_n 1, 1) := by decide +kernel
theorem dX5_write_20 : decode cX5_write 20 = .ok (.iconst 5, 1) := by decide +kernel
theorem dX5_write_21 : decode cX5_write 21 = .ok (.imul, 1) := by decide +kernel
theorem dX5_write_22 : decode cX5_write 22 = .ok (.iload_n 2, 1) := by decide +kernel
theorem dX5_write_23 : decode cX5_write 23 = .ok (.iadd, 1) := by decide +kernel
theorem dX5_write_24 : decode cX5_write 24 = .ok (.istore 5, 2) := by decide +kernel
theorem dX5_write_26 : decode cX5_write 26 = .ok (.iload 5, 2) := by decide +kernel
theorem dX5_write_28 : decode cX5_write 28 = .ok (.ifCond .lt 21, 3) := by decide +kernel
theorem dX5_write_31 : decode cX5_write 31 = .ok (.iload 5, 2) := by decide +kernel
theorem dX5_write_33 : decode cX5_write 33 = .ok (.aload_n 0, 1) := by decide +kernel
theorem dX5_write_34 : decode cX5_write 34 = .ok (.getfield 11, 3) := by decide +kernel
theorem dX5_write_37 : decode cX5_write 37 = .ok (.arraylength, 1) := by decide +kernel
theorem dX5_write_38 : decode cX5_write 38 = .ok (.if_icmp .ge 11, 3) := by decide +kernel
theorem dX5_write_41 : decode cX5_write 41 = .ok (.aload_n 0, 1) := by decide +kernel
theorem dX5_write_42 : decode cX5_write 42 = .ok (.getfield 11, 3) := by decide +kernel
theorem dX5_write_45 : decode cX5_write 45 = .ok (.iload 5, 2) := by decide +kernel
theorem dX5_write_47 : decode cX5_write 47 = .ok (.lload_n 3, 1) := by decide +kernel
theorem dX5_write_48 : decode cX5_write 48 = .ok (.lastore, 1) := by decide +kernel
theorem dX5_write_49 : decode cX5_write 49 = .ok (.return_, 1) := by decide +kernel
theorem dX5_pivotRow_0 : decode cX5_pivotRow 0 = .ok (.iload_n 1, 1) := by decide +kernel
theorem dX5_pivotRow_1 : decode cX5_pivotRow 1 = .ok (.istore_n 3, 1) := by decide +kernel
theorem dX5_pivotRow_2 : decode cX5_pivotRow 2 = .ok (.iload_n 3, 1) := by decide +kernel
theorem dX5_pivotRow_3 : decode cX5_pivotRow 3 = .ok (.iload_n 2, 1) := by decide +kernel
theorem dX5_pivotRow_4 : decode cX5_pivotRow 4 = .ok (.if_icmp .ge 22, 3) := by decide +kernel
theorem dX5_pivotRow_26 : decode cX5_pivotRow 26 = .ok (.iconst (-1), 1) := by decide +kernel
theorem dX5_pivotRow_27 : decode cX5_pivotRow 27 = .ok (.ireturn, 1) := by decide +kernel
theorem dX5_pivotRow_7 : decode cX5_pivotRow 7 = .ok (.aload_n 0, 1) := by decide +kernel
theorem dX5_pivotRow_8 : decode cX5_pivotRow 8 = .ok (.iload_n 3, 1) := by decide +kernel
theorem dX5_pivotRow_9 : decode cX5_pivotRow 9 = .ok (.iload_n 1, 1) := by decide +kernel
theorem dX5_pivotRow_10 : decode cX5_pivotRow 10 = .ok (.invokevirtual 27, 3) := by decide +kernel
theorem q_232 : (Jvm.Cond.code ({ cls := "Chipfold$Matrix", name := "at", desc := "(II)J" } : Jvm.MethodName) prog_7_method_2_code (4 : Nat) (Option.some Jvm.ClassFile.FieldType.long)) ∈ WG := wg_3 (List.mem_of_getElem? (i := 228) rfl) rfl
theorem q_233 : (Jvm.Cond.selects "Chipfold$Matrix" ({ cls := "Chipfold$Matrix", name := "at", desc := "(II)J" } : Jvm.MethodName) ({ cls := "Chipfold$Matrix", name := "at", desc := "(II)J" } : Jvm.MethodName)) ∈ WG := wg_3 (List.mem_of_getElem? (i := 227) (by decide +kernel)) (by decide +kernel)
theorem q_234 : (Jvm.Cond.methodLink "Chipfold$Matrix" (27 : Nat) ({ cls := "Chipfold$Matrix", name := "at", desc := "(II)J" } : Jvm.MethodName)) ∈ WG := wg_3 (List.mem_of_getElem? (i := 225) (by decide +kernel)) (by decide +kernel)
theorem q_235 : (Jvm.Cond.instanceMethod ({ cls := "Chipfold$Matrix", name := "at", desc := "(II)J" } : Jvm.MethodName)) ∈ WG := wg_3 (List.mem_of_getElem? (i := 226) (by decide +kernel)) (by decide +kernel)
theorem dX5_pivotRow_13 : decode cX5_pivotRow 13 = .ok (.lconst 0, 1) := by decide +kernel
theorem dX5_pivotRow_14 : decode cX5_pivotRow 14 = .ok (.lcmp, 1) := by decide +kernel
theorem dX5_pivotRow_15 : decode cX5_pivotRow 15 = .ok (.ifCond .eq 5, 3) := by decide +kernel
theorem dX5_pivotRow_20 : decode cX5_pivotRow 20 = .ok (.iinc 3 1, 3) := by decide +kernel
theorem dX5_pivotRow_23 : decode cX5_pivotRow 23 = .ok (.goto (-21), 3) := by decide +kernel
theorem dX5_pivotRow_18 : decode cX5_pivotRow 18 = .ok (.iload_n 3, 1) := by decide +kernel
theorem dX5_pivotRow_19 : decode cX5_pivotRow 19 = .ok (.ireturn, 1) := by decide +kernel
theorem dX5_swapRows_0 : decode cX5_swapRows 0 = .ok (.iconst 0, 1) := by decide +kernel
theorem dX5_swapRows_1 : decode cX5_swapRows 1 = .ok (.istore 4, 2) := by decide +kernel
theorem dX5_swapRows_3 : decode cX5_swapRows 3 = .ok (.iload 4, 2) := by decide +kernel
theorem dX5_swapRows_5 : decode cX5_swapRows 5 = .ok (.iload_n 3, 1) := by decide +kernel
theorem dX5_swapRows_6 : decode cX5_swapRows 6 = .ok (.if_icmp .ge 41, 3) := by decide +kernel
theorem dX5_swapRows_47 : decode cX5_swapRows 47 = .ok (.return_, 1) := by decide +kernel
theorem dX5_swapRows_9 : decode cX5_swapRows 9 = .ok (.aload_n 0, 1) := by decide +kernel
theorem dX5_swapRows_10 : decode cX5_swapRows 10 = .ok (.iload_n 1, 1) := by decide +kernel
theorem dX5_swapRows_11 : decode cX5_swapRows 11 = .ok (.iload 4, 2) := by decide +kernel
theorem dX5_swapRows_13 : decode cX5_swapRows 13 = .ok (.invokevirtual 27, 3) := by decide +kernel
theorem dX5_swapRows_16 : decode cX5_swapRows 16 = .ok (.lstore 5, 2) := by decide +kernel
theorem dX5_swapRows_18 : decode cX5_swapRows 18 = .ok (.aload_n 0, 1) := by decide +kernel
theorem dX5_swapRows_19 : decode cX5_swapRows 19 = .ok (.iload_n 1, 1) := by decide +kernel
theorem dX5_swapRows_20 : decode cX5_swapRows 20 = .ok (.iload 4, 2) := by decide +kernel
theorem dX5_swapRows_22 : decode cX5_swapRows 22 = .ok (.aload_n 0, 1) := by decide +kernel
theorem dX5_swapRows_23 : decode cX5_swapRows 23 = .ok (.iload_n 2, 1) := by decide +kernel
theorem dX5_swapRows_24 : decode cX5_swapRows 24 = .ok (.iload 4, 2) := by decide +kernel
theorem dX5_swapRows_26 : decode cX5_swapRows 26 = .ok (.invokevirtual 27, 3) := by decide +kernel
theorem dX5_swapRows_29 : decode cX5_swapRows 29 = .ok (.invokevirtual 31, 3) := by decide +kernel
theorem q_236 : (Jvm.Cond.code ({ cls := "Chipfold$Matrix", name := "write", desc := "(IIJ)V" } : Jvm.MethodName) prog_7_method_3_code (6 : Nat) (Option.none : Option Jvm.ClassFile.FieldType)) ∈ WG := wg_3 (List.mem_of_getElem? (i := 216) rfl) rfl
theorem q_237 : (Jvm.Cond.selects "Chipfold$Matrix" ({ cls := "Chipfold$Matrix", name := "write", desc := "(IIJ)V" } : Jvm.MethodName) ({ cls := "Chipfold$Matrix", name := "write", desc := "(IIJ)V" } : Jvm.MethodName)) ∈ WG := wg_3 (List.mem_of_getElem? (i := 215) (by decide +kernel)) (by decide +kernel)
theorem q_238 : (Jvm.Cond.methodLink "Chipfold$Matrix" (31 : Nat) ({ cls := "Chipfold$Matrix", name := "write", desc := "(IIJ)V" } : Jvm.MethodName)) ∈ WG := wg_3 (List.mem_of_getElem? (i := 233) (by decide +kernel)) (by decide +kernel)
theorem q_239 : (Jvm.Cond.instanceMethod ({ cls := "Chipfold$Matrix", name := "write", desc := "(IIJ)V" } : Jvm.MethodName)) ∈ WG := wg_3 (List.mem_of_getElem? (i := 214) (by decide +kernel)) (by decide +kernel)
theorem dX5_swapRows_32 : decode cX5_swapRows 32 = .ok (.aload_n 0, 1) := by decide +kernel
theorem dX5_swapRows_33 : decode cX5_swapRows 33 = .ok (.iload_n 2, 1) := by decide +kernel
theorem dX5_swapRows_34 : decode cX5_swapRows 34 = .ok (.iload 4, 2) := by decide +kernel
theorem dX5_swapRows_36 : decode cX5_swapRows 36 = .ok (.lload 5, 2) := by decide +kernel
theorem dX5_swapRows_38 : decode cX5_swapRows 38 = .ok (.invokevirtual 31, 3) := by decide +kernel
theorem dX5_swapRows_41 : decode cX5_swapRows 41 = .ok (.iinc 4 1, 3) := by decide +kernel
theorem dX5_swapRows_44 : decode cX5_swapRows 44 = .ok (.goto (-41), 3) := by decide +kernel
theorem dX5_clearBelow_0 : decode cX5_clearBelow 0 = .ok (.lload_n 3, 1) := by decide +kernel
theorem dX5_clearBelow_1 : decode cX5_clearBelow 1 = .ok (.lconst 0, 1) := by decide +kernel
theorem dX5_clearBelow_2 : decode cX5_clearBelow 2 = .ok (.lcmp, 1) := by decide +kernel
theorem dX5_clearBelow_3 : decode cX5_clearBelow 3 = .ok (.ifCond .ne 4, 3) := by decide +kernel
theorem dX5_clearBelow_7 : decode cX5_clearBelow 7 = .ok (.iload_n 1, 1) := by decide +kernel
theorem dX5_clearBelow_8 : decode cX5_clearBelow 8 = .ok (.iconst 1, 1) := by decide +kernel
theorem dX5_clearBelow_9 : decode cX5_clearBelow 9 = .ok (.iadd, 1) := by decide +kernel
theorem dX5_clearBelow_10 : decode cX5_clearBelow 10 = .ok (.istore 5, 2) := by decide +kernel
theorem dX5_clearBelow_12 : decode cX5_clearBelow 12 = .ok (.iload 5, 2) := by decide +kernel
theorem dX5_clearBelow_14 : decode cX5_clearBelow 14 = .ok (.iload_n 2, 1) := by decide +kernel
theorem dX5_clearBelow_15 : decode cX5_clearBelow 15 = .ok (.if_icmp .ge 71, 3) := by decide +kernel
theorem dX5_clearBelow_86 : decode cX5_clearBelow 86 = .ok (.return_, 1) := by decide +kernel
theorem dX5_clearBelow_18 : decode cX5_clearBelow 18 = .ok (.iload_n 1, 1) := by decide +kernel
theorem dX5_clearBelow_19 : decode cX5_clearBelow 19 = .ok (.iconst 1, 1) := by decide +kernel
theorem dX5_clearBelow_20 : decode cX5_clearBelow 20 = .ok (.iadd, 1) := by decide +kernel
theorem dX5_clearBelow_21 : decode cX5_clearBelow 21 = .ok (.istore 6, 2) := by decide +kernel
theorem dX5_clearBelow_23 : decode cX5_clearBelow 23 = .ok (.iload 6, 2) := by decide +kernel
theorem dX5_clearBelow_25 : decode cX5_clearBelow 25 = .ok (.iload_n 2, 1) := by decide +kernel
theorem dX5_clearBelow_26 : decode cX5_clearBelow 26 = .ok (.if_icmp .ge 54, 3) := by decide +kernel
theorem dX5_clearBelow_80 : decode cX5_clearBelow 80 = .ok (.iinc 5 1, 3) := by decide +kernel
theorem dX5_clearBelow_83 : decode cX5_clearBelow 83 = .ok (.goto (-71), 3) := by decide +kernel
theorem dX5_clearBelow_29 : decode cX5_clearBelow 29 = .ok (.aload_n 0, 1) := by decide +kernel
theorem dX5_clearBelow_30 : decode cX5_clearBelow 30 = .ok (.iload 5, 2) := by decide +kernel
theorem dX5_clearBelow_32 : decode cX5_clearBelow 32 = .ok (.iload 6, 2) := by decide +kernel
theorem dX5_clearBelow_34 : decode cX5_clearBelow 34 = .ok (.invokevirtual 27, 3) := by decide +kernel
theorem dX5_clearBelow_37 : decode cX5_clearBelow 37 = .ok (.aload_n 0, 1) := by decide +kernel
theorem dX5_clearBelow_38 : decode cX5_clearBelow 38 = .ok (.iload_n 1, 1) := by decide +kernel
theorem dX5_clearBelow_39 : decode cX5_clearBelow 39 = .ok (.iload_n 1, 1) := by decide +kernel
theorem dX5_clearBelow_40 : decode cX5_clearBelow 40 = .ok (.invokevirtual 27, 3) := by decide +kernel
theorem dX5_clearBelow_43 : decode cX5_clearBelow 43 = .ok (.lmul, 1) := by decide +kernel
theorem dX5_clearBelow_44 : decode cX5_clearBelow 44 = .ok (.aload_n 0, 1) := by decide +kernel
theorem dX5_clearBelow_45 : decode cX5_clearBelow 45 = .ok (.iload 5, 2) := by decide +kernel
theorem dX5_clearBelow_47 : decode cX5_clearBelow 47 = .ok (.iload_n 1, 1) := by decide +kernel
theorem dX5_clearBelow_48 : decode cX5_clearBelow 48 = .ok (.invokevirtual 27, 3) := by decide +kernel
theorem dX5_clearBelow_51 : decode cX5_clearBelow 51 = .ok (.aload_n 0, 1) := by decide +kernel
theorem dX5_clearBelow_52 : decode cX5_clearBelow 52 = .ok (.iload_n 1, 1) := by decide +kernel
theorem dX5_clearBelow_53 : decode cX5_clearBelow 53 = .ok (.iload 6, 2) := by decide +kernel
theorem dX5_clearBelow_55 : decode cX5_clearBelow 55 = .ok (.invokevirtual 27, 3) := by decide +kernel
theorem dX5_clearBelow_58 : decode cX5_clearBelow 58 = .ok (.lmul, 1) := by decide +kernel
theorem dX5_clearBelow_59 : decode cX5_clearBelow 59 = .ok (.lsub, 1) := by decide +kernel
theorem dX5_clearBelow_60 : decode cX5_clearBelow 60 = .ok (.lstore 7, 2) := by decide +kernel
theorem dX5_clearBelow_62 : decode cX5_clearBelow 62 = .ok (.aload_n 0, 1) := by decide +kernel
theorem dX5_clearBelow_63 : decode cX5_clearBelow 63 = .ok (.iload 5, 2) := by decide +kernel
theorem dX5_clearBelow_65 : decode cX5_clearBelow 65 = .ok (.iload 6, 2) := by decide +kernel
theorem dX5_clearBelow_67 : decode cX5_clearBelow 67 = .ok (.lload 7, 2) := by decide +kernel
theorem dX5_clearBelow_69 : decode cX5_clearBelow 69 = .ok (.lload_n 3, 1) := by decide +kernel
theorem dX5_clearBelow_70 : decode cX5_clearBelow 70 = .ok (.ldiv, 1) := by decide +kernel
theorem dX5_clearBelow_71 : decode cX5_clearBelow 71 = .ok (.invokevirtual 31, 3) := by decide +kernel
theorem dX5_clearBelow_74 : decode cX5_clearBelow 74 = .ok (.iinc 6 1, 3) := by decide +kernel
theorem dX5_clearBelow_77 : decode cX5_clearBelow 77 = .ok (.goto (-54), 3) := by decide +kernel
theorem dX5_clearBelow_6 : decode cX5_clearBelow 6 = .ok (.return_, 1) := by decide +kernel
theorem dX5_determinant_0 : decode cX5_determinant 0 = .ok (.lconst 1, 1) := by decide +kernel
theorem dX5_determinant_1 : decode cX5_determinant 1 = .ok (.lstore_n 2, 1) := by decide +kernel
theorem dX5_determinant_2 : decode cX5_determinant 2 = .ok (.lconst 1, 1) := by decide +kernel
theorem dX5_determinant_3 : decode cX5_determinant 3 = .ok (.lstore 4, 2) := by decide +kernel
theorem dX5_determinant_5 : decode cX5_determinant 5 = .ok (.iconst 0, 1) := by decide +kernel
theorem dX5_determinant_6 : decode cX5_determinant 6 = .ok (.istore 6, 2) := by decide +kernel
theorem dX5_determinant_8 : decode cX5_determinant 8 = .ok (.iload 6, 2) := by decide +kernel
theorem dX5_determinant_10 : decode cX5_determinant 10 = .ok (.iload_n 1, 1) := by decide +kernel
theorem dX5_determinant_11 : decode cX5_determinant 11 = .ok (.if_icmp .ge 63, 3) := by decide +kernel
theorem dX5_determinant_74 : decode cX5_determinant 74 = .ok (.lload_n 2, 1) := by decide +kernel
theorem dX5_determinant_75 : decode cX5_determinant 75 = .ok (.lload 4, 2) := by decide +kernel
theorem dX5_determinant_77 : decode cX5_determinant 77 = .ok (.lmul, 1) := by decide +kernel
theorem dX5_determinant_78 : decode cX5_determinant 78 = .ok (.lreturn, 1) := by decide +kernel
theorem dX5_determinant_14 : decode cX5_determinant 14 = .ok (.aload_n 0, 1) := by decide +kernel
theorem dX5_determinant_15 : decode cX5_determinant 15 = .ok (.iload 6, 2) := by decide +kernel
theorem dX5_determinant_17 : decode cX5_determinant 17 = .ok (.iload_n 1, 1) := by decide +kernel
theorem dX5_determinant_18 : decode cX5_determinant 18 = .ok (.invokevirtual 15, 3) := by decide +kernel
theorem q_240 : (Jvm.Cond.code ({ cls := "Chipfold$Matrix", name := "pivotRow", desc := "(II)I" } : Jvm.MethodName) prog_7_method_5_code (4 : Nat) (Option.some Jvm.ClassFile.FieldType.int)) ∈ WG := wg_3 (List.mem_of_getElem? (i := 224) rfl) rfl
theorem q_241 : (Jvm.Cond.selects "Chipfold$Matrix" ({ cls := "Chipfold$Matrix", name := "pivotRow", desc := "(II)I" } : Jvm.MethodName) ({ cls := "Chipfold$Matrix", name := "pivotRow", desc := "(II)I" } : Jvm.MethodName)) ∈ WG := wg_0 (by decide +kernel) (by decide +kernel)
theorem q_242 : (Jvm.Cond.methodLink "Chipfold$Matrix" (15 : Nat) ({ cls := "Chipfold$Matrix", name := "pivotRow", desc := "(II)I" } : Jvm.MethodName)) ∈ WG := wg_3 (List.mem_of_getElem? (i := 221) (by decide +kernel)) (by decide +kernel)
theorem q_243 : (Jvm.Cond.instanceMethod ({ cls := "Chipfold$Matrix", name := "pivotRow", desc := "(II)I" } : Jvm.MethodName)) ∈ WG := wg_3 (List.mem_of_getElem? (i := 223) (by decide +kernel)) (by decide +kernel)
theorem dX5_determinant_21 : decode cX5_determinant 21 = .ok (.istore 7, 2) := by decide +kernel
theorem dX5_determinant_23 : decode cX5_determinant 23 = .ok (.iload 7, 2) := by decide +kernel
theorem dX5_determinant_25 : decode cX5_determinant 25 = .ok (.ifCond .ge 5, 3) := by decide +kernel
theorem dX5_determinant_30 : decode cX5_determinant 30 = .ok (.iload 7, 2) := by decide +kernel
theorem dX5_determinant_32 : decode cX5_determinant 32 = .ok (.iload 6, 2) := by decide +kernel
theorem dX5_determinant_34 : decode cX5_determinant 34 = .ok (.if_icmp .eq 15, 3) := by decide +kernel
theorem dX5_determinant_49 : decode cX5_determinant 49 = .ok (.aload_n 0, 1) := by decide +kernel
theorem dX5_determinant_50 : decode cX5_determinant 50 = .ok (.iload 6, 2) := by decide +kernel
theorem dX5_determinant_52 : decode cX5_determinant 52 = .ok (.iload_n 1, 1) := by decide +kernel
theorem dX5_determinant_53 : decode cX5_determinant 53 = .ok (.lload 4, 2) := by decide +kernel
theorem dX5_determinant_55 : decode cX5_determinant 55 = .ok (.invokevirtual 23, 3) := by decide +kernel
theorem q_244 : (Jvm.Cond.code ({ cls := "Chipfold$Matrix", name := "clearBelow", desc := "(IIJ)V" } : Jvm.MethodName) prog_7_method_7_code (9 : Nat) (Option.none : Option Jvm.ClassFile.FieldType)) ∈ WG := wg_3 (List.mem_of_getElem? (i := 237) rfl) rfl
theorem q_245 : (Jvm.Cond.selects "Chipfold$Matrix" ({ cls := "Chipfold$Matrix", name := "clearBelow", desc := "(IIJ)V" } : Jvm.MethodName) ({ cls := "Chipfold$Matrix", name := "clearBelow", desc := "(IIJ)V" } : Jvm.MethodName)) ∈ WG := wg_0 (by decide +kernel) (by decide +kernel)
theorem q_246 : (Jvm.Cond.methodLink "Chipfold$Matrix" (23 : Nat) ({ cls := "Chipfold$Matrix", name := "clearBelow", desc := "(IIJ)V" } : Jvm.MethodName)) ∈ WG := wg_3 (List.mem_of_getElem? (i := 234) (by decide +kernel)) (by decide +kernel)
theorem q_247 : (Jvm.Cond.instanceMethod ({ cls := "Chipfold$Matrix", name := "clearBelow", desc := "(IIJ)V" } : Jvm.MethodName)) ∈ WG := wg_3 (List.mem_of_getElem? (i := 236) (by decide +kernel)) (by decide +kernel)
theorem dX5_determinant_58 : decode cX5_determinant 58 = .ok (.aload_n 0, 1) := by decide +kernel
theorem dX5_determinant_59 : decode cX5_determinant 59 = .ok (.iload 6, 2) := by decide +kernel
theorem dX5_determinant_61 : decode cX5_determinant 61 = .ok (.iload 6, 2) := by decide +kernel
theorem dX5_determinant_63 : decode cX5_determinant 63 = .ok (.invokevirtual 27, 3) := by decide +kernel
theorem dX5_determinant_66 : decode cX5_determinant 66 = .ok (.lstore 4, 2) := by decide +kernel
theorem dX5_determinant_68 : decode cX5_determinant 68 = .ok (.iinc 6 1, 3) := by decide +kernel
theorem dX5_determinant_71 : decode cX5_determinant 71 = .ok (.goto (-63), 3) := by decide +kernel
theorem dX5_determinant_37 : decode cX5_determinant 37 = .ok (.aload_n 0, 1) := by decide +kernel
theorem dX5_determinant_38 : decode cX5_determinant 38 = .ok (.iload 7, 2) := by decide +kernel
theorem dX5_determinant_40 : decode cX5_determinant 40 = .ok (.iload 6, 2) := by decide +kernel
theorem dX5_determinant_42 : decode cX5_determinant 42 = .ok (.iload_n 1, 1) := by decide +kernel
theorem dX5_determinant_43 : decode cX5_determinant 43 = .ok (.invokevirtual 19, 3) := by decide +kernel
theorem q_248 : (Jvm.Cond.code ({ cls := "Chipfold$Matrix", name := "swapRows", desc := "(III)V" } : Jvm.MethodName) prog_7_method_6_code (7 : Nat) (Option.none : Option Jvm.ClassFile.FieldType)) ∈ WG := wg_3 (List.mem_of_getElem? (i := 232) rfl) rfl
theorem q_249 : (Jvm.Cond.selects "Chipfold$Matrix" ({ cls := "Chipfold$Matrix", name := "swapRows", desc := "(III)V" } : Jvm.MethodName) ({ cls := "Chipfold$Matrix", name := "swapRows", desc := "(III)V" } : Jvm.MethodName)) ∈ WG := wg_0 (by decide +kernel) (by decide +kernel)
theorem q_250 : (Jvm.Cond.methodLink "Chipfold$Matrix" (19 : Nat) ({ cls := "Chipfold$Matrix", name := "swapRows", desc := "(III)V" } : Jvm.MethodName)) ∈ WG := wg_3 (List.mem_of_getElem? (i := 229) (by decide +kernel)) (by decide +kernel)
theorem q_251 : (Jvm.Cond.instanceMethod ({ cls := "Chipfold$Matrix", name := "swapRows", desc := "(III)V" } : Jvm.MethodName)) ∈ WG := wg_3 (List.mem_of_getElem? (i := 231) (by decide +kernel)) (by decide +kernel)
theorem dX5_determinant_46 : decode cX5_determinant 46 = .ok (.lload_n 2, 1) := by decide +kernel
theorem dX5_determinant_47 : decode cX5_determinant 47 = .ok (.lneg, 1) := by decide +kernel
theorem dX5_determinant_48 : decode cX5_determinant 48 = .ok (.lstore_n 2, 1) := by decide +kernel
theorem dX5_determinant_28 : decode cX5_determinant 28 = .ok (.lconst 0, 1) := by decide +kernel
theorem dX5_determinant_29 : decode cX5_determinant 29 = .ok (.lreturn, 1) := by decide +kernel
theorem lc_0 (x y : Int64) : lg_cmp x y = 0 ↔ x = y := by
  unfold lg_cmp
  by_cases h : x = y
  · subst h; simp
  · by_cases h2 : x > y <;> simp [h, h2]
theorem lc_lt {x y : Int64} : lg_cmp x y < 0 ↔ x < y := by
  unfold lg_cmp
  by_cases h2 : x > y
  · rw [if_pos h2]
    exact ⟨fun q => absurd q (by decide), fun q => (Int64.lt_irrefl (Int64.lt_trans q h2)).elim⟩
  · rw [if_neg h2]
    by_cases h : x = y
    · rw [if_pos h]
      exact ⟨fun q => absurd q (by decide), fun q => by rw [h] at q; exact (Int64.lt_irrefl q).elim⟩
    · rw [if_neg h]
      exact ⟨fun _ => Int64.lt_of_le_of_ne (Int64.not_lt.mp h2) h, fun _ => by decide⟩
theorem lc_le (x y : Int64) : lg_cmp x y ≤ 0 ↔ ¬ y < x := by
  unfold lg_cmp
  by_cases h2 : x > y
  · rw [if_pos h2]
    exact ⟨fun q => absurd q (by decide), fun q => absurd h2 q⟩
  · rw [if_neg h2]
    refine ⟨fun _ => h2, fun _ => ?_⟩
    by_cases h : x = y
    · rw [if_pos h]; decide
    · rw [if_neg h]; decide
set_option maxRecDepth 100000 in
set_option maxHeartbeats 400000 in
theorem c_X5_at {l : Launch} {D : va_G} {k : Nat → ClassId} (m1 : Nat) (m3 : Nat) (fm : Nat → Int64) (i : Nat) (j : Nat) (hi : i < 5) (hj : j < 5) : CM l D k yX5_at cX5_at 4 (some .long)  0 0 [.ref m1, .int (nI i), .int (nI j)] [(m1, .inr (7, [.ref m3])), (m3, aJ k 25 fm)] (is1 (some (.long (fm (i * 5 + j)))) [(m1, .inr (7, [.ref m3])), (m3, aJ k 25 fm)]) 0 0 0 := by
  refine CM.of (lv0 := [(0, .ref m1), (1, .int (nI i)), (2, .int (nI j))]) (by decide +kernel) (Nat.le_of_ble_eq_true rfl) rfl ?_
  intro p9 e9 s9 m9 bl9 me9 co9 C hr hlk hin had
  refine g_iload_n (pc := 0) C 1 rfl rfl dX5_at_0 ?_
  refine g_if_lt (pc := 1) C 18 (by decide) dX5_at_1 (fun c_1 => ?_) (fun c_1 => ?_)
  · exact absurd c_1 (nI_pos (by omega))
  · refine g_iload_n (pc := 4) C 1 rfl rfl dX5_at_4 ?_
    refine g_iconst (pc := 5) (v := 5) C (by decide) dX5_at_5 ?_
    refine g_icmp_ge (pc := 6) C 18 (by decide) dX5_at_6 (fun c_6 => ?_) (fun c_6 => ?_)
    · exact absurd c_6 (nI_ge (b := 5) hi (by omega))
    · refine g_iload_n (pc := 9) C 2 rfl rfl dX5_at_9 ?_
      refine g_if_lt (pc := 10) C 18 (by decide) dX5_at_10 (fun c_10 => ?_) (fun c_10 => ?_)
      · exact absurd c_10 (nI_pos (by omega))
      · refine g_iload_n (pc := 13) C 2 rfl rfl dX5_at_13 ?_
        refine g_iconst (pc := 14) (v := 5) C (by decide) dX5_at_14 ?_
        refine g_icmp_lt (pc := 15) C 20 (by decide) dX5_at_15 (fun c_15 => ?_) (fun c_15 => ?_)
        · refine g_iload_n (pc := 20) C 1 rfl rfl dX5_at_20 ?_
          refine g_iconst (pc := 21) (v := 5) C (by decide) dX5_at_21 ?_
          refine g_imul (pc := 22) C dX5_at_22 ?_
          refine g_iload_n (pc := 23) C 2 rfl rfl dX5_at_23 ?_
          refine g_iadd (pc := 24) C dX5_at_24 ?_
          refine G.eqs (st' := [.int (nI (i * 5 + j))]) (congrArg (β := List Value) (fun z9 => [.int z9]) (show ((((nI i) * 5) + (nI j)) : Int32) = (nI (i * 5 + j)) from by rw [show (5 : Int32) = nI 5 from rfl, pk_mul, nI_add])) ?_
          refine g_istore_n (pc := 25) C [(3, .int (nI (i * 5 + j))), (0, .ref m1), (1, .int (nI i)), (2, .int (nI j))] rfl dX5_at_25 (by decide) rfl ?_
          refine g_iload_n (pc := 26) C 0 rfl rfl dX5_at_26 ?_
          refine g_if_lt (pc := 27) C 48 (by decide) dX5_at_27 (fun c_27 => ?_) (fun c_27 => ?_)
          · exact absurd c_27 (nI_pos (by omega))
          · refine g_iload_n (pc := 30) C 0 rfl rfl dX5_at_30 ?_
            refine g_aload_n (pc := 31) C 1 rfl rfl dX5_at_31 ?_
            refine g_get (pc := 32) C (T := TX5) inX5 0 rfl rfl 0 (by decide) q_111 rfl rfl dX5_at_32 ?_
            refine g_alen (pc := 35) C 1 rfl (t0 := 1) rfl (v := (nI 25)) rfl dX5_at_35 ?_
            refine g_icmp_ge (pc := 36) C 48 (by decide) dX5_at_36 (fun c_36 => ?_) (fun c_36 => ?_)
            · exact absurd c_36 (nI_ge (b := 25) (show i * 5 + j < 25 by omega) (by omega))
            · refine g_aload_n (pc := 39) C 1 rfl rfl dX5_at_39 ?_
              refine g_get (pc := 40) C (T := TX5) inX5 0 rfl rfl 0 (by decide) q_111 rfl rfl dX5_at_40 ?_
              refine g_iload_n (pc := 43) C 0 rfl rfl dX5_at_43 ?_
              refine g_lald_n (pc := 44) C (j := (i * 5 + j)) 1 rfl (by omega) (by first | decide | omega) rfl dX5_at_44 ?_
              refine g_goto (pc := 45) C 49 (by decide) dX5_at_45 ?_
              exact g_lret (pc := 49) C hr hlk (by first | decide | omega) (by first | decide | omega) (by first | decide | omega) dX5_at_49 ⟨rfl, rfl⟩
        · exact absurd (nI_lt (b := 5) hj (by omega)) c_15
set_option maxRecDepth 100000 in
set_option maxHeartbeats 400000 in
theorem c_X5_write {l : Launch} {D : va_G} {k : Nat → ClassId} (m1 : Nat) (m3 : Nat) (fm : Nat → Int64) (i : Nat) (j : Nat) (x : Int64) (hi : i < 5) (hj : j < 5) : CM l D k yX5_write cX5_write 6 none  0 0 [.ref m1, .int (nI i), .int (nI j), .long x] [(m1, .inr (7, [.ref m3])), (m3, aJ k 25 fm)] (is1 none [(m1, .inr (7, [.ref m3])), (m3, aJ k 25 (vp_updL fm (i * 5 + j) x))]) 0 0 0 := by
  refine CM.of (lv0 := [(0, .ref m1), (1, .int (nI i)), (2, .int (nI j)), (3, .long x)]) (by decide +kernel) (Nat.le_of_ble_eq_true rfl) rfl ?_
  intro p9 e9 s9 m9 bl9 me9 co9 C hr hlk hin had
  refine g_iload_n (pc := 0) C 1 rfl rfl dX5_write_0 ?_
  refine g_if_lt (pc := 1) C 18 (by decide) dX5_write_1 (fun c_1 => ?_) (fun c_1 => ?_)
  · exact absurd c_1 (nI_pos (by omega))
  · refine g_iload_n (pc := 4) C 1 rfl rfl dX5_write_4 ?_
    refine g_iconst (pc := 5) (v := 5) C (by decide) dX5_write_5 ?_
    refine g_icmp_ge (pc := 6) C 18 (by decide) dX5_write_6 (fun c_6 => ?_) (fun c_6 => ?_)
    · exact absurd c_6 (nI_ge (b := 5) hi (by omega))
    · refine g_iload_n (pc := 9) C 2 rfl rfl dX5_write_9 ?_
      refine g_if_lt (pc := 10) C 18 (by decide) dX5_write_10 (fun c_10 => ?_) (fun c_10 => ?_)
      · exact absurd c_10 (nI_pos (by omega))
      · refine g_iload_n (pc := 13) C 2 rfl rfl dX5_write_13 ?_
        refine g_iconst (pc := 14) (v := 5) C (by decide) dX5_write_14 ?_
        refine g_icmp_lt (pc := 15) C 19 (by decide) dX5_write_15 (fun c_15 => ?_) (fun c_15 => ?_)
        · refine g_iload_n (pc := 19) C 1 rfl rfl dX5_write_19 ?_
          refine g_iconst (pc := 20) (v := 5) C (by decide) dX5_write_20 ?_
          refine g_imul (pc := 21) C dX5_write_21 ?_
          refine g_iload_n (pc := 22) C 2 rfl rfl dX5_write_22 ?_
          refine g_iadd (pc := 23) C dX5_write_23 ?_
          refine G.eqs (st' := [.int (nI (i * 5 + j))]) (congrArg (β := List Value) (fun z9 => [.int z9]) (show ((((nI i) * 5) + (nI j)) : Int32) = (nI (i * 5 + j)) from by rw [show (5 : Int32) = nI 5 from rfl, pk_mul, nI_add])) ?_
          refine g_istore (pc := 24) C [(5, .int (nI (i * 5 + j))), (0, .ref m1), (1, .int (nI i)), (2, .int (nI j)), (3, .long x)] dX5_write_24 (by decide) rfl ?_
          refine g_iload (pc := 26) C 0 rfl dX5_write_26 ?_
          refine g_if_lt (pc := 28) C 49 (by decide) dX5_write_28 (fun c_28 => ?_) (fun c_28 => ?_)
          · exact absurd c_28 (nI_pos (by omega))
          · refine g_iload (pc := 31) C 0 rfl dX5_write_31 ?_
            refine g_aload_n (pc := 33) C 1 rfl rfl dX5_write_33 ?_
            refine g_get (pc := 34) C (T := TX5) inX5 0 rfl rfl 0 (by decide) q_111 rfl rfl dX5_write_34 ?_
            refine g_alen (pc := 37) C 1 rfl (t0 := 1) rfl (v := (nI 25)) rfl dX5_write_37 ?_
            refine g_icmp_ge (pc := 38) C 49 (by decide) dX5_write_38 (fun c_38 => ?_) (fun c_38 => ?_)
            · exact absurd c_38 (nI_ge (b := 25) (show i * 5 + j < 25 by omega) (by omega))
            · refine g_aload_n (pc := 41) C 1 rfl rfl dX5_write_41 ?_
              refine g_get (pc := 42) C (T := TX5) inX5 0 rfl rfl 0 (by decide) q_111 rfl rfl dX5_write_42 ?_
              refine g_iload (pc := 45) C 0 rfl dX5_write_45 ?_
              refine g_lload_n (pc := 47) C 4 rfl rfl dX5_write_47 ?_
              refine g_last_n (pc := 48) C (j := (i * 5 + j)) 1 [(m1, .inr (7, [.ref m3])), (m3, aJ k 25 (vp_updL fm (i * 5 + j) x))] rfl (by omega) (by first | decide | omega) rfl rfl dX5_write_48 ?_
              exact g_vret (pc := 49) C hr hlk (by first | decide | omega) (by first | decide | omega) (by first | decide | omega) dX5_write_49 ⟨rfl, rfl⟩
        · exact absurd (nI_lt (b := 5) hj (by omega)) c_15
/-- the first row from k on with a number in column k -/
def pvO (M : Nat → Int64) (k s : Nat) : Option Nat := low (fun r => decide (k ≤ r) && decide (¬ M (r * 5 + k) = 0)) s
def pvI (M : Nat → Int64) (k s : Nat) : Int32 := match pvO M k s with
  | some r => nI r
  | none => -1
theorem pvO_s {M : Nat → Int64} {k s r : Nat} (hr : r < s) (hk : k ≤ r) (h : ¬ M (r * 5 + k) = 0) (hq : ∀ j, j < r → k ≤ j → M (j * 5 + k) = 0) : pvO M k s = some r :=
  low_some.mpr ⟨hr, by rw [decide_eq_true hk, decide_eq_true h]; rfl, fun u hu => by
    by_cases h1 : k ≤ u
    · rw [show decide (¬ M (u * 5 + k) = 0) = false from decide_eq_false (fun q => q (hq u hu h1))]; exact Bool.and_false _
    · rw [decide_eq_false h1]; rfl⟩
theorem pvO_n {M : Nat → Int64} {k s : Nat} (hq : ∀ j, j < s → k ≤ j → M (j * 5 + k) = 0) : pvO M k s = none :=
  low_none.mpr fun u hu => by
    by_cases h1 : k ≤ u
    · rw [show decide (¬ M (u * 5 + k) = 0) = false from decide_eq_false (fun q => q (hq u hu h1))]; exact Bool.and_false _
    · rw [decide_eq_false h1]; rfl
theorem pvI_some {M : Nat → Int64} {k s : Nat} (h : 0 ≤ pvI M k s) : ∃ r, r < s ∧ k ≤ r ∧ pvO M k s = some r ∧ pvI M k s = nI r := by
  unfold pvI at h ⊢
  cases h1 : pvO M k s with
  | none => rw [h1] at h; exact absurd h (by decide)
  | some r =>
    have h2 := low_some.mp h1
    exact ⟨r, h2.1, of_decide_eq_true (Bool.and_eq_true_iff.mp h2.2.1).1, rfl, rfl⟩
theorem pvI_none {M : Nat → Int64} {k s : Nat} (hs : s ≤ 5) (h : ¬ 0 ≤ pvI M k s) : pvO M k s = none := by
  unfold pvI at h
  cases h1 : pvO M k s with
  | none => rfl
  | some r =>
    rw [h1] at h
    have h2 := (low_some.mp h1).1
    exact absurd (nI_pos' (by omega)) h
set_option maxRecDepth 100000 in
set_option maxHeartbeats 400000 in
theorem c_X5_pivotRow {l : Launch} {D : va_G} {k : Nat → ClassId} (m1 : Nat) (m3 : Nat) (fm : Nat → Int64) (k9 : Nat) (sN : Nat) (hs : sN ≤ 5) (hk : k9 < sN) : CM l D k yX5_pivotRow cX5_pivotRow 4 (some .int)  1 23 [.ref m1, .int (nI k9), .int (nI sN)] [(m1, .inr (7, [.ref m3])), (m3, aJ k 25 fm)] (is1 (some (.int (pvI fm k9 sN))) [(m1, .inr (7, [.ref m3])), (m3, aJ k 25 fm)]) 0 0 0 := by
  refine CM.of (lv0 := [(0, .ref m1), (1, .int (nI k9)), (2, .int (nI sN))]) (by decide +kernel) (Nat.le_of_ble_eq_true rfl) rfl ?_
  intro p9 e9 s9 m9 bl9 me9 co9 C hr hlk hin had
  refine g_iload_n (pc := 0) C 1 rfl rfl dX5_pivotRow_0 ?_
  refine g_istore_n (pc := 1) C [(3, .int (nI k9)), (0, .ref m1), (1, .int (nI k9)), (2, .int (nI sN))] rfl dX5_pivotRow_1 (by decide) rfl ?_
  have key_2 : ∀ (fuel : Nat) (r : Nat), k9 ≤ r → r ≤ sN → (∀ j, j < r → k9 ≤ j → fm (j * 5 + k9) = 0) → sN - r < fuel → G p9 l e9 { frames := 1, cells := 0, slots := 0, locals := 23 } s9 m9 ([.ref m1, .int (nI k9), .int (nI sN)] : List Value).toArray bl9 me9 co9 D 4 (va_A [(m1, .inr (7, [.ref m3])), (m3, aJ k 25 fm)] s9.heap.size) (QM bl9 D ([.ref m1, .int (nI k9), .int (nI sN)] : List Value).toArray s9 [(m1, .inr (7, [.ref m3])), (m3, aJ k 25 fm)] (is1 (some (.int (pvI fm k9 sN))) [(m1, .inr (7, [.ref m3])), (m3, aJ k 25 fm)]) 0 0 0) [(m1, .inr (7, [.ref m3])), (m3, aJ k 25 fm)] [(0, .ref m1), (1, .int (nI k9)), (2, .int (nI sN)), (3, .int (nI r))] 0 0 0 2 [] := by
    intro fuel
    induction fuel with
    | zero => intro r hr1 hr2 hq hm; exact absurd hm (Nat.not_lt_zero _)
    | succ fuel ih =>
      intro r hr1 hr2 hq hm
      have ih_2 := ih
      refine g_iload_n (pc := 2) C 3 rfl rfl dX5_pivotRow_2 ?_
      refine g_iload_n (pc := 3) C 2 rfl rfl dX5_pivotRow_3 ?_
      refine g_icmp_ge (pc := 4) C 26 (by decide) dX5_pivotRow_4 (fun c_4 => ?_) (fun c_4 => ?_)
      · have h3 : r = sN := by { have := nle_ge (b := sN) (a := r) (by omega) c_4; omega }
        refine g_iconst (pc := 26) (v := (-1)) C (by decide) dX5_pivotRow_26 ?_
        refine G.eqs (st' := [.int (pvI fm k9 sN)]) (congrArg (fun z9 => [Value.int z9]) (show ((-1) : Int32) = (pvI fm k9 sN) from by { unfold pvI; rw [pvO_n (fun j h1 h2 => hq j (by omega) h2)]; try rfl })) ?_
        exact g_iret (pc := 27) C hr hlk (by first | decide | omega) (by first | decide | omega) (by first | decide | omega) dX5_pivotRow_27 ⟨rfl, rfl⟩
      · have hl4 : r < sN := nle_lt (by omega) c_4
        refine g_aload_n (pc := 7) C 0 rfl rfl dX5_pivotRow_7 ?_
        refine g_iload_n (pc := 8) C 3 rfl rfl dX5_pivotRow_8 ?_
        refine g_iload_n (pc := 9) C 1 rfl rfl dX5_pivotRow_9 ?_
        refine g_callV (pc := 10) (cells := 0) (slots := 0) (g := 0) (As := [.int (nI r), .int (nI k9)]) (st := []) (T := TX5) (q0 := 0) C (nA := 2) rfl (c_X5_at m1 m3 fm r k9 (by first | assumption | decide | omega) (by first | assumption | decide | omega)) q_234 q_235 q_233 q_115 q_232 (by decide +kernel) rfl rfl dX5_pivotRow_10 ⟨Nat.le_of_ble_eq_true rfl, Nat.le_of_ble_eq_true rfl⟩ [0, 1] [] rfl (wr := []) rfl (by decide) (by decide) (by decide) (Nat.le_of_ble_eq_true rfl) ⟨Nat.le_of_ble_eq_true rfl, Nat.le_of_ble_eq_true rfl⟩ (fun rv w1 h1 => ?_)
        obtain ⟨rfl, rfl⟩ := h1
        refine G.aft [0, 1] (ws' := [(m1, .inr (7, [.ref m3])), (m3, aJ k 25 fm)]) (st' := [.long (fm (r * 5 + k9))]) (cells' := 0) (slots' := 0) (g' := 0) (by decide) rfl rfl rfl rfl rfl ?_
        refine g_lconst (pc := 13) (v := 0) C (by decide) dX5_pivotRow_13 ?_
        refine g_lcmp (pc := 14) C dX5_pivotRow_14 ?_
        refine g_if_eq (pc := 15) C 20 (by decide) dX5_pivotRow_15 (fun c_15 => ?_) (fun c_15 => ?_)
        · rw [lc_0] at c_15
          refine g_iinc (pc := 20) (n := 1) (v := (nI (r + 1))) C 3 [(3, .int (nI (r + 1))), (0, .ref m1), (1, .int (nI k9)), (2, .int (nI sN))] rfl (nI_1 r) dX5_pivotRow_20 (by decide) rfl ?_
          refine g_goto (pc := 23) C 2 (by decide) dX5_pivotRow_23 ?_
          refine G.loc [1, 2, 3, 0] (lv' := [(0, .ref m1), (1, .int (nI k9)), (2, .int (nI sN)), (3, .int (nI (r + 1)))]) rfl ?_
          exact ih_2 (r + 1) (by omega) (by omega) (fun j hj hkj => by rcases Nat.lt_or_ge j r with q | q; exact hq j q hkj; have h1 : j = r := (by omega); subst h1; exact c_15) (by omega)
        · rw [lc_0] at c_15
          refine g_iload_n (pc := 18) C 3 rfl rfl dX5_pivotRow_18 ?_
          refine G.eqs (st' := [.int (pvI fm k9 sN)]) (congrArg (fun z9 => [Value.int z9]) (show ((nI r) : Int32) = (pvI fm k9 sN) from by { unfold pvI; rw [pvO_s hl4 hr1 c_15 hq] })) ?_
          exact g_iret (pc := 19) C hr hlk (by first | decide | omega) (by first | decide | omega) (by first | decide | omega) dX5_pivotRow_19 ⟨rfl, rfl⟩
  refine G.loc [1, 2, 3, 0] (lv' := [(0, .ref m1), (1, .int (nI k9)), (2, .int (nI sN)), (3, .int (nI k9))]) rfl ?_
  exact key_2 (sN - k9 + 1) k9 (Nat.le_refl _) (by omega) (fun j h1 h2 => absurd h1 (by omega)) (Nat.lt_succ_self _)
def swM (M : Nat → Int64) (r k : Nat) : Nat → Nat → Int64
  | 0 => M
  | c + 1 => vp_updL (vp_updL (swM M r k c) (r * 5 + c) (swM M r k c (k * 5 + c))) (k * 5 + c) (swM M r k c (r * 5 + c))
set_option maxRecDepth 100000 in
set_option maxHeartbeats 400000 in
theorem c_X5_swapRows {l : Launch} {D : va_G} {k : Nat → ClassId} (m1 : Nat) (m3 : Nat) (fm : Nat → Int64) (r9 : Nat) (k9 : Nat) (sN : Nat) (hs : sN ≤ 5) (hk : k9 < 5) (hr1 : r9 < 5) : CM l D k yX5_swapRows cX5_swapRows 7 none  1 25 [.ref m1, .int (nI r9), .int (nI k9), .int (nI sN)] [(m1, .inr (7, [.ref m3])), (m3, aJ k 25 fm)] (is1 none [(m1, .inr (7, [.ref m3])), (m3, aJ k 25 (swM fm r9 k9 sN))]) 0 0 0 := by
  refine CM.of (lv0 := [(0, .ref m1), (1, .int (nI r9)), (2, .int (nI k9)), (3, .int (nI sN))]) (by decide +kernel) (Nat.le_of_ble_eq_true rfl) rfl ?_
  intro p9 e9 s9 m9 bl9 me9 co9 C hr hlk hin had
  refine g_iconst (pc := 0) (v := 0) C (by decide) dX5_swapRows_0 ?_
  refine g_istore (pc := 1) C [(4, .int 0), (0, .ref m1), (1, .int (nI r9)), (2, .int (nI k9)), (3, .int (nI sN))] dX5_swapRows_1 (by decide) rfl ?_
  have key_3 : ∀ (fuel : Nat) (y : Nat), y ≤ sN → sN - y < fuel → G p9 l e9 { frames := 1, cells := 0, slots := 0, locals := 25 } s9 m9 ([.ref m1, .int (nI r9), .int (nI k9), .int (nI sN)] : List Value).toArray bl9 me9 co9 D 7 (va_A [(m1, .inr (7, [.ref m3])), (m3, aJ k 25 fm)] s9.heap.size) (QM bl9 D ([.ref m1, .int (nI r9), .int (nI k9), .int (nI sN)] : List Value).toArray s9 [(m1, .inr (7, [.ref m3])), (m3, aJ k 25 fm)] (is1 none [(m1, .inr (7, [.ref m3])), (m3, aJ k 25 (swM fm r9 k9 sN))]) 0 0 0) [(m1, .inr (7, [.ref m3])), (m3, aJ k 25 (swM fm r9 k9 y))] [(0, .ref m1), (1, .int (nI r9)), (2, .int (nI k9)), (3, .int (nI sN)), (4, .int (nI y))] 0 0 0 3 [] := by
    intro fuel
    induction fuel with
    | zero => intro y hy hm; exact absurd hm (Nat.not_lt_zero _)
    | succ fuel ih =>
      intro y hy hm
      have ih_3 := ih
      refine g_iload (pc := 3) C 4 rfl dX5_swapRows_3 ?_
      refine g_iload_n (pc := 5) C 3 rfl rfl dX5_swapRows_5 ?_
      refine g_icmp_ge (pc := 6) C 47 (by decide) dX5_swapRows_6 (fun c_6 => ?_) (fun c_6 => ?_)
      · have h3 : y = sN := by { have := nle_ge (b := sN) (a := y) (by omega) c_6; omega }
        refine G.fnJ (swM fm r9 k9 sN) 1 [(m1, .inr (7, [.ref m3])), (m3, aJ k 25 (swM fm r9 k9 sN))] rfl (fun j hj => by rw [h3]) rfl ?_
        exact g_vret (pc := 47) C hr hlk (by first | decide | omega) (by first | decide | omega) (by first | decide | omega) dX5_swapRows_47 ⟨rfl, rfl⟩
      · have hl6 : y < sN := nle_lt (by omega) c_6
        refine g_aload_n (pc := 9) C 0 rfl rfl dX5_swapRows_9 ?_
        refine g_iload_n (pc := 10) C 1 rfl rfl dX5_swapRows_10 ?_
        refine g_iload (pc := 11) C 4 rfl dX5_swapRows_11 ?_
        refine g_callV (pc := 13) (cells := 0) (slots := 0) (g := 0) (As := [.int (nI r9), .int (nI y)]) (st := []) (T := TX5) (q0 := 0) C (nA := 2) rfl (c_X5_at m1 m3 (swM fm r9 k9 y) r9 y (by first | assumption | decide | omega) (by first | assumption | decide | omega)) q_234 q_235 q_233 q_115 q_232 (by decide +kernel) rfl rfl dX5_swapRows_13 ⟨Nat.le_of_ble_eq_true rfl, Nat.le_of_ble_eq_true rfl⟩ [0, 1] [] rfl (wr := []) rfl (by decide) (by decide) (by decide) (Nat.le_of_ble_eq_true rfl) ⟨Nat.le_of_ble_eq_true rfl, Nat.le_of_ble_eq_true rfl⟩ (fun rv w1 h1 => ?_)
        obtain ⟨rfl, rfl⟩ := h1
        refine G.aft [0, 1] (ws' := [(m1, .inr (7, [.ref m3])), (m3, aJ k 25 (swM fm r9 k9 y))]) (st' := [.long ((swM fm r9 k9 y) (r9 * 5 + y))]) (cells' := 0) (slots' := 0) (g' := 0) (by decide) rfl rfl rfl rfl rfl ?_
        refine g_lstore (pc := 16) C [(5, .long ((swM fm r9 k9 y) (r9 * 5 + y))), (0, .ref m1), (1, .int (nI r9)), (2, .int (nI k9)), (3, .int (nI sN)), (4, .int (nI y))] dX5_swapRows_16 (by decide) rfl ?_
        refine g_aload_n (pc := 18) C 1 rfl rfl dX5_swapRows_18 ?_
        refine g_iload_n (pc := 19) C 2 rfl rfl dX5_swapRows_19 ?_
        refine g_iload (pc := 20) C 5 rfl dX5_swapRows_20 ?_
        refine g_aload_n (pc := 22) C 1 rfl rfl dX5_swapRows_22 ?_
        refine g_iload_n (pc := 23) C 3 rfl rfl dX5_swapRows_23 ?_
        refine g_iload (pc := 24) C 5 rfl dX5_swapRows_24 ?_
        refine g_callV (pc := 26) (cells := 0) (slots := 0) (g := 0) (As := [.int (nI k9), .int (nI y)]) (st := [.int (nI y), .int (nI r9), .ref m1]) (T := TX5) (q0 := 0) C (nA := 2) rfl (c_X5_at m1 m3 (swM fm r9 k9 y) k9 y (by first | assumption | decide | omega) (by first | assumption | decide | omega)) q_234 q_235 q_233 q_115 q_232 (by decide +kernel) rfl rfl dX5_swapRows_26 ⟨Nat.le_of_ble_eq_true rfl, Nat.le_of_ble_eq_true rfl⟩ [0, 1] [] rfl (wr := []) rfl (by decide) (by decide) (by decide) (Nat.le_of_ble_eq_true rfl) ⟨Nat.le_of_ble_eq_true rfl, Nat.le_of_ble_eq_true rfl⟩ (fun rv w1 h1 => ?_)
        obtain ⟨rfl, rfl⟩ := h1
        refine G.aft [0, 1] (ws' := [(m1, .inr (7, [.ref m3])), (m3, aJ k 25 (swM fm r9 k9 y))]) (st' := [.long ((swM fm r9 k9 y) (k9 * 5 + y)), .int (nI y), .int (nI r9), .ref m1]) (cells' := 0) (slots' := 0) (g' := 0) (by decide) rfl rfl rfl rfl rfl ?_
        refine g_callV (pc := 29) (cells := 0) (slots := 0) (g := 0) (As := [.int (nI r9), .int (nI y), .long ((swM fm r9 k9 y) (k9 * 5 + y))]) (st := []) (T := TX5) (q0 := 0) C (nA := 3) rfl (c_X5_write m1 m3 (swM fm r9 k9 y) r9 y ((swM fm r9 k9 y) (k9 * 5 + y)) (by first | assumption | decide | omega) (by first | assumption | decide | omega)) q_238 q_239 q_237 q_115 q_236 (by decide +kernel) rfl rfl dX5_swapRows_29 ⟨Nat.le_of_ble_eq_true rfl, Nat.le_of_ble_eq_true rfl⟩ [0, 1] [] rfl (wr := []) rfl (by decide) (by decide) (by decide) (Nat.le_of_ble_eq_true rfl) ⟨Nat.le_of_ble_eq_true rfl, Nat.le_of_ble_eq_true rfl⟩ (fun rv w1 h1 => ?_)
        obtain ⟨rfl, rfl⟩ := h1
        refine G.aft [0, 1] (ws' := [(m1, .inr (7, [.ref m3])), (m3, aJ k 25 (vp_updL (swM fm r9 k9 y) (r9 * 5 + y) ((swM fm r9 k9 y) (k9 * 5 + y))))]) (st' := []) (cells' := 0) (slots' := 0) (g' := 0) (by decide) rfl rfl rfl rfl rfl ?_
        refine g_aload_n (pc := 32) C 1 rfl rfl dX5_swapRows_32 ?_
        refine g_iload_n (pc := 33) C 3 rfl rfl dX5_swapRows_33 ?_
        refine g_iload (pc := 34) C 5 rfl dX5_swapRows_34 ?_
        refine g_lload (pc := 36) C 0 rfl dX5_swapRows_36 ?_
        refine g_callV (pc := 38) (cells := 0) (slots := 0) (g := 0) (As := [.int (nI k9), .int (nI y), .long ((swM fm r9 k9 y) (r9 * 5 + y))]) (st := []) (T := TX5) (q0 := 0) C (nA := 3) rfl (c_X5_write m1 m3 (vp_updL (swM fm r9 k9 y) (r9 * 5 + y) ((swM fm r9 k9 y) (k9 * 5 + y))) k9 y ((swM fm r9 k9 y) (r9 * 5 + y)) (by first | assumption | decide | omega) (by first | assumption | decide | omega)) q_238 q_239 q_237 q_115 q_236 (by decide +kernel) rfl rfl dX5_swapRows_38 ⟨Nat.le_of_ble_eq_true rfl, Nat.le_of_ble_eq_true rfl⟩ [0, 1] [] rfl (wr := []) rfl (by decide) (by decide) (by decide) (Nat.le_of_ble_eq_true rfl) ⟨Nat.le_of_ble_eq_true rfl, Nat.le_of_ble_eq_true rfl⟩ (fun rv w1 h1 => ?_)
        obtain ⟨rfl, rfl⟩ := h1
        refine G.aft [0, 1] (ws' := [(m1, .inr (7, [.ref m3])), (m3, aJ k 25 (vp_updL (vp_updL (swM fm r9 k9 y) (r9 * 5 + y) ((swM fm r9 k9 y) (k9 * 5 + y))) (k9 * 5 + y) ((swM fm r9 k9 y) (r9 * 5 + y))))]) (st' := []) (cells' := 0) (slots' := 0) (g' := 0) (by decide) rfl rfl rfl rfl rfl ?_
        refine g_iinc (pc := 41) (n := 1) (v := (nI (y + 1))) C 5 [(4, .int (nI (y + 1))), (5, .long ((swM fm r9 k9 y) (r9 * 5 + y))), (0, .ref m1), (1, .int (nI r9)), (2, .int (nI k9)), (3, .int (nI sN))] rfl (nI_1 y) dX5_swapRows_41 (by decide) rfl ?_
        refine g_goto (pc := 44) C 3 (by decide) dX5_swapRows_44 ?_
        refine G.loc [2, 3, 4, 5, 0] (lv' := [(0, .ref m1), (1, .int (nI r9)), (2, .int (nI k9)), (3, .int (nI sN)), (4, .int (nI (y + 1)))]) rfl ?_
        refine G.fnJ (swM fm r9 k9 (y + 1)) 1 [(m1, .inr (7, [.ref m3])), (m3, aJ k 25 (swM fm r9 k9 (y + 1)))] rfl (fun j hj => by rfl) rfl ?_
        exact ih_3 (y + 1) (by omega) (by omega)
  refine G.loc [1, 2, 3, 4, 0] (lv' := [(0, .ref m1), (1, .int (nI r9)), (2, .int (nI k9)), (3, .int (nI sN)), (4, .int 0)]) rfl ?_
  refine G.fnJ (swM fm r9 k9 0) 1 [(m1, .inr (7, [.ref m3])), (m3, aJ k 25 (swM fm r9 k9 0))] rfl (fun j hj => by rfl) rfl ?_
  refine G.eql (lv' := [(0, .ref m1), (1, .int (nI r9)), (2, .int (nI k9)), (3, .int (nI sN)), (4, .int (nI 0))]) (congrArg (β := List (Nat × Value)) (fun z9 => [(0, .ref m1), (1, .int (nI r9)), (2, .int (nI k9)), (3, .int (nI sN)), (4, .int z9)]) (show (0 : Int32) = (nI 0) from by exact nI_0.symm)) ?_
  exact key_3 (sN - 0 + 1) 0 (by omega) (Nat.lt_succ_self _)
def clI (k r : Nat) (pb : Int64) (M : Nat → Int64) : Nat → Nat → Int64
  | 0 => M
  | d + 1 => vp_updL (clI k r pb M d) (r * 5 + (k + 1 + d)) ((clI k r pb M d (r * 5 + (k + 1 + d)) * clI k r pb M d (k * 5 + k) - clI k r pb M d (r * 5 + k) * clI k r pb M d (k * 5 + (k + 1 + d))) / pb)
def clO (k s : Nat) (pb : Int64) (M : Nat → Int64) : Nat → Nat → Int64
  | 0 => M
  | d + 1 => clI k (k + 1 + d) pb (clO k s pb M d) (s - (k + 1))
def clr (k s : Nat) (pb : Int64) (M : Nat → Int64) : Nat → Int64 := if pb = 0 then M else clO k s pb M (s - (k + 1))
set_option maxRecDepth 100000 in
set_option maxHeartbeats 400000 in
theorem c_X5_clearBelow {l : Launch} {D : va_G} {k : Nat → ClassId} (m1 : Nat) (m3 : Nat) (fm : Nat → Int64) (k9 : Nat) (sN : Nat) (pb : Int64) (hs : sN ≤ 5) (hk : k9 < sN) : CM l D k yX5_clearBelow cX5_clearBelow 9 none  1 25 [.ref m1, .int (nI k9), .int (nI sN), .long pb] [(m1, .inr (7, [.ref m3])), (m3, aJ k 25 fm)] (is1 none [(m1, .inr (7, [.ref m3])), (m3, aJ k 25 (clr k9 sN pb fm))]) 0 0 0 := by
  refine CM.of (lv0 := [(0, .ref m1), (1, .int (nI k9)), (2, .int (nI sN)), (3, .long pb)]) (by decide +kernel) (Nat.le_of_ble_eq_true rfl) rfl ?_
  intro p9 e9 s9 m9 bl9 me9 co9 C hr hlk hin had
  refine g_lload_n (pc := 0) C 3 rfl rfl dX5_clearBelow_0 ?_
  refine g_lconst (pc := 1) (v := 0) C (by decide) dX5_clearBelow_1 ?_
  refine g_lcmp (pc := 2) C dX5_clearBelow_2 ?_
  refine g_if_ne (pc := 3) C 7 (by decide) dX5_clearBelow_3 (fun c_3 => ?_) (fun c_3 => ?_)
  · rw [lc_0] at c_3
    refine g_iload_n (pc := 7) C 1 rfl rfl dX5_clearBelow_7 ?_
    refine g_iconst (pc := 8) (v := 1) C (by decide) dX5_clearBelow_8 ?_
    refine g_iadd (pc := 9) C dX5_clearBelow_9 ?_
    refine G.eqs (st' := [.int (nI (k9 + 1))]) (congrArg (β := List Value) (fun z9 => [.int z9]) (show (((nI k9) + 1) : Int32) = (nI (k9 + 1)) from nI_1 k9)) ?_
    refine g_istore (pc := 10) C [(5, .int (nI (k9 + 1))), (0, .ref m1), (1, .int (nI k9)), (2, .int (nI sN)), (3, .long pb)] dX5_clearBelow_10 (by decide) rfl ?_
    have key_12 : ∀ (fuel : Nat) (x : Nat), x ≤ sN - (k9 + 1) → sN - (k9 + 1) - x < fuel → G p9 l e9 { frames := 1, cells := 0, slots := 0, locals := 25 } s9 m9 ([.ref m1, .int (nI k9), .int (nI sN), .long pb] : List Value).toArray bl9 me9 co9 D 9 (va_A [(m1, .inr (7, [.ref m3])), (m3, aJ k 25 fm)] s9.heap.size) (QM bl9 D ([.ref m1, .int (nI k9), .int (nI sN), .long pb] : List Value).toArray s9 [(m1, .inr (7, [.ref m3])), (m3, aJ k 25 fm)] (is1 none [(m1, .inr (7, [.ref m3])), (m3, aJ k 25 (clr k9 sN pb fm))]) 0 0 0) [(m1, .inr (7, [.ref m3])), (m3, aJ k 25 (clO k9 sN pb fm x))] [(0, .ref m1), (1, .int (nI k9)), (2, .int (nI sN)), (3, .long pb), (5, .int (nI (k9 + 1 + x)))] 0 0 0 12 [] := by
      intro fuel
      induction fuel with
      | zero => intro x hx hm; exact absurd hm (Nat.not_lt_zero _)
      | succ fuel ih =>
        intro x hx hm
        have ih_12 := ih
        refine g_iload (pc := 12) C 4 rfl dX5_clearBelow_12 ?_
        refine g_iload_n (pc := 14) C 2 rfl rfl dX5_clearBelow_14 ?_
        refine g_icmp_ge (pc := 15) C 86 (by decide) dX5_clearBelow_15 (fun c_15 => ?_) (fun c_15 => ?_)
        · have h3 : x = sN - (k9 + 1) := by { have := nle_ge (by omega) c_15; omega }
          refine G.fnJ (clr k9 sN pb fm) 1 [(m1, .inr (7, [.ref m3])), (m3, aJ k 25 (clr k9 sN pb fm))] rfl (fun j hj => by { unfold clr; rw [if_neg c_3, h3] }) rfl ?_
          exact g_vret (pc := 86) C hr hlk (by first | decide | omega) (by first | decide | omega) (by first | decide | omega) dX5_clearBelow_86 ⟨rfl, rfl⟩
        · have hl15 : k9 + 1 + x < sN := nle_lt (by omega) c_15
          refine g_iload_n (pc := 18) C 1 rfl rfl dX5_clearBelow_18 ?_
          refine g_iconst (pc := 19) (v := 1) C (by decide) dX5_clearBelow_19 ?_
          refine g_iadd (pc := 20) C dX5_clearBelow_20 ?_
          refine G.eqs (st' := [.int (nI (k9 + 1))]) (congrArg (β := List Value) (fun z9 => [.int z9]) (show (((nI k9) + 1) : Int32) = (nI (k9 + 1)) from nI_1 k9)) ?_
          refine g_istore (pc := 21) C [(6, .int (nI (k9 + 1))), (0, .ref m1), (1, .int (nI k9)), (2, .int (nI sN)), (3, .long pb), (5, .int (nI (k9 + 1 + x)))] dX5_clearBelow_21 (by decide) rfl ?_
          have key_23 : ∀ (fuel : Nat) (y : Nat), y ≤ sN - (k9 + 1) → sN - (k9 + 1) - y < fuel → G p9 l e9 { frames := 1, cells := 0, slots := 0, locals := 25 } s9 m9 ([.ref m1, .int (nI k9), .int (nI sN), .long pb] : List Value).toArray bl9 me9 co9 D 9 (va_A [(m1, .inr (7, [.ref m3])), (m3, aJ k 25 fm)] s9.heap.size) (QM bl9 D ([.ref m1, .int (nI k9), .int (nI sN), .long pb] : List Value).toArray s9 [(m1, .inr (7, [.ref m3])), (m3, aJ k 25 fm)] (is1 none [(m1, .inr (7, [.ref m3])), (m3, aJ k 25 (clr k9 sN pb fm))]) 0 0 0) [(m1, .inr (7, [.ref m3])), (m3, aJ k 25 (clI k9 (k9 + 1 + x) pb (clO k9 sN pb fm x) y))] [(0, .ref m1), (1, .int (nI k9)), (2, .int (nI sN)), (3, .long pb), (5, .int (nI (k9 + 1 + x))), (6, .int (nI (k9 + 1 + y)))] 0 0 0 23 [] := by
            intro fuel
            induction fuel with
            | zero => intro y hy hm; exact absurd hm (Nat.not_lt_zero _)
            | succ fuel ih =>
              intro y hy hm
              have ih_23 := ih
              refine g_iload (pc := 23) C 5 rfl dX5_clearBelow_23 ?_
              refine g_iload_n (pc := 25) C 2 rfl rfl dX5_clearBelow_25 ?_
              refine g_icmp_ge (pc := 26) C 80 (by decide) dX5_clearBelow_26 (fun c_26 => ?_) (fun c_26 => ?_)
              · have h4 : y = sN - (k9 + 1) := by { have := nle_ge (by omega) c_26; omega }
                refine g_iinc (pc := 80) (n := 1) (v := (nI ((k9 + 1 + x) + 1))) C 4 [(5, .int (nI ((k9 + 1 + x) + 1))), (0, .ref m1), (1, .int (nI k9)), (2, .int (nI sN)), (3, .long pb), (6, .int (nI (k9 + 1 + y)))] rfl (nI_1 (k9 + 1 + x)) dX5_clearBelow_80 (by decide) rfl ?_
                refine g_goto (pc := 83) C 12 (by decide) dX5_clearBelow_83 ?_
                refine G.loc [1, 2, 3, 4, 0] (lv' := [(0, .ref m1), (1, .int (nI k9)), (2, .int (nI sN)), (3, .long pb), (5, .int (nI ((k9 + 1 + x) + 1)))]) rfl ?_
                refine G.fnJ (clO k9 sN pb fm (x + 1)) 1 [(m1, .inr (7, [.ref m3])), (m3, aJ k 25 (clO k9 sN pb fm (x + 1)))] rfl (fun j hj => by rw [h4]; try rfl) rfl ?_
                refine G.eql (lv' := [(0, .ref m1), (1, .int (nI k9)), (2, .int (nI sN)), (3, .long pb), (5, .int (nI (k9 + 1 + (x + 1))))]) (congrArg (β := List (Nat × Value)) (fun z9 => [(0, .ref m1), (1, .int (nI k9)), (2, .int (nI sN)), (3, .long pb), (5, .int z9)]) (show ((nI ((k9 + 1 + x) + 1)) : Int32) = (nI (k9 + 1 + (x + 1))) from by rfl)) ?_
                exact ih_12 (x + 1) (by omega) (by omega)
              · have hl26 : k9 + 1 + y < sN := nle_lt (by omega) c_26
                refine g_aload_n (pc := 29) C 0 rfl rfl dX5_clearBelow_29 ?_
                refine g_iload (pc := 30) C 4 rfl dX5_clearBelow_30 ?_
                refine g_iload (pc := 32) C 5 rfl dX5_clearBelow_32 ?_
                refine g_callV (pc := 34) (cells := 0) (slots := 0) (g := 0) (As := [.int (nI (k9 + 1 + x)), .int (nI (k9 + 1 + y))]) (st := []) (T := TX5) (q0 := 0) C (nA := 2) rfl (c_X5_at m1 m3 (clI k9 (k9 + 1 + x) pb (clO k9 sN pb fm x) y) (k9 + 1 + x) (k9 + 1 + y) (by first | assumption | decide | omega) (by first | assumption | decide | omega)) q_234 q_235 q_233 q_115 q_232 (by decide +kernel) rfl rfl dX5_clearBelow_34 ⟨Nat.le_of_ble_eq_true rfl, Nat.le_of_ble_eq_true rfl⟩ [0, 1] [] rfl (wr := []) rfl (by decide) (by decide) (by decide) (Nat.le_of_ble_eq_true rfl) ⟨Nat.le_of_ble_eq_true rfl, Nat.le_of_ble_eq_true rfl⟩ (fun rv w1 h1 => ?_)
                obtain ⟨rfl, rfl⟩ := h1
                refine G.aft [0, 1] (ws' := [(m1, .inr (7, [.ref m3])), (m3, aJ k 25 (clI k9 (k9 + 1 + x) pb (clO k9 sN pb fm x) y))]) (st' := [.long ((clI k9 (k9 + 1 + x) pb (clO k9 sN pb fm x) y) ((k9 + 1 + x) * 5 + (k9 + 1 + y)))]) (cells' := 0) (slots' := 0) (g' := 0) (by decide) rfl rfl rfl rfl rfl ?_
                refine g_aload_n (pc := 37) C 0 rfl rfl dX5_clearBelow_37 ?_
                refine g_iload_n (pc := 38) C 1 rfl rfl dX5_clearBelow_38 ?_
                refine g_iload_n (pc := 39) C 1 rfl rfl dX5_clearBelow_39 ?_
                refine g_callV (pc := 40) (cells := 0) (slots := 0) (g := 0) (As := [.int (nI k9), .int (nI k9)]) (st := [.long ((clI k9 (k9 + 1 + x) pb (clO k9 sN pb fm x) y) ((k9 + 1 + x) * 5 + (k9 + 1 + y)))]) (T := TX5) (q0 := 0) C (nA := 2) rfl (c_X5_at m1 m3 (clI k9 (k9 + 1 + x) pb (clO k9 sN pb fm x) y) k9 k9 (by first | assumption | decide | omega) (by first | assumption | decide | omega)) q_234 q_235 q_233 q_115 q_232 (by decide +kernel) rfl rfl dX5_clearBelow_40 ⟨Nat.le_of_ble_eq_true rfl, Nat.le_of_ble_eq_true rfl⟩ [0, 1] [] rfl (wr := []) rfl (by decide) (by decide) (by decide) (Nat.le_of_ble_eq_true rfl) ⟨Nat.le_of_ble_eq_true rfl, Nat.le_of_ble_eq_true rfl⟩ (fun rv w1 h1 => ?_)
                obtain ⟨rfl, rfl⟩ := h1
                refine G.aft [0, 1] (ws' := [(m1, .inr (7, [.ref m3])), (m3, aJ k 25 (clI k9 (k9 + 1 + x) pb (clO k9 sN pb fm x) y))]) (st' := [.long ((clI k9 (k9 + 1 + x) pb (clO k9 sN pb fm x) y) (k9 * 5 + k9)), .long ((clI k9 (k9 + 1 + x) pb (clO k9 sN pb fm x) y) ((k9 + 1 + x) * 5 + (k9 + 1 + y)))]) (cells' := 0) (slots' := 0) (g' := 0) (by decide) rfl rfl rfl rfl rfl ?_
                refine g_lmul (pc := 43) C dX5_clearBelow_43 ?_
                refine g_aload_n (pc := 44) C 0 rfl rfl dX5_clearBelow_44 ?_
                refine g_iload (pc := 45) C 4 rfl dX5_clearBelow_45 ?_
                refine g_iload_n (pc := 47) C 1 rfl rfl dX5_clearBelow_47 ?_
                refine g_callV (pc := 48) (cells := 0) (slots := 0) (g := 0) (As := [.int (nI (k9 + 1 + x)), .int (nI k9)]) (st := [.long (((clI k9 (k9 + 1 + x) pb (clO k9 sN pb fm x) y) ((k9 + 1 + x) * 5 + (k9 + 1 + y))) * ((clI k9 (k9 + 1 + x) pb (clO k9 sN pb fm x) y) (k9 * 5 + k9)))]) (T := TX5) (q0 := 0) C (nA := 2) rfl (c_X5_at m1 m3 (clI k9 (k9 + 1 + x) pb (clO k9 sN pb fm x) y) (k9 + 1 + x) k9 (by first | assumption | decide | omega) (by first | assumption | decide | omega)) q_234 q_235 q_233 q_115 q_232 (by decide +kernel) rfl rfl dX5_clearBelow_48 ⟨Nat.le_of_ble_eq_true rfl, Nat.le_of_ble_eq_true rfl⟩ [0, 1] [] rfl (wr := []) rfl (by decide) (by decide) (by decide) (Nat.le_of_ble_eq_true rfl) ⟨Nat.le_of_ble_eq_true rfl, Nat.le_of_ble_eq_true rfl⟩ (fun rv w1 h1 => ?_)
                obtain ⟨rfl, rfl⟩ := h1
                refine G.aft [0, 1] (ws' := [(m1, .inr (7, [.ref m3])), (m3, aJ k 25 (clI k9 (k9 + 1 + x) pb (clO k9 sN pb fm x) y))]) (st' := [.long ((clI k9 (k9 + 1 + x) pb (clO k9 sN pb fm x) y) ((k9 + 1 + x) * 5 + k9)), .long (((clI k9 (k9 + 1 + x) pb (clO k9 sN pb fm x) y) ((k9 + 1 + x) * 5 + (k9 + 1 + y))) * ((clI k9 (k9 + 1 + x) pb (clO k9 sN pb fm x) y) (k9 * 5 + k9)))]) (cells' := 0) (slots' := 0) (g' := 0) (by decide) rfl rfl rfl rfl rfl ?_
                refine g_aload_n (pc := 51) C 0 rfl rfl dX5_clearBelow_51 ?_
                refine g_iload_n (pc := 52) C 1 rfl rfl dX5_clearBelow_52 ?_
                refine g_iload (pc := 53) C 5 rfl dX5_clearBelow_53 ?_
                refine g_callV (pc := 55) (cells := 0) (slots := 0) (g := 0) (As := [.int (nI k9), .int (nI (k9 + 1 + y))]) (st := [.long ((clI k9 (k9 + 1 + x) pb (clO k9 sN pb fm x) y) ((k9 + 1 + x) * 5 + k9)), .long (((clI k9 (k9 + 1 + x) pb (clO k9 sN pb fm x) y) ((k9 + 1 + x) * 5 + (k9 + 1 + y))) * ((clI k9 (k9 + 1 + x) pb (clO k9 sN pb fm x) y) (k9 * 5 + k9)))]) (T := TX5) (q0 := 0) C (nA := 2) rfl (c_X5_at m1 m3 (clI k9 (k9 + 1 + x) pb (clO k9 sN pb fm x) y) k9 (k9 + 1 + y) (by first | assumption | decide | omega) (by first | assumption | decide | omega)) q_234 q_235 q_233 q_115 q_232 (by decide +kernel) rfl rfl dX5_clearBelow_55 ⟨Nat.le_of_ble_eq_true rfl, Nat.le_of_ble_eq_true rfl⟩ [0, 1] [] rfl (wr := []) rfl (by decide) (by decide) (by decide) (Nat.le_of_ble_eq_true rfl) ⟨Nat.le_of_ble_eq_true rfl, Nat.le_of_ble_eq_true rfl⟩ (fun rv w1 h1 => ?_)
                obtain ⟨rfl, rfl⟩ := h1
                refine G.aft [0, 1] (ws' := [(m1, .inr (7, [.ref m3])), (m3, aJ k 25 (clI k9 (k9 + 1 + x) pb (clO k9 sN pb fm x) y))]) (st' := [.long ((clI k9 (k9 + 1 + x) pb (clO k9 sN pb fm x) y) (k9 * 5 + (k9 + 1 + y))), .long ((clI k9 (k9 + 1 + x) pb (clO k9 sN pb fm x) y) ((k9 + 1 + x) * 5 + k9)), .long (((clI k9 (k9 + 1 + x) pb (clO k9 sN pb fm x) y) ((k9 + 1 + x) * 5 + (k9 + 1 + y))) * ((clI k9 (k9 + 1 + x) pb (clO k9 sN pb fm x) y) (k9 * 5 + k9)))]) (cells' := 0) (slots' := 0) (g' := 0) (by decide) rfl rfl rfl rfl rfl ?_
                refine g_lmul (pc := 58) C dX5_clearBelow_58 ?_
                refine g_lsub (pc := 59) C dX5_clearBelow_59 ?_
                refine g_lstore (pc := 60) C [(7, .long ((((clI k9 (k9 + 1 + x) pb (clO k9 sN pb fm x) y) ((k9 + 1 + x) * 5 + (k9 + 1 + y))) * ((clI k9 (k9 + 1 + x) pb (clO k9 sN pb fm x) y) (k9 * 5 + k9))) - (((clI k9 (k9 + 1 + x) pb (clO k9 sN pb fm x) y) ((k9 + 1 + x) * 5 + k9)) * ((clI k9 (k9 + 1 + x) pb (clO k9 sN pb fm x) y) (k9 * 5 + (k9 + 1 + y)))))), (0, .ref m1), (1, .int (nI k9)), (2, .int (nI sN)), (3, .long pb), (5, .int (nI (k9 + 1 + x))), (6, .int (nI (k9 + 1 + y)))] dX5_clearBelow_60 (by decide) rfl ?_
                refine g_aload_n (pc := 62) C 1 rfl rfl dX5_clearBelow_62 ?_
                refine g_iload (pc := 63) C 5 rfl dX5_clearBelow_63 ?_
                refine g_iload (pc := 65) C 6 rfl dX5_clearBelow_65 ?_
                refine g_lload (pc := 67) C 0 rfl dX5_clearBelow_67 ?_
                refine g_lload_n (pc := 69) C 4 rfl rfl dX5_clearBelow_69 ?_
                refine g_ldiv (pc := 70) C c_3 dX5_clearBelow_70 ?_
                refine g_callV (pc := 71) (cells := 0) (slots := 0) (g := 0) (As := [.int (nI (k9 + 1 + x)), .int (nI (k9 + 1 + y)), .long (((((clI k9 (k9 + 1 + x) pb (clO k9 sN pb fm x) y) ((k9 + 1 + x) * 5 + (k9 + 1 + y))) * ((clI k9 (k9 + 1 + x) pb (clO k9 sN pb fm x) y) (k9 * 5 + k9))) - (((clI k9 (k9 + 1 + x) pb (clO k9 sN pb fm x) y) ((k9 + 1 + x) * 5 + k9)) * ((clI k9 (k9 + 1 + x) pb (clO k9 sN pb fm x) y) (k9 * 5 + (k9 + 1 + y))))) / pb)]) (st := []) (T := TX5) (q0 := 0) C (nA := 3) rfl (c_X5_write m1 m3 (clI k9 (k9 + 1 + x) pb (clO k9 sN pb fm x) y) (k9 + 1 + x) (k9 + 1 + y) (((((clI k9 (k9 + 1 + x) pb (clO k9 sN pb fm x) y) ((k9 + 1 + x) * 5 + (k9 + 1 + y))) * ((clI k9 (k9 + 1 + x) pb (clO k9 sN pb fm x) y) (k9 * 5 + k9))) - (((clI k9 (k9 + 1 + x) pb (clO k9 sN pb fm x) y) ((k9 + 1 + x) * 5 + k9)) * ((clI k9 (k9 + 1 + x) pb (clO k9 sN pb fm x) y) (k9 * 5 + (k9 + 1 + y))))) / pb) (by first | assumption | decide | omega) (by first | assumption | decide | omega)) q_238 q_239 q_237 q_115 q_236 (by decide +kernel) rfl rfl dX5_clearBelow_71 ⟨Nat.le_of_ble_eq_true rfl, Nat.le_of_ble_eq_true rfl⟩ [0, 1] [] rfl (wr := []) rfl (by decide) (by decide) (by decide) (Nat.le_of_ble_eq_true rfl) ⟨Nat.le_of_ble_eq_true rfl, Nat.le_of_ble_eq_true rfl⟩ (fun rv w1 h1 => ?_)
                obtain ⟨rfl, rfl⟩ := h1
                refine G.aft [0, 1] (ws' := [(m1, .inr (7, [.ref m3])), (m3, aJ k 25 (vp_updL (clI k9 (k9 + 1 + x) pb (clO k9 sN pb fm x) y) ((k9 + 1 + x) * 5 + (k9 + 1 + y)) (((((clI k9 (k9 + 1 + x) pb (clO k9 sN pb fm x) y) ((k9 + 1 + x) * 5 + (k9 + 1 + y))) * ((clI k9 (k9 + 1 + x) pb (clO k9 sN pb fm x) y) (k9 * 5 + k9))) - (((clI k9 (k9 + 1 + x) pb (clO k9 sN pb fm x) y) ((k9 + 1 + x) * 5 + k9)) * ((clI k9 (k9 + 1 + x) pb (clO k9 sN pb fm x) y) (k9 * 5 + (k9 + 1 + y))))) / pb)))]) (st' := []) (cells' := 0) (slots' := 0) (g' := 0) (by decide) rfl rfl rfl rfl rfl ?_
                refine g_iinc (pc := 74) (n := 1) (v := (nI ((k9 + 1 + y) + 1))) C 6 [(6, .int (nI ((k9 + 1 + y) + 1))), (7, .long ((((clI k9 (k9 + 1 + x) pb (clO k9 sN pb fm x) y) ((k9 + 1 + x) * 5 + (k9 + 1 + y))) * ((clI k9 (k9 + 1 + x) pb (clO k9 sN pb fm x) y) (k9 * 5 + k9))) - (((clI k9 (k9 + 1 + x) pb (clO k9 sN pb fm x) y) ((k9 + 1 + x) * 5 + k9)) * ((clI k9 (k9 + 1 + x) pb (clO k9 sN pb fm x) y) (k9 * 5 + (k9 + 1 + y)))))), (0, .ref m1), (1, .int (nI k9)), (2, .int (nI sN)), (3, .long pb), (5, .int (nI (k9 + 1 + x)))] rfl (nI_1 (k9 + 1 + y)) dX5_clearBelow_74 (by decide) rfl ?_
                refine g_goto (pc := 77) C 23 (by decide) dX5_clearBelow_77 ?_
                refine G.loc [2, 3, 4, 5, 6, 0] (lv' := [(0, .ref m1), (1, .int (nI k9)), (2, .int (nI sN)), (3, .long pb), (5, .int (nI (k9 + 1 + x))), (6, .int (nI ((k9 + 1 + y) + 1)))]) rfl ?_
                refine G.fnJ (clI k9 (k9 + 1 + x) pb (clO k9 sN pb fm x) (y + 1)) 1 [(m1, .inr (7, [.ref m3])), (m3, aJ k 25 (clI k9 (k9 + 1 + x) pb (clO k9 sN pb fm x) (y + 1)))] rfl (fun j hj => by rfl) rfl ?_
                refine G.eql (lv' := [(0, .ref m1), (1, .int (nI k9)), (2, .int (nI sN)), (3, .long pb), (5, .int (nI (k9 + 1 + x))), (6, .int (nI (k9 + 1 + (y + 1))))]) (congrArg (β := List (Nat × Value)) (fun z9 => [(0, .ref m1), (1, .int (nI k9)), (2, .int (nI sN)), (3, .long pb), (5, .int (nI (k9 + 1 + x))), (6, .int z9)]) (show ((nI ((k9 + 1 + y) + 1)) : Int32) = (nI (k9 + 1 + (y + 1))) from by rfl)) ?_
                exact ih_23 (y + 1) (by omega) (by omega)
          refine G.loc [1, 2, 3, 4, 5, 0] (lv' := [(0, .ref m1), (1, .int (nI k9)), (2, .int (nI sN)), (3, .long pb), (5, .int (nI (k9 + 1 + x))), (6, .int (nI (k9 + 1)))]) rfl ?_
          refine G.fnJ (clI k9 (k9 + 1 + x) pb (clO k9 sN pb fm x) 0) 1 [(m1, .inr (7, [.ref m3])), (m3, aJ k 25 (clI k9 (k9 + 1 + x) pb (clO k9 sN pb fm x) 0))] rfl (fun j hj => by rfl) rfl ?_
          refine G.eql (lv' := [(0, .ref m1), (1, .int (nI k9)), (2, .int (nI sN)), (3, .long pb), (5, .int (nI (k9 + 1 + x))), (6, .int (nI (k9 + 1 + 0)))]) (congrArg (β := List (Nat × Value)) (fun z9 => [(0, .ref m1), (1, .int (nI k9)), (2, .int (nI sN)), (3, .long pb), (5, .int (nI (k9 + 1 + x))), (6, .int z9)]) (show ((nI (k9 + 1)) : Int32) = (nI (k9 + 1 + 0)) from by rfl)) ?_
          exact key_23 (sN - (k9 + 1) - 0 + 1) 0 (by omega) (Nat.lt_succ_self _)
    refine G.loc [1, 2, 3, 4, 0] (lv' := [(0, .ref m1), (1, .int (nI k9)), (2, .int (nI sN)), (3, .long pb), (5, .int (nI (k9 + 1)))]) rfl ?_
    refine G.fnJ (clO k9 sN pb fm 0) 1 [(m1, .inr (7, [.ref m3])), (m3, aJ k 25 (clO k9 sN pb fm 0))] rfl (fun j hj => by rfl) rfl ?_
    refine G.eql (lv' := [(0, .ref m1), (1, .int (nI k9)), (2, .int (nI sN)), (3, .long pb), (5, .int (nI (k9 + 1 + 0)))]) (congrArg (β := List (Nat × Value)) (fun z9 => [(0, .ref m1), (1, .int (nI k9)), (2, .int (nI sN)), (3, .long pb), (5, .int z9)]) (show ((nI (k9 + 1)) : Int32) = (nI (k9 + 1 + 0)) from by rfl)) ?_
    exact key_12 (sN - (k9 + 1) - 0 + 1) 0 (by omega) (Nat.lt_succ_self _)
  · rw [lc_0] at c_3
    refine G.fnJ (clr k9 sN pb fm) 1 [(m1, .inr (7, [.ref m3])), (m3, aJ k 25 (clr k9 sN pb fm))] rfl (fun j hj => by { unfold clr; rw [if_pos c_3] }) rfl ?_
    exact g_vret (pc := 6) C hr hlk (by first | decide | omega) (by first | decide | omega) (by first | decide | omega) dX5_clearBelow_6 ⟨rfl, rfl⟩
/-- elimination, a pivot at a time: the matrix, the sign, the pivot before -/
def dtS (s k : Nat) (T : (Nat → Int64) × Int64 × Int64) : Option ((Nat → Int64) × Int64 × Int64) := match pvO T.1 k s with
  | none => none
  | some r => if r = k then some (clr k s T.2.2 T.1, T.2.1, clr k s T.2.2 T.1 (k * 5 + k)) else some (clr k s T.2.2 (swM T.1 r k s), -T.2.1, clr k s T.2.2 (swM T.1 r k s) (k * 5 + k))
def dtN (s : Nat) (M : Nat → Int64) : Nat → Option ((Nat → Int64) × Int64 × Int64)
  | 0 => some (M, 1, 1)
  | k + 1 => (dtN s M k).bind (dtS s k)
def dtV (s : Nat) (M : Nat → Int64) : Int64 := match dtN s M s with
  | some T => T.2.1 * T.2.2
  | none => 0
theorem dtN_none {s : Nat} {M : Nat → Int64} : ∀ {k : Nat} (d : Nat), dtN s M k = none → dtN s M (k + d) = none
  | k, 0, h => h
  | k, d + 1, h => by
    show (dtN s M (k + d)).bind _ = none
    rw [dtN_none d h]; rfl
theorem dtV_0 {s k : Nat} {M : Nat → Int64} {T : (Nat → Int64) × Int64 × Int64} (hk : k < s) (hT : dtN s M k = some T) (h : pvO T.1 k s = none) : dtV s M = 0 := by
  have h1 : dtN s M (k + 1) = none := by
    show (dtN s M k).bind _ = none
    rw [hT]
    show dtS s k T = none
    unfold dtS
    rw [h]
  have h2 := dtN_none (s - (k + 1)) h1
  rw [show k + 1 + (s - (k + 1)) = s by omega] at h2
  unfold dtV
  rw [h2]
theorem dtV_1 {s : Nat} {M : Nat → Int64} {T : (Nat → Int64) × Int64 × Int64} (hT : dtN s M s = some T) : dtV s M = T.2.1 * T.2.2 := by
  unfold dtV
  rw [hT]
theorem dtN_s1 {s k r : Nat} {M : Nat → Int64} {T : (Nat → Int64) × Int64 × Int64} (hT : dtN s M k = some T) (h : pvO T.1 k s = some r) (h2 : r = k) : dtN s M (k + 1) = some (clr k s T.2.2 T.1, T.2.1, clr k s T.2.2 T.1 (k * 5 + k)) := by
  show (dtN s M k).bind _ = _
  rw [hT]
  show dtS s k T = _
  unfold dtS
  rw [h]
  exact if_pos h2
theorem dtN_s2 {s k r : Nat} {M : Nat → Int64} {T : (Nat → Int64) × Int64 × Int64} (hT : dtN s M k = some T) (h : pvO T.1 k s = some r) (h2 : ¬ r = k) : dtN s M (k + 1) = some (clr k s T.2.2 (swM T.1 r k s), -T.2.1, clr k s T.2.2 (swM T.1 r k s) (k * 5 + k)) := by
  show (dtN s M k).bind _ = _
  rw [hT]
  show dtS s k T = _
  unfold dtS
  rw [h]
  exact if_neg h2
set_option maxRecDepth 100000 in
set_option maxHeartbeats 400000 in
theorem c_X5_determinant {l : Launch} {D : va_G} {k : Nat → ClassId} (m1 : Nat) (m3 : Nat) (fm : Nat → Int64) (sN : Nat) (hs : sN ≤ 5) : CM l D k yX5_determinant cX5_determinant 8 (some .long)  2 53 [.ref m1, .int (nI sN)] [(m1, .inr (7, [.ref m3])), (m3, aJ k 25 fm)] (fun rv9 w9 => rv9 = (some (.long (dtV sN fm))) ∧ ∃ (gm : Nat → Int64), w9 = [(m1, .inr (7, [.ref m3])), (m3, aJ k 25 gm)]) 0 0 0 := by
  refine CM.of (lv0 := [(0, .ref m1), (1, .int (nI sN))]) (by decide +kernel) (Nat.le_of_ble_eq_true rfl) rfl ?_
  intro p9 e9 s9 m9 bl9 me9 co9 C hr hlk hin had
  refine g_lconst (pc := 0) (v := 1) C (by decide) dX5_determinant_0 ?_
  refine g_lstore_n (pc := 1) C [(2, .long 1), (0, .ref m1), (1, .int (nI sN))] rfl dX5_determinant_1 (by decide) rfl ?_
  refine g_lconst (pc := 2) (v := 1) C (by decide) dX5_determinant_2 ?_
  refine g_lstore (pc := 3) C [(4, .long 1), (2, .long 1), (0, .ref m1), (1, .int (nI sN))] dX5_determinant_3 (by decide) rfl ?_
  refine g_iconst (pc := 5) (v := 0) C (by decide) dX5_determinant_5 ?_
  refine g_istore (pc := 6) C [(6, .int 0), (4, .long 1), (2, .long 1), (0, .ref m1), (1, .int (nI sN))] dX5_determinant_6 (by decide) rfl ?_
  have key_8 : ∀ (fuel : Nat) (k9 : Nat) (T : (Nat → Int64) × Int64 × Int64), k9 ≤ sN → dtN sN fm k9 = some T → sN - k9 < fuel → G p9 l e9 { frames := 2, cells := 0, slots := 0, locals := 53 } s9 m9 ([.ref m1, .int (nI sN)] : List Value).toArray bl9 me9 co9 D 8 (va_A [(m1, .inr (7, [.ref m3])), (m3, aJ k 25 fm)] s9.heap.size) (QM bl9 D ([.ref m1, .int (nI sN)] : List Value).toArray s9 [(m1, .inr (7, [.ref m3])), (m3, aJ k 25 fm)] (fun rv9 w9 => rv9 = (some (.long (dtV sN fm))) ∧ ∃ (gm : Nat → Int64), w9 = [(m1, .inr (7, [.ref m3])), (m3, aJ k 25 gm)]) 0 0 0) [(m1, .inr (7, [.ref m3])), (m3, aJ k 25 T.1)] [(0, .ref m1), (1, .int (nI sN)), (2, .long T.2.1), (4, .long T.2.2), (6, .int (nI k9))] 0 0 0 8 [] := by
    intro fuel
    induction fuel with
    | zero => intro k9 T hk9 hT hm; exact absurd hm (Nat.not_lt_zero _)
    | succ fuel ih =>
      intro k9 T hk9 hT hm
      have ih_8 := ih
      refine g_iload (pc := 8) C 4 rfl dX5_determinant_8 ?_
      refine g_iload_n (pc := 10) C 1 rfl rfl dX5_determinant_10 ?_
      refine g_icmp_ge (pc := 11) C 74 (by decide) dX5_determinant_11 (fun c_11 => ?_) (fun c_11 => ?_)
      · have h3 : k9 = sN := by { have := nle_ge (b := sN) (a := k9) (by omega) c_11; omega }
        refine g_lload_n (pc := 74) C 2 rfl rfl dX5_determinant_74 ?_
        refine g_lload (pc := 75) C 3 rfl dX5_determinant_75 ?_
        refine g_lmul (pc := 77) C dX5_determinant_77 ?_
        refine G.eqs (st' := [.long (dtV sN fm)]) (congrArg (fun z9 => [Value.long z9]) (show ((T.2.1 * T.2.2) : Int64) = (dtV sN fm) from by { subst h3; rw [dtV_1 hT] })) ?_
        exact g_lret (pc := 78) C hr hlk (by first | decide | omega) (by first | decide | omega) (by first | decide | omega) dX5_determinant_78 ⟨rfl, T.1, rfl⟩
      · have hl11 : k9 < sN := nle_lt (by omega) c_11
        refine g_aload_n (pc := 14) C 0 rfl rfl dX5_determinant_14 ?_
        refine g_iload (pc := 15) C 4 rfl dX5_determinant_15 ?_
        refine g_iload_n (pc := 17) C 1 rfl rfl dX5_determinant_17 ?_
        refine g_callV (pc := 18) (cells := 0) (slots := 0) (g := 0) (As := [.int (nI k9), .int (nI sN)]) (st := []) (T := TX5) (q0 := 0) C (nA := 2) rfl (c_X5_pivotRow m1 m3 T.1 k9 sN (by first | assumption | decide | omega) (by first | assumption | decide | omega)) q_242 q_243 q_241 q_115 q_240 (by decide +kernel) rfl rfl dX5_determinant_18 ⟨Nat.le_of_ble_eq_true rfl, Nat.le_of_ble_eq_true rfl⟩ [0, 1] [] rfl (wr := []) rfl (by decide) (by decide) (by decide) (Nat.le_of_ble_eq_true rfl) ⟨Nat.le_of_ble_eq_true rfl, Nat.le_of_ble_eq_true rfl⟩ (fun rv w1 h1 => ?_)
        obtain ⟨rfl, rfl⟩ := h1
        refine G.aft [0, 1] (ws' := [(m1, .inr (7, [.ref m3])), (m3, aJ k 25 T.1)]) (st' := [.int (pvI T.1 k9 sN)]) (cells' := 0) (slots' := 0) (g' := 0) (by decide) rfl rfl rfl rfl rfl ?_
        refine g_istore (pc := 21) C [(7, .int (pvI T.1 k9 sN)), (0, .ref m1), (1, .int (nI sN)), (2, .long T.2.1), (4, .long T.2.2), (6, .int (nI k9))] dX5_determinant_21 (by decide) rfl ?_
        refine g_iload (pc := 23) C 0 rfl dX5_determinant_23 ?_
        refine g_if_ge (pc := 25) C 30 (by decide) dX5_determinant_25 (fun c_25 => ?_) (fun c_25 => ?_)
        · obtain ⟨r, hp1, hp2, hp3, hp4⟩ := pvI_some c_25
          refine G.eql (lv' := [(7, .int (nI r)), (0, .ref m1), (1, .int (nI sN)), (2, .long T.2.1), (4, .long T.2.2), (6, .int (nI k9))]) (congrArg (β := List (Nat × Value)) (fun z9 => [(7, .int z9), (0, .ref m1), (1, .int (nI sN)), (2, .long T.2.1), (4, .long T.2.2), (6, .int (nI k9))]) (show ((pvI T.1 k9 sN) : Int32) = (nI r) from by exact hp4)) ?_
          refine g_iload (pc := 30) C 0 rfl dX5_determinant_30 ?_
          refine g_iload (pc := 32) C 5 rfl dX5_determinant_32 ?_
          refine g_icmp_eq (pc := 34) C 49 (by decide) dX5_determinant_34 (fun c_34 => ?_) (fun c_34 => ?_)
          · rw [nI_eq (by omega) (by omega)] at c_34
            refine g_aload_n (pc := 49) C 1 rfl rfl dX5_determinant_49 ?_
            refine g_iload (pc := 50) C 5 rfl dX5_determinant_50 ?_
            refine g_iload_n (pc := 52) C 2 rfl rfl dX5_determinant_52 ?_
            refine g_lload (pc := 53) C 4 rfl dX5_determinant_53 ?_
            refine g_callV (pc := 55) (cells := 0) (slots := 0) (g := 0) (As := [.int (nI k9), .int (nI sN), .long T.2.2]) (st := []) (T := TX5) (q0 := 0) C (nA := 3) rfl (c_X5_clearBelow m1 m3 T.1 k9 sN T.2.2 (by first | assumption | decide | omega) (by first | assumption | decide | omega)) q_246 q_247 q_245 q_115 q_244 (by decide +kernel) rfl rfl dX5_determinant_55 ⟨Nat.le_of_ble_eq_true rfl, Nat.le_of_ble_eq_true rfl⟩ [0, 1] [] rfl (wr := []) rfl (by decide) (by decide) (by decide) (Nat.le_of_ble_eq_true rfl) ⟨Nat.le_of_ble_eq_true rfl, Nat.le_of_ble_eq_true rfl⟩ (fun rv w1 h1 => ?_)
            obtain ⟨rfl, rfl⟩ := h1
            refine G.aft [0, 1] (ws' := [(m1, .inr (7, [.ref m3])), (m3, aJ k 25 (clr k9 sN T.2.2 T.1))]) (st' := []) (cells' := 0) (slots' := 0) (g' := 0) (by decide) rfl rfl rfl rfl rfl ?_
            refine g_aload_n (pc := 58) C 1 rfl rfl dX5_determinant_58 ?_
            refine g_iload (pc := 59) C 5 rfl dX5_determinant_59 ?_
            refine g_iload (pc := 61) C 5 rfl dX5_determinant_61 ?_
            refine g_callV (pc := 63) (cells := 0) (slots := 0) (g := 0) (As := [.int (nI k9), .int (nI k9)]) (st := []) (T := TX5) (q0 := 0) C (nA := 2) rfl (c_X5_at m1 m3 (clr k9 sN T.2.2 T.1) k9 k9 (by first | assumption | decide | omega) (by first | assumption | decide | omega)) q_234 q_235 q_233 q_115 q_232 (by decide +kernel) rfl rfl dX5_determinant_63 ⟨Nat.le_of_ble_eq_true rfl, Nat.le_of_ble_eq_true rfl⟩ [0, 1] [] rfl (wr := []) rfl (by decide) (by decide) (by decide) (Nat.le_of_ble_eq_true rfl) ⟨Nat.le_of_ble_eq_true rfl, Nat.le_of_ble_eq_true rfl⟩ (fun rv w1 h1 => ?_)
            obtain ⟨rfl, rfl⟩ := h1
            refine G.aft [0, 1] (ws' := [(m1, .inr (7, [.ref m3])), (m3, aJ k 25 (clr k9 sN T.2.2 T.1))]) (st' := [.long ((clr k9 sN T.2.2 T.1) (k9 * 5 + k9))]) (cells' := 0) (slots' := 0) (g' := 0) (by decide) rfl rfl rfl rfl rfl ?_
            refine g_lstore (pc := 66) C [(4, .long ((clr k9 sN T.2.2 T.1) (k9 * 5 + k9))), (7, .int (nI r)), (0, .ref m1), (1, .int (nI sN)), (2, .long T.2.1), (6, .int (nI k9))] dX5_determinant_66 (by decide) rfl ?_
            refine g_iinc (pc := 68) (n := 1) (v := (nI (k9 + 1))) C 5 [(6, .int (nI (k9 + 1))), (4, .long ((clr k9 sN T.2.2 T.1) (k9 * 5 + k9))), (7, .int (nI r)), (0, .ref m1), (1, .int (nI sN)), (2, .long T.2.1)] rfl (nI_1 k9) dX5_determinant_68 (by decide) rfl ?_
            refine g_goto (pc := 71) C 8 (by decide) dX5_determinant_71 ?_
            refine G.loc [3, 4, 5, 1, 0] (lv' := [(0, .ref m1), (1, .int (nI sN)), (2, .long T.2.1), (4, .long ((clr k9 sN T.2.2 T.1) (k9 * 5 + k9))), (6, .int (nI (k9 + 1)))]) rfl ?_
            refine G.fnJ (((clr k9 sN T.2.2 T.1), T.2.1, (clr k9 sN T.2.2 T.1) (k9 * 5 + k9)).1) 1 [(m1, .inr (7, [.ref m3])), (m3, aJ k 25 (((clr k9 sN T.2.2 T.1), T.2.1, (clr k9 sN T.2.2 T.1) (k9 * 5 + k9)).1))] rfl (fun j hj => by rfl) rfl ?_
            refine G.eql (lv' := [(0, .ref m1), (1, .int (nI sN)), (2, .long (((clr k9 sN T.2.2 T.1), T.2.1, (clr k9 sN T.2.2 T.1) (k9 * 5 + k9)).2.1)), (4, .long (((clr k9 sN T.2.2 T.1), T.2.1, (clr k9 sN T.2.2 T.1) (k9 * 5 + k9)).2.2)), (6, .int (nI (k9 + 1)))]) ((congrArg (β := List (Nat × Value)) (fun z9 => [(0, .ref m1), (1, .int (nI sN)), (2, .long z9), (4, .long ((clr k9 sN T.2.2 T.1) (k9 * 5 + k9))), (6, .int (nI (k9 + 1)))]) (show (T.2.1 : Int64) = ((clr k9 sN T.2.2 T.1), T.2.1, (clr k9 sN T.2.2 T.1) (k9 * 5 + k9)).2.1 from by rfl)).trans (congrArg (β := List (Nat × Value)) (fun z9 => [(0, .ref m1), (1, .int (nI sN)), (2, .long (((clr k9 sN T.2.2 T.1), T.2.1, (clr k9 sN T.2.2 T.1) (k9 * 5 + k9)).2.1)), (4, .long z9), (6, .int (nI (k9 + 1)))]) (show (((clr k9 sN T.2.2 T.1) (k9 * 5 + k9)) : Int64) = ((clr k9 sN T.2.2 T.1), T.2.1, (clr k9 sN T.2.2 T.1) (k9 * 5 + k9)).2.2 from by rfl))) ?_
            exact ih_8 (k9 + 1) ((clr k9 sN T.2.2 T.1), T.2.1, (clr k9 sN T.2.2 T.1) (k9 * 5 + k9)) (by omega) (by first | exact dtN_s1 hT hp3 c_34 | exact dtN_s2 hT hp3 c_34) (by omega)
          · rw [nI_eq (by omega) (by omega)] at c_34
            refine g_aload_n (pc := 37) C 1 rfl rfl dX5_determinant_37 ?_
            refine g_iload (pc := 38) C 0 rfl dX5_determinant_38 ?_
            refine g_iload (pc := 40) C 5 rfl dX5_determinant_40 ?_
            refine g_iload_n (pc := 42) C 2 rfl rfl dX5_determinant_42 ?_
            refine g_callV (pc := 43) (cells := 0) (slots := 0) (g := 0) (As := [.int (nI r), .int (nI k9), .int (nI sN)]) (st := []) (T := TX5) (q0 := 0) C (nA := 3) rfl (c_X5_swapRows m1 m3 T.1 r k9 sN (by first | assumption | decide | omega) (by first | assumption | decide | omega) (by first | assumption | decide | omega)) q_250 q_251 q_249 q_115 q_248 (by decide +kernel) rfl rfl dX5_determinant_43 ⟨Nat.le_of_ble_eq_true rfl, Nat.le_of_ble_eq_true rfl⟩ [0, 1] [] rfl (wr := []) rfl (by decide) (by decide) (by decide) (Nat.le_of_ble_eq_true rfl) ⟨Nat.le_of_ble_eq_true rfl, Nat.le_of_ble_eq_true rfl⟩ (fun rv w1 h1 => ?_)
            obtain ⟨rfl, rfl⟩ := h1
            refine G.aft [0, 1] (ws' := [(m1, .inr (7, [.ref m3])), (m3, aJ k 25 (swM T.1 r k9 sN))]) (st' := []) (cells' := 0) (slots' := 0) (g' := 0) (by decide) rfl rfl rfl rfl rfl ?_
            refine g_lload_n (pc := 46) C 3 rfl rfl dX5_determinant_46 ?_
            refine g_lneg (pc := 47) C dX5_determinant_47 ?_
            refine g_lstore_n (pc := 48) C [(2, .long (-T.2.1)), (7, .int (nI r)), (0, .ref m1), (1, .int (nI sN)), (4, .long T.2.2), (6, .int (nI k9))] rfl dX5_determinant_48 (by decide) rfl ?_
            refine g_aload_n (pc := 49) C 2 rfl rfl dX5_determinant_49 ?_
            refine g_iload (pc := 50) C 5 rfl dX5_determinant_50 ?_
            refine g_iload_n (pc := 52) C 3 rfl rfl dX5_determinant_52 ?_
            refine g_lload (pc := 53) C 4 rfl dX5_determinant_53 ?_
            refine g_callV (pc := 55) (cells := 0) (slots := 0) (g := 0) (As := [.int (nI k9), .int (nI sN), .long T.2.2]) (st := []) (T := TX5) (q0 := 0) C (nA := 3) rfl (c_X5_clearBelow m1 m3 (swM T.1 r k9 sN) k9 sN T.2.2 (by first | assumption | decide | omega) (by first | assumption | decide | omega)) q_246 q_247 q_245 q_115 q_244 (by decide +kernel) rfl rfl dX5_determinant_55 ⟨Nat.le_of_ble_eq_true rfl, Nat.le_of_ble_eq_true rfl⟩ [0, 1] [] rfl (wr := []) rfl (by decide) (by decide) (by decide) (Nat.le_of_ble_eq_true rfl) ⟨Nat.le_of_ble_eq_true rfl, Nat.le_of_ble_eq_true rfl⟩ (fun rv w1 h1 => ?_)
            obtain ⟨rfl, rfl⟩ := h1
            refine G.aft [0, 1] (ws' := [(m1, .inr (7, [.ref m3])), (m3, aJ k 25 (clr k9 sN T.2.2 (swM T.1 r k9 sN)))]) (st' := []) (cells' := 0) (slots' := 0) (g' := 0) (by decide) rfl rfl rfl rfl rfl ?_
            refine g_aload_n (pc := 58) C 2 rfl rfl dX5_determinant_58 ?_
            refine g_iload (pc := 59) C 5 rfl dX5_determinant_59 ?_
            refine g_iload (pc := 61) C 5 rfl dX5_determinant_61 ?_
            refine g_callV (pc := 63) (cells := 0) (slots := 0) (g := 0) (As := [.int (nI k9), .int (nI k9)]) (st := []) (T := TX5) (q0 := 0) C (nA := 2) rfl (c_X5_at m1 m3 (clr k9 sN T.2.2 (swM T.1 r k9 sN)) k9 k9 (by first | assumption | decide | omega) (by first | assumption | decide | omega)) q_234 q_235 q_233 q_115 q_232 (by decide +kernel) rfl rfl dX5_determinant_63 ⟨Nat.le_of_ble_eq_true rfl, Nat.le_of_ble_eq_true rfl⟩ [0, 1] [] rfl (wr := []) rfl (by decide) (by decide) (by decide) (Nat.le_of_ble_eq_true rfl) ⟨Nat.le_of_ble_eq_true rfl, Nat.le_of_ble_eq_true rfl⟩ (fun rv w1 h1 => ?_)
            obtain ⟨rfl, rfl⟩ := h1
            refine G.aft [0, 1] (ws' := [(m1, .inr (7, [.ref m3])), (m3, aJ k 25 (clr k9 sN T.2.2 (swM T.1 r k9 sN)))]) (st' := [.long ((clr k9 sN T.2.2 (swM T.1 r k9 sN)) (k9 * 5 + k9))]) (cells' := 0) (slots' := 0) (g' := 0) (by decide) rfl rfl rfl rfl rfl ?_
            refine g_lstore (pc := 66) C [(4, .long ((clr k9 sN T.2.2 (swM T.1 r k9 sN)) (k9 * 5 + k9))), (2, .long (-T.2.1)), (7, .int (nI r)), (0, .ref m1), (1, .int (nI sN)), (6, .int (nI k9))] dX5_determinant_66 (by decide) rfl ?_
            refine g_iinc (pc := 68) (n := 1) (v := (nI (k9 + 1))) C 5 [(6, .int (nI (k9 + 1))), (4, .long ((clr k9 sN T.2.2 (swM T.1 r k9 sN)) (k9 * 5 + k9))), (2, .long (-T.2.1)), (7, .int (nI r)), (0, .ref m1), (1, .int (nI sN))] rfl (nI_1 k9) dX5_determinant_68 (by decide) rfl ?_
            refine g_goto (pc := 71) C 8 (by decide) dX5_determinant_71 ?_
            refine G.loc [4, 5, 2, 1, 0] (lv' := [(0, .ref m1), (1, .int (nI sN)), (2, .long (-T.2.1)), (4, .long ((clr k9 sN T.2.2 (swM T.1 r k9 sN)) (k9 * 5 + k9))), (6, .int (nI (k9 + 1)))]) rfl ?_
            refine G.fnJ (((clr k9 sN T.2.2 (swM T.1 r k9 sN)), -T.2.1, (clr k9 sN T.2.2 (swM T.1 r k9 sN)) (k9 * 5 + k9)).1) 1 [(m1, .inr (7, [.ref m3])), (m3, aJ k 25 (((clr k9 sN T.2.2 (swM T.1 r k9 sN)), -T.2.1, (clr k9 sN T.2.2 (swM T.1 r k9 sN)) (k9 * 5 + k9)).1))] rfl (fun j hj => by rfl) rfl ?_
            refine G.eql (lv' := [(0, .ref m1), (1, .int (nI sN)), (2, .long (((clr k9 sN T.2.2 (swM T.1 r k9 sN)), -T.2.1, (clr k9 sN T.2.2 (swM T.1 r k9 sN)) (k9 * 5 + k9)).2.1)), (4, .long (((clr k9 sN T.2.2 (swM T.1 r k9 sN)), -T.2.1, (clr k9 sN T.2.2 (swM T.1 r k9 sN)) (k9 * 5 + k9)).2.2)), (6, .int (nI (k9 + 1)))]) ((congrArg (β := List (Nat × Value)) (fun z9 => [(0, .ref m1), (1, .int (nI sN)), (2, .long z9), (4, .long ((clr k9 sN T.2.2 (swM T.1 r k9 sN)) (k9 * 5 + k9))), (6, .int (nI (k9 + 1)))]) (show ((-T.2.1) : Int64) = ((clr k9 sN T.2.2 (swM T.1 r k9 sN)), -T.2.1, (clr k9 sN T.2.2 (swM T.1 r k9 sN)) (k9 * 5 + k9)).2.1 from by rfl)).trans (congrArg (β := List (Nat × Value)) (fun z9 => [(0, .ref m1), (1, .int (nI sN)), (2, .long (((clr k9 sN T.2.2 (swM T.1 r k9 sN)), -T.2.1, (clr k9 sN T.2.2 (swM T.1 r k9 sN)) (k9 * 5 + k9)).2.1)), (4, .long z9), (6, .int (nI (k9 + 1)))]) (show (((clr k9 sN T.2.2 (swM T.1 r k9 sN)) (k9 * 5 + k9)) : Int64) = ((clr k9 sN T.2.2 (swM T.1 r k9 sN)), -T.2.1, (clr k9 sN T.2.2 (swM T.1 r k9 sN)) (k9 * 5 + k9)).2.2 from by rfl))) ?_
            exact ih_8 (k9 + 1) ((clr k9 sN T.2.2 (swM T.1 r k9 sN)), -T.2.1, (clr k9 sN T.2.2 (swM T.1 r k9 sN)) (k9 * 5 + k9)) (by omega) (by first | exact dtN_s1 hT hp3 c_34 | exact dtN_s2 hT hp3 c_34) (by omega)
        · refine g_lconst (pc := 28) (v := 0) C (by decide) dX5_determinant_28 ?_
          refine G.eqs (st' := [.long (dtV sN fm)]) (congrArg (fun z9 => [Value.long z9]) (show (0 : Int64) = (dtV sN fm) from by rw [dtV_0 hl11 hT (pvI_none hs c_25)])) ?_
          exact g_lret (pc := 29) C hr hlk (by first | decide | omega) (by first | decide | omega) (by first | decide | omega) dX5_determinant_29 ⟨rfl, T.1, rfl⟩
  refine G.loc [3, 4, 2, 1, 0] (lv' := [(0, .ref m1), (1, .int (nI sN)), (2, .long 1), (4, .long 1), (6, .int 0)]) rfl ?_
  refine G.fnJ ((fm, 1, 1).1) 1 [(m1, .inr (7, [.ref m3])), (m3, aJ k 25 ((fm, 1, 1).1))] rfl (fun j hj => by rfl) rfl ?_
  refine G.eql (lv' := [(0, .ref m1), (1, .int (nI sN)), (2, .long ((fm, 1, 1).2.1)), (4, .long ((fm, 1, 1).2.2)), (6, .int (nI 0))]) ((congrArg (β := List (Nat × Value)) (fun z9 => [(0, .ref m1), (1, .int (nI sN)), (2, .long z9), (4, .long 1), (6, .int 0)]) (show (1 : Int64) = (fm, 1, 1).2.1 from by first | rfl | exact nI_0.symm)).trans ((congrArg (β := List (Nat × Value)) (fun z9 => [(0, .ref m1), (1, .int (nI sN)), (2, .long ((fm, 1, 1).2.1)), (4, .long z9), (6, .int 0)]) (show (1 : Int64) = (fm, 1, 1).2.2 from by first | rfl | exact nI_0.symm)).trans (congrArg (β := List (Nat × Value)) (fun z9 => [(0, .ref m1), (1, .int (nI sN)), (2, .long ((fm, 1, 1).2.1)), (4, .long ((fm, 1, 1).2.2)), (6, .int z9)]) (show (0 : Int32) = (nI 0) from by first | rfl | exact nI_0.symm)))) ?_
  exact key_8 (sN - 0 + 1) 0 (fm, 1, 1) (by omega) rfl (Nat.lt_succ_self _)
