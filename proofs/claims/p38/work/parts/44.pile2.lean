theorem dX3_others_0 : decode cX3_others 0 = .ok (.aload_n 0, 1) := by decide +kernel
theorem dX3_others_1 : decode cX3_others 1 = .ok (.getfield 18, 3) := by decide +kernel
theorem dX3_others_4 : decode cX3_others 4 = .ok (.iconst 1, 1) := by decide +kernel
theorem dX3_others_5 : decode cX3_others 5 = .ok (.if_icmp .ge 7, 3) := by decide +kernel
theorem dX3_others_12 : decode cX3_others 12 = .ok (.aload_n 0, 1) := by decide +kernel
theorem dX3_others_13 : decode cX3_others 13 = .ok (.getfield 18, 3) := by decide +kernel
theorem dX3_others_16 : decode cX3_others 16 = .ok (.iconst 1, 1) := by decide +kernel
theorem dX3_others_17 : decode cX3_others 17 = .ok (.isub, 1) := by decide +kernel
theorem dX3_others_18 : decode cX3_others 18 = .ok (.ireturn, 1) := by decide +kernel
theorem dX3_otherAt_0 : decode cX3_otherAt 0 = .ok (.iload_n 1, 1) := by decide +kernel
theorem dX3_otherAt_1 : decode cX3_otherAt 1 = .ok (.aload_n 0, 1) := by decide +kernel
theorem dX3_otherAt_2 : decode cX3_otherAt 2 = .ok (.getfield 22, 3) := by decide +kernel
theorem dX3_otherAt_5 : decode cX3_otherAt 5 = .ok (.if_icmp .ge 7, 3) := by decide +kernel
theorem dX3_otherAt_12 : decode cX3_otherAt 12 = .ok (.iload_n 1, 1) := by decide +kernel
theorem dX3_otherAt_13 : decode cX3_otherAt 13 = .ok (.iconst 1, 1) := by decide +kernel
theorem dX3_otherAt_14 : decode cX3_otherAt 14 = .ok (.iadd, 1) := by decide +kernel
theorem dX3_otherAt_15 : decode cX3_otherAt 15 = .ok (.ireturn, 1) := by decide +kernel
theorem dX3_otherAt_8 : decode cX3_otherAt 8 = .ok (.iload_n 1, 1) := by decide +kernel
theorem dX3_otherAt_9 : decode cX3_otherAt 9 = .ok (.goto 6, 3) := by decide +kernel
theorem dX3_edgeNumber_0 : decode cX3_edgeNumber 0 = .ok (.iconst 0, 1) := by decide +kernel
theorem dX3_edgeNumber_1 : decode cX3_edgeNumber 1 = .ok (.istore_n 1, 1) := by decide +kernel
theorem dX3_edgeNumber_2 : decode cX3_edgeNumber 2 = .ok (.iconst 0, 1) := by decide +kernel
theorem dX3_edgeNumber_3 : decode cX3_edgeNumber 3 = .ok (.istore_n 2, 1) := by decide +kernel
theorem dX3_edgeNumber_4 : decode cX3_edgeNumber 4 = .ok (.iload_n 2, 1) := by decide +kernel
theorem dX3_edgeNumber_5 : decode cX3_edgeNumber 5 = .ok (.aload_n 0, 1) := by decide +kernel
theorem dX3_edgeNumber_6 : decode cX3_edgeNumber 6 = .ok (.getfield 15, 3) := by decide +kernel
theorem dX3_edgeNumber_9 : decode cX3_edgeNumber 9 = .ok (.arraylength, 1) := by decide +kernel
theorem dX3_edgeNumber_10 : decode cX3_edgeNumber 10 = .ok (.if_icmp .ge 18, 3) := by decide +kernel
theorem dX3_edgeNumber_28 : decode cX3_edgeNumber 28 = .ok (.iload_n 1, 1) := by decide +kernel
theorem dX3_edgeNumber_29 : decode cX3_edgeNumber 29 = .ok (.iconst 2, 1) := by decide +kernel
theorem dX3_edgeNumber_30 : decode cX3_edgeNumber 30 = .ok (.idiv, 1) := by decide +kernel
theorem dX3_edgeNumber_31 : decode cX3_edgeNumber 31 = .ok (.ireturn, 1) := by decide +kernel
theorem dX3_edgeNumber_13 : decode cX3_edgeNumber 13 = .ok (.iload_n 1, 1) := by decide +kernel
theorem dX3_edgeNumber_14 : decode cX3_edgeNumber 14 = .ok (.aload_n 0, 1) := by decide +kernel
theorem dX3_edgeNumber_15 : decode cX3_edgeNumber 15 = .ok (.getfield 15, 3) := by decide +kernel
theorem dX3_edgeNumber_18 : decode cX3_edgeNumber 18 = .ok (.iload_n 2, 1) := by decide +kernel
theorem dX3_edgeNumber_19 : decode cX3_edgeNumber 19 = .ok (.iaload, 1) := by decide +kernel
theorem dX3_edgeNumber_20 : decode cX3_edgeNumber 20 = .ok (.iadd, 1) := by decide +kernel
theorem dX3_edgeNumber_21 : decode cX3_edgeNumber 21 = .ok (.istore_n 1, 1) := by decide +kernel
theorem dX3_edgeNumber_22 : decode cX3_edgeNumber 22 = .ok (.iinc 2 1, 3) := by decide +kernel
theorem dX3_edgeNumber_25 : decode cX3_edgeNumber 25 = .ok (.goto (-21), 3) := by decide +kernel
theorem dX3_endOf_0 : decode cX3_endOf 0 = .ok (.iload_n 2, 1) := by decide +kernel
theorem dX3_endOf_1 : decode cX3_endOf 1 = .ok (.istore_n 3, 1) := by decide +kernel
theorem dX3_endOf_2 : decode cX3_endOf 2 = .ok (.iconst 0, 1) := by decide +kernel
theorem dX3_endOf_3 : decode cX3_endOf 3 = .ok (.istore 4, 2) := by decide +kernel
theorem dX3_endOf_5 : decode cX3_endOf 5 = .ok (.iload 4, 2) := by decide +kernel
theorem dX3_endOf_7 : decode cX3_endOf 7 = .ok (.aload_n 0, 1) := by decide +kernel
theorem dX3_endOf_8 : decode cX3_endOf 8 = .ok (.getfield 18, 3) := by decide +kernel
theorem dX3_endOf_11 : decode cX3_endOf 11 = .ok (.if_icmp .ge 26, 3) := by decide +kernel
theorem dX3_endOf_37 : decode cX3_endOf 37 = .ok (.aload_n 0, 1) := by decide +kernel
theorem dX3_endOf_38 : decode cX3_endOf 38 = .ok (.getfield 22, 3) := by decide +kernel
theorem dX3_endOf_41 : decode cX3_endOf 41 = .ok (.ireturn, 1) := by decide +kernel
theorem dX3_endOf_14 : decode cX3_endOf 14 = .ok (.iload_n 3, 1) := by decide +kernel
theorem dX3_endOf_15 : decode cX3_endOf 15 = .ok (.aload_n 0, 1) := by decide +kernel
theorem dX3_endOf_16 : decode cX3_endOf 16 = .ok (.iload_n 1, 1) := by decide +kernel
theorem dX3_endOf_17 : decode cX3_endOf 17 = .ok (.iload 4, 2) := by decide +kernel
theorem dX3_endOf_19 : decode cX3_endOf 19 = .ok (.invokevirtual 33, 3) := by decide +kernel
theorem dX3_endOf_22 : decode cX3_endOf 22 = .ok (.isub, 1) := by decide +kernel
theorem dX3_endOf_23 : decode cX3_endOf 23 = .ok (.istore_n 3, 1) := by decide +kernel
theorem dX3_endOf_24 : decode cX3_endOf 24 = .ok (.iload_n 3, 1) := by decide +kernel
theorem dX3_endOf_25 : decode cX3_endOf 25 = .ok (.ifCond .ge 6, 3) := by decide +kernel
theorem dX3_endOf_31 : decode cX3_endOf 31 = .ok (.iinc 4 1, 3) := by decide +kernel
theorem dX3_endOf_34 : decode cX3_endOf 34 = .ok (.goto (-29), 3) := by decide +kernel
theorem dX3_endOf_28 : decode cX3_endOf 28 = .ok (.iload 4, 2) := by decide +kernel
theorem dX3_endOf_30 : decode cX3_endOf 30 = .ok (.ireturn, 1) := by decide +kernel
theorem dX6_isLike_0 : decode cX6_isLike 0 = .ok (.aload_n 0, 1) := by decide +kernel
theorem dX6_isLike_1 : decode cX6_isLike 1 = .ok (.getfield 14, 3) := by decide +kernel
theorem dX6_isLike_4 : decode cX6_isLike 4 = .ok (.aload_n 1, 1) := by decide +kernel
theorem dX6_isLike_5 : decode cX6_isLike 5 = .ok (.getfield 14, 3) := by decide +kernel
theorem dX6_isLike_8 : decode cX6_isLike 8 = .ok (.invokevirtual 41, 3) := by decide +kernel
theorem q_186 : (Jvm.Cond.code ({ cls := "Chipfold$Row", name := "isLike", desc := "(LChipfold$Row;)Z" } : Jvm.MethodName) prog_10_method_7_code (3 : Nat) (Option.some Jvm.ClassFile.FieldType.boolean)) ∈ WG := wg_5 (List.mem_of_getElem? (i := 169) rfl) rfl
theorem q_187 : (Jvm.Cond.selects "Chipfold$Row" ({ cls := "Chipfold$Row", name := "isLike", desc := "(LChipfold$Row;)Z" } : Jvm.MethodName) ({ cls := "Chipfold$Row", name := "isLike", desc := "(LChipfold$Row;)Z" } : Jvm.MethodName)) ∈ WG := wg_5 (List.mem_of_getElem? (i := 168) (by decide +kernel)) (by decide +kernel)
theorem q_188 : (Jvm.Cond.methodLink "Chipfold$Pile" (41 : Nat) ({ cls := "Chipfold$Row", name := "isLike", desc := "(LChipfold$Row;)Z" } : Jvm.MethodName)) ∈ WG := wg_5 (List.mem_of_getElem? (i := 166) (by decide +kernel)) (by decide +kernel)
theorem q_189 : (Jvm.Cond.instanceMethod ({ cls := "Chipfold$Row", name := "isLike", desc := "(LChipfold$Row;)Z" } : Jvm.MethodName)) ∈ WG := wg_5 (List.mem_of_getElem? (i := 167) (by decide +kernel)) (by decide +kernel)
theorem dX6_isLike_11 : decode cX6_isLike 11 = .ok (.ifCond .eq 32, 3) := by decide +kernel
theorem dX6_isLike_43 : decode cX6_isLike 43 = .ok (.iconst 0, 1) := by decide +kernel
theorem dX6_isLike_44 : decode cX6_isLike 44 = .ok (.ireturn, 1) := by decide +kernel
theorem dX6_isLike_14 : decode cX6_isLike 14 = .ok (.aload_n 0, 1) := by decide +kernel
theorem dX6_isLike_15 : decode cX6_isLike 15 = .ok (.getfield 20, 3) := by decide +kernel
theorem dX6_isLike_18 : decode cX6_isLike 18 = .ok (.aload_n 1, 1) := by decide +kernel
theorem dX6_isLike_19 : decode cX6_isLike 19 = .ok (.getfield 20, 3) := by decide +kernel
theorem dX6_isLike_22 : decode cX6_isLike 22 = .ok (.invokevirtual 41, 3) := by decide +kernel
theorem dX6_isLike_25 : decode cX6_isLike 25 = .ok (.ifCond .eq 18, 3) := by decide +kernel
theorem dX6_isLike_28 : decode cX6_isLike 28 = .ok (.aload_n 0, 1) := by decide +kernel
theorem dX6_isLike_29 : decode cX6_isLike 29 = .ok (.getfield 23, 3) := by decide +kernel
theorem dX6_isLike_32 : decode cX6_isLike 32 = .ok (.aload_n 1, 1) := by decide +kernel
theorem dX6_isLike_33 : decode cX6_isLike 33 = .ok (.getfield 23, 3) := by decide +kernel
theorem dX6_isLike_36 : decode cX6_isLike 36 = .ok (.if_icmp .ne 7, 3) := by decide +kernel
theorem dX6_isLike_39 : decode cX6_isLike 39 = .ok (.iconst 1, 1) := by decide +kernel
theorem dX6_isLike_40 : decode cX6_isLike 40 = .ok (.goto 4, 3) := by decide +kernel
theorem dX6_countAt_0 : decode cX6_countAt 0 = .ok (.aload_n 0, 1) := by decide +kernel
theorem dX6_countAt_1 : decode cX6_countAt 1 = .ok (.getfield 20, 3) := by decide +kernel
theorem dX6_countAt_4 : decode cX6_countAt 4 = .ok (.iload_n 1, 1) := by decide +kernel
theorem dX6_countAt_5 : decode cX6_countAt 5 = .ok (.invokevirtual 45, 3) := by decide +kernel
theorem dX6_countAt_8 : decode cX6_countAt 8 = .ok (.ireturn, 1) := by decide +kernel
theorem dX6_swallowedChips_0 : decode cX6_swallowedChips 0 = .ok (.aload_n 0, 1) := by decide +kernel
theorem dX6_swallowedChips_1 : decode cX6_swallowedChips 1 = .ok (.getfield 23, 3) := by decide +kernel
theorem dX6_swallowedChips_4 : decode cX6_swallowedChips 4 = .ok (.ireturn, 1) := by decide +kernel
theorem dX6_total_0 : decode cX6_total 0 = .ok (.aload_n 0, 1) := by decide +kernel
theorem dX6_total_1 : decode cX6_total 1 = .ok (.getfield 14, 3) := by decide +kernel
theorem dX6_total_4 : decode cX6_total 4 = .ok (.invokevirtual 49, 3) := by decide +kernel
theorem q_190 : (Jvm.Cond.code ({ cls := "Chipfold$Row", name := "sum", desc := "()I" } : Jvm.MethodName) prog_10_method_8_code (3 : Nat) (Option.some Jvm.ClassFile.FieldType.int)) ∈ WG := wg_4 (List.mem_of_getElem? (i := 80) rfl) rfl
theorem q_191 : (Jvm.Cond.selects "Chipfold$Row" ({ cls := "Chipfold$Row", name := "sum", desc := "()I" } : Jvm.MethodName) ({ cls := "Chipfold$Row", name := "sum", desc := "()I" } : Jvm.MethodName)) ∈ WG := wg_4 (List.mem_of_getElem? (i := 79) (by decide +kernel)) (by decide +kernel)
theorem q_192 : (Jvm.Cond.methodLink "Chipfold$Pile" (49 : Nat) ({ cls := "Chipfold$Row", name := "sum", desc := "()I" } : Jvm.MethodName)) ∈ WG := wg_5 (List.mem_of_getElem? (i := 216) (by decide +kernel)) (by decide +kernel)
theorem q_193 : (Jvm.Cond.instanceMethod ({ cls := "Chipfold$Row", name := "sum", desc := "()I" } : Jvm.MethodName)) ∈ WG := wg_4 (List.mem_of_getElem? (i := 78) (by decide +kernel)) (by decide +kernel)
theorem dX6_total_7 : decode cX6_total 7 = .ok (.ireturn, 1) := by decide +kernel
theorem dX6_settleAll_0 : decode cX6_settleAll 0 = .ok (.iconst 0, 1) := by decide +kernel
theorem dX6_settleAll_1 : decode cX6_settleAll 1 = .ok (.istore_n 2, 1) := by decide +kernel
theorem dX6_settleAll_2 : decode cX6_settleAll 2 = .ok (.iconst 0, 1) := by decide +kernel
theorem dX6_settleAll_3 : decode cX6_settleAll 3 = .ok (.istore_n 3, 1) := by decide +kernel
theorem dX6_settleAll_4 : decode cX6_settleAll 4 = .ok (.iload_n 3, 1) := by decide +kernel
theorem dX6_settleAll_5 : decode cX6_settleAll 5 = .ok (.ldc 76, 2) := by decide +kernel
theorem q_194 : (Jvm.Cond.constant "Chipfold$Pile" (76 : Nat) (1000000 : Int32)) ∈ WG := wg_3 (List.mem_of_getElem? (i := 146) (by decide +kernel)) (by decide +kernel)
theorem dX6_settleAll_7 : decode cX6_settleAll 7 = .ok (.if_icmp .ge 116, 3) := by decide +kernel
theorem dX6_settleAll_123 : decode cX6_settleAll 123 = .ok (.iload_n 2, 1) := by decide +kernel
theorem dX6_settleAll_124 : decode cX6_settleAll 124 = .ok (.ireturn, 1) := by decide +kernel
theorem dX6_settleAll_10 : decode cX6_settleAll 10 = .ok (.iload_n 2, 1) := by decide +kernel
theorem dX6_settleAll_11 : decode cX6_settleAll 11 = .ok (.istore 4, 2) := by decide +kernel
theorem dX6_settleAll_13 : decode cX6_settleAll 13 = .ok (.iconst 0, 1) := by decide +kernel
theorem dX6_settleAll_14 : decode cX6_settleAll 14 = .ok (.istore 5, 2) := by decide +kernel
theorem dX6_settleAll_16 : decode cX6_settleAll 16 = .ok (.iload 5, 2) := by decide +kernel
theorem dX6_settleAll_18 : decode cX6_settleAll 18 = .ok (.aload_n 0, 1) := by decide +kernel
theorem dX6_settleAll_19 : decode cX6_settleAll 19 = .ok (.getfield 27, 3) := by decide +kernel
theorem dX6_settleAll_22 : decode cX6_settleAll 22 = .ok (.invokevirtual 66, 3) := by decide +kernel
theorem dX6_settleAll_25 : decode cX6_settleAll 25 = .ok (.if_icmp .ge 84, 3) := by decide +kernel
theorem dX6_settleAll_109 : decode cX6_settleAll 109 = .ok (.iload_n 2, 1) := by decide +kernel
theorem dX6_settleAll_110 : decode cX6_settleAll 110 = .ok (.iload 4, 2) := by decide +kernel
theorem dX6_settleAll_112 : decode cX6_settleAll 112 = .ok (.if_icmp .ne 5, 3) := by decide +kernel
theorem dX6_settleAll_117 : decode cX6_settleAll 117 = .ok (.iinc 3 1, 3) := by decide +kernel
theorem dX6_settleAll_120 : decode cX6_settleAll 120 = .ok (.goto (-116), 3) := by decide +kernel
theorem dX6_settleAll_115 : decode cX6_settleAll 115 = .ok (.iload_n 2, 1) := by decide +kernel
theorem dX6_settleAll_116 : decode cX6_settleAll 116 = .ok (.ireturn, 1) := by decide +kernel
theorem dX6_settleAll_28 : decode cX6_settleAll 28 = .ok (.iload_n 1, 1) := by decide +kernel
theorem dX6_settleAll_29 : decode cX6_settleAll 29 = .ok (.ifCond .eq 18, 3) := by decide +kernel
theorem dX6_settleAll_47 : decode cX6_settleAll 47 = .ok (.iload 5, 2) := by decide +kernel
theorem dX6_settleAll_49 : decode cX6_settleAll 49 = .ok (.istore 6, 2) := by decide +kernel
theorem dX6_settleAll_51 : decode cX6_settleAll 51 = .ok (.aload_n 0, 1) := by decide +kernel
theorem dX6_settleAll_52 : decode cX6_settleAll 52 = .ok (.getfield 27, 3) := by decide +kernel
theorem dX6_settleAll_55 : decode cX6_settleAll 55 = .ok (.iload 6, 2) := by decide +kernel
theorem dX6_settleAll_57 : decode cX6_settleAll 57 = .ok (.invokevirtual 63, 3) := by decide +kernel
theorem dX6_settleAll_60 : decode cX6_settleAll 60 = .ok (.istore 7, 2) := by decide +kernel
theorem dX6_settleAll_62 : decode cX6_settleAll 62 = .ok (.iload 7, 2) := by decide +kernel
theorem dX6_settleAll_64 : decode cX6_settleAll 64 = .ok (.ifCond .le 39, 3) := by decide +kernel
theorem dX6_settleAll_103 : decode cX6_settleAll 103 = .ok (.iinc 5 1, 3) := by decide +kernel
theorem dX6_settleAll_106 : decode cX6_settleAll 106 = .ok (.goto (-90), 3) := by decide +kernel
theorem dX6_settleAll_67 : decode cX6_settleAll 67 = .ok (.aload_n 0, 1) := by decide +kernel
theorem dX6_settleAll_68 : decode cX6_settleAll 68 = .ok (.iload 6, 2) := by decide +kernel
theorem dX6_settleAll_70 : decode cX6_settleAll 70 = .ok (.invokevirtual 69, 3) := by decide +kernel
theorem dX6_settleAll_73 : decode cX6_settleAll 73 = .ok (.ifCond .eq 30, 3) := by decide +kernel
theorem dX6_settleAll_76 : decode cX6_settleAll 76 = .ok (.aload_n 0, 1) := by decide +kernel
theorem dX6_settleAll_77 : decode cX6_settleAll 77 = .ok (.getfield 14, 3) := by decide +kernel
theorem dX6_settleAll_80 : decode cX6_settleAll 80 = .ok (.iload 6, 2) := by decide +kernel
theorem dX6_settleAll_82 : decode cX6_settleAll 82 = .ok (.invokevirtual 45, 3) := by decide +kernel
theorem dX6_settleAll_85 : decode cX6_settleAll 85 = .ok (.iload 7, 2) := by decide +kernel
theorem dX6_settleAll_87 : decode cX6_settleAll 87 = .ok (.idiv, 1) := by decide +kernel
theorem dX6_settleAll_88 : decode cX6_settleAll 88 = .ok (.istore 8, 2) := by decide +kernel
theorem dX6_settleAll_90 : decode cX6_settleAll 90 = .ok (.aload_n 0, 1) := by decide +kernel
theorem dX6_settleAll_91 : decode cX6_settleAll 91 = .ok (.iload 6, 2) := by decide +kernel
theorem dX6_settleAll_93 : decode cX6_settleAll 93 = .ok (.iload 8, 2) := by decide +kernel
theorem dX6_settleAll_95 : decode cX6_settleAll 95 = .ok (.invokevirtual 77, 3) := by decide +kernel
theorem dX6_settleAll_98 : decode cX6_settleAll 98 = .ok (.iload_n 2, 1) := by decide +kernel
theorem dX6_settleAll_99 : decode cX6_settleAll 99 = .ok (.iload 8, 2) := by decide +kernel
theorem dX6_settleAll_101 : decode cX6_settleAll 101 = .ok (.iadd, 1) := by decide +kernel
theorem dX6_settleAll_102 : decode cX6_settleAll 102 = .ok (.istore_n 2, 1) := by decide +kernel
theorem dX6_settleAll_32 : decode cX6_settleAll 32 = .ok (.aload_n 0, 1) := by decide +kernel
theorem dX6_settleAll_33 : decode cX6_settleAll 33 = .ok (.getfield 27, 3) := by decide +kernel
theorem dX6_settleAll_36 : decode cX6_settleAll 36 = .ok (.invokevirtual 66, 3) := by decide +kernel
theorem dX6_settleAll_39 : decode cX6_settleAll 39 = .ok (.iconst 1, 1) := by decide +kernel
theorem dX6_settleAll_40 : decode cX6_settleAll 40 = .ok (.isub, 1) := by decide +kernel
theorem dX6_settleAll_41 : decode cX6_settleAll 41 = .ok (.iload 5, 2) := by decide +kernel
theorem dX6_settleAll_43 : decode cX6_settleAll 43 = .ok (.isub, 1) := by decide +kernel
theorem dX6_settleAll_44 : decode cX6_settleAll 44 = .ok (.goto 5, 3) := by decide +kernel
theorem dX6_isSettled_0 : decode cX6_isSettled 0 = .ok (.iconst 0, 1) := by decide +kernel
theorem dX6_isSettled_1 : decode cX6_isSettled 1 = .ok (.istore_n 1, 1) := by decide +kernel
theorem dX6_isSettled_2 : decode cX6_isSettled 2 = .ok (.iload_n 1, 1) := by decide +kernel
theorem dX6_isSettled_3 : decode cX6_isSettled 3 = .ok (.aload_n 0, 1) := by decide +kernel
theorem dX6_isSettled_4 : decode cX6_isSettled 4 = .ok (.getfield 27, 3) := by decide +kernel
theorem dX6_isSettled_7 : decode cX6_isSettled 7 = .ok (.invokevirtual 66, 3) := by decide +kernel
theorem dX6_isSettled_10 : decode cX6_isSettled 10 = .ok (.if_icmp .ge 19, 3) := by decide +kernel
theorem dX6_isSettled_29 : decode cX6_isSettled 29 = .ok (.iconst 1, 1) := by decide +kernel
theorem dX6_isSettled_30 : decode cX6_isSettled 30 = .ok (.ireturn, 1) := by decide +kernel
theorem dX6_isSettled_13 : decode cX6_isSettled 13 = .ok (.aload_n 0, 1) := by decide +kernel
theorem dX6_isSettled_14 : decode cX6_isSettled 14 = .ok (.iload_n 1, 1) := by decide +kernel
theorem dX6_isSettled_15 : decode cX6_isSettled 15 = .ok (.invokevirtual 69, 3) := by decide +kernel
theorem dX6_isSettled_18 : decode cX6_isSettled 18 = .ok (.ifCond .eq 5, 3) := by decide +kernel
theorem dX6_isSettled_23 : decode cX6_isSettled 23 = .ok (.iinc 1 1, 3) := by decide +kernel
theorem dX6_isSettled_26 : decode cX6_isSettled 26 = .ok (.goto (-24), 3) := by decide +kernel
theorem dX6_isSettled_21 : decode cX6_isSettled 21 = .ok (.iconst 0, 1) := by decide +kernel
theorem dX6_isSettled_22 : decode cX6_isSettled 22 = .ok (.ireturn, 1) := by decide +kernel
theorem dX6_unburntEdges_0 : decode cX6_unburntEdges 0 = .ok (.iconst 0, 1) := by decide +kernel
theorem dX6_unburntEdges_1 : decode cX6_unburntEdges 1 = .ok (.istore_n 3, 1) := by decide +kernel
theorem dX6_unburntEdges_2 : decode cX6_unburntEdges 2 = .ok (.iconst 0, 1) := by decide +kernel
theorem dX6_unburntEdges_3 : decode cX6_unburntEdges 3 = .ok (.istore 4, 2) := by decide +kernel
theorem dX6_unburntEdges_5 : decode cX6_unburntEdges 5 = .ok (.iload 4, 2) := by decide +kernel
theorem dX6_unburntEdges_7 : decode cX6_unburntEdges 7 = .ok (.aload_n 0, 1) := by decide +kernel
theorem dX6_unburntEdges_8 : decode cX6_unburntEdges 8 = .ok (.getfield 27, 3) := by decide +kernel
theorem dX6_unburntEdges_11 : decode cX6_unburntEdges 11 = .ok (.invokevirtual 66, 3) := by decide +kernel
theorem dX6_unburntEdges_14 : decode cX6_unburntEdges 14 = .ok (.if_icmp .ge 31, 3) := by decide +kernel
theorem dX6_unburntEdges_45 : decode cX6_unburntEdges 45 = .ok (.iload_n 3, 1) := by decide +kernel
theorem dX6_unburntEdges_46 : decode cX6_unburntEdges 46 = .ok (.ireturn, 1) := by decide +kernel
theorem dX6_unburntEdges_17 : decode cX6_unburntEdges 17 = .ok (.aload_n 2, 1) := by decide +kernel
theorem dX6_unburntEdges_18 : decode cX6_unburntEdges 18 = .ok (.iload 4, 2) := by decide +kernel
theorem dX6_unburntEdges_20 : decode cX6_unburntEdges 20 = .ok (.invokevirtual 45, 3) := by decide +kernel
theorem dX6_unburntEdges_23 : decode cX6_unburntEdges 23 = .ok (.ifCond .ge 16, 3) := by decide +kernel
theorem dX6_unburntEdges_39 : decode cX6_unburntEdges 39 = .ok (.iinc 4 1, 3) := by decide +kernel
theorem dX6_unburntEdges_42 : decode cX6_unburntEdges 42 = .ok (.goto (-37), 3) := by decide +kernel
theorem dX6_unburntEdges_26 : decode cX6_unburntEdges 26 = .ok (.iload_n 3, 1) := by decide +kernel
theorem dX6_unburntEdges_27 : decode cX6_unburntEdges 27 = .ok (.aload_n 0, 1) := by decide +kernel
theorem dX6_unburntEdges_28 : decode cX6_unburntEdges 28 = .ok (.getfield 27, 3) := by decide +kernel
theorem dX6_unburntEdges_31 : decode cX6_unburntEdges 31 = .ok (.iload_n 1, 1) := by decide +kernel
theorem dX6_unburntEdges_32 : decode cX6_unburntEdges 32 = .ok (.iload 4, 2) := by decide +kernel
theorem dX6_unburntEdges_34 : decode cX6_unburntEdges 34 = .ok (.invokevirtual 72, 3) := by decide +kernel
theorem dX6_unburntEdges_37 : decode cX6_unburntEdges 37 = .ok (.iadd, 1) := by decide +kernel
theorem dX6_unburntEdges_38 : decode cX6_unburntEdges 38 = .ok (.istore_n 3, 1) := by decide +kernel
theorem dX6_burn_0 : decode cX6_burn 0 = .ok (.aload_n 1, 1) := by decide +kernel
theorem dX6_burn_1 : decode cX6_burn 1 = .ok (.iconst (-1), 1) := by decide +kernel
theorem dX6_burn_2 : decode cX6_burn 2 = .ok (.invokevirtual 31, 3) := by decide +kernel
theorem dX6_burn_5 : decode cX6_burn 5 = .ok (.aload_n 1, 1) := by decide +kernel
theorem dX6_burn_6 : decode cX6_burn 6 = .ok (.aload_n 0, 1) := by decide +kernel
theorem dX6_burn_7 : decode cX6_burn 7 = .ok (.getfield 27, 3) := by decide +kernel
theorem dX6_burn_10 : decode cX6_burn 10 = .ok (.invokevirtual 80, 3) := by decide +kernel
theorem q_195 : (Jvm.Cond.code ({ cls := "Chipfold$Graph", name := "sinkVertex", desc := "()I" } : Jvm.MethodName) prog_5_method_8_code (1 : Nat) (Option.some Jvm.ClassFile.FieldType.int)) ∈ WG := wg_2 (List.mem_of_getElem? (i := 229) rfl) rfl
theorem q_196 : (Jvm.Cond.selects "Chipfold$Graph" ({ cls := "Chipfold$Graph", name := "sinkVertex", desc := "()I" } : Jvm.MethodName) ({ cls := "Chipfold$Graph", name := "sinkVertex", desc := "()I" } : Jvm.MethodName)) ∈ WG := wg_2 (List.mem_of_getElem? (i := 228) (by decide +kernel)) (by decide +kernel)
theorem q_197 : (Jvm.Cond.methodLink "Chipfold$Pile" (80 : Nat) ({ cls := "Chipfold$Graph", name := "sinkVertex", desc := "()I" } : Jvm.MethodName)) ∈ WG := wg_4 (List.mem_of_getElem? (i := 56) (by decide +kernel)) (by decide +kernel)
theorem q_198 : (Jvm.Cond.instanceMethod ({ cls := "Chipfold$Graph", name := "sinkVertex", desc := "()I" } : Jvm.MethodName)) ∈ WG := wg_2 (List.mem_of_getElem? (i := 227) (by decide +kernel)) (by decide +kernel)
theorem dX6_burn_13 : decode cX6_burn 13 = .ok (.iconst 0, 1) := by decide +kernel
theorem dX6_burn_14 : decode cX6_burn 14 = .ok (.invokevirtual 83, 3) := by decide +kernel
theorem q_199 : (Jvm.Cond.code ({ cls := "Chipfold$Row", name := "write", desc := "(II)V" } : Jvm.MethodName) prog_10_method_3_code (3 : Nat) (Option.none : Option Jvm.ClassFile.FieldType)) ∈ WG := wg_4 (List.mem_of_getElem? (i := 60) rfl) rfl
theorem q_200 : (Jvm.Cond.selects "Chipfold$Row" ({ cls := "Chipfold$Row", name := "write", desc := "(II)V" } : Jvm.MethodName) ({ cls := "Chipfold$Row", name := "write", desc := "(II)V" } : Jvm.MethodName)) ∈ WG := wg_4 (List.mem_of_getElem? (i := 59) (by decide +kernel)) (by decide +kernel)
theorem q_201 : (Jvm.Cond.methodLink "Chipfold$Pile" (83 : Nat) ({ cls := "Chipfold$Row", name := "write", desc := "(II)V" } : Jvm.MethodName)) ∈ WG := wg_4 (List.mem_of_getElem? (i := 57) (by decide +kernel)) (by decide +kernel)
theorem q_202 : (Jvm.Cond.instanceMethod ({ cls := "Chipfold$Row", name := "write", desc := "(II)V" } : Jvm.MethodName)) ∈ WG := wg_4 (List.mem_of_getElem? (i := 58) (by decide +kernel)) (by decide +kernel)
theorem dX6_burn_17 : decode cX6_burn 17 = .ok (.iconst 1, 1) := by decide +kernel
theorem dX6_burn_18 : decode cX6_burn 18 = .ok (.istore_n 2, 1) := by decide +kernel
theorem dX6_burn_19 : decode cX6_burn 19 = .ok (.iload_n 2, 1) := by decide +kernel
theorem dX6_burn_20 : decode cX6_burn 20 = .ok (.aload_n 0, 1) := by decide +kernel
theorem dX6_burn_21 : decode cX6_burn 21 = .ok (.getfield 27, 3) := by decide +kernel
theorem dX6_burn_24 : decode cX6_burn 24 = .ok (.invokevirtual 66, 3) := by decide +kernel
theorem dX6_burn_27 : decode cX6_burn 27 = .ok (.if_icmp .ge 62, 3) := by decide +kernel
theorem dX6_burn_89 : decode cX6_burn 89 = .ok (.return_, 1) := by decide +kernel
theorem dX6_burn_30 : decode cX6_burn 30 = .ok (.iconst 0, 1) := by decide +kernel
theorem dX6_burn_31 : decode cX6_burn 31 = .ok (.istore_n 3, 1) := by decide +kernel
theorem dX6_burn_32 : decode cX6_burn 32 = .ok (.iload_n 3, 1) := by decide +kernel
theorem dX6_burn_33 : decode cX6_burn 33 = .ok (.aload_n 0, 1) := by decide +kernel
theorem dX6_burn_34 : decode cX6_burn 34 = .ok (.getfield 27, 3) := by decide +kernel
theorem dX6_burn_37 : decode cX6_burn 37 = .ok (.invokevirtual 66, 3) := by decide +kernel
theorem dX6_burn_40 : decode cX6_burn 40 = .ok (.if_icmp .ge 43, 3) := by decide +kernel
theorem dX6_burn_83 : decode cX6_burn 83 = .ok (.iinc 2 1, 3) := by decide +kernel
theorem dX6_burn_86 : decode cX6_burn 86 = .ok (.goto (-67), 3) := by decide +kernel
theorem dX6_burn_43 : decode cX6_burn 43 = .ok (.aload_n 1, 1) := by decide +kernel
theorem dX6_burn_44 : decode cX6_burn 44 = .ok (.iload_n 3, 1) := by decide +kernel
theorem dX6_burn_45 : decode cX6_burn 45 = .ok (.invokevirtual 45, 3) := by decide +kernel
theorem dX6_burn_48 : decode cX6_burn 48 = .ok (.ifCond .ge 29, 3) := by decide +kernel
theorem dX6_burn_77 : decode cX6_burn 77 = .ok (.iinc 3 1, 3) := by decide +kernel
theorem dX6_burn_80 : decode cX6_burn 80 = .ok (.goto (-48), 3) := by decide +kernel
theorem dX6_burn_51 : decode cX6_burn 51 = .ok (.aload_n 0, 1) := by decide +kernel
theorem dX6_burn_52 : decode cX6_burn 52 = .ok (.getfield 14, 3) := by decide +kernel
theorem dX6_burn_55 : decode cX6_burn 55 = .ok (.iload_n 3, 1) := by decide +kernel
theorem dX6_burn_56 : decode cX6_burn 56 = .ok (.invokevirtual 45, 3) := by decide +kernel
theorem dX6_burn_59 : decode cX6_burn 59 = .ok (.aload_n 0, 1) := by decide +kernel
theorem dX6_burn_60 : decode cX6_burn 60 = .ok (.iload_n 3, 1) := by decide +kernel
theorem dX6_burn_61 : decode cX6_burn 61 = .ok (.aload_n 1, 1) := by decide +kernel
theorem dX6_burn_62 : decode cX6_burn 62 = .ok (.invokevirtual 86, 3) := by decide +kernel
theorem q_203 : (Jvm.Cond.code ({ cls := "Chipfold$Pile", name := "unburntEdges", desc := "(ILChipfold$Row;)I" } : Jvm.MethodName) prog_8_method_16_code (5 : Nat) (Option.some Jvm.ClassFile.FieldType.int)) ∈ WG := wg_4 (List.mem_of_getElem? (i := 64) rfl) rfl
theorem q_204 : (Jvm.Cond.selects "Chipfold$Pile" ({ cls := "Chipfold$Pile", name := "unburntEdges", desc := "(ILChipfold$Row;)I" } : Jvm.MethodName) ({ cls := "Chipfold$Pile", name := "unburntEdges", desc := "(ILChipfold$Row;)I" } : Jvm.MethodName)) ∈ WG := wg_0 (by decide +kernel) (by decide +kernel)
theorem q_205 : (Jvm.Cond.methodLink "Chipfold$Pile" (86 : Nat) ({ cls := "Chipfold$Pile", name := "unburntEdges", desc := "(ILChipfold$Row;)I" } : Jvm.MethodName)) ∈ WG := wg_4 (List.mem_of_getElem? (i := 61) (by decide +kernel)) (by decide +kernel)
theorem q_206 : (Jvm.Cond.instanceMethod ({ cls := "Chipfold$Pile", name := "unburntEdges", desc := "(ILChipfold$Row;)I" } : Jvm.MethodName)) ∈ WG := wg_4 (List.mem_of_getElem? (i := 63) (by decide +kernel)) (by decide +kernel)
theorem dX6_burn_65 : decode cX6_burn 65 = .ok (.if_icmp .lt 12, 3) := by decide +kernel
theorem dX6_burn_68 : decode cX6_burn 68 = .ok (.aload_n 1, 1) := by decide +kernel
theorem dX6_burn_69 : decode cX6_burn 69 = .ok (.iload_n 3, 1) := by decide +kernel
theorem dX6_burn_70 : decode cX6_burn 70 = .ok (.iload_n 2, 1) := by decide +kernel
theorem dX6_burn_71 : decode cX6_burn 71 = .ok (.invokevirtual 83, 3) := by decide +kernel
theorem dX6_burn_74 : decode cX6_burn 74 = .ok (.goto 9, 3) := by decide +kernel
/-- the class's bound of rounds -/
def mR : Nat := 1000000
theorem mR_e : mR = 1000000 := rfl
theorem nle_lt {a b : Nat} (ha : a < 2 ^ 31) (h : ¬ nI b ≤ nI a) : a < b := Nat.lt_of_not_le fun q => h (nI_le q ha)
theorem nle_ge {a b : Nat} (hb : b < 2 ^ 31) (h : nI b ≤ nI a) : b ≤ a := Nat.le_of_not_lt fun q => nI_ge q hb h
set_option maxRecDepth 100000 in
set_option maxHeartbeats 400000 in
theorem c_X3_others {l : Launch} {D : va_G} {k : Nat → ClassId} (h : Nat) (jj : Nat) (dd : Nat) (n : Nat) (z : Nat) (fj : Nat → Int32) (fd : Nat → Int32) (h1 : 1 ≤ n) (hn : n ≤ 6) : CM l D k yX3_others cX3_others 1 (some .int)  0 0 [.ref h] [(h, .inr (5, [.ref jj, .ref dd, .int (nI n), .int (nI z)])), (jj, aI k 36 fj), (dd, aI k 6 fd)] (is1 (some (.int (nI (n - 1)))) [(h, .inr (5, [.ref jj, .ref dd, .int (nI n), .int (nI z)])), (jj, aI k 36 fj), (dd, aI k 6 fd)]) 0 0 0 := by
  refine CM.of (lv0 := [(0, .ref h)]) (by decide +kernel) (Nat.le_of_ble_eq_true rfl) rfl ?_
  intro p9 e9 s9 m9 bl9 me9 co9 C hr hlk hin had
  refine g_aload_n (pc := 0) C 0 rfl rfl dX3_others_0 ?_
  refine g_get (pc := 1) C (T := TX3) inX3 0 rfl rfl 2 (by decide) q_13 rfl rfl dX3_others_1 ?_
  refine g_iconst (pc := 4) (v := 1) C (by decide) dX3_others_4 ?_
  refine g_icmp_ge (pc := 5) C 12 (by decide) dX3_others_5 (fun c_5 => ?_) (fun c_5 => ?_)
  · refine g_aload_n (pc := 12) C 0 rfl rfl dX3_others_12 ?_
    refine g_get (pc := 13) C (T := TX3) inX3 0 rfl rfl 2 (by decide) q_13 rfl rfl dX3_others_13 ?_
    refine g_iconst (pc := 16) (v := 1) C (by decide) dX3_others_16 ?_
    refine g_isub (pc := 17) C dX3_others_17 ?_
    refine G.eqs (st' := [.int (nI (n - 1))]) (congrArg (β := List Value) (fun z9 => [.int z9]) (show (((nI n) - 1) : Int32) = (nI (n - 1)) from (show nI n - nI 1 = nI (n - 1) from pk_sub h1))) ?_
    exact g_iret (pc := 18) C hr hlk (by first | decide | omega) (by first | decide | omega) (by first | decide | omega) dX3_others_18 ⟨rfl, rfl⟩
  · exact absurd (show nI 1 ≤ nI n from nI_le h1 (by omega)) c_5
set_option maxRecDepth 100000 in
set_option maxHeartbeats 400000 in
theorem c_X3_otherAt {l : Launch} {D : va_G} {k : Nat → ClassId} (h : Nat) (jj : Nat) (dd : Nat) (n : Nat) (z : Nat) (fj : Nat → Int32) (fd : Nat → Int32) (i : Nat) (hz : z < 6) (hi : i < 6) : CM l D k yX3_otherAt cX3_otherAt 2 (some .int)  0 0 [.ref h, .int (nI i)] [(h, .inr (5, [.ref jj, .ref dd, .int (nI n), .int (nI z)])), (jj, aI k 36 fj), (dd, aI k 6 fd)] (is1 (some (.int (nI (skp z i)))) [(h, .inr (5, [.ref jj, .ref dd, .int (nI n), .int (nI z)])), (jj, aI k 36 fj), (dd, aI k 6 fd)]) 0 0 0 := by
  refine CM.of (lv0 := [(0, .ref h), (1, .int (nI i))]) (by decide +kernel) (Nat.le_of_ble_eq_true rfl) rfl ?_
  intro p9 e9 s9 m9 bl9 me9 co9 C hr hlk hin had
  refine g_iload_n (pc := 0) C 1 rfl rfl dX3_otherAt_0 ?_
  refine g_aload_n (pc := 1) C 0 rfl rfl dX3_otherAt_1 ?_
  refine g_get (pc := 2) C (T := TX3) inX3 0 rfl rfl 3 (by decide) q_14 rfl rfl dX3_otherAt_2 ?_
  refine g_icmp_ge (pc := 5) C 12 (by decide) dX3_otherAt_5 (fun c_5 => ?_) (fun c_5 => ?_)
  · refine g_iload_n (pc := 12) C 1 rfl rfl dX3_otherAt_12 ?_
    refine g_iconst (pc := 13) (v := 1) C (by decide) dX3_otherAt_13 ?_
    refine g_iadd (pc := 14) C dX3_otherAt_14 ?_
    refine G.eqs (st' := [.int (nI (skp z i))]) (congrArg (fun z9 => [Value.int z9]) (show (((nI i) + 1) : Int32) = (nI (skp z i)) from by first | (rw [skp, if_pos (nle_lt (by omega) c_5)]) | (rw [skp, if_neg (fun q => nI_ge q (by omega) c_5), nI_1]))) ?_
    exact g_iret (pc := 15) C hr hlk (by first | decide | omega) (by first | decide | omega) (by first | decide | omega) dX3_otherAt_15 ⟨rfl, rfl⟩
  · refine g_iload_n (pc := 8) C 1 rfl rfl dX3_otherAt_8 ?_
    refine g_goto (pc := 9) C 15 (by decide) dX3_otherAt_9 ?_
    refine G.eqs (st' := [.int (nI (skp z i))]) (congrArg (fun z9 => [Value.int z9]) (show ((nI i) : Int32) = (nI (skp z i)) from by first | (rw [skp, if_pos (nle_lt (by omega) c_5)]) | (rw [skp, if_neg (fun q => nI_ge q (by omega) c_5), nI_1]))) ?_
    exact g_iret (pc := 15) C hr hlk (by first | decide | omega) (by first | decide | omega) (by first | decide | omega) dX3_otherAt_15 ⟨rfl, rfl⟩
set_option maxRecDepth 100000 in
set_option maxHeartbeats 400000 in
theorem c_X3_edgeNumber {l : Launch} {D : va_G} {k : Nat → ClassId} (h : Nat) (jj : Nat) (dd : Nat) (n : Nat) (z : Nat) (fj : Nat → Int32) (fd : Nat → Int32)  : CM l D k yX3_edgeNumber cX3_edgeNumber 3 (some .int)  0 0 [.ref h] [(h, .inr (5, [.ref jj, .ref dd, .int (nI n), .int (nI z)])), (jj, aI k 36 fj), (dd, aI k 6 fd)] (is1 (some (.int (rSum fd 6 / 2))) [(h, .inr (5, [.ref jj, .ref dd, .int (nI n), .int (nI z)])), (jj, aI k 36 fj), (dd, aI k 6 fd)]) 0 0 0 := by
  refine CM.of (lv0 := [(0, .ref h)]) (by decide +kernel) (Nat.le_of_ble_eq_true rfl) rfl ?_
  intro p9 e9 s9 m9 bl9 me9 co9 C hr hlk hin had
  refine g_iconst (pc := 0) (v := 0) C (by decide) dX3_edgeNumber_0 ?_
  refine g_istore_n (pc := 1) C [(1, .int 0), (0, .ref h)] rfl dX3_edgeNumber_1 (by decide) rfl ?_
  refine g_iconst (pc := 2) (v := 0) C (by decide) dX3_edgeNumber_2 ?_
  refine g_istore_n (pc := 3) C [(2, .int 0), (1, .int 0), (0, .ref h)] rfl dX3_edgeNumber_3 (by decide) rfl ?_
  have key_4 : ∀ (fuel : Nat) (i : Nat), i ≤ 6 → 6 - i < fuel → G p9 l e9 { frames := 0, cells := 0, slots := 0, locals := 0 } s9 m9 ([.ref h] : List Value).toArray bl9 me9 co9 D 3 (va_A [(h, .inr (5, [.ref jj, .ref dd, .int (nI n), .int (nI z)])), (jj, aI k 36 fj), (dd, aI k 6 fd)] s9.heap.size) (QM bl9 D ([.ref h] : List Value).toArray s9 [(h, .inr (5, [.ref jj, .ref dd, .int (nI n), .int (nI z)])), (jj, aI k 36 fj), (dd, aI k 6 fd)] (is1 (some (.int (rSum fd 6 / 2))) [(h, .inr (5, [.ref jj, .ref dd, .int (nI n), .int (nI z)])), (jj, aI k 36 fj), (dd, aI k 6 fd)]) 0 0 0) [(h, .inr (5, [.ref jj, .ref dd, .int (nI n), .int (nI z)])), (jj, aI k 36 fj), (dd, aI k 6 fd)] [(0, .ref h), (1, .int (rSum fd i)), (2, .int (nI i))] 0 0 0 4 [] := by
    intro fuel
    induction fuel with
    | zero => intro i hi hm; exact absurd hm (Nat.not_lt_zero _)
    | succ fuel ih =>
      intro i hi hm
      have ih_4 := ih
      refine g_iload_n (pc := 4) C 2 rfl rfl dX3_edgeNumber_4 ?_
      refine g_aload_n (pc := 5) C 0 rfl rfl dX3_edgeNumber_5 ?_
      refine g_get (pc := 6) C (T := TX3) inX3 0 rfl rfl 1 (by decide) q_12 rfl rfl dX3_edgeNumber_6 ?_
      refine g_alen (pc := 9) C 2 rfl (t0 := 0) rfl (v := (nI 6)) rfl dX3_edgeNumber_9 ?_
      refine g_icmp_ge (pc := 10) C 28 (by decide) dX3_edgeNumber_10 (fun c_10 => ?_) (fun c_10 => ?_)
      · have h3 : i = 6 := by { have := nle_ge (b := 6) (a := i) (by omega) c_10; omega }
        refine g_iload_n (pc := 28) C 1 rfl rfl dX3_edgeNumber_28 ?_
        refine g_iconst (pc := 29) (v := 2) C (by decide) dX3_edgeNumber_29 ?_
        refine g_idiv (pc := 30) C (by first | assumption | decide) dX3_edgeNumber_30 ?_
        refine G.eqs (st' := [.int (rSum fd 6 / 2)]) (congrArg (fun z9 => [Value.int z9]) (show (((rSum fd i) / 2) : Int32) = (rSum fd 6 / 2) from by rw [h3])) ?_
        exact g_iret (pc := 31) C hr hlk (by first | decide | omega) (by first | decide | omega) (by first | decide | omega) dX3_edgeNumber_31 ⟨rfl, rfl⟩
      · have hl10 : i < 6 := nle_lt (by omega) c_10
        refine g_iload_n (pc := 13) C 1 rfl rfl dX3_edgeNumber_13 ?_
        refine g_aload_n (pc := 14) C 0 rfl rfl dX3_edgeNumber_14 ?_
        refine g_get (pc := 15) C (T := TX3) inX3 0 rfl rfl 1 (by decide) q_12 rfl rfl dX3_edgeNumber_15 ?_
        refine g_iload_n (pc := 18) C 2 rfl rfl dX3_edgeNumber_18 ?_
        refine g_iald_n (pc := 19) C (j := i) 2 rfl (by omega) (by first | decide | omega) rfl dX3_edgeNumber_19 ?_
        refine g_iadd (pc := 20) C dX3_edgeNumber_20 ?_
        refine g_istore_n (pc := 21) C [(1, .int ((rSum fd i) + (fd i))), (0, .ref h), (2, .int (nI i))] rfl dX3_edgeNumber_21 (by decide) rfl ?_
        refine g_iinc (pc := 22) (n := 1) (v := (nI (i + 1))) C 2 [(2, .int (nI (i + 1))), (1, .int ((rSum fd i) + (fd i))), (0, .ref h)] rfl (nI_1 i) dX3_edgeNumber_22 (by decide) rfl ?_
        refine g_goto (pc := 25) C 4 (by decide) dX3_edgeNumber_25 ?_
        refine G.loc [2, 1, 0] (lv' := [(0, .ref h), (1, .int ((rSum fd i) + (fd i))), (2, .int (nI (i + 1)))]) rfl ?_
        refine G.eql (lv' := [(0, .ref h), (1, .int (rSum fd (i + 1))), (2, .int (nI (i + 1)))]) (congrArg (β := List (Nat × Value)) (fun z9 => [(0, .ref h), (1, .int z9), (2, .int (nI (i + 1)))]) (show (((rSum fd i) + (fd i)) : Int32) = (rSum fd (i + 1)) from by rfl)) ?_
        exact ih_4 (i + 1) (by omega) (by omega)
  refine G.loc [2, 1, 0] (lv' := [(0, .ref h), (1, .int 0), (2, .int 0)]) rfl ?_
  refine G.eql (lv' := [(0, .ref h), (1, .int (rSum fd 0)), (2, .int (nI 0))]) ((congrArg (β := List (Nat × Value)) (fun z9 => [(0, .ref h), (1, .int z9), (2, .int 0)]) (show (0 : Int32) = (rSum fd 0) from by first | rfl | exact nI_0.symm)).trans (congrArg (β := List (Nat × Value)) (fun z9 => [(0, .ref h), (1, .int (rSum fd 0)), (2, .int z9)]) (show (0 : Int32) = (nI 0) from by first | rfl | exact nI_0.symm))) ?_
  exact key_4 (6 - 0 + 1) 0 (by omega) (Nat.lt_succ_self _)
/-- what is left of a number in the row of a vertex; whose edge it is -/
def endL (fj : Nat → Int32) (v : Nat) (e : Int32) : Nat → Int32
  | 0 => e
  | w + 1 => endL fj v e w - fj (v * 6 + w)
def endN (fj : Nat → Int32) (n z v : Nat) (e : Int32) : Nat := (low (fun w => decide (endL fj v e (w + 1) < 0)) n).getD z
theorem endN_some {fj : Nat → Int32} {n z v : Nat} {e : Int32} {w : Nat} (hw : w < n) (h : endL fj v e (w + 1) < 0) (hq : ∀ j, j < w → ¬ endL fj v e (j + 1) < 0) : endN fj n z v e = w := by
  unfold endN
  rw [low_some.mpr ⟨hw, decide_eq_true h, fun u hu => decide_eq_false (hq u hu)⟩]
  rfl
theorem endN_none {fj : Nat → Int32} {n z v : Nat} {e : Int32} (hq : ∀ j, j < n → ¬ endL fj v e (j + 1) < 0) : endN fj n z v e = z := by
  unfold endN
  rw [low_none.mpr fun u hu => decide_eq_false (hq u hu)]
  rfl
set_option maxRecDepth 100000 in
set_option maxHeartbeats 400000 in
theorem c_X3_endOf {l : Launch} {D : va_G} {k : Nat → ClassId} (h : Nat) (jj : Nat) (dd : Nat) (n : Nat) (z : Nat) (fj : Nat → Int32) (fd : Nat → Int32) (v : Nat) (e : Int32) (hn : n ≤ 6) (hv : v < n) : CM l D k yX3_endOf cX3_endOf 5 (some .int)  1 23 [.ref h, .int (nI v), .int e] [(h, .inr (5, [.ref jj, .ref dd, .int (nI n), .int (nI z)])), (jj, aI k 36 fj), (dd, aI k 6 fd)] (is1 (some (.int (nI (endN fj n z v e)))) [(h, .inr (5, [.ref jj, .ref dd, .int (nI n), .int (nI z)])), (jj, aI k 36 fj), (dd, aI k 6 fd)]) 0 0 0 := by
  refine CM.of (lv0 := [(0, .ref h), (1, .int (nI v)), (2, .int e)]) (by decide +kernel) (Nat.le_of_ble_eq_true rfl) rfl ?_
  intro p9 e9 s9 m9 bl9 me9 co9 C hr hlk hin had
  refine g_iload_n (pc := 0) C 2 rfl rfl dX3_endOf_0 ?_
  refine g_istore_n (pc := 1) C [(3, .int e), (0, .ref h), (1, .int (nI v)), (2, .int e)] rfl dX3_endOf_1 (by decide) rfl ?_
  refine g_iconst (pc := 2) (v := 0) C (by decide) dX3_endOf_2 ?_
  refine g_istore (pc := 3) C [(4, .int 0), (3, .int e), (0, .ref h), (1, .int (nI v)), (2, .int e)] dX3_endOf_3 (by decide) rfl ?_
  have key_5 : ∀ (fuel : Nat) (w : Nat), w ≤ n → (∀ j, j < w → ¬ endL fj v e (j + 1) < 0) → n - w < fuel → G p9 l e9 { frames := 1, cells := 0, slots := 0, locals := 23 } s9 m9 ([.ref h, .int (nI v), .int e] : List Value).toArray bl9 me9 co9 D 5 (va_A [(h, .inr (5, [.ref jj, .ref dd, .int (nI n), .int (nI z)])), (jj, aI k 36 fj), (dd, aI k 6 fd)] s9.heap.size) (QM bl9 D ([.ref h, .int (nI v), .int e] : List Value).toArray s9 [(h, .inr (5, [.ref jj, .ref dd, .int (nI n), .int (nI z)])), (jj, aI k 36 fj), (dd, aI k 6 fd)] (is1 (some (.int (nI (endN fj n z v e)))) [(h, .inr (5, [.ref jj, .ref dd, .int (nI n), .int (nI z)])), (jj, aI k 36 fj), (dd, aI k 6 fd)]) 0 0 0) [(h, .inr (5, [.ref jj, .ref dd, .int (nI n), .int (nI z)])), (jj, aI k 36 fj), (dd, aI k 6 fd)] [(0, .ref h), (1, .int (nI v)), (3, .int (endL fj v e w)), (4, .int (nI w))] 0 0 0 5 [] := by
    intro fuel
    induction fuel with
    | zero => intro w hw hq hm; exact absurd hm (Nat.not_lt_zero _)
    | succ fuel ih =>
      intro w hw hq hm
      have ih_5 := ih
      refine g_iload (pc := 5) C 3 rfl dX3_endOf_5 ?_
      refine g_aload_n (pc := 7) C 0 rfl rfl dX3_endOf_7 ?_
      refine g_get (pc := 8) C (T := TX3) inX3 0 rfl rfl 2 (by decide) q_13 rfl rfl dX3_endOf_8 ?_
      refine g_icmp_ge (pc := 11) C 37 (by decide) dX3_endOf_11 (fun c_11 => ?_) (fun c_11 => ?_)
      · have h3 : w = n := by { have := nle_ge (b := n) (a := w) (by omega) c_11; omega }
        refine g_aload_n (pc := 37) C 0 rfl rfl dX3_endOf_37 ?_
        refine g_get (pc := 38) C (T := TX3) inX3 0 rfl rfl 3 (by decide) q_14 rfl rfl dX3_endOf_38 ?_
        refine G.eqs (st' := [.int (nI (endN fj n z v e))]) (congrArg (fun z9 => [Value.int z9]) (show ((nI z) : Int32) = (nI (endN fj n z v e)) from by rw [endN_none (fun j hj => hq j (by omega))])) ?_
        exact g_iret (pc := 41) C hr hlk (by first | decide | omega) (by first | decide | omega) (by first | decide | omega) dX3_endOf_41 ⟨rfl, rfl⟩
      · have hl11 : w < n := nle_lt (by omega) c_11
        refine g_iload_n (pc := 14) C 2 rfl rfl dX3_endOf_14 ?_
        refine g_aload_n (pc := 15) C 0 rfl rfl dX3_endOf_15 ?_
        refine g_iload_n (pc := 16) C 1 rfl rfl dX3_endOf_16 ?_
        refine g_iload (pc := 17) C 3 rfl dX3_endOf_17 ?_
        refine g_callV (pc := 19) (cells := 0) (slots := 0) (g := 0) (As := [.int (nI v), .int (nI w)]) (st := [.int (endL fj v e w)]) (T := TX3) (q0 := 0) C (nA := 2) rfl (c_X3_between h jj dd n z fj fd v w (by first | assumption | decide | omega) (by first | assumption | decide | omega) (by first | assumption | decide | omega)) q_22 q_23 q_21 q_16 q_20 (by decide +kernel) rfl rfl dX3_endOf_19 ⟨Nat.le_of_ble_eq_true rfl, Nat.le_of_ble_eq_true rfl⟩ [0, 1, 2] [] rfl (wr := []) rfl (by decide) (by decide) (by decide) (Nat.le_of_ble_eq_true rfl) ⟨Nat.le_of_ble_eq_true rfl, Nat.le_of_ble_eq_true rfl⟩ (fun rv w1 h1 => ?_)
        obtain ⟨rfl, rfl⟩ := h1
        refine G.aft [0, 1, 2] (ws' := [(h, .inr (5, [.ref jj, .ref dd, .int (nI n), .int (nI z)])), (jj, aI k 36 fj), (dd, aI k 6 fd)]) (st' := [.int (fj (v * 6 + w)), .int (endL fj v e w)]) (cells' := 0) (slots' := 0) (g' := 0) (by decide) rfl rfl rfl rfl rfl ?_
        refine g_isub (pc := 22) C dX3_endOf_22 ?_
        refine g_istore_n (pc := 23) C [(3, .int ((endL fj v e w) - (fj (v * 6 + w)))), (0, .ref h), (1, .int (nI v)), (4, .int (nI w))] rfl dX3_endOf_23 (by decide) rfl ?_
        refine g_iload_n (pc := 24) C 0 rfl rfl dX3_endOf_24 ?_
        refine g_if_ge (pc := 25) C 31 (by decide) dX3_endOf_25 (fun c_25 => ?_) (fun c_25 => ?_)
        · refine g_iinc (pc := 31) (n := 1) (v := (nI (w + 1))) C 3 [(4, .int (nI (w + 1))), (3, .int ((endL fj v e w) - (fj (v * 6 + w)))), (0, .ref h), (1, .int (nI v))] rfl (nI_1 w) dX3_endOf_31 (by decide) rfl ?_
          refine g_goto (pc := 34) C 5 (by decide) dX3_endOf_34 ?_
          refine G.loc [2, 3, 1, 0] (lv' := [(0, .ref h), (1, .int (nI v)), (3, .int ((endL fj v e w) - (fj (v * 6 + w)))), (4, .int (nI (w + 1)))]) rfl ?_
          refine G.eql (lv' := [(0, .ref h), (1, .int (nI v)), (3, .int (endL fj v e (w + 1))), (4, .int (nI (w + 1)))]) (congrArg (β := List (Nat × Value)) (fun z9 => [(0, .ref h), (1, .int (nI v)), (3, .int z9), (4, .int (nI (w + 1)))]) (show (((endL fj v e w) - (fj (v * 6 + w))) : Int32) = (endL fj v e (w + 1)) from by rfl)) ?_
          exact ih_5 (w + 1) (by omega) (fun j hj => by rcases Nat.lt_or_ge j w with q | q; exact hq j q; have h1 : j = w := (by omega); subst h1; exact (Int32.not_lt.mpr c_25)) (by omega)
        · refine g_iload (pc := 28) C 3 rfl dX3_endOf_28 ?_
          refine G.eqs (st' := [.int (nI (endN fj n z v e))]) (congrArg (fun z9 => [Value.int z9]) (show ((nI w) : Int32) = (nI (endN fj n z v e)) from by rw [endN_some hl11 (Int32.not_le.mp c_25) hq])) ?_
          exact g_iret (pc := 30) C hr hlk (by first | decide | omega) (by first | decide | omega) (by first | decide | omega) dX3_endOf_30 ⟨rfl, rfl⟩
  refine G.loc [2, 3, 1, 0] (lv' := [(0, .ref h), (1, .int (nI v)), (3, .int e), (4, .int 0)]) rfl ?_
  refine G.eql (lv' := [(0, .ref h), (1, .int (nI v)), (3, .int (endL fj v e 0)), (4, .int (nI 0))]) ((congrArg (β := List (Nat × Value)) (fun z9 => [(0, .ref h), (1, .int (nI v)), (3, .int z9), (4, .int 0)]) (show (e : Int32) = (endL fj v e 0) from by first | rfl | exact nI_0.symm)).trans (congrArg (β := List (Nat × Value)) (fun z9 => [(0, .ref h), (1, .int (nI v)), (3, .int (endL fj v e 0)), (4, .int z9)]) (show (0 : Int32) = (nI 0) from by first | rfl | exact nI_0.symm))) ?_
  exact key_5 (n - 0 + 1) 0 (by omega) (fun j hj => absurd hj (Nat.not_lt_zero j)) (Nat.lt_succ_self _)
def pLike (f f2 ct ct2 : Nat → Int32) (tk tk2 : Int32) : Bool := rLike f f2 6 && (rLike ct ct2 6 && decide (tk = tk2))
set_option maxRecDepth 100000 in
set_option maxHeartbeats 400000 in
theorem c_X6_isLike {l : Launch} {D : va_G} {k : Nat → ClassId} (h : Nat) (pp : Nat) (r1 : Nat) (a1 : Nat) (r2 : Nat) (a2 : Nat) (f : Nat → Int32) (ct : Nat → Int32) (tk : Int32) (p2 : Nat) (r3 : Nat) (a3 : Nat) (r4 : Nat) (a4 : Nat) (f2 : Nat → Int32) (ct2 : Nat → Int32) (tk2 : Int32)  : CM l D k yX6_isLike cX6_isLike 2 (some .boolean)  2 43 [.ref pp, .ref p2] [(pp, .inr (8, [.ref h, .ref r1, .ref r2, .int tk])), (r1, .inr (10, [.ref a1])), (a1, aI k 6 f), (r2, .inr (10, [.ref a2])), (a2, aI k 6 ct), (p2, .inr (8, [.ref h, .ref r3, .ref r4, .int tk2])), (r3, .inr (10, [.ref a3])), (a3, aI k 6 f2), (r4, .inr (10, [.ref a4])), (a4, aI k 6 ct2)] (is1 (some (.int (bI (pLike f f2 ct ct2 tk tk2)))) [(pp, .inr (8, [.ref h, .ref r1, .ref r2, .int tk])), (r1, .inr (10, [.ref a1])), (a1, aI k 6 f), (r2, .inr (10, [.ref a2])), (a2, aI k 6 ct), (p2, .inr (8, [.ref h, .ref r3, .ref r4, .int tk2])), (r3, .inr (10, [.ref a3])), (a3, aI k 6 f2), (r4, .inr (10, [.ref a4])), (a4, aI k 6 ct2)]) 0 0 0 := by
  refine CM.of (lv0 := [(0, .ref pp), (1, .ref p2)]) (by decide +kernel) (Nat.le_of_ble_eq_true rfl) rfl ?_
  intro p9 e9 s9 m9 bl9 me9 co9 C hr hlk hin had
  refine g_aload_n (pc := 0) C 0 rfl rfl dX6_isLike_0 ?_
  refine g_get (pc := 1) C (T := TX6) inX6 0 rfl rfl 1 (by decide) q_34 rfl rfl dX6_isLike_1 ?_
  refine g_aload_n (pc := 4) C 1 rfl rfl dX6_isLike_4 ?_
  refine g_get (pc := 5) C (T := TX6) inX6 5 rfl rfl 1 (by decide) q_34 rfl rfl dX6_isLike_5 ?_
  refine g_callV (pc := 8) (cells := 0) (slots := 0) (g := 0) (As := [.ref r3]) (st := []) (T := TX8) (q0 := 1) C (nA := 1) rfl (c_X8_isLike r1 a1 6 f r3 a3 f2 (by first | assumption | decide | omega)) q_188 q_189 q_187 q_6 q_186 (by decide +kernel) rfl rfl dX6_isLike_8 ⟨Nat.le_of_ble_eq_true rfl, Nat.le_of_ble_eq_true rfl⟩ [1, 2, 6, 7] [0, 3, 4, 5, 8, 9] rfl (wr := [(pp, .inr (8, [.ref h, .ref r1, .ref r2, .int tk])), (r2, .inr (10, [.ref a2])), (a2, aI k 6 ct), (p2, .inr (8, [.ref h, .ref r3, .ref r4, .int tk2])), (r4, .inr (10, [.ref a4])), (a4, aI k 6 ct2)]) rfl (by decide) (by decide) (by decide) (Nat.le_of_ble_eq_true rfl) ⟨Nat.le_of_ble_eq_true rfl, Nat.le_of_ble_eq_true rfl⟩ (fun rv w1 h1 => ?_)
  obtain ⟨rfl, rfl⟩ := h1
  refine G.aft [0, 6, 7, 1, 2, 3, 8, 9, 4, 5] (ws' := [(pp, .inr (8, [.ref h, .ref r1, .ref r2, .int tk])), (r1, .inr (10, [.ref a1])), (a1, aI k 6 f), (r2, .inr (10, [.ref a2])), (a2, aI k 6 ct), (p2, .inr (8, [.ref h, .ref r3, .ref r4, .int tk2])), (r3, .inr (10, [.ref a3])), (a3, aI k 6 f2), (r4, .inr (10, [.ref a4])), (a4, aI k 6 ct2)]) (st' := [.int (bI (rLike f f2 6))]) (cells' := 0) (slots' := 0) (g' := 0) (by decide) rfl rfl rfl rfl rfl ?_
  refine g_if_eq (pc := 11) C 43 (by decide) dX6_isLike_11 (fun c_11 => ?_) (fun c_11 => ?_)
  · simp only [bI_0] at c_11
    refine g_iconst (pc := 43) (v := 0) C (by decide) dX6_isLike_43 ?_
    refine G.eqs (st' := [.int (bI (pLike f f2 ct ct2 tk tk2))]) (congrArg (fun z9 => [Value.int z9]) (show (0 : Int32) = (bI (pLike f f2 ct ct2 tk tk2)) from by simp [pLike, bI, *])) ?_
    exact g_zret (pc := 44) C hr (by first | rfl | exact bI_nar _) hlk (by first | decide | omega) (by first | decide | omega) (by first | decide | omega) dX6_isLike_44 ⟨rfl, rfl⟩
  · simp only [bI_0] at c_11
    refine g_aload_n (pc := 14) C 0 rfl rfl dX6_isLike_14 ?_
    refine g_get (pc := 15) C (T := TX6) inX6 0 rfl rfl 2 (by decide) q_35 rfl rfl dX6_isLike_15 ?_
    refine g_aload_n (pc := 18) C 1 rfl rfl dX6_isLike_18 ?_
    refine g_get (pc := 19) C (T := TX6) inX6 5 rfl rfl 2 (by decide) q_35 rfl rfl dX6_isLike_19 ?_
    refine g_callV (pc := 22) (cells := 0) (slots := 0) (g := 0) (As := [.ref r4]) (st := []) (T := TX8) (q0 := 3) C (nA := 1) rfl (c_X8_isLike r2 a2 6 ct r4 a4 ct2 (by first | assumption | decide | omega)) q_188 q_189 q_187 q_6 q_186 (by decide +kernel) rfl rfl dX6_isLike_22 ⟨Nat.le_of_ble_eq_true rfl, Nat.le_of_ble_eq_true rfl⟩ [3, 4, 8, 9] [0, 1, 2, 5, 6, 7] rfl (wr := [(pp, .inr (8, [.ref h, .ref r1, .ref r2, .int tk])), (r1, .inr (10, [.ref a1])), (a1, aI k 6 f), (p2, .inr (8, [.ref h, .ref r3, .ref r4, .int tk2])), (r3, .inr (10, [.ref a3])), (a3, aI k 6 f2)]) rfl (by decide) (by decide) (by decide) (Nat.le_of_ble_eq_true rfl) ⟨Nat.le_of_ble_eq_true rfl, Nat.le_of_ble_eq_true rfl⟩ (fun rv w1 h1 => ?_)
    obtain ⟨rfl, rfl⟩ := h1
    refine G.aft [0, 1, 2, 6, 7, 3, 4, 5, 8, 9] (ws' := [(pp, .inr (8, [.ref h, .ref r1, .ref r2, .int tk])), (r1, .inr (10, [.ref a1])), (a1, aI k 6 f), (r2, .inr (10, [.ref a2])), (a2, aI k 6 ct), (p2, .inr (8, [.ref h, .ref r3, .ref r4, .int tk2])), (r3, .inr (10, [.ref a3])), (a3, aI k 6 f2), (r4, .inr (10, [.ref a4])), (a4, aI k 6 ct2)]) (st' := [.int (bI (rLike ct ct2 6))]) (cells' := 0) (slots' := 0) (g' := 0) (by decide) rfl rfl rfl rfl rfl ?_
    refine g_if_eq (pc := 25) C 43 (by decide) dX6_isLike_25 (fun c_25 => ?_) (fun c_25 => ?_)
    · simp only [bI_0] at c_25
      refine g_iconst (pc := 43) (v := 0) C (by decide) dX6_isLike_43 ?_
      refine G.eqs (st' := [.int (bI (pLike f f2 ct ct2 tk tk2))]) (congrArg (fun z9 => [Value.int z9]) (show (0 : Int32) = (bI (pLike f f2 ct ct2 tk tk2)) from by simp [pLike, bI, *])) ?_
      exact g_zret (pc := 44) C hr (by first | rfl | exact bI_nar _) hlk (by first | decide | omega) (by first | decide | omega) (by first | decide | omega) dX6_isLike_44 ⟨rfl, rfl⟩
    · simp only [bI_0] at c_25
      refine g_aload_n (pc := 28) C 0 rfl rfl dX6_isLike_28 ?_
      refine g_get (pc := 29) C (T := TX6) inX6 0 rfl rfl 3 (by decide) q_36 rfl rfl dX6_isLike_29 ?_
      refine g_aload_n (pc := 32) C 1 rfl rfl dX6_isLike_32 ?_
      refine g_get (pc := 33) C (T := TX6) inX6 5 rfl rfl 3 (by decide) q_36 rfl rfl dX6_isLike_33 ?_
      refine g_icmp_ne (pc := 36) C 43 (by decide) dX6_isLike_36 (fun c_36 => ?_) (fun c_36 => ?_)
      · refine g_iconst (pc := 43) (v := 0) C (by decide) dX6_isLike_43 ?_
        refine G.eqs (st' := [.int (bI (pLike f f2 ct ct2 tk tk2))]) (congrArg (fun z9 => [Value.int z9]) (show (0 : Int32) = (bI (pLike f f2 ct ct2 tk tk2)) from by simp [pLike, bI, *])) ?_
        exact g_zret (pc := 44) C hr (by first | rfl | exact bI_nar _) hlk (by first | decide | omega) (by first | decide | omega) (by first | decide | omega) dX6_isLike_44 ⟨rfl, rfl⟩
      · refine g_iconst (pc := 39) (v := 1) C (by decide) dX6_isLike_39 ?_
        refine g_goto (pc := 40) C 44 (by decide) dX6_isLike_40 ?_
        refine G.eqs (st' := [.int (bI (pLike f f2 ct ct2 tk tk2))]) (congrArg (fun z9 => [Value.int z9]) (show (1 : Int32) = (bI (pLike f f2 ct ct2 tk tk2)) from by simp [pLike, bI, *])) ?_
        exact g_zret (pc := 44) C hr (by first | rfl | exact bI_nar _) hlk (by first | decide | omega) (by first | decide | omega) (by first | decide | omega) dX6_isLike_44 ⟨rfl, rfl⟩
set_option maxRecDepth 100000 in
set_option maxHeartbeats 400000 in
theorem c_X6_countAt {l : Launch} {D : va_G} {k : Nat → ClassId} (h : Nat) (pp : Nat) (r1 : Nat) (a1 : Nat) (r2 : Nat) (a2 : Nat) (f : Nat → Int32) (ct : Nat → Int32) (tk : Int32) (v : Nat) (hv : v < 6) : CM l D k yX6_countAt cX6_countAt 2 (some .int)  1 21 [.ref pp, .int (nI v)] [(pp, .inr (8, [.ref h, .ref r1, .ref r2, .int tk])), (r1, .inr (10, [.ref a1])), (a1, aI k 6 f), (r2, .inr (10, [.ref a2])), (a2, aI k 6 ct)] (is1 (some (.int (ct v))) [(pp, .inr (8, [.ref h, .ref r1, .ref r2, .int tk])), (r1, .inr (10, [.ref a1])), (a1, aI k 6 f), (r2, .inr (10, [.ref a2])), (a2, aI k 6 ct)]) 0 0 0 := by
  refine CM.of (lv0 := [(0, .ref pp), (1, .int (nI v))]) (by decide +kernel) (Nat.le_of_ble_eq_true rfl) rfl ?_
  intro p9 e9 s9 m9 bl9 me9 co9 C hr hlk hin had
  refine g_aload_n (pc := 0) C 0 rfl rfl dX6_countAt_0 ?_
  refine g_get (pc := 1) C (T := TX6) inX6 0 rfl rfl 2 (by decide) q_35 rfl rfl dX6_countAt_1 ?_
  refine g_iload_n (pc := 4) C 1 rfl rfl dX6_countAt_4 ?_
  refine g_callV (pc := 5) (cells := 0) (slots := 0) (g := 0) (As := [.int (nI v)]) (st := []) (T := TX8) (q0 := 3) C (nA := 1) rfl (c_X8_at_n r2 a2 6 ct v (by first | assumption | decide | omega) (by first | assumption | decide | omega)) q_51 q_9 q_7 q_6 q_5 (by decide +kernel) rfl rfl dX6_countAt_5 ⟨Nat.le_of_ble_eq_true rfl, Nat.le_of_ble_eq_true rfl⟩ [3, 4] [0, 1, 2] rfl (wr := [(pp, .inr (8, [.ref h, .ref r1, .ref r2, .int tk])), (r1, .inr (10, [.ref a1])), (a1, aI k 6 f)]) rfl (by decide) (by decide) (by decide) (Nat.le_of_ble_eq_true rfl) ⟨Nat.le_of_ble_eq_true rfl, Nat.le_of_ble_eq_true rfl⟩ (fun rv w1 h1 => ?_)
  obtain ⟨rfl, rfl⟩ := h1
  refine G.aft [0, 1, 2, 3, 4] (ws' := [(pp, .inr (8, [.ref h, .ref r1, .ref r2, .int tk])), (r1, .inr (10, [.ref a1])), (a1, aI k 6 f), (r2, .inr (10, [.ref a2])), (a2, aI k 6 ct)]) (st' := [.int (ct v)]) (cells' := 0) (slots' := 0) (g' := 0) (by decide) rfl rfl rfl rfl rfl ?_
  exact g_iret (pc := 8) C hr hlk (by first | decide | omega) (by first | decide | omega) (by first | decide | omega) dX6_countAt_8 ⟨rfl, rfl⟩
set_option maxRecDepth 100000 in
set_option maxHeartbeats 400000 in
theorem c_X6_swallowedChips {l : Launch} {D : va_G} {k : Nat → ClassId} (h : Nat) (pp : Nat) (r1 : Nat) (a1 : Nat) (r2 : Nat) (a2 : Nat) (f : Nat → Int32) (ct : Nat → Int32) (tk : Int32)  : CM l D k yX6_swallowedChips cX6_swallowedChips 1 (some .int)  0 0 [.ref pp] [(pp, .inr (8, [.ref h, .ref r1, .ref r2, .int tk])), (r1, .inr (10, [.ref a1])), (a1, aI k 6 f), (r2, .inr (10, [.ref a2])), (a2, aI k 6 ct)] (is1 (some (.int tk)) [(pp, .inr (8, [.ref h, .ref r1, .ref r2, .int tk])), (r1, .inr (10, [.ref a1])), (a1, aI k 6 f), (r2, .inr (10, [.ref a2])), (a2, aI k 6 ct)]) 0 0 0 := by
  refine CM.of (lv0 := [(0, .ref pp)]) (by decide +kernel) (Nat.le_of_ble_eq_true rfl) rfl ?_
  intro p9 e9 s9 m9 bl9 me9 co9 C hr hlk hin had
  refine g_aload_n (pc := 0) C 0 rfl rfl dX6_swallowedChips_0 ?_
  refine g_get (pc := 1) C (T := TX6) inX6 0 rfl rfl 3 (by decide) q_36 rfl rfl dX6_swallowedChips_1 ?_
  exact g_iret (pc := 4) C hr hlk (by first | decide | omega) (by first | decide | omega) (by first | decide | omega) dX6_swallowedChips_4 ⟨rfl, rfl⟩
set_option maxRecDepth 100000 in
set_option maxHeartbeats 400000 in
theorem c_X6_total {l : Launch} {D : va_G} {k : Nat → ClassId} (h : Nat) (pp : Nat) (r1 : Nat) (a1 : Nat) (r2 : Nat) (a2 : Nat) (f : Nat → Int32) (ct : Nat → Int32) (tk : Int32)  : CM l D k yX6_total cX6_total 1 (some .int)  1 22 [.ref pp] [(pp, .inr (8, [.ref h, .ref r1, .ref r2, .int tk])), (r1, .inr (10, [.ref a1])), (a1, aI k 6 f), (r2, .inr (10, [.ref a2])), (a2, aI k 6 ct)] (is1 (some (.int (rSum f 6))) [(pp, .inr (8, [.ref h, .ref r1, .ref r2, .int tk])), (r1, .inr (10, [.ref a1])), (a1, aI k 6 f), (r2, .inr (10, [.ref a2])), (a2, aI k 6 ct)]) 0 0 0 := by
  refine CM.of (lv0 := [(0, .ref pp)]) (by decide +kernel) (Nat.le_of_ble_eq_true rfl) rfl ?_
  intro p9 e9 s9 m9 bl9 me9 co9 C hr hlk hin had
  refine g_aload_n (pc := 0) C 0 rfl rfl dX6_total_0 ?_
  refine g_get (pc := 1) C (T := TX6) inX6 0 rfl rfl 1 (by decide) q_34 rfl rfl dX6_total_1 ?_
  refine g_callV (pc := 4) (cells := 0) (slots := 0) (g := 0) (As := []) (st := []) (T := TX8) (q0 := 1) C (nA := 0) rfl (c_X8_sum r1 a1 6 f (by first | assumption | decide | omega)) q_192 q_193 q_191 q_6 q_190 (by decide +kernel) rfl rfl dX6_total_4 ⟨Nat.le_of_ble_eq_true rfl, Nat.le_of_ble_eq_true rfl⟩ [1, 2] [0, 3, 4] rfl (wr := [(pp, .inr (8, [.ref h, .ref r1, .ref r2, .int tk])), (r2, .inr (10, [.ref a2])), (a2, aI k 6 ct)]) rfl (by decide) (by decide) (by decide) (Nat.le_of_ble_eq_true rfl) ⟨Nat.le_of_ble_eq_true rfl, Nat.le_of_ble_eq_true rfl⟩ (fun rv w1 h1 => ?_)
  obtain ⟨rfl, rfl⟩ := h1
  refine G.aft [0, 3, 4, 1, 2] (ws' := [(pp, .inr (8, [.ref h, .ref r1, .ref r2, .int tk])), (r1, .inr (10, [.ref a1])), (a1, aI k 6 f), (r2, .inr (10, [.ref a2])), (a2, aI k 6 ct)]) (st' := [.int (rSum f 6)]) (cells' := 0) (slots' := 0) (g' := 0) (by decide) rfl rfl rfl rfl rfl ?_
  exact g_iret (pc := 7) C hr hlk (by first | decide | omega) (by first | decide | omega) (by first | decide | omega) dX6_total_7 ⟨rfl, rfl⟩
/-- settling: one vertex's turn, a round in an order, rounds until one does nothing. chips, counts, swallowed, topplings -/
def stV (n z : Nat) (fj fd : Nat → Int32) (v : Nat) (S : (Nat → Int32) × (Nat → Int32) × Int32 × Int32) : (Nat → Int32) × (Nat → Int32) × Int32 × Int32 :=
  if ¬ fd v ≤ 0 ∧ cTop z fd S.1 v = true then (tpF z fj (S.1 v / fd v) v (upd S.1 v (S.1 v + (-(S.1 v / fd v)) * fd v)) n, upd S.2.1 v (S.2.1 v + S.1 v / fd v), tpT z fj (S.1 v / fd v) v S.2.2.1 n, S.2.2.2 + S.1 v / fd v) else S
def stR (n z : Nat) (fj fd : Nat → Int32) (o : Nat → Nat) (S : (Nat → Int32) × (Nat → Int32) × Int32 × Int32) : Nat → (Nat → Int32) × (Nat → Int32) × Int32 × Int32
  | 0 => S
  | i + 1 => stV n z fj fd (o i) (stR n z fj fd o S i)
def stA (n z : Nat) (fj fd : Nat → Int32) (o : Nat → Nat) : Nat → (Nat → Int32) × (Nat → Int32) × Int32 × Int32 → (Nat → Int32) × (Nat → Int32) × Int32 × Int32
  | 0, S => S
  | r + 1, S => if (stR n z fj fd o S n).2.2.2 = S.2.2.2 then stR n z fj fd o S n else stA n z fj fd o r (stR n z fj fd o S n)
theorem stA_e {n z : Nat} {fj fd : Nat → Int32} {o : Nat → Nat} {r k : Nat} {S T : (Nat → Int32) × (Nat → Int32) × Int32 × Int32} (hr : r = k + 1) (hS : stA n z fj fd o r S = T) (h : (stR n z fj fd o S n).2.2.2 = S.2.2.2) : stR n z fj fd o S n = T := by
  subst hr
  rw [← hS]
  show _ = (if _ then _ else _)
  rw [if_pos h]
theorem stA_n {n z : Nat} {fj fd : Nat → Int32} {o : Nat → Nat} {r k : Nat} {S T : (Nat → Int32) × (Nat → Int32) × Int32 × Int32} (hr : r = k + 1) (hS : stA n z fj fd o r S = T) (h : ¬ (stR n z fj fd o S n).2.2.2 = S.2.2.2) : stA n z fj fd o k (stR n z fj fd o S n) = T := by
  subst hr
  rw [← hS]
  show _ = (if _ then _ else _)
  rw [if_neg h]
set_option maxRecDepth 100000 in
set_option maxHeartbeats 400000 in
theorem c_X6_settleAll_lo {l : Launch} {D : va_G} {k : Nat → ClassId} (h : Nat) (jj : Nat) (dd : Nat) (n : Nat) (z : Nat) (fj : Nat → Int32) (fd : Nat → Int32) (pp : Nat) (r1 : Nat) (a1 : Nat) (r2 : Nat) (a2 : Nat) (f : Nat → Int32) (ct : Nat → Int32) (tk : Int32) (hn : n ≤ 6) (hz : z < 6) : CM l D k yX6_settleAll cX6_settleAll 9 (some .int)  2 47 [.ref pp, .int 0] [(h, .inr (5, [.ref jj, .ref dd, .int (nI n), .int (nI z)])), (jj, aI k 36 fj), (dd, aI k 6 fd), (pp, .inr (8, [.ref h, .ref r1, .ref r2, .int tk])), (r1, .inr (10, [.ref a1])), (a1, aI k 6 f), (r2, .inr (10, [.ref a2])), (a2, aI k 6 ct)] (is1 (some (.int ((stA n z fj fd (fun i9 => i9) mR (f, ct, tk, 0)).2.2.2))) [(h, .inr (5, [.ref jj, .ref dd, .int (nI n), .int (nI z)])), (jj, aI k 36 fj), (dd, aI k 6 fd), (pp, .inr (8, [.ref h, .ref r1, .ref r2, .int ((stA n z fj fd (fun i9 => i9) mR (f, ct, tk, 0)).2.2.1)])), (r1, .inr (10, [.ref a1])), (a1, aI k 6 ((stA n z fj fd (fun i9 => i9) mR (f, ct, tk, 0)).1)), (r2, .inr (10, [.ref a2])), (a2, aI k 6 ((stA n z fj fd (fun i9 => i9) mR (f, ct, tk, 0)).2.1))]) 0 0 0 := by
  refine CM.of (lv0 := [(0, .ref pp), (1, .int 0)]) (by decide +kernel) (Nat.le_of_ble_eq_true rfl) rfl ?_
  intro p9 e9 s9 m9 bl9 me9 co9 C hr hlk hin had
  refine g_iconst (pc := 0) (v := 0) C (by decide) dX6_settleAll_0 ?_
  refine g_istore_n (pc := 1) C [(2, .int 0), (0, .ref pp), (1, .int 0)] rfl dX6_settleAll_1 (by decide) rfl ?_
  refine g_iconst (pc := 2) (v := 0) C (by decide) dX6_settleAll_2 ?_
  refine g_istore_n (pc := 3) C [(3, .int 0), (2, .int 0), (0, .ref pp), (1, .int 0)] rfl dX6_settleAll_3 (by decide) rfl ?_
  have key_4 : ∀ (fuel : Nat) (r : Nat) (S : (Nat → Int32) × (Nat → Int32) × Int32 × Int32), r ≤ mR → stA n z fj fd (fun i9 => i9) (mR - r) S = (stA n z fj fd (fun i9 => i9) mR (f, ct, tk, 0)) → mR - r < fuel → G p9 l e9 { frames := 2, cells := 0, slots := 0, locals := 47 } s9 m9 ([.ref pp, .int 0] : List Value).toArray bl9 me9 co9 D 9 (va_A [(h, .inr (5, [.ref jj, .ref dd, .int (nI n), .int (nI z)])), (jj, aI k 36 fj), (dd, aI k 6 fd), (pp, .inr (8, [.ref h, .ref r1, .ref r2, .int tk])), (r1, .inr (10, [.ref a1])), (a1, aI k 6 f), (r2, .inr (10, [.ref a2])), (a2, aI k 6 ct)] s9.heap.size) (QM bl9 D ([.ref pp, .int 0] : List Value).toArray s9 [(h, .inr (5, [.ref jj, .ref dd, .int (nI n), .int (nI z)])), (jj, aI k 36 fj), (dd, aI k 6 fd), (pp, .inr (8, [.ref h, .ref r1, .ref r2, .int tk])), (r1, .inr (10, [.ref a1])), (a1, aI k 6 f), (r2, .inr (10, [.ref a2])), (a2, aI k 6 ct)] (is1 (some (.int ((stA n z fj fd (fun i9 => i9) mR (f, ct, tk, 0)).2.2.2))) [(h, .inr (5, [.ref jj, .ref dd, .int (nI n), .int (nI z)])), (jj, aI k 36 fj), (dd, aI k 6 fd), (pp, .inr (8, [.ref h, .ref r1, .ref r2, .int ((stA n z fj fd (fun i9 => i9) mR (f, ct, tk, 0)).2.2.1)])), (r1, .inr (10, [.ref a1])), (a1, aI k 6 ((stA n z fj fd (fun i9 => i9) mR (f, ct, tk, 0)).1)), (r2, .inr (10, [.ref a2])), (a2, aI k 6 ((stA n z fj fd (fun i9 => i9) mR (f, ct, tk, 0)).2.1))]) 0 0 0) [(h, .inr (5, [.ref jj, .ref dd, .int (nI n), .int (nI z)])), (jj, aI k 36 fj), (dd, aI k 6 fd), (pp, .inr (8, [.ref h, .ref r1, .ref r2, .int S.2.2.1])), (r1, .inr (10, [.ref a1])), (a1, aI k 6 S.1), (r2, .inr (10, [.ref a2])), (a2, aI k 6 S.2.1)] [(0, .ref pp), (1, .int 0), (2, .int S.2.2.2), (3, .int (nI r))] 0 0 0 4 [] := by
    intro fuel
    induction fuel with
    | zero => intro r S hr1 hS hm; exact absurd hm (Nat.not_lt_zero _)
    | succ fuel ih =>
      intro r S hr1 hS hm
      have ih_4 := ih
      have hmR : mR = 1000000 := rfl
      refine g_iload_n (pc := 4) C 3 rfl rfl dX6_settleAll_4 ?_
      refine g_ldc (pc := 5) C (v := 1000000) q_194 dX6_settleAll_5 ?_
      refine g_icmp_ge (pc := 7) C 123 (by decide) dX6_settleAll_7 (fun c_7 => ?_) (fun c_7 => ?_)
      · have h7 : r = mR := by { have := nle_ge (b := mR) (by rw [mR_e]; omega) c_7; omega }
        refine g_iload_n (pc := 123) C 2 rfl rfl dX6_settleAll_123 ?_
        refine G.eqw (ws' := [(h, .inr (5, [.ref jj, .ref dd, .int (nI n), .int (nI z)])), (jj, aI k 36 fj), (dd, aI k 6 fd), (pp, .inr (8, [.ref h, .ref r1, .ref r2, .int ((stA n z fj fd (fun i9 => i9) mR (f, ct, tk, 0)).2.2.1)])), (r1, .inr (10, [.ref a1])), (a1, aI k 6 S.1), (r2, .inr (10, [.ref a2])), (a2, aI k 6 S.2.1)]) (congrArg (β := va_W) (fun z9 => [(h, .inr (5, [.ref jj, .ref dd, .int (nI n), .int (nI z)])), (jj, aI k 36 fj), (dd, aI k 6 fd), (pp, .inr (8, [.ref h, .ref r1, .ref r2, .int z9])), (r1, .inr (10, [.ref a1])), (a1, aI k 6 S.1), (r2, .inr (10, [.ref a2])), (a2, aI k 6 S.2.1)]) (show (S.2.2.1 : Int32) = (stA n z fj fd (fun i9 => i9) mR (f, ct, tk, 0)).2.2.1 from by { subst h7; rw [Nat.sub_self] at hS; rw [show S = _ from hS] })) ?_
        refine G.fn ((stA n z fj fd (fun i9 => i9) mR (f, ct, tk, 0)).1) 5 [(h, .inr (5, [.ref jj, .ref dd, .int (nI n), .int (nI z)])), (jj, aI k 36 fj), (dd, aI k 6 fd), (pp, .inr (8, [.ref h, .ref r1, .ref r2, .int ((stA n z fj fd (fun i9 => i9) mR (f, ct, tk, 0)).2.2.1)])), (r1, .inr (10, [.ref a1])), (a1, aI k 6 ((stA n z fj fd (fun i9 => i9) mR (f, ct, tk, 0)).1)), (r2, .inr (10, [.ref a2])), (a2, aI k 6 S.2.1)] rfl (fun j hj => by { subst h7; rw [Nat.sub_self] at hS; rw [show S = _ from hS] }) rfl ?_
        refine G.fn ((stA n z fj fd (fun i9 => i9) mR (f, ct, tk, 0)).2.1) 7 [(h, .inr (5, [.ref jj, .ref dd, .int (nI n), .int (nI z)])), (jj, aI k 36 fj), (dd, aI k 6 fd), (pp, .inr (8, [.ref h, .ref r1, .ref r2, .int ((stA n z fj fd (fun i9 => i9) mR (f, ct, tk, 0)).2.2.1)])), (r1, .inr (10, [.ref a1])), (a1, aI k 6 ((stA n z fj fd (fun i9 => i9) mR (f, ct, tk, 0)).1)), (r2, .inr (10, [.ref a2])), (a2, aI k 6 ((stA n z fj fd (fun i9 => i9) mR (f, ct, tk, 0)).2.1))] rfl (fun j hj => by { subst h7; rw [Nat.sub_self] at hS; rw [show S = _ from hS] }) rfl ?_
        refine G.eqs (st' := [.int ((stA n z fj fd (fun i9 => i9) mR (f, ct, tk, 0)).2.2.2)]) (congrArg (fun z9 => [Value.int z9]) (show (S.2.2.2 : Int32) = (stA n z fj fd (fun i9 => i9) mR (f, ct, tk, 0)).2.2.2 from by { subst h7; rw [Nat.sub_self] at hS; rw [show S = _ from hS] })) ?_
        exact g_iret (pc := 124) C hr hlk (by first | decide | omega) (by first | decide | omega) (by first | decide | omega) dX6_settleAll_124 ⟨rfl, rfl⟩
      · have h7 : r < mR := nle_lt (b := mR) (by omega) c_7
        refine g_iload_n (pc := 10) C 2 rfl rfl dX6_settleAll_10 ?_
        refine g_istore (pc := 11) C [(4, .int S.2.2.2), (0, .ref pp), (1, .int 0), (2, .int S.2.2.2), (3, .int (nI r))] dX6_settleAll_11 (by decide) rfl ?_
        refine g_iconst (pc := 13) (v := 0) C (by decide) dX6_settleAll_13 ?_
        refine g_istore (pc := 14) C [(5, .int 0), (4, .int S.2.2.2), (0, .ref pp), (1, .int 0), (2, .int S.2.2.2), (3, .int (nI r))] dX6_settleAll_14 (by decide) rfl ?_
        have key_16 : ∀ (fuel : Nat) (i : Nat), i ≤ n → n - i < fuel → G p9 l e9 { frames := 2, cells := 0, slots := 0, locals := 47 } s9 m9 ([.ref pp, .int 0] : List Value).toArray bl9 me9 co9 D 9 (va_A [(h, .inr (5, [.ref jj, .ref dd, .int (nI n), .int (nI z)])), (jj, aI k 36 fj), (dd, aI k 6 fd), (pp, .inr (8, [.ref h, .ref r1, .ref r2, .int tk])), (r1, .inr (10, [.ref a1])), (a1, aI k 6 f), (r2, .inr (10, [.ref a2])), (a2, aI k 6 ct)] s9.heap.size) (QM bl9 D ([.ref pp, .int 0] : List Value).toArray s9 [(h, .inr (5, [.ref jj, .ref dd, .int (nI n), .int (nI z)])), (jj, aI k 36 fj), (dd, aI k 6 fd), (pp, .inr (8, [.ref h, .ref r1, .ref r2, .int tk])), (r1, .inr (10, [.ref a1])), (a1, aI k 6 f), (r2, .inr (10, [.ref a2])), (a2, aI k 6 ct)] (is1 (some (.int ((stA n z fj fd (fun i9 => i9) mR (f, ct, tk, 0)).2.2.2))) [(h, .inr (5, [.ref jj, .ref dd, .int (nI n), .int (nI z)])), (jj, aI k 36 fj), (dd, aI k 6 fd), (pp, .inr (8, [.ref h, .ref r1, .ref r2, .int ((stA n z fj fd (fun i9 => i9) mR (f, ct, tk, 0)).2.2.1)])), (r1, .inr (10, [.ref a1])), (a1, aI k 6 ((stA n z fj fd (fun i9 => i9) mR (f, ct, tk, 0)).1)), (r2, .inr (10, [.ref a2])), (a2, aI k 6 ((stA n z fj fd (fun i9 => i9) mR (f, ct, tk, 0)).2.1))]) 0 0 0) [(h, .inr (5, [.ref jj, .ref dd, .int (nI n), .int (nI z)])), (jj, aI k 36 fj), (dd, aI k 6 fd), (pp, .inr (8, [.ref h, .ref r1, .ref r2, .int ((stR n z fj fd (fun i9 => i9) S i).2.2.1)])), (r1, .inr (10, [.ref a1])), (a1, aI k 6 ((stR n z fj fd (fun i9 => i9) S i).1)), (r2, .inr (10, [.ref a2])), (a2, aI k 6 ((stR n z fj fd (fun i9 => i9) S i).2.1))] [(0, .ref pp), (1, .int 0), (2, .int ((stR n z fj fd (fun i9 => i9) S i).2.2.2)), (3, .int (nI r)), (4, .int S.2.2.2), (5, .int (nI i))] 0 0 0 16 [] := by
          intro fuel
          induction fuel with
          | zero => intro i hi hm; exact absurd hm (Nat.not_lt_zero _)
          | succ fuel ih =>
            intro i hi hm
            have ih_16 := ih
            refine g_iload (pc := 16) C 5 rfl dX6_settleAll_16 ?_
            refine g_aload_n (pc := 18) C 0 rfl rfl dX6_settleAll_18 ?_
            refine g_get (pc := 19) C (T := TX6) inX6 3 rfl rfl 0 (by decide) q_37 rfl rfl dX6_settleAll_19 ?_
            refine g_callV (pc := 22) (cells := 0) (slots := 0) (g := 0) (As := []) (st := [.int (nI i)]) (T := TX3) (q0 := 0) C (nA := 0) rfl (c_X3_size h jj dd n z fj fd ) q_66 q_67 q_65 q_16 q_64 (by decide +kernel) rfl rfl dX6_settleAll_22 ⟨Nat.le_of_ble_eq_true rfl, Nat.le_of_ble_eq_true rfl⟩ [0, 1, 2] [3, 4, 5, 6, 7] rfl (wr := [(pp, .inr (8, [.ref h, .ref r1, .ref r2, .int ((stR n z fj fd (fun i9 => i9) S i).2.2.1)])), (r1, .inr (10, [.ref a1])), (a1, aI k 6 ((stR n z fj fd (fun i9 => i9) S i).1)), (r2, .inr (10, [.ref a2])), (a2, aI k 6 ((stR n z fj fd (fun i9 => i9) S i).2.1))]) rfl (by decide) (by decide) (by decide) (Nat.le_of_ble_eq_true rfl) ⟨Nat.le_of_ble_eq_true rfl, Nat.le_of_ble_eq_true rfl⟩ (fun rv w1 h1 => ?_)
            obtain ⟨rfl, rfl⟩ := h1
            refine G.aft [5, 6, 7, 0, 1, 2, 3, 4] (ws' := [(h, .inr (5, [.ref jj, .ref dd, .int (nI n), .int (nI z)])), (jj, aI k 36 fj), (dd, aI k 6 fd), (pp, .inr (8, [.ref h, .ref r1, .ref r2, .int ((stR n z fj fd (fun i9 => i9) S i).2.2.1)])), (r1, .inr (10, [.ref a1])), (a1, aI k 6 ((stR n z fj fd (fun i9 => i9) S i).1)), (r2, .inr (10, [.ref a2])), (a2, aI k 6 ((stR n z fj fd (fun i9 => i9) S i).2.1))]) (st' := [.int (nI n), .int (nI i)]) (cells' := 0) (slots' := 0) (g' := 0) (by decide) rfl rfl rfl rfl rfl ?_
            refine g_icmp_ge (pc := 25) C 109 (by decide) dX6_settleAll_25 (fun c_25 => ?_) (fun c_25 => ?_)
            · have h3 : i = n := by { have := nle_ge (b := n) (a := i) (by omega) c_25; omega }
              refine g_iload_n (pc := 109) C 2 rfl rfl dX6_settleAll_109 ?_
              refine g_iload (pc := 110) C 4 rfl dX6_settleAll_110 ?_
              refine g_icmp_ne (pc := 112) C 117 (by decide) dX6_settleAll_112 (fun c_112 => ?_) (fun c_112 => ?_)
              · rw [h3] at c_112
                refine g_iinc (pc := 117) (n := 1) (v := (nI (r + 1))) C 3 [(3, .int (nI (r + 1))), (0, .ref pp), (1, .int 0), (2, .int ((stR n z fj fd (fun i9 => i9) S i).2.2.2)), (4, .int S.2.2.2), (5, .int (nI i))] rfl (nI_1 r) dX6_settleAll_117 (by decide) rfl ?_
                refine g_goto (pc := 120) C 4 (by decide) dX6_settleAll_120 ?_
                refine G.loc [1, 2, 3, 0] (lv' := [(0, .ref pp), (1, .int 0), (2, .int ((stR n z fj fd (fun i9 => i9) S i).2.2.2)), (3, .int (nI (r + 1)))]) rfl ?_
                refine G.eqw (ws' := [(h, .inr (5, [.ref jj, .ref dd, .int (nI n), .int (nI z)])), (jj, aI k 36 fj), (dd, aI k 6 fd), (pp, .inr (8, [.ref h, .ref r1, .ref r2, .int ((stR n z fj fd (fun i9 => i9) S n).2.2.1)])), (r1, .inr (10, [.ref a1])), (a1, aI k 6 ((stR n z fj fd (fun i9 => i9) S i).1)), (r2, .inr (10, [.ref a2])), (a2, aI k 6 ((stR n z fj fd (fun i9 => i9) S i).2.1))]) (congrArg (β := va_W) (fun z9 => [(h, .inr (5, [.ref jj, .ref dd, .int (nI n), .int (nI z)])), (jj, aI k 36 fj), (dd, aI k 6 fd), (pp, .inr (8, [.ref h, .ref r1, .ref r2, .int z9])), (r1, .inr (10, [.ref a1])), (a1, aI k 6 ((stR n z fj fd (fun i9 => i9) S i).1)), (r2, .inr (10, [.ref a2])), (a2, aI k 6 ((stR n z fj fd (fun i9 => i9) S i).2.1))]) (show ((stR n z fj fd (fun i9 => i9) S i).2.2.1 : Int32) = (stR n z fj fd (fun i9 => i9) S n).2.2.1 from by first | rfl | (rw [h3]))) ?_
                refine G.fn ((stR n z fj fd (fun i9 => i9) S n).1) 5 [(h, .inr (5, [.ref jj, .ref dd, .int (nI n), .int (nI z)])), (jj, aI k 36 fj), (dd, aI k 6 fd), (pp, .inr (8, [.ref h, .ref r1, .ref r2, .int ((stR n z fj fd (fun i9 => i9) S n).2.2.1)])), (r1, .inr (10, [.ref a1])), (a1, aI k 6 ((stR n z fj fd (fun i9 => i9) S n).1)), (r2, .inr (10, [.ref a2])), (a2, aI k 6 ((stR n z fj fd (fun i9 => i9) S i).2.1))] rfl (fun j hj => by first | rfl | (rw [h3])) rfl ?_
                refine G.fn ((stR n z fj fd (fun i9 => i9) S n).2.1) 7 [(h, .inr (5, [.ref jj, .ref dd, .int (nI n), .int (nI z)])), (jj, aI k 36 fj), (dd, aI k 6 fd), (pp, .inr (8, [.ref h, .ref r1, .ref r2, .int ((stR n z fj fd (fun i9 => i9) S n).2.2.1)])), (r1, .inr (10, [.ref a1])), (a1, aI k 6 ((stR n z fj fd (fun i9 => i9) S n).1)), (r2, .inr (10, [.ref a2])), (a2, aI k 6 ((stR n z fj fd (fun i9 => i9) S n).2.1))] rfl (fun j hj => by first | rfl | (rw [h3])) rfl ?_
                refine G.eql (lv' := [(0, .ref pp), (1, .int 0), (2, .int ((stR n z fj fd (fun i9 => i9) S n).2.2.2)), (3, .int (nI (r + 1)))]) (congrArg (β := List (Nat × Value)) (fun z9 => [(0, .ref pp), (1, .int 0), (2, .int z9), (3, .int (nI (r + 1)))]) (show ((stR n z fj fd (fun i9 => i9) S i).2.2.2 : Int32) = (stR n z fj fd (fun i9 => i9) S n).2.2.2 from by first | rfl | (rw [h3]))) ?_
                exact ih_4 (r + 1) (stR n z fj fd (fun i9 => i9) S n) (by omega) (stA_n (show mR - r = (mR - (r + 1)) + 1 by omega) hS c_112) (by omega)
              · rw [h3] at c_112
                have hE := stA_e (show mR - r = (mR - (r + 1)) + 1 by omega) hS c_112
                refine g_iload_n (pc := 115) C 2 rfl rfl dX6_settleAll_115 ?_
                refine G.eqw (ws' := [(h, .inr (5, [.ref jj, .ref dd, .int (nI n), .int (nI z)])), (jj, aI k 36 fj), (dd, aI k 6 fd), (pp, .inr (8, [.ref h, .ref r1, .ref r2, .int ((stA n z fj fd (fun i9 => i9) mR (f, ct, tk, 0)).2.2.1)])), (r1, .inr (10, [.ref a1])), (a1, aI k 6 ((stR n z fj fd (fun i9 => i9) S i).1)), (r2, .inr (10, [.ref a2])), (a2, aI k 6 ((stR n z fj fd (fun i9 => i9) S i).2.1))]) (congrArg (β := va_W) (fun z9 => [(h, .inr (5, [.ref jj, .ref dd, .int (nI n), .int (nI z)])), (jj, aI k 36 fj), (dd, aI k 6 fd), (pp, .inr (8, [.ref h, .ref r1, .ref r2, .int z9])), (r1, .inr (10, [.ref a1])), (a1, aI k 6 ((stR n z fj fd (fun i9 => i9) S i).1)), (r2, .inr (10, [.ref a2])), (a2, aI k 6 ((stR n z fj fd (fun i9 => i9) S i).2.1))]) (show ((stR n z fj fd (fun i9 => i9) S i).2.2.1 : Int32) = (stA n z fj fd (fun i9 => i9) mR (f, ct, tk, 0)).2.2.1 from by { rw [h3, hE] })) ?_
                refine G.fn ((stA n z fj fd (fun i9 => i9) mR (f, ct, tk, 0)).1) 5 [(h, .inr (5, [.ref jj, .ref dd, .int (nI n), .int (nI z)])), (jj, aI k 36 fj), (dd, aI k 6 fd), (pp, .inr (8, [.ref h, .ref r1, .ref r2, .int ((stA n z fj fd (fun i9 => i9) mR (f, ct, tk, 0)).2.2.1)])), (r1, .inr (10, [.ref a1])), (a1, aI k 6 ((stA n z fj fd (fun i9 => i9) mR (f, ct, tk, 0)).1)), (r2, .inr (10, [.ref a2])), (a2, aI k 6 ((stR n z fj fd (fun i9 => i9) S i).2.1))] rfl (fun j hj => by { rw [h3, hE] }) rfl ?_
                refine G.fn ((stA n z fj fd (fun i9 => i9) mR (f, ct, tk, 0)).2.1) 7 [(h, .inr (5, [.ref jj, .ref dd, .int (nI n), .int (nI z)])), (jj, aI k 36 fj), (dd, aI k 6 fd), (pp, .inr (8, [.ref h, .ref r1, .ref r2, .int ((stA n z fj fd (fun i9 => i9) mR (f, ct, tk, 0)).2.2.1)])), (r1, .inr (10, [.ref a1])), (a1, aI k 6 ((stA n z fj fd (fun i9 => i9) mR (f, ct, tk, 0)).1)), (r2, .inr (10, [.ref a2])), (a2, aI k 6 ((stA n z fj fd (fun i9 => i9) mR (f, ct, tk, 0)).2.1))] rfl (fun j hj => by { rw [h3, hE] }) rfl ?_
                refine G.eqs (st' := [.int ((stA n z fj fd (fun i9 => i9) mR (f, ct, tk, 0)).2.2.2)]) (congrArg (fun z9 => [Value.int z9]) (show ((stR n z fj fd (fun i9 => i9) S i).2.2.2 : Int32) = (stA n z fj fd (fun i9 => i9) mR (f, ct, tk, 0)).2.2.2 from by { rw [h3, hE] })) ?_
                exact g_iret (pc := 116) C hr hlk (by first | decide | omega) (by first | decide | omega) (by first | decide | omega) dX6_settleAll_116 ⟨rfl, rfl⟩
            · have hl25 : i < n := nle_lt (by omega) c_25
              refine g_iload_n (pc := 28) C 1 rfl rfl dX6_settleAll_28 ?_
              refine g_if_eq (pc := 29) C 47 (by decide) dX6_settleAll_29 (fun c_29 => ?_) (fun c_29 => ?_)
              · refine g_iload (pc := 47) C 5 rfl dX6_settleAll_47 ?_
                refine g_istore (pc := 49) C [(6, .int (nI i)), (0, .ref pp), (1, .int 0), (2, .int ((stR n z fj fd (fun i9 => i9) S i).2.2.2)), (3, .int (nI r)), (4, .int S.2.2.2), (5, .int (nI i))] dX6_settleAll_49 (by decide) rfl ?_
                refine g_aload_n (pc := 51) C 1 rfl rfl dX6_settleAll_51 ?_
                refine g_get (pc := 52) C (T := TX6) inX6 3 rfl rfl 0 (by decide) q_37 rfl rfl dX6_settleAll_52 ?_
                refine g_iload (pc := 55) C 0 rfl dX6_settleAll_55 ?_
                refine g_callV (pc := 57) (cells := 0) (slots := 0) (g := 0) (As := [.int (nI i)]) (st := []) (T := TX3) (q0 := 0) C (nA := 1) rfl (c_X3_degreeOf h jj dd n z fj fd i (by first | assumption | decide | omega)) q_62 q_63 q_61 q_16 q_60 (by decide +kernel) rfl rfl dX6_settleAll_57 ⟨Nat.le_of_ble_eq_true rfl, Nat.le_of_ble_eq_true rfl⟩ [0, 1, 2] [3, 4, 5, 6, 7] rfl (wr := [(pp, .inr (8, [.ref h, .ref r1, .ref r2, .int ((stR n z fj fd (fun i9 => i9) S i).2.2.1)])), (r1, .inr (10, [.ref a1])), (a1, aI k 6 ((stR n z fj fd (fun i9 => i9) S i).1)), (r2, .inr (10, [.ref a2])), (a2, aI k 6 ((stR n z fj fd (fun i9 => i9) S i).2.1))]) rfl (by decide) (by decide) (by decide) (Nat.le_of_ble_eq_true rfl) ⟨Nat.le_of_ble_eq_true rfl, Nat.le_of_ble_eq_true rfl⟩ (fun rv w1 h1 => ?_)
                obtain ⟨rfl, rfl⟩ := h1
                refine G.aft [5, 6, 7, 0, 1, 2, 3, 4] (ws' := [(h, .inr (5, [.ref jj, .ref dd, .int (nI n), .int (nI z)])), (jj, aI k 36 fj), (dd, aI k 6 fd), (pp, .inr (8, [.ref h, .ref r1, .ref r2, .int ((stR n z fj fd (fun i9 => i9) S i).2.2.1)])), (r1, .inr (10, [.ref a1])), (a1, aI k 6 ((stR n z fj fd (fun i9 => i9) S i).1)), (r2, .inr (10, [.ref a2])), (a2, aI k 6 ((stR n z fj fd (fun i9 => i9) S i).2.1))]) (st' := [.int (fd i)]) (cells' := 0) (slots' := 0) (g' := 0) (by decide) rfl rfl rfl rfl rfl ?_
                refine g_istore (pc := 60) C [(7, .int (fd i)), (6, .int (nI i)), (0, .ref pp), (1, .int 0), (2, .int ((stR n z fj fd (fun i9 => i9) S i).2.2.2)), (3, .int (nI r)), (4, .int S.2.2.2), (5, .int (nI i))] dX6_settleAll_60 (by decide) rfl ?_
                refine g_iload (pc := 62) C 0 rfl dX6_settleAll_62 ?_
                refine g_if_le (pc := 64) C 103 (by decide) dX6_settleAll_64 (fun c_64 => ?_) (fun c_64 => ?_)
                · refine g_iinc (pc := 103) (n := 1) (v := (nI (i + 1))) C 7 [(5, .int (nI (i + 1))), (7, .int (fd i)), (6, .int (nI i)), (0, .ref pp), (1, .int 0), (2, .int ((stR n z fj fd (fun i9 => i9) S i).2.2.2)), (3, .int (nI r)), (4, .int S.2.2.2)] rfl (nI_1 i) dX6_settleAll_103 (by decide) rfl ?_
                  refine g_goto (pc := 106) C 16 (by decide) dX6_settleAll_106 ?_
                  refine G.loc [3, 4, 5, 6, 7, 0] (lv' := [(0, .ref pp), (1, .int 0), (2, .int ((stR n z fj fd (fun i9 => i9) S i).2.2.2)), (3, .int (nI r)), (4, .int S.2.2.2), (5, .int (nI (i + 1)))]) rfl ?_
                  refine G.eqw (ws' := [(h, .inr (5, [.ref jj, .ref dd, .int (nI n), .int (nI z)])), (jj, aI k 36 fj), (dd, aI k 6 fd), (pp, .inr (8, [.ref h, .ref r1, .ref r2, .int ((stR n z fj fd (fun i9 => i9) S (i + 1)).2.2.1)])), (r1, .inr (10, [.ref a1])), (a1, aI k 6 ((stR n z fj fd (fun i9 => i9) S i).1)), (r2, .inr (10, [.ref a2])), (a2, aI k 6 ((stR n z fj fd (fun i9 => i9) S i).2.1))]) (congrArg (β := va_W) (fun z9 => [(h, .inr (5, [.ref jj, .ref dd, .int (nI n), .int (nI z)])), (jj, aI k 36 fj), (dd, aI k 6 fd), (pp, .inr (8, [.ref h, .ref r1, .ref r2, .int z9])), (r1, .inr (10, [.ref a1])), (a1, aI k 6 ((stR n z fj fd (fun i9 => i9) S i).1)), (r2, .inr (10, [.ref a2])), (a2, aI k 6 ((stR n z fj fd (fun i9 => i9) S i).2.1))]) (show ((stR n z fj fd (fun i9 => i9) S i).2.2.1 : Int32) = (stR n z fj fd (fun i9 => i9) S (i + 1)).2.2.1 from by first | rfl | (rw [h3]) | (show _ = (stV n z fj fd _ _).1 j; simp [stV, c_64]; done) | (simp [stR, stV, c_64]; done) | (simp [stR, stV, c_64, c_73]; done))) ?_
                  refine G.fn ((stR n z fj fd (fun i9 => i9) S (i + 1)).1) 5 [(h, .inr (5, [.ref jj, .ref dd, .int (nI n), .int (nI z)])), (jj, aI k 36 fj), (dd, aI k 6 fd), (pp, .inr (8, [.ref h, .ref r1, .ref r2, .int ((stR n z fj fd (fun i9 => i9) S (i + 1)).2.2.1)])), (r1, .inr (10, [.ref a1])), (a1, aI k 6 ((stR n z fj fd (fun i9 => i9) S (i + 1)).1)), (r2, .inr (10, [.ref a2])), (a2, aI k 6 ((stR n z fj fd (fun i9 => i9) S i).2.1))] rfl (fun j hj => by first | rfl | (rw [h3]) | (show _ = (stV n z fj fd _ _).1 j; simp [stV, c_64]; done) | (simp [stR, stV, c_64]; done) | (simp [stR, stV, c_64, c_73]; done)) rfl ?_
                  refine G.fn ((stR n z fj fd (fun i9 => i9) S (i + 1)).2.1) 7 [(h, .inr (5, [.ref jj, .ref dd, .int (nI n), .int (nI z)])), (jj, aI k 36 fj), (dd, aI k 6 fd), (pp, .inr (8, [.ref h, .ref r1, .ref r2, .int ((stR n z fj fd (fun i9 => i9) S (i + 1)).2.2.1)])), (r1, .inr (10, [.ref a1])), (a1, aI k 6 ((stR n z fj fd (fun i9 => i9) S (i + 1)).1)), (r2, .inr (10, [.ref a2])), (a2, aI k 6 ((stR n z fj fd (fun i9 => i9) S (i + 1)).2.1))] rfl (fun j hj => by first | rfl | (rw [h3]) | (show _ = (stV n z fj fd _ _).1 j; simp [stV, c_64]; done) | (simp [stR, stV, c_64]; done) | (simp [stR, stV, c_64, c_73]; done)) rfl ?_
                  refine G.eql (lv' := [(0, .ref pp), (1, .int 0), (2, .int ((stR n z fj fd (fun i9 => i9) S (i + 1)).2.2.2)), (3, .int (nI r)), (4, .int S.2.2.2), (5, .int (nI (i + 1)))]) (congrArg (β := List (Nat × Value)) (fun z9 => [(0, .ref pp), (1, .int 0), (2, .int z9), (3, .int (nI r)), (4, .int S.2.2.2), (5, .int (nI (i + 1)))]) (show ((stR n z fj fd (fun i9 => i9) S i).2.2.2 : Int32) = (stR n z fj fd (fun i9 => i9) S (i + 1)).2.2.2 from by first | rfl | (rw [h3]) | (show _ = (stV n z fj fd _ _).1 j; simp [stV, c_64]; done) | (simp [stR, stV, c_64]; done) | (simp [stR, stV, c_64, c_73]; done))) ?_
                  exact ih_16 (i + 1) (by omega) (by omega)
                · refine g_aload_n (pc := 67) C 2 rfl rfl dX6_settleAll_67 ?_
                  refine g_iload (pc := 68) C 1 rfl dX6_settleAll_68 ?_
                  refine g_callV (pc := 70) (cells := 0) (slots := 0) (g := 0) (As := [.int (nI i)]) (st := []) (T := TX6) (q0 := 3) C (nA := 1) rfl (c_X6_canTopple h jj dd n z fj fd pp r1 a1 r2 a2 ((stR n z fj fd (fun i9 => i9) S i).1) ((stR n z fj fd (fun i9 => i9) S i).2.1) ((stR n z fj fd (fun i9 => i9) S i).2.2.1) i (by first | assumption | decide | omega) (by first | assumption | decide | omega)) q_75 q_76 q_74 q_43 q_73 (by decide +kernel) rfl rfl dX6_settleAll_70 ⟨Nat.le_of_ble_eq_true rfl, Nat.le_of_ble_eq_true rfl⟩ [0, 1, 2, 3, 4, 5, 6, 7] [] rfl (wr := []) rfl (by decide) (by decide) (by decide) (Nat.le_of_ble_eq_true rfl) ⟨Nat.le_of_ble_eq_true rfl, Nat.le_of_ble_eq_true rfl⟩ (fun rv w1 h1 => ?_)
                  obtain ⟨rfl, rfl⟩ := h1
                  refine G.aft [0, 1, 2, 3, 4, 5, 6, 7] (ws' := [(h, .inr (5, [.ref jj, .ref dd, .int (nI n), .int (nI z)])), (jj, aI k 36 fj), (dd, aI k 6 fd), (pp, .inr (8, [.ref h, .ref r1, .ref r2, .int ((stR n z fj fd (fun i9 => i9) S i).2.2.1)])), (r1, .inr (10, [.ref a1])), (a1, aI k 6 ((stR n z fj fd (fun i9 => i9) S i).1)), (r2, .inr (10, [.ref a2])), (a2, aI k 6 ((stR n z fj fd (fun i9 => i9) S i).2.1))]) (st' := [.int (bI (cTop z fd ((stR n z fj fd (fun i9 => i9) S i).1) i))]) (cells' := 0) (slots' := 0) (g' := 0) (by decide) rfl rfl rfl rfl rfl ?_
                  refine g_if_eq (pc := 73) C 103 (by decide) dX6_settleAll_73 (fun c_73 => ?_) (fun c_73 => ?_)
                  · simp only [bI_0] at c_73
                    refine g_iinc (pc := 103) (n := 1) (v := (nI (i + 1))) C 7 [(5, .int (nI (i + 1))), (7, .int (fd i)), (6, .int (nI i)), (0, .ref pp), (1, .int 0), (2, .int ((stR n z fj fd (fun i9 => i9) S i).2.2.2)), (3, .int (nI r)), (4, .int S.2.2.2)] rfl (nI_1 i) dX6_settleAll_103 (by decide) rfl ?_
                    refine g_goto (pc := 106) C 16 (by decide) dX6_settleAll_106 ?_
                    refine G.loc [3, 4, 5, 6, 7, 0] (lv' := [(0, .ref pp), (1, .int 0), (2, .int ((stR n z fj fd (fun i9 => i9) S i).2.2.2)), (3, .int (nI r)), (4, .int S.2.2.2), (5, .int (nI (i + 1)))]) rfl ?_
                    refine G.eqw (ws' := [(h, .inr (5, [.ref jj, .ref dd, .int (nI n), .int (nI z)])), (jj, aI k 36 fj), (dd, aI k 6 fd), (pp, .inr (8, [.ref h, .ref r1, .ref r2, .int ((stR n z fj fd (fun i9 => i9) S (i + 1)).2.2.1)])), (r1, .inr (10, [.ref a1])), (a1, aI k 6 ((stR n z fj fd (fun i9 => i9) S i).1)), (r2, .inr (10, [.ref a2])), (a2, aI k 6 ((stR n z fj fd (fun i9 => i9) S i).2.1))]) (congrArg (β := va_W) (fun z9 => [(h, .inr (5, [.ref jj, .ref dd, .int (nI n), .int (nI z)])), (jj, aI k 36 fj), (dd, aI k 6 fd), (pp, .inr (8, [.ref h, .ref r1, .ref r2, .int z9])), (r1, .inr (10, [.ref a1])), (a1, aI k 6 ((stR n z fj fd (fun i9 => i9) S i).1)), (r2, .inr (10, [.ref a2])), (a2, aI k 6 ((stR n z fj fd (fun i9 => i9) S i).2.1))]) (show (((stR n z fj fd (fun i9 => i9) S i).2.2.1) : Int32) = (stR n z fj fd (fun i9 => i9) S (i + 1)).2.2.1 from by first | rfl | (rw [h3]) | (show _ = (stV n z fj fd _ _).1 j; simp [stV, c_64]; done) | (simp [stR, stV, c_64]; done) | (simp [stR, stV, c_64, c_73]; done))) ?_
                    refine G.fn ((stR n z fj fd (fun i9 => i9) S (i + 1)).1) 5 [(h, .inr (5, [.ref jj, .ref dd, .int (nI n), .int (nI z)])), (jj, aI k 36 fj), (dd, aI k 6 fd), (pp, .inr (8, [.ref h, .ref r1, .ref r2, .int ((stR n z fj fd (fun i9 => i9) S (i + 1)).2.2.1)])), (r1, .inr (10, [.ref a1])), (a1, aI k 6 ((stR n z fj fd (fun i9 => i9) S (i + 1)).1)), (r2, .inr (10, [.ref a2])), (a2, aI k 6 ((stR n z fj fd (fun i9 => i9) S i).2.1))] rfl (fun j hj => by first | rfl | (rw [h3]) | (show _ = (stV n z fj fd _ _).1 j; simp [stV, c_64]; done) | (simp [stR, stV, c_64]; done) | (simp [stR, stV, c_64, c_73]; done)) rfl ?_
                    refine G.fn ((stR n z fj fd (fun i9 => i9) S (i + 1)).2.1) 7 [(h, .inr (5, [.ref jj, .ref dd, .int (nI n), .int (nI z)])), (jj, aI k 36 fj), (dd, aI k 6 fd), (pp, .inr (8, [.ref h, .ref r1, .ref r2, .int ((stR n z fj fd (fun i9 => i9) S (i + 1)).2.2.1)])), (r1, .inr (10, [.ref a1])), (a1, aI k 6 ((stR n z fj fd (fun i9 => i9) S (i + 1)).1)), (r2, .inr (10, [.ref a2])), (a2, aI k 6 ((stR n z fj fd (fun i9 => i9) S (i + 1)).2.1))] rfl (fun j hj => by first | rfl | (rw [h3]) | (show _ = (stV n z fj fd _ _).1 j; simp [stV, c_64]; done) | (simp [stR, stV, c_64]; done) | (simp [stR, stV, c_64, c_73]; done)) rfl ?_
                    refine G.eql (lv' := [(0, .ref pp), (1, .int 0), (2, .int ((stR n z fj fd (fun i9 => i9) S (i + 1)).2.2.2)), (3, .int (nI r)), (4, .int S.2.2.2), (5, .int (nI (i + 1)))]) (congrArg (β := List (Nat × Value)) (fun z9 => [(0, .ref pp), (1, .int 0), (2, .int z9), (3, .int (nI r)), (4, .int S.2.2.2), (5, .int (nI (i + 1)))]) (show ((stR n z fj fd (fun i9 => i9) S i).2.2.2 : Int32) = (stR n z fj fd (fun i9 => i9) S (i + 1)).2.2.2 from by first | rfl | (rw [h3]) | (show _ = (stV n z fj fd _ _).1 j; simp [stV, c_64]; done) | (simp [stR, stV, c_64]; done) | (simp [stR, stV, c_64, c_73]; done))) ?_
                    exact ih_16 (i + 1) (by omega) (by omega)
                  · simp only [bI_0] at c_73
                    rw [Bool.not_eq_false] at c_73
                    refine g_aload_n (pc := 76) C 2 rfl rfl dX6_settleAll_76 ?_
                    refine g_get (pc := 77) C (T := TX6) inX6 3 rfl rfl 1 (by decide) q_34 rfl rfl dX6_settleAll_77 ?_
                    refine g_iload (pc := 80) C 1 rfl dX6_settleAll_80 ?_
                    refine g_callV (pc := 82) (cells := 0) (slots := 0) (g := 0) (As := [.int (nI i)]) (st := []) (T := TX8) (q0 := 4) C (nA := 1) rfl (c_X8_at_n r1 a1 6 ((stR n z fj fd (fun i9 => i9) S i).1) i (by first | assumption | decide | omega) (by first | assumption | decide | omega)) q_51 q_9 q_7 q_6 q_5 (by decide +kernel) rfl rfl dX6_settleAll_82 ⟨Nat.le_of_ble_eq_true rfl, Nat.le_of_ble_eq_true rfl⟩ [4, 5] [0, 1, 2, 3, 6, 7] rfl (wr := [(h, .inr (5, [.ref jj, .ref dd, .int (nI n), .int (nI z)])), (jj, aI k 36 fj), (dd, aI k 6 fd), (pp, .inr (8, [.ref h, .ref r1, .ref r2, .int ((stR n z fj fd (fun i9 => i9) S i).2.2.1)])), (r2, .inr (10, [.ref a2])), (a2, aI k 6 ((stR n z fj fd (fun i9 => i9) S i).2.1))]) rfl (by decide) (by decide) (by decide) (Nat.le_of_ble_eq_true rfl) ⟨Nat.le_of_ble_eq_true rfl, Nat.le_of_ble_eq_true rfl⟩ (fun rv w1 h1 => ?_)
                    obtain ⟨rfl, rfl⟩ := h1
                    refine G.aft [0, 1, 2, 3, 6, 7, 4, 5] (ws' := [(h, .inr (5, [.ref jj, .ref dd, .int (nI n), .int (nI z)])), (jj, aI k 36 fj), (dd, aI k 6 fd), (pp, .inr (8, [.ref h, .ref r1, .ref r2, .int ((stR n z fj fd (fun i9 => i9) S i).2.2.1)])), (r1, .inr (10, [.ref a1])), (a1, aI k 6 ((stR n z fj fd (fun i9 => i9) S i).1)), (r2, .inr (10, [.ref a2])), (a2, aI k 6 ((stR n z fj fd (fun i9 => i9) S i).2.1))]) (st' := [.int (((stR n z fj fd (fun i9 => i9) S i).1) i)]) (cells' := 0) (slots' := 0) (g' := 0) (by decide) rfl rfl rfl rfl rfl ?_
                    refine g_iload (pc := 85) C 0 rfl dX6_settleAll_85 ?_
                    refine g_idiv (pc := 87) C (fun q => c_64 (by rw [q]; decide)) dX6_settleAll_87 ?_
                    refine g_istore (pc := 88) C [(8, .int ((((stR n z fj fd (fun i9 => i9) S i).1) i) / (fd i))), (7, .int (fd i)), (6, .int (nI i)), (0, .ref pp), (1, .int 0), (2, .int ((stR n z fj fd (fun i9 => i9) S i).2.2.2)), (3, .int (nI r)), (4, .int S.2.2.2), (5, .int (nI i))] dX6_settleAll_88 (by decide) rfl ?_
                    refine g_aload_n (pc := 90) C 3 rfl rfl dX6_settleAll_90 ?_
                    refine g_iload (pc := 91) C 2 rfl dX6_settleAll_91 ?_
                    refine g_iload (pc := 93) C 0 rfl dX6_settleAll_93 ?_
                    refine g_callV (pc := 95) (cells := 0) (slots := 0) (g := 0) (As := [.int (nI i), .int ((((stR n z fj fd (fun i9 => i9) S i).1) i) / (fd i))]) (st := []) (T := TX6) (q0 := 3) C (nA := 2) rfl (c_X6_toppleTimes h jj dd n z fj fd pp r1 a1 r2 a2 ((stR n z fj fd (fun i9 => i9) S i).1) ((stR n z fj fd (fun i9 => i9) S i).2.1) ((stR n z fj fd (fun i9 => i9) S i).2.2.1) i ((((stR n z fj fd (fun i9 => i9) S i).1) i) / (fd i)) (by first | assumption | decide | omega) (by first | assumption | decide | omega) (by first | assumption | decide | omega)) q_71 q_72 q_70 q_43 q_69 (by decide +kernel) rfl rfl dX6_settleAll_95 ⟨Nat.le_of_ble_eq_true rfl, Nat.le_of_ble_eq_true rfl⟩ [0, 1, 2, 3, 4, 5, 6, 7] [] rfl (wr := []) rfl (by decide) (by decide) (by decide) (Nat.le_of_ble_eq_true rfl) ⟨Nat.le_of_ble_eq_true rfl, Nat.le_of_ble_eq_true rfl⟩ (fun rv w1 h1 => ?_)
                    obtain ⟨rfl, rfl⟩ := h1
                    refine G.aft [0, 1, 2, 3, 4, 5, 6, 7] (ws' := [(h, .inr (5, [.ref jj, .ref dd, .int (nI n), .int (nI z)])), (jj, aI k 36 fj), (dd, aI k 6 fd), (pp, .inr (8, [.ref h, .ref r1, .ref r2, .int (tpT z fj ((((stR n z fj fd (fun i9 => i9) S i).1) i) / (fd i)) i ((stR n z fj fd (fun i9 => i9) S i).2.2.1) n)])), (r1, .inr (10, [.ref a1])), (a1, aI k 6 (tpF z fj ((((stR n z fj fd (fun i9 => i9) S i).1) i) / (fd i)) i (upd ((stR n z fj fd (fun i9 => i9) S i).1) i (((stR n z fj fd (fun i9 => i9) S i).1) i + (-((((stR n z fj fd (fun i9 => i9) S i).1) i) / (fd i))) * fd i)) n)), (r2, .inr (10, [.ref a2])), (a2, aI k 6 (upd ((stR n z fj fd (fun i9 => i9) S i).2.1) i (((stR n z fj fd (fun i9 => i9) S i).2.1) i + ((((stR n z fj fd (fun i9 => i9) S i).1) i) / (fd i)))))]) (st' := []) (cells' := 0) (slots' := 0) (g' := 0) (by decide) rfl rfl rfl rfl rfl ?_
                    refine g_iload_n (pc := 98) C 5 rfl rfl dX6_settleAll_98 ?_
                    refine g_iload (pc := 99) C 0 rfl dX6_settleAll_99 ?_
                    refine g_iadd (pc := 101) C dX6_settleAll_101 ?_
                    refine g_istore_n (pc := 102) C [(2, .int (((stR n z fj fd (fun i9 => i9) S i).2.2.2) + ((((stR n z fj fd (fun i9 => i9) S i).1) i) / (fd i)))), (8, .int ((((stR n z fj fd (fun i9 => i9) S i).1) i) / (fd i))), (7, .int (fd i)), (6, .int (nI i)), (0, .ref pp), (1, .int 0), (3, .int (nI r)), (4, .int S.2.2.2), (5, .int (nI i))] rfl dX6_settleAll_102 (by decide) rfl ?_
                    refine g_iinc (pc := 103) (n := 1) (v := (nI (i + 1))) C 8 [(5, .int (nI (i + 1))), (2, .int (((stR n z fj fd (fun i9 => i9) S i).2.2.2) + ((((stR n z fj fd (fun i9 => i9) S i).1) i) / (fd i)))), (8, .int ((((stR n z fj fd (fun i9 => i9) S i).1) i) / (fd i))), (7, .int (fd i)), (6, .int (nI i)), (0, .ref pp), (1, .int 0), (3, .int (nI r)), (4, .int S.2.2.2)] rfl (nI_1 i) dX6_settleAll_103 (by decide) rfl ?_
                    refine g_goto (pc := 106) C 16 (by decide) dX6_settleAll_106 ?_
                    refine G.loc [5, 6, 1, 7, 8, 0] (lv' := [(0, .ref pp), (1, .int 0), (2, .int (((stR n z fj fd (fun i9 => i9) S i).2.2.2) + ((((stR n z fj fd (fun i9 => i9) S i).1) i) / (fd i)))), (3, .int (nI r)), (4, .int S.2.2.2), (5, .int (nI (i + 1)))]) rfl ?_
                    refine G.eqw (ws' := [(h, .inr (5, [.ref jj, .ref dd, .int (nI n), .int (nI z)])), (jj, aI k 36 fj), (dd, aI k 6 fd), (pp, .inr (8, [.ref h, .ref r1, .ref r2, .int ((stR n z fj fd (fun i9 => i9) S (i + 1)).2.2.1)])), (r1, .inr (10, [.ref a1])), (a1, aI k 6 (tpF z fj ((((stR n z fj fd (fun i9 => i9) S i).1) i) / (fd i)) i (upd ((stR n z fj fd (fun i9 => i9) S i).1) i (((stR n z fj fd (fun i9 => i9) S i).1) i + (-((((stR n z fj fd (fun i9 => i9) S i).1) i) / (fd i))) * fd i)) n)), (r2, .inr (10, [.ref a2])), (a2, aI k 6 (upd ((stR n z fj fd (fun i9 => i9) S i).2.1) i (((stR n z fj fd (fun i9 => i9) S i).2.1) i + ((((stR n z fj fd (fun i9 => i9) S i).1) i) / (fd i)))))]) (congrArg (β := va_W) (fun z9 => [(h, .inr (5, [.ref jj, .ref dd, .int (nI n), .int (nI z)])), (jj, aI k 36 fj), (dd, aI k 6 fd), (pp, .inr (8, [.ref h, .ref r1, .ref r2, .int z9])), (r1, .inr (10, [.ref a1])), (a1, aI k 6 (tpF z fj ((((stR n z fj fd (fun i9 => i9) S i).1) i) / (fd i)) i (upd ((stR n z fj fd (fun i9 => i9) S i).1) i (((stR n z fj fd (fun i9 => i9) S i).1) i + (-((((stR n z fj fd (fun i9 => i9) S i).1) i) / (fd i))) * fd i)) n)), (r2, .inr (10, [.ref a2])), (a2, aI k 6 (upd ((stR n z fj fd (fun i9 => i9) S i).2.1) i (((stR n z fj fd (fun i9 => i9) S i).2.1) i + ((((stR n z fj fd (fun i9 => i9) S i).1) i) / (fd i)))))]) (show ((tpT z fj ((((stR n z fj fd (fun i9 => i9) S i).1) i) / (fd i)) i ((stR n z fj fd (fun i9 => i9) S i).2.2.1) n) : Int32) = (stR n z fj fd (fun i9 => i9) S (i + 1)).2.2.1 from by first | rfl | (rw [h3]) | (show _ = (stV n z fj fd _ _).1 j; simp [stV, c_64]; done) | (simp [stR, stV, c_64]; done) | (simp [stR, stV, c_64, c_73]; done))) ?_
                    refine G.fn ((stR n z fj fd (fun i9 => i9) S (i + 1)).1) 5 [(h, .inr (5, [.ref jj, .ref dd, .int (nI n), .int (nI z)])), (jj, aI k 36 fj), (dd, aI k 6 fd), (pp, .inr (8, [.ref h, .ref r1, .ref r2, .int ((stR n z fj fd (fun i9 => i9) S (i + 1)).2.2.1)])), (r1, .inr (10, [.ref a1])), (a1, aI k 6 ((stR n z fj fd (fun i9 => i9) S (i + 1)).1)), (r2, .inr (10, [.ref a2])), (a2, aI k 6 (upd ((stR n z fj fd (fun i9 => i9) S i).2.1) i (((stR n z fj fd (fun i9 => i9) S i).2.1) i + ((((stR n z fj fd (fun i9 => i9) S i).1) i) / (fd i)))))] rfl (fun j hj => by first | rfl | (rw [h3]) | (show _ = (stV n z fj fd _ _).1 j; simp [stV, c_64]; done) | (simp [stR, stV, c_64]; done) | (simp [stR, stV, c_64, c_73]; done)) rfl ?_
                    refine G.fn ((stR n z fj fd (fun i9 => i9) S (i + 1)).2.1) 7 [(h, .inr (5, [.ref jj, .ref dd, .int (nI n), .int (nI z)])), (jj, aI k 36 fj), (dd, aI k 6 fd), (pp, .inr (8, [.ref h, .ref r1, .ref r2, .int ((stR n z fj fd (fun i9 => i9) S (i + 1)).2.2.1)])), (r1, .inr (10, [.ref a1])), (a1, aI k 6 ((stR n z fj fd (fun i9 => i9) S (i + 1)).1)), (r2, .inr (10, [.ref a2])), (a2, aI k 6 ((stR n z fj fd (fun i9 => i9) S (i + 1)).2.1))] rfl (fun j hj => by first | rfl | (rw [h3]) | (show _ = (stV n z fj fd _ _).1 j; simp [stV, c_64]; done) | (simp [stR, stV, c_64]; done) | (simp [stR, stV, c_64, c_73]; done)) rfl ?_
                    refine G.eql (lv' := [(0, .ref pp), (1, .int 0), (2, .int ((stR n z fj fd (fun i9 => i9) S (i + 1)).2.2.2)), (3, .int (nI r)), (4, .int S.2.2.2), (5, .int (nI (i + 1)))]) (congrArg (β := List (Nat × Value)) (fun z9 => [(0, .ref pp), (1, .int 0), (2, .int z9), (3, .int (nI r)), (4, .int S.2.2.2), (5, .int (nI (i + 1)))]) (show ((((stR n z fj fd (fun i9 => i9) S i).2.2.2) + ((((stR n z fj fd (fun i9 => i9) S i).1) i) / (fd i))) : Int32) = (stR n z fj fd (fun i9 => i9) S (i + 1)).2.2.2 from by first | rfl | (rw [h3]) | (show _ = (stV n z fj fd _ _).1 j; simp [stV, c_64]; done) | (simp [stR, stV, c_64]; done) | (simp [stR, stV, c_64, c_73]; done))) ?_
                    exact ih_16 (i + 1) (by omega) (by omega)
              · exact absurd c_29 (by decide)
        refine G.loc [2, 3, 4, 5, 1, 0] (lv' := [(0, .ref pp), (1, .int 0), (2, .int S.2.2.2), (3, .int (nI r)), (4, .int S.2.2.2), (5, .int 0)]) rfl ?_
        refine G.eqw (ws' := [(h, .inr (5, [.ref jj, .ref dd, .int (nI n), .int (nI z)])), (jj, aI k 36 fj), (dd, aI k 6 fd), (pp, .inr (8, [.ref h, .ref r1, .ref r2, .int ((stR n z fj fd (fun i9 => i9) S 0).2.2.1)])), (r1, .inr (10, [.ref a1])), (a1, aI k 6 S.1), (r2, .inr (10, [.ref a2])), (a2, aI k 6 S.2.1)]) (congrArg (β := va_W) (fun z9 => [(h, .inr (5, [.ref jj, .ref dd, .int (nI n), .int (nI z)])), (jj, aI k 36 fj), (dd, aI k 6 fd), (pp, .inr (8, [.ref h, .ref r1, .ref r2, .int z9])), (r1, .inr (10, [.ref a1])), (a1, aI k 6 S.1), (r2, .inr (10, [.ref a2])), (a2, aI k 6 S.2.1)]) (show (S.2.2.1 : Int32) = (stR n z fj fd (fun i9 => i9) S 0).2.2.1 from by rfl)) ?_
        refine G.fn ((stR n z fj fd (fun i9 => i9) S 0).1) 5 [(h, .inr (5, [.ref jj, .ref dd, .int (nI n), .int (nI z)])), (jj, aI k 36 fj), (dd, aI k 6 fd), (pp, .inr (8, [.ref h, .ref r1, .ref r2, .int ((stR n z fj fd (fun i9 => i9) S 0).2.2.1)])), (r1, .inr (10, [.ref a1])), (a1, aI k 6 ((stR n z fj fd (fun i9 => i9) S 0).1)), (r2, .inr (10, [.ref a2])), (a2, aI k 6 S.2.1)] rfl (fun j hj => by rfl) rfl ?_
        refine G.fn ((stR n z fj fd (fun i9 => i9) S 0).2.1) 7 [(h, .inr (5, [.ref jj, .ref dd, .int (nI n), .int (nI z)])), (jj, aI k 36 fj), (dd, aI k 6 fd), (pp, .inr (8, [.ref h, .ref r1, .ref r2, .int ((stR n z fj fd (fun i9 => i9) S 0).2.2.1)])), (r1, .inr (10, [.ref a1])), (a1, aI k 6 ((stR n z fj fd (fun i9 => i9) S 0).1)), (r2, .inr (10, [.ref a2])), (a2, aI k 6 ((stR n z fj fd (fun i9 => i9) S 0).2.1))] rfl (fun j hj => by rfl) rfl ?_
        refine G.eql (lv' := [(0, .ref pp), (1, .int 0), (2, .int ((stR n z fj fd (fun i9 => i9) S 0).2.2.2)), (3, .int (nI r)), (4, .int S.2.2.2), (5, .int (nI 0))]) ((congrArg (β := List (Nat × Value)) (fun z9 => [(0, .ref pp), (1, .int 0), (2, .int z9), (3, .int (nI r)), (4, .int S.2.2.2), (5, .int 0)]) (show (S.2.2.2 : Int32) = (stR n z fj fd (fun i9 => i9) S 0).2.2.2 from by first | rfl | exact nI_0.symm)).trans (congrArg (β := List (Nat × Value)) (fun z9 => [(0, .ref pp), (1, .int 0), (2, .int ((stR n z fj fd (fun i9 => i9) S 0).2.2.2)), (3, .int (nI r)), (4, .int S.2.2.2), (5, .int z9)]) (show (0 : Int32) = (nI 0) from by first | rfl | exact nI_0.symm))) ?_
        exact key_16 (n - 0 + 1) 0 (by omega) (Nat.lt_succ_self _)
  refine G.loc [2, 3, 1, 0] (lv' := [(0, .ref pp), (1, .int 0), (2, .int 0), (3, .int 0)]) rfl ?_
  refine G.eqw (ws' := [(h, .inr (5, [.ref jj, .ref dd, .int (nI n), .int (nI z)])), (jj, aI k 36 fj), (dd, aI k 6 fd), (pp, .inr (8, [.ref h, .ref r1, .ref r2, .int ((f, ct, tk, 0).2.2.1)])), (r1, .inr (10, [.ref a1])), (a1, aI k 6 f), (r2, .inr (10, [.ref a2])), (a2, aI k 6 ct)]) (congrArg (β := va_W) (fun z9 => [(h, .inr (5, [.ref jj, .ref dd, .int (nI n), .int (nI z)])), (jj, aI k 36 fj), (dd, aI k 6 fd), (pp, .inr (8, [.ref h, .ref r1, .ref r2, .int z9])), (r1, .inr (10, [.ref a1])), (a1, aI k 6 f), (r2, .inr (10, [.ref a2])), (a2, aI k 6 ct)]) (show (tk : Int32) = (f, ct, tk, 0).2.2.1 from by rfl)) ?_
  refine G.fn ((f, ct, tk, 0).1) 5 [(h, .inr (5, [.ref jj, .ref dd, .int (nI n), .int (nI z)])), (jj, aI k 36 fj), (dd, aI k 6 fd), (pp, .inr (8, [.ref h, .ref r1, .ref r2, .int ((f, ct, tk, 0).2.2.1)])), (r1, .inr (10, [.ref a1])), (a1, aI k 6 ((f, ct, tk, 0).1)), (r2, .inr (10, [.ref a2])), (a2, aI k 6 ct)] rfl (fun j hj => by rfl) rfl ?_
  refine G.fn ((f, ct, tk, 0).2.1) 7 [(h, .inr (5, [.ref jj, .ref dd, .int (nI n), .int (nI z)])), (jj, aI k 36 fj), (dd, aI k 6 fd), (pp, .inr (8, [.ref h, .ref r1, .ref r2, .int ((f, ct, tk, 0).2.2.1)])), (r1, .inr (10, [.ref a1])), (a1, aI k 6 ((f, ct, tk, 0).1)), (r2, .inr (10, [.ref a2])), (a2, aI k 6 ((f, ct, tk, 0).2.1))] rfl (fun j hj => by rfl) rfl ?_
  refine G.eql (lv' := [(0, .ref pp), (1, .int 0), (2, .int ((f, ct, tk, 0).2.2.2)), (3, .int (nI 0))]) ((congrArg (β := List (Nat × Value)) (fun z9 => [(0, .ref pp), (1, .int 0), (2, .int z9), (3, .int 0)]) (show (0 : Int32) = (f, ct, tk, 0).2.2.2 from by first | rfl | exact nI_0.symm)).trans (congrArg (β := List (Nat × Value)) (fun z9 => [(0, .ref pp), (1, .int 0), (2, .int ((f, ct, tk, 0).2.2.2)), (3, .int z9)]) (show (0 : Int32) = (nI 0) from by first | rfl | exact nI_0.symm))) ?_
  exact key_4 (mR - 0 + 1) 0 (f, ct, tk, 0) (by omega) rfl (Nat.lt_succ_self _)
set_option maxRecDepth 100000 in
set_option maxHeartbeats 400000 in
theorem c_X6_settleAll_hi {l : Launch} {D : va_G} {k : Nat → ClassId} (h : Nat) (jj : Nat) (dd : Nat) (n : Nat) (z : Nat) (fj : Nat → Int32) (fd : Nat → Int32) (pp : Nat) (r1 : Nat) (a1 : Nat) (r2 : Nat) (a2 : Nat) (f : Nat → Int32) (ct : Nat → Int32) (tk : Int32) (hn : n ≤ 6) (hz : z < 6) : CM l D k yX6_settleAll cX6_settleAll 9 (some .int)  2 47 [.ref pp, .int 1] [(h, .inr (5, [.ref jj, .ref dd, .int (nI n), .int (nI z)])), (jj, aI k 36 fj), (dd, aI k 6 fd), (pp, .inr (8, [.ref h, .ref r1, .ref r2, .int tk])), (r1, .inr (10, [.ref a1])), (a1, aI k 6 f), (r2, .inr (10, [.ref a2])), (a2, aI k 6 ct)] (is1 (some (.int ((stA n z fj fd (fun i9 => n - 1 - i9) mR (f, ct, tk, 0)).2.2.2))) [(h, .inr (5, [.ref jj, .ref dd, .int (nI n), .int (nI z)])), (jj, aI k 36 fj), (dd, aI k 6 fd), (pp, .inr (8, [.ref h, .ref r1, .ref r2, .int ((stA n z fj fd (fun i9 => n - 1 - i9) mR (f, ct, tk, 0)).2.2.1)])), (r1, .inr (10, [.ref a1])), (a1, aI k 6 ((stA n z fj fd (fun i9 => n - 1 - i9) mR (f, ct, tk, 0)).1)), (r2, .inr (10, [.ref a2])), (a2, aI k 6 ((stA n z fj fd (fun i9 => n - 1 - i9) mR (f, ct, tk, 0)).2.1))]) 0 0 0 := by
  refine CM.of (lv0 := [(0, .ref pp), (1, .int 1)]) (by decide +kernel) (Nat.le_of_ble_eq_true rfl) rfl ?_
  intro p9 e9 s9 m9 bl9 me9 co9 C hr hlk hin had
  refine g_iconst (pc := 0) (v := 0) C (by decide) dX6_settleAll_0 ?_
  refine g_istore_n (pc := 1) C [(2, .int 0), (0, .ref pp), (1, .int 1)] rfl dX6_settleAll_1 (by decide) rfl ?_
  refine g_iconst (pc := 2) (v := 0) C (by decide) dX6_settleAll_2 ?_
  refine g_istore_n (pc := 3) C [(3, .int 0), (2, .int 0), (0, .ref pp), (1, .int 1)] rfl dX6_settleAll_3 (by decide) rfl ?_
  have key_4 : ∀ (fuel : Nat) (r : Nat) (S : (Nat → Int32) × (Nat → Int32) × Int32 × Int32), r ≤ mR → stA n z fj fd (fun i9 => n - 1 - i9) (mR - r) S = (stA n z fj fd (fun i9 => n - 1 - i9) mR (f, ct, tk, 0)) → mR - r < fuel → G p9 l e9 { frames := 2, cells := 0, slots := 0, locals := 47 } s9 m9 ([.ref pp, .int 1] : List Value).toArray bl9 me9 co9 D 9 (va_A [(h, .inr (5, [.ref jj, .ref dd, .int (nI n), .int (nI z)])), (jj, aI k 36 fj), (dd, aI k 6 fd), (pp, .inr (8, [.ref h, .ref r1, .ref r2, .int tk])), (r1, .inr (10, [.ref a1])), (a1, aI k 6 f), (r2, .inr (10, [.ref a2])), (a2, aI k 6 ct)] s9.heap.size) (QM bl9 D ([.ref pp, .int 1] : List Value).toArray s9 [(h, .inr (5, [.ref jj, .ref dd, .int (nI n), .int (nI z)])), (jj, aI k 36 fj), (dd, aI k 6 fd), (pp, .inr (8, [.ref h, .ref r1, .ref r2, .int tk])), (r1, .inr (10, [.ref a1])), (a1, aI k 6 f), (r2, .inr (10, [.ref a2])), (a2, aI k 6 ct)] (is1 (some (.int ((stA n z fj fd (fun i9 => n - 1 - i9) mR (f, ct, tk, 0)).2.2.2))) [(h, .inr (5, [.ref jj, .ref dd, .int (nI n), .int (nI z)])), (jj, aI k 36 fj), (dd, aI k 6 fd), (pp, .inr (8, [.ref h, .ref r1, .ref r2, .int ((stA n z fj fd (fun i9 => n - 1 - i9) mR (f, ct, tk, 0)).2.2.1)])), (r1, .inr (10, [.ref a1])), (a1, aI k 6 ((stA n z fj fd (fun i9 => n - 1 - i9) mR (f, ct, tk, 0)).1)), (r2, .inr (10, [.ref a2])), (a2, aI k 6 ((stA n z fj fd (fun i9 => n - 1 - i9) mR (f, ct, tk, 0)).2.1))]) 0 0 0) [(h, .inr (5, [.ref jj, .ref dd, .int (nI n), .int (nI z)])), (jj, aI k 36 fj), (dd, aI k 6 fd), (pp, .inr (8, [.ref h, .ref r1, .ref r2, .int S.2.2.1])), (r1, .inr (10, [.ref a1])), (a1, aI k 6 S.1), (r2, .inr (10, [.ref a2])), (a2, aI k 6 S.2.1)] [(0, .ref pp), (1, .int 1), (2, .int S.2.2.2), (3, .int (nI r))] 0 0 0 4 [] := by
    intro fuel
    induction fuel with
    | zero => intro r S hr1 hS hm; exact absurd hm (Nat.not_lt_zero _)
    | succ fuel ih =>
      intro r S hr1 hS hm
      have ih_4 := ih
      have hmR : mR = 1000000 := rfl
      refine g_iload_n (pc := 4) C 3 rfl rfl dX6_settleAll_4 ?_
      refine g_ldc (pc := 5) C (v := 1000000) q_194 dX6_settleAll_5 ?_
      refine g_icmp_ge (pc := 7) C 123 (by decide) dX6_settleAll_7 (fun c_7 => ?_) (fun c_7 => ?_)
      · have h7 : r = mR := by { have := nle_ge (b := mR) (by rw [mR_e]; omega) c_7; omega }
        refine g_iload_n (pc := 123) C 2 rfl rfl dX6_settleAll_123 ?_
        refine G.eqw (ws' := [(h, .inr (5, [.ref jj, .ref dd, .int (nI n), .int (nI z)])), (jj, aI k 36 fj), (dd, aI k 6 fd), (pp, .inr (8, [.ref h, .ref r1, .ref r2, .int ((stA n z fj fd (fun i9 => n - 1 - i9) mR (f, ct, tk, 0)).2.2.1)])), (r1, .inr (10, [.ref a1])), (a1, aI k 6 S.1), (r2, .inr (10, [.ref a2])), (a2, aI k 6 S.2.1)]) (congrArg (β := va_W) (fun z9 => [(h, .inr (5, [.ref jj, .ref dd, .int (nI n), .int (nI z)])), (jj, aI k 36 fj), (dd, aI k 6 fd), (pp, .inr (8, [.ref h, .ref r1, .ref r2, .int z9])), (r1, .inr (10, [.ref a1])), (a1, aI k 6 S.1), (r2, .inr (10, [.ref a2])), (a2, aI k 6 S.2.1)]) (show (S.2.2.1 : Int32) = (stA n z fj fd (fun i9 => n - 1 - i9) mR (f, ct, tk, 0)).2.2.1 from by { subst h7; rw [Nat.sub_self] at hS; rw [show S = _ from hS] })) ?_
        refine G.fn ((stA n z fj fd (fun i9 => n - 1 - i9) mR (f, ct, tk, 0)).1) 5 [(h, .inr (5, [.ref jj, .ref dd, .int (nI n), .int (nI z)])), (jj, aI k 36 fj), (dd, aI k 6 fd), (pp, .inr (8, [.ref h, .ref r1, .ref r2, .int ((stA n z fj fd (fun i9 => n - 1 - i9) mR (f, ct, tk, 0)).2.2.1)])), (r1, .inr (10, [.ref a1])), (a1, aI k 6 ((stA n z fj fd (fun i9 => n - 1 - i9) mR (f, ct, tk, 0)).1)), (r2, .inr (10, [.ref a2])), (a2, aI k 6 S.2.1)] rfl (fun j hj => by { subst h7; rw [Nat.sub_self] at hS; rw [show S = _ from hS] }) rfl ?_
        refine G.fn ((stA n z fj fd (fun i9 => n - 1 - i9) mR (f, ct, tk, 0)).2.1) 7 [(h, .inr (5, [.ref jj, .ref dd, .int (nI n), .int (nI z)])), (jj, aI k 36 fj), (dd, aI k 6 fd), (pp, .inr (8, [.ref h, .ref r1, .ref r2, .int ((stA n z fj fd (fun i9 => n - 1 - i9) mR (f, ct, tk, 0)).2.2.1)])), (r1, .inr (10, [.ref a1])), (a1, aI k 6 ((stA n z fj fd (fun i9 => n - 1 - i9) mR (f, ct, tk, 0)).1)), (r2, .inr (10, [.ref a2])), (a2, aI k 6 ((stA n z fj fd (fun i9 => n - 1 - i9) mR (f, ct, tk, 0)).2.1))] rfl (fun j hj => by { subst h7; rw [Nat.sub_self] at hS; rw [show S = _ from hS] }) rfl ?_
        refine G.eqs (st' := [.int ((stA n z fj fd (fun i9 => n - 1 - i9) mR (f, ct, tk, 0)).2.2.2)]) (congrArg (fun z9 => [Value.int z9]) (show (S.2.2.2 : Int32) = (stA n z fj fd (fun i9 => n - 1 - i9) mR (f, ct, tk, 0)).2.2.2 from by { subst h7; rw [Nat.sub_self] at hS; rw [show S = _ from hS] })) ?_
        exact g_iret (pc := 124) C hr hlk (by first | decide | omega) (by first | decide | omega) (by first | decide | omega) dX6_settleAll_124 ⟨rfl, rfl⟩
      · have h7 : r < mR := nle_lt (b := mR) (by omega) c_7
        refine g_iload_n (pc := 10) C 2 rfl rfl dX6_settleAll_10 ?_
        refine g_istore (pc := 11) C [(4, .int S.2.2.2), (0, .ref pp), (1, .int 1), (2, .int S.2.2.2), (3, .int (nI r))] dX6_settleAll_11 (by decide) rfl ?_
        refine g_iconst (pc := 13) (v := 0) C (by decide) dX6_settleAll_13 ?_
        refine g_istore (pc := 14) C [(5, .int 0), (4, .int S.2.2.2), (0, .ref pp), (1, .int 1), (2, .int S.2.2.2), (3, .int (nI r))] dX6_settleAll_14 (by decide) rfl ?_
        have key_16 : ∀ (fuel : Nat) (i : Nat), i ≤ n → n - i < fuel → G p9 l e9 { frames := 2, cells := 0, slots := 0, locals := 47 } s9 m9 ([.ref pp, .int 1] : List Value).toArray bl9 me9 co9 D 9 (va_A [(h, .inr (5, [.ref jj, .ref dd, .int (nI n), .int (nI z)])), (jj, aI k 36 fj), (dd, aI k 6 fd), (pp, .inr (8, [.ref h, .ref r1, .ref r2, .int tk])), (r1, .inr (10, [.ref a1])), (a1, aI k 6 f), (r2, .inr (10, [.ref a2])), (a2, aI k 6 ct)] s9.heap.size) (QM bl9 D ([.ref pp, .int 1] : List Value).toArray s9 [(h, .inr (5, [.ref jj, .ref dd, .int (nI n), .int (nI z)])), (jj, aI k 36 fj), (dd, aI k 6 fd), (pp, .inr (8, [.ref h, .ref r1, .ref r2, .int tk])), (r1, .inr (10, [.ref a1])), (a1, aI k 6 f), (r2, .inr (10, [.ref a2])), (a2, aI k 6 ct)] (is1 (some (.int ((stA n z fj fd (fun i9 => n - 1 - i9) mR (f, ct, tk, 0)).2.2.2))) [(h, .inr (5, [.ref jj, .ref dd, .int (nI n), .int (nI z)])), (jj, aI k 36 fj), (dd, aI k 6 fd), (pp, .inr (8, [.ref h, .ref r1, .ref r2, .int ((stA n z fj fd (fun i9 => n - 1 - i9) mR (f, ct, tk, 0)).2.2.1)])), (r1, .inr (10, [.ref a1])), (a1, aI k 6 ((stA n z fj fd (fun i9 => n - 1 - i9) mR (f, ct, tk, 0)).1)), (r2, .inr (10, [.ref a2])), (a2, aI k 6 ((stA n z fj fd (fun i9 => n - 1 - i9) mR (f, ct, tk, 0)).2.1))]) 0 0 0) [(h, .inr (5, [.ref jj, .ref dd, .int (nI n), .int (nI z)])), (jj, aI k 36 fj), (dd, aI k 6 fd), (pp, .inr (8, [.ref h, .ref r1, .ref r2, .int ((stR n z fj fd (fun i9 => n - 1 - i9) S i).2.2.1)])), (r1, .inr (10, [.ref a1])), (a1, aI k 6 ((stR n z fj fd (fun i9 => n - 1 - i9) S i).1)), (r2, .inr (10, [.ref a2])), (a2, aI k 6 ((stR n z fj fd (fun i9 => n - 1 - i9) S i).2.1))] [(0, .ref pp), (1, .int 1), (2, .int ((stR n z fj fd (fun i9 => n - 1 - i9) S i).2.2.2)), (3, .int (nI r)), (4, .int S.2.2.2), (5, .int (nI i))] 0 0 0 16 [] := by
          intro fuel
          induction fuel with
          | zero => intro i hi hm; exact absurd hm (Nat.not_lt_zero _)
          | succ fuel ih =>
            intro i hi hm
            have ih_16 := ih
            refine g_iload (pc := 16) C 5 rfl dX6_settleAll_16 ?_
            refine g_aload_n (pc := 18) C 0 rfl rfl dX6_settleAll_18 ?_
            refine g_get (pc := 19) C (T := TX6) inX6 3 rfl rfl 0 (by decide) q_37 rfl rfl dX6_settleAll_19 ?_
            refine g_callV (pc := 22) (cells := 0) (slots := 0) (g := 0) (As := []) (st := [.int (nI i)]) (T := TX3) (q0 := 0) C (nA := 0) rfl (c_X3_size h jj dd n z fj fd ) q_66 q_67 q_65 q_16 q_64 (by decide +kernel) rfl rfl dX6_settleAll_22 ⟨Nat.le_of_ble_eq_true rfl, Nat.le_of_ble_eq_true rfl⟩ [0, 1, 2] [3, 4, 5, 6, 7] rfl (wr := [(pp, .inr (8, [.ref h, .ref r1, .ref r2, .int ((stR n z fj fd (fun i9 => n - 1 - i9) S i).2.2.1)])), (r1, .inr (10, [.ref a1])), (a1, aI k 6 ((stR n z fj fd (fun i9 => n - 1 - i9) S i).1)), (r2, .inr (10, [.ref a2])), (a2, aI k 6 ((stR n z fj fd (fun i9 => n - 1 - i9) S i).2.1))]) rfl (by decide) (by decide) (by decide) (Nat.le_of_ble_eq_true rfl) ⟨Nat.le_of_ble_eq_true rfl, Nat.le_of_ble_eq_true rfl⟩ (fun rv w1 h1 => ?_)
            obtain ⟨rfl, rfl⟩ := h1
            refine G.aft [5, 6, 7, 0, 1, 2, 3, 4] (ws' := [(h, .inr (5, [.ref jj, .ref dd, .int (nI n), .int (nI z)])), (jj, aI k 36 fj), (dd, aI k 6 fd), (pp, .inr (8, [.ref h, .ref r1, .ref r2, .int ((stR n z fj fd (fun i9 => n - 1 - i9) S i).2.2.1)])), (r1, .inr (10, [.ref a1])), (a1, aI k 6 ((stR n z fj fd (fun i9 => n - 1 - i9) S i).1)), (r2, .inr (10, [.ref a2])), (a2, aI k 6 ((stR n z fj fd (fun i9 => n - 1 - i9) S i).2.1))]) (st' := [.int (nI n), .int (nI i)]) (cells' := 0) (slots' := 0) (g' := 0) (by decide) rfl rfl rfl rfl rfl ?_
            refine g_icmp_ge (pc := 25) C 109 (by decide) dX6_settleAll_25 (fun c_25 => ?_) (fun c_25 => ?_)
            · have h3 : i = n := by { have := nle_ge (b := n) (a := i) (by omega) c_25; omega }
              refine g_iload_n (pc := 109) C 2 rfl rfl dX6_settleAll_109 ?_
              refine g_iload (pc := 110) C 4 rfl dX6_settleAll_110 ?_
              refine g_icmp_ne (pc := 112) C 117 (by decide) dX6_settleAll_112 (fun c_112 => ?_) (fun c_112 => ?_)
              · rw [h3] at c_112
                refine g_iinc (pc := 117) (n := 1) (v := (nI (r + 1))) C 3 [(3, .int (nI (r + 1))), (0, .ref pp), (1, .int 1), (2, .int ((stR n z fj fd (fun i9 => n - 1 - i9) S i).2.2.2)), (4, .int S.2.2.2), (5, .int (nI i))] rfl (nI_1 r) dX6_settleAll_117 (by decide) rfl ?_
                refine g_goto (pc := 120) C 4 (by decide) dX6_settleAll_120 ?_
                refine G.loc [1, 2, 3, 0] (lv' := [(0, .ref pp), (1, .int 1), (2, .int ((stR n z fj fd (fun i9 => n - 1 - i9) S i).2.2.2)), (3, .int (nI (r + 1)))]) rfl ?_
                refine G.eqw (ws' := [(h, .inr (5, [.ref jj, .ref dd, .int (nI n), .int (nI z)])), (jj, aI k 36 fj), (dd, aI k 6 fd), (pp, .inr (8, [.ref h, .ref r1, .ref r2, .int ((stR n z fj fd (fun i9 => n - 1 - i9) S n).2.2.1)])), (r1, .inr (10, [.ref a1])), (a1, aI k 6 ((stR n z fj fd (fun i9 => n - 1 - i9) S i).1)), (r2, .inr (10, [.ref a2])), (a2, aI k 6 ((stR n z fj fd (fun i9 => n - 1 - i9) S i).2.1))]) (congrArg (β := va_W) (fun z9 => [(h, .inr (5, [.ref jj, .ref dd, .int (nI n), .int (nI z)])), (jj, aI k 36 fj), (dd, aI k 6 fd), (pp, .inr (8, [.ref h, .ref r1, .ref r2, .int z9])), (r1, .inr (10, [.ref a1])), (a1, aI k 6 ((stR n z fj fd (fun i9 => n - 1 - i9) S i).1)), (r2, .inr (10, [.ref a2])), (a2, aI k 6 ((stR n z fj fd (fun i9 => n - 1 - i9) S i).2.1))]) (show ((stR n z fj fd (fun i9 => n - 1 - i9) S i).2.2.1 : Int32) = (stR n z fj fd (fun i9 => n - 1 - i9) S n).2.2.1 from by first | rfl | (rw [h3]))) ?_
                refine G.fn ((stR n z fj fd (fun i9 => n - 1 - i9) S n).1) 5 [(h, .inr (5, [.ref jj, .ref dd, .int (nI n), .int (nI z)])), (jj, aI k 36 fj), (dd, aI k 6 fd), (pp, .inr (8, [.ref h, .ref r1, .ref r2, .int ((stR n z fj fd (fun i9 => n - 1 - i9) S n).2.2.1)])), (r1, .inr (10, [.ref a1])), (a1, aI k 6 ((stR n z fj fd (fun i9 => n - 1 - i9) S n).1)), (r2, .inr (10, [.ref a2])), (a2, aI k 6 ((stR n z fj fd (fun i9 => n - 1 - i9) S i).2.1))] rfl (fun j hj => by first | rfl | (rw [h3])) rfl ?_
                refine G.fn ((stR n z fj fd (fun i9 => n - 1 - i9) S n).2.1) 7 [(h, .inr (5, [.ref jj, .ref dd, .int (nI n), .int (nI z)])), (jj, aI k 36 fj), (dd, aI k 6 fd), (pp, .inr (8, [.ref h, .ref r1, .ref r2, .int ((stR n z fj fd (fun i9 => n - 1 - i9) S n).2.2.1)])), (r1, .inr (10, [.ref a1])), (a1, aI k 6 ((stR n z fj fd (fun i9 => n - 1 - i9) S n).1)), (r2, .inr (10, [.ref a2])), (a2, aI k 6 ((stR n z fj fd (fun i9 => n - 1 - i9) S n).2.1))] rfl (fun j hj => by first | rfl | (rw [h3])) rfl ?_
                refine G.eql (lv' := [(0, .ref pp), (1, .int 1), (2, .int ((stR n z fj fd (fun i9 => n - 1 - i9) S n).2.2.2)), (3, .int (nI (r + 1)))]) (congrArg (β := List (Nat × Value)) (fun z9 => [(0, .ref pp), (1, .int 1), (2, .int z9), (3, .int (nI (r + 1)))]) (show ((stR n z fj fd (fun i9 => n - 1 - i9) S i).2.2.2 : Int32) = (stR n z fj fd (fun i9 => n - 1 - i9) S n).2.2.2 from by first | rfl | (rw [h3]))) ?_
                exact ih_4 (r + 1) (stR n z fj fd (fun i9 => n - 1 - i9) S n) (by omega) (stA_n (show mR - r = (mR - (r + 1)) + 1 by omega) hS c_112) (by omega)
              · rw [h3] at c_112
                have hE := stA_e (show mR - r = (mR - (r + 1)) + 1 by omega) hS c_112
                refine g_iload_n (pc := 115) C 2 rfl rfl dX6_settleAll_115 ?_
                refine G.eqw (ws' := [(h, .inr (5, [.ref jj, .ref dd, .int (nI n), .int (nI z)])), (jj, aI k 36 fj), (dd, aI k 6 fd), (pp, .inr (8, [.ref h, .ref r1, .ref r2, .int ((stA n z fj fd (fun i9 => n - 1 - i9) mR (f, ct, tk, 0)).2.2.1)])), (r1, .inr (10, [.ref a1])), (a1, aI k 6 ((stR n z fj fd (fun i9 => n - 1 - i9) S i).1)), (r2, .inr (10, [.ref a2])), (a2, aI k 6 ((stR n z fj fd (fun i9 => n - 1 - i9) S i).2.1))]) (congrArg (β := va_W) (fun z9 => [(h, .inr (5, [.ref jj, .ref dd, .int (nI n), .int (nI z)])), (jj, aI k 36 fj), (dd, aI k 6 fd), (pp, .inr (8, [.ref h, .ref r1, .ref r2, .int z9])), (r1, .inr (10, [.ref a1])), (a1, aI k 6 ((stR n z fj fd (fun i9 => n - 1 - i9) S i).1)), (r2, .inr (10, [.ref a2])), (a2, aI k 6 ((stR n z fj fd (fun i9 => n - 1 - i9) S i).2.1))]) (show ((stR n z fj fd (fun i9 => n - 1 - i9) S i).2.2.1 : Int32) = (stA n z fj fd (fun i9 => n - 1 - i9) mR (f, ct, tk, 0)).2.2.1 from by { rw [h3, hE] })) ?_
                refine G.fn ((stA n z fj fd (fun i9 => n - 1 - i9) mR (f, ct, tk, 0)).1) 5 [(h, .inr (5, [.ref jj, .ref dd, .int (nI n), .int (nI z)])), (jj, aI k 36 fj), (dd, aI k 6 fd), (pp, .inr (8, [.ref h, .ref r1, .ref r2, .int ((stA n z fj fd (fun i9 => n - 1 - i9) mR (f, ct, tk, 0)).2.2.1)])), (r1, .inr (10, [.ref a1])), (a1, aI k 6 ((stA n z fj fd (fun i9 => n - 1 - i9) mR (f, ct, tk, 0)).1)), (r2, .inr (10, [.ref a2])), (a2, aI k 6 ((stR n z fj fd (fun i9 => n - 1 - i9) S i).2.1))] rfl (fun j hj => by { rw [h3, hE] }) rfl ?_
                refine G.fn ((stA n z fj fd (fun i9 => n - 1 - i9) mR (f, ct, tk, 0)).2.1) 7 [(h, .inr (5, [.ref jj, .ref dd, .int (nI n), .int (nI z)])), (jj, aI k 36 fj), (dd, aI k 6 fd), (pp, .inr (8, [.ref h, .ref r1, .ref r2, .int ((stA n z fj fd (fun i9 => n - 1 - i9) mR (f, ct, tk, 0)).2.2.1)])), (r1, .inr (10, [.ref a1])), (a1, aI k 6 ((stA n z fj fd (fun i9 => n - 1 - i9) mR (f, ct, tk, 0)).1)), (r2, .inr (10, [.ref a2])), (a2, aI k 6 ((stA n z fj fd (fun i9 => n - 1 - i9) mR (f, ct, tk, 0)).2.1))] rfl (fun j hj => by { rw [h3, hE] }) rfl ?_
                refine G.eqs (st' := [.int ((stA n z fj fd (fun i9 => n - 1 - i9) mR (f, ct, tk, 0)).2.2.2)]) (congrArg (fun z9 => [Value.int z9]) (show ((stR n z fj fd (fun i9 => n - 1 - i9) S i).2.2.2 : Int32) = (stA n z fj fd (fun i9 => n - 1 - i9) mR (f, ct, tk, 0)).2.2.2 from by { rw [h3, hE] })) ?_
                exact g_iret (pc := 116) C hr hlk (by first | decide | omega) (by first | decide | omega) (by first | decide | omega) dX6_settleAll_116 ⟨rfl, rfl⟩
            · have hl25 : i < n := nle_lt (by omega) c_25
              refine g_iload_n (pc := 28) C 1 rfl rfl dX6_settleAll_28 ?_
              refine g_if_eq (pc := 29) C 47 (by decide) dX6_settleAll_29 (fun c_29 => ?_) (fun c_29 => ?_)
              · exact absurd c_29 (by decide)
              · refine g_aload_n (pc := 32) C 0 rfl rfl dX6_settleAll_32 ?_
                refine g_get (pc := 33) C (T := TX6) inX6 3 rfl rfl 0 (by decide) q_37 rfl rfl dX6_settleAll_33 ?_
                refine g_callV (pc := 36) (cells := 0) (slots := 0) (g := 0) (As := []) (st := []) (T := TX3) (q0 := 0) C (nA := 0) rfl (c_X3_size h jj dd n z fj fd ) q_66 q_67 q_65 q_16 q_64 (by decide +kernel) rfl rfl dX6_settleAll_36 ⟨Nat.le_of_ble_eq_true rfl, Nat.le_of_ble_eq_true rfl⟩ [0, 1, 2] [3, 4, 5, 6, 7] rfl (wr := [(pp, .inr (8, [.ref h, .ref r1, .ref r2, .int ((stR n z fj fd (fun i9 => n - 1 - i9) S i).2.2.1)])), (r1, .inr (10, [.ref a1])), (a1, aI k 6 ((stR n z fj fd (fun i9 => n - 1 - i9) S i).1)), (r2, .inr (10, [.ref a2])), (a2, aI k 6 ((stR n z fj fd (fun i9 => n - 1 - i9) S i).2.1))]) rfl (by decide) (by decide) (by decide) (Nat.le_of_ble_eq_true rfl) ⟨Nat.le_of_ble_eq_true rfl, Nat.le_of_ble_eq_true rfl⟩ (fun rv w1 h1 => ?_)
                obtain ⟨rfl, rfl⟩ := h1
                refine G.aft [5, 6, 7, 0, 1, 2, 3, 4] (ws' := [(h, .inr (5, [.ref jj, .ref dd, .int (nI n), .int (nI z)])), (jj, aI k 36 fj), (dd, aI k 6 fd), (pp, .inr (8, [.ref h, .ref r1, .ref r2, .int ((stR n z fj fd (fun i9 => n - 1 - i9) S i).2.2.1)])), (r1, .inr (10, [.ref a1])), (a1, aI k 6 ((stR n z fj fd (fun i9 => n - 1 - i9) S i).1)), (r2, .inr (10, [.ref a2])), (a2, aI k 6 ((stR n z fj fd (fun i9 => n - 1 - i9) S i).2.1))]) (st' := [.int (nI n)]) (cells' := 0) (slots' := 0) (g' := 0) (by decide) rfl rfl rfl rfl rfl ?_
                refine g_iconst (pc := 39) (v := 1) C (by decide) dX6_settleAll_39 ?_
                refine g_isub (pc := 40) C dX6_settleAll_40 ?_
                refine g_iload (pc := 41) C 5 rfl dX6_settleAll_41 ?_
                refine g_isub (pc := 43) C dX6_settleAll_43 ?_
                refine g_goto (pc := 44) C 49 (by decide) dX6_settleAll_44 ?_
                refine G.eqs (st' := [.int (nI (n - 1 - i))]) (congrArg (β := List Value) (fun z9 => [.int z9]) (show ((((nI n) - 1) - (nI i)) : Int32) = (nI (n - 1 - i)) from (by rw [show (nI n - 1 : Int32) = nI (n - 1) from pk_sub (a := n) (b := 1) (by omega)]; exact pk_sub (by omega)))) ?_
                refine g_istore (pc := 49) C [(6, .int (nI (n - 1 - i))), (0, .ref pp), (1, .int 1), (2, .int ((stR n z fj fd (fun i9 => n - 1 - i9) S i).2.2.2)), (3, .int (nI r)), (4, .int S.2.2.2), (5, .int (nI i))] dX6_settleAll_49 (by decide) rfl ?_
                refine g_aload_n (pc := 51) C 1 rfl rfl dX6_settleAll_51 ?_
                refine g_get (pc := 52) C (T := TX6) inX6 3 rfl rfl 0 (by decide) q_37 rfl rfl dX6_settleAll_52 ?_
                refine g_iload (pc := 55) C 0 rfl dX6_settleAll_55 ?_
                refine g_callV (pc := 57) (cells := 0) (slots := 0) (g := 0) (As := [.int (nI (n - 1 - i))]) (st := []) (T := TX3) (q0 := 0) C (nA := 1) rfl (c_X3_degreeOf h jj dd n z fj fd (n - 1 - i) (by first | assumption | decide | omega)) q_62 q_63 q_61 q_16 q_60 (by decide +kernel) rfl rfl dX6_settleAll_57 ⟨Nat.le_of_ble_eq_true rfl, Nat.le_of_ble_eq_true rfl⟩ [0, 1, 2] [3, 4, 5, 6, 7] rfl (wr := [(pp, .inr (8, [.ref h, .ref r1, .ref r2, .int ((stR n z fj fd (fun i9 => n - 1 - i9) S i).2.2.1)])), (r1, .inr (10, [.ref a1])), (a1, aI k 6 ((stR n z fj fd (fun i9 => n - 1 - i9) S i).1)), (r2, .inr (10, [.ref a2])), (a2, aI k 6 ((stR n z fj fd (fun i9 => n - 1 - i9) S i).2.1))]) rfl (by decide) (by decide) (by decide) (Nat.le_of_ble_eq_true rfl) ⟨Nat.le_of_ble_eq_true rfl, Nat.le_of_ble_eq_true rfl⟩ (fun rv w1 h1 => ?_)
                obtain ⟨rfl, rfl⟩ := h1
                refine G.aft [5, 6, 7, 0, 1, 2, 3, 4] (ws' := [(h, .inr (5, [.ref jj, .ref dd, .int (nI n), .int (nI z)])), (jj, aI k 36 fj), (dd, aI k 6 fd), (pp, .inr (8, [.ref h, .ref r1, .ref r2, .int ((stR n z fj fd (fun i9 => n - 1 - i9) S i).2.2.1)])), (r1, .inr (10, [.ref a1])), (a1, aI k 6 ((stR n z fj fd (fun i9 => n - 1 - i9) S i).1)), (r2, .inr (10, [.ref a2])), (a2, aI k 6 ((stR n z fj fd (fun i9 => n - 1 - i9) S i).2.1))]) (st' := [.int (fd (n - 1 - i))]) (cells' := 0) (slots' := 0) (g' := 0) (by decide) rfl rfl rfl rfl rfl ?_
                refine g_istore (pc := 60) C [(7, .int (fd (n - 1 - i))), (6, .int (nI (n - 1 - i))), (0, .ref pp), (1, .int 1), (2, .int ((stR n z fj fd (fun i9 => n - 1 - i9) S i).2.2.2)), (3, .int (nI r)), (4, .int S.2.2.2), (5, .int (nI i))] dX6_settleAll_60 (by decide) rfl ?_
                refine g_iload (pc := 62) C 0 rfl dX6_settleAll_62 ?_
                refine g_if_le (pc := 64) C 103 (by decide) dX6_settleAll_64 (fun c_64 => ?_) (fun c_64 => ?_)
                · refine g_iinc (pc := 103) (n := 1) (v := (nI (i + 1))) C 7 [(5, .int (nI (i + 1))), (7, .int (fd (n - 1 - i))), (6, .int (nI (n - 1 - i))), (0, .ref pp), (1, .int 1), (2, .int ((stR n z fj fd (fun i9 => n - 1 - i9) S i).2.2.2)), (3, .int (nI r)), (4, .int S.2.2.2)] rfl (nI_1 i) dX6_settleAll_103 (by decide) rfl ?_
                  refine g_goto (pc := 106) C 16 (by decide) dX6_settleAll_106 ?_
                  refine G.loc [3, 4, 5, 6, 7, 0] (lv' := [(0, .ref pp), (1, .int 1), (2, .int ((stR n z fj fd (fun i9 => n - 1 - i9) S i).2.2.2)), (3, .int (nI r)), (4, .int S.2.2.2), (5, .int (nI (i + 1)))]) rfl ?_
                  refine G.eqw (ws' := [(h, .inr (5, [.ref jj, .ref dd, .int (nI n), .int (nI z)])), (jj, aI k 36 fj), (dd, aI k 6 fd), (pp, .inr (8, [.ref h, .ref r1, .ref r2, .int ((stR n z fj fd (fun i9 => n - 1 - i9) S (i + 1)).2.2.1)])), (r1, .inr (10, [.ref a1])), (a1, aI k 6 ((stR n z fj fd (fun i9 => n - 1 - i9) S i).1)), (r2, .inr (10, [.ref a2])), (a2, aI k 6 ((stR n z fj fd (fun i9 => n - 1 - i9) S i).2.1))]) (congrArg (β := va_W) (fun z9 => [(h, .inr (5, [.ref jj, .ref dd, .int (nI n), .int (nI z)])), (jj, aI k 36 fj), (dd, aI k 6 fd), (pp, .inr (8, [.ref h, .ref r1, .ref r2, .int z9])), (r1, .inr (10, [.ref a1])), (a1, aI k 6 ((stR n z fj fd (fun i9 => n - 1 - i9) S i).1)), (r2, .inr (10, [.ref a2])), (a2, aI k 6 ((stR n z fj fd (fun i9 => n - 1 - i9) S i).2.1))]) (show ((stR n z fj fd (fun i9 => n - 1 - i9) S i).2.2.1 : Int32) = (stR n z fj fd (fun i9 => n - 1 - i9) S (i + 1)).2.2.1 from by first | rfl | (rw [h3]) | (show _ = (stV n z fj fd _ _).1 j; simp [stV, c_64]; done) | (simp [stR, stV, c_64]; done) | (simp [stR, stV, c_64, c_73]; done))) ?_
                  refine G.fn ((stR n z fj fd (fun i9 => n - 1 - i9) S (i + 1)).1) 5 [(h, .inr (5, [.ref jj, .ref dd, .int (nI n), .int (nI z)])), (jj, aI k 36 fj), (dd, aI k 6 fd), (pp, .inr (8, [.ref h, .ref r1, .ref r2, .int ((stR n z fj fd (fun i9 => n - 1 - i9) S (i + 1)).2.2.1)])), (r1, .inr (10, [.ref a1])), (a1, aI k 6 ((stR n z fj fd (fun i9 => n - 1 - i9) S (i + 1)).1)), (r2, .inr (10, [.ref a2])), (a2, aI k 6 ((stR n z fj fd (fun i9 => n - 1 - i9) S i).2.1))] rfl (fun j hj => by first | rfl | (rw [h3]) | (show _ = (stV n z fj fd _ _).1 j; simp [stV, c_64]; done) | (simp [stR, stV, c_64]; done) | (simp [stR, stV, c_64, c_73]; done)) rfl ?_
                  refine G.fn ((stR n z fj fd (fun i9 => n - 1 - i9) S (i + 1)).2.1) 7 [(h, .inr (5, [.ref jj, .ref dd, .int (nI n), .int (nI z)])), (jj, aI k 36 fj), (dd, aI k 6 fd), (pp, .inr (8, [.ref h, .ref r1, .ref r2, .int ((stR n z fj fd (fun i9 => n - 1 - i9) S (i + 1)).2.2.1)])), (r1, .inr (10, [.ref a1])), (a1, aI k 6 ((stR n z fj fd (fun i9 => n - 1 - i9) S (i + 1)).1)), (r2, .inr (10, [.ref a2])), (a2, aI k 6 ((stR n z fj fd (fun i9 => n - 1 - i9) S (i + 1)).2.1))] rfl (fun j hj => by first | rfl | (rw [h3]) | (show _ = (stV n z fj fd _ _).1 j; simp [stV, c_64]; done) | (simp [stR, stV, c_64]; done) | (simp [stR, stV, c_64, c_73]; done)) rfl ?_
                  refine G.eql (lv' := [(0, .ref pp), (1, .int 1), (2, .int ((stR n z fj fd (fun i9 => n - 1 - i9) S (i + 1)).2.2.2)), (3, .int (nI r)), (4, .int S.2.2.2), (5, .int (nI (i + 1)))]) (congrArg (β := List (Nat × Value)) (fun z9 => [(0, .ref pp), (1, .int 1), (2, .int z9), (3, .int (nI r)), (4, .int S.2.2.2), (5, .int (nI (i + 1)))]) (show ((stR n z fj fd (fun i9 => n - 1 - i9) S i).2.2.2 : Int32) = (stR n z fj fd (fun i9 => n - 1 - i9) S (i + 1)).2.2.2 from by first | rfl | (rw [h3]) | (show _ = (stV n z fj fd _ _).1 j; simp [stV, c_64]; done) | (simp [stR, stV, c_64]; done) | (simp [stR, stV, c_64, c_73]; done))) ?_
                  exact ih_16 (i + 1) (by omega) (by omega)
                · refine g_aload_n (pc := 67) C 2 rfl rfl dX6_settleAll_67 ?_
                  refine g_iload (pc := 68) C 1 rfl dX6_settleAll_68 ?_
                  refine g_callV (pc := 70) (cells := 0) (slots := 0) (g := 0) (As := [.int (nI (n - 1 - i))]) (st := []) (T := TX6) (q0 := 3) C (nA := 1) rfl (c_X6_canTopple h jj dd n z fj fd pp r1 a1 r2 a2 ((stR n z fj fd (fun i9 => n - 1 - i9) S i).1) ((stR n z fj fd (fun i9 => n - 1 - i9) S i).2.1) ((stR n z fj fd (fun i9 => n - 1 - i9) S i).2.2.1) (n - 1 - i) (by first | assumption | decide | omega) (by first | assumption | decide | omega)) q_75 q_76 q_74 q_43 q_73 (by decide +kernel) rfl rfl dX6_settleAll_70 ⟨Nat.le_of_ble_eq_true rfl, Nat.le_of_ble_eq_true rfl⟩ [0, 1, 2, 3, 4, 5, 6, 7] [] rfl (wr := []) rfl (by decide) (by decide) (by decide) (Nat.le_of_ble_eq_true rfl) ⟨Nat.le_of_ble_eq_true rfl, Nat.le_of_ble_eq_true rfl⟩ (fun rv w1 h1 => ?_)
                  obtain ⟨rfl, rfl⟩ := h1
                  refine G.aft [0, 1, 2, 3, 4, 5, 6, 7] (ws' := [(h, .inr (5, [.ref jj, .ref dd, .int (nI n), .int (nI z)])), (jj, aI k 36 fj), (dd, aI k 6 fd), (pp, .inr (8, [.ref h, .ref r1, .ref r2, .int ((stR n z fj fd (fun i9 => n - 1 - i9) S i).2.2.1)])), (r1, .inr (10, [.ref a1])), (a1, aI k 6 ((stR n z fj fd (fun i9 => n - 1 - i9) S i).1)), (r2, .inr (10, [.ref a2])), (a2, aI k 6 ((stR n z fj fd (fun i9 => n - 1 - i9) S i).2.1))]) (st' := [.int (bI (cTop z fd ((stR n z fj fd (fun i9 => n - 1 - i9) S i).1) (n - 1 - i)))]) (cells' := 0) (slots' := 0) (g' := 0) (by decide) rfl rfl rfl rfl rfl ?_
                  refine g_if_eq (pc := 73) C 103 (by decide) dX6_settleAll_73 (fun c_73 => ?_) (fun c_73 => ?_)
                  · simp only [bI_0] at c_73
                    refine g_iinc (pc := 103) (n := 1) (v := (nI (i + 1))) C 7 [(5, .int (nI (i + 1))), (7, .int (fd (n - 1 - i))), (6, .int (nI (n - 1 - i))), (0, .ref pp), (1, .int 1), (2, .int ((stR n z fj fd (fun i9 => n - 1 - i9) S i).2.2.2)), (3, .int (nI r)), (4, .int S.2.2.2)] rfl (nI_1 i) dX6_settleAll_103 (by decide) rfl ?_
                    refine g_goto (pc := 106) C 16 (by decide) dX6_settleAll_106 ?_
                    refine G.loc [3, 4, 5, 6, 7, 0] (lv' := [(0, .ref pp), (1, .int 1), (2, .int ((stR n z fj fd (fun i9 => n - 1 - i9) S i).2.2.2)), (3, .int (nI r)), (4, .int S.2.2.2), (5, .int (nI (i + 1)))]) rfl ?_
                    refine G.eqw (ws' := [(h, .inr (5, [.ref jj, .ref dd, .int (nI n), .int (nI z)])), (jj, aI k 36 fj), (dd, aI k 6 fd), (pp, .inr (8, [.ref h, .ref r1, .ref r2, .int ((stR n z fj fd (fun i9 => n - 1 - i9) S (i + 1)).2.2.1)])), (r1, .inr (10, [.ref a1])), (a1, aI k 6 ((stR n z fj fd (fun i9 => n - 1 - i9) S i).1)), (r2, .inr (10, [.ref a2])), (a2, aI k 6 ((stR n z fj fd (fun i9 => n - 1 - i9) S i).2.1))]) (congrArg (β := va_W) (fun z9 => [(h, .inr (5, [.ref jj, .ref dd, .int (nI n), .int (nI z)])), (jj, aI k 36 fj), (dd, aI k 6 fd), (pp, .inr (8, [.ref h, .ref r1, .ref r2, .int z9])), (r1, .inr (10, [.ref a1])), (a1, aI k 6 ((stR n z fj fd (fun i9 => n - 1 - i9) S i).1)), (r2, .inr (10, [.ref a2])), (a2, aI k 6 ((stR n z fj fd (fun i9 => n - 1 - i9) S i).2.1))]) (show (((stR n z fj fd (fun i9 => n - 1 - i9) S i).2.2.1) : Int32) = (stR n z fj fd (fun i9 => n - 1 - i9) S (i + 1)).2.2.1 from by first | rfl | (rw [h3]) | (show _ = (stV n z fj fd _ _).1 j; simp [stV, c_64]; done) | (simp [stR, stV, c_64]; done) | (simp [stR, stV, c_64, c_73]; done))) ?_
                    refine G.fn ((stR n z fj fd (fun i9 => n - 1 - i9) S (i + 1)).1) 5 [(h, .inr (5, [.ref jj, .ref dd, .int (nI n), .int (nI z)])), (jj, aI k 36 fj), (dd, aI k 6 fd), (pp, .inr (8, [.ref h, .ref r1, .ref r2, .int ((stR n z fj fd (fun i9 => n - 1 - i9) S (i + 1)).2.2.1)])), (r1, .inr (10, [.ref a1])), (a1, aI k 6 ((stR n z fj fd (fun i9 => n - 1 - i9) S (i + 1)).1)), (r2, .inr (10, [.ref a2])), (a2, aI k 6 ((stR n z fj fd (fun i9 => n - 1 - i9) S i).2.1))] rfl (fun j hj => by first | rfl | (rw [h3]) | (show _ = (stV n z fj fd _ _).1 j; simp [stV, c_64]; done) | (simp [stR, stV, c_64]; done) | (simp [stR, stV, c_64, c_73]; done)) rfl ?_
                    refine G.fn ((stR n z fj fd (fun i9 => n - 1 - i9) S (i + 1)).2.1) 7 [(h, .inr (5, [.ref jj, .ref dd, .int (nI n), .int (nI z)])), (jj, aI k 36 fj), (dd, aI k 6 fd), (pp, .inr (8, [.ref h, .ref r1, .ref r2, .int ((stR n z fj fd (fun i9 => n - 1 - i9) S (i + 1)).2.2.1)])), (r1, .inr (10, [.ref a1])), (a1, aI k 6 ((stR n z fj fd (fun i9 => n - 1 - i9) S (i + 1)).1)), (r2, .inr (10, [.ref a2])), (a2, aI k 6 ((stR n z fj fd (fun i9 => n - 1 - i9) S (i + 1)).2.1))] rfl (fun j hj => by first | rfl | (rw [h3]) | (show _ = (stV n z fj fd _ _).1 j; simp [stV, c_64]; done) | (simp [stR, stV, c_64]; done) | (simp [stR, stV, c_64, c_73]; done)) rfl ?_
                    refine G.eql (lv' := [(0, .ref pp), (1, .int 1), (2, .int ((stR n z fj fd (fun i9 => n - 1 - i9) S (i + 1)).2.2.2)), (3, .int (nI r)), (4, .int S.2.2.2), (5, .int (nI (i + 1)))]) (congrArg (β := List (Nat × Value)) (fun z9 => [(0, .ref pp), (1, .int 1), (2, .int z9), (3, .int (nI r)), (4, .int S.2.2.2), (5, .int (nI (i + 1)))]) (show ((stR n z fj fd (fun i9 => n - 1 - i9) S i).2.2.2 : Int32) = (stR n z fj fd (fun i9 => n - 1 - i9) S (i + 1)).2.2.2 from by first | rfl | (rw [h3]) | (show _ = (stV n z fj fd _ _).1 j; simp [stV, c_64]; done) | (simp [stR, stV, c_64]; done) | (simp [stR, stV, c_64, c_73]; done))) ?_
                    exact ih_16 (i + 1) (by omega) (by omega)
                  · simp only [bI_0] at c_73
                    rw [Bool.not_eq_false] at c_73
                    refine g_aload_n (pc := 76) C 2 rfl rfl dX6_settleAll_76 ?_
                    refine g_get (pc := 77) C (T := TX6) inX6 3 rfl rfl 1 (by decide) q_34 rfl rfl dX6_settleAll_77 ?_
                    refine g_iload (pc := 80) C 1 rfl dX6_settleAll_80 ?_
                    refine g_callV (pc := 82) (cells := 0) (slots := 0) (g := 0) (As := [.int (nI (n - 1 - i))]) (st := []) (T := TX8) (q0 := 4) C (nA := 1) rfl (c_X8_at_n r1 a1 6 ((stR n z fj fd (fun i9 => n - 1 - i9) S i).1) (n - 1 - i) (by first | assumption | decide | omega) (by first | assumption | decide | omega)) q_51 q_9 q_7 q_6 q_5 (by decide +kernel) rfl rfl dX6_settleAll_82 ⟨Nat.le_of_ble_eq_true rfl, Nat.le_of_ble_eq_true rfl⟩ [4, 5] [0, 1, 2, 3, 6, 7] rfl (wr := [(h, .inr (5, [.ref jj, .ref dd, .int (nI n), .int (nI z)])), (jj, aI k 36 fj), (dd, aI k 6 fd), (pp, .inr (8, [.ref h, .ref r1, .ref r2, .int ((stR n z fj fd (fun i9 => n - 1 - i9) S i).2.2.1)])), (r2, .inr (10, [.ref a2])), (a2, aI k 6 ((stR n z fj fd (fun i9 => n - 1 - i9) S i).2.1))]) rfl (by decide) (by decide) (by decide) (Nat.le_of_ble_eq_true rfl) ⟨Nat.le_of_ble_eq_true rfl, Nat.le_of_ble_eq_true rfl⟩ (fun rv w1 h1 => ?_)
                    obtain ⟨rfl, rfl⟩ := h1
                    refine G.aft [0, 1, 2, 3, 6, 7, 4, 5] (ws' := [(h, .inr (5, [.ref jj, .ref dd, .int (nI n), .int (nI z)])), (jj, aI k 36 fj), (dd, aI k 6 fd), (pp, .inr (8, [.ref h, .ref r1, .ref r2, .int ((stR n z fj fd (fun i9 => n - 1 - i9) S i).2.2.1)])), (r1, .inr (10, [.ref a1])), (a1, aI k 6 ((stR n z fj fd (fun i9 => n - 1 - i9) S i).1)), (r2, .inr (10, [.ref a2])), (a2, aI k 6 ((stR n z fj fd (fun i9 => n - 1 - i9) S i).2.1))]) (st' := [.int (((stR n z fj fd (fun i9 => n - 1 - i9) S i).1) (n - 1 - i))]) (cells' := 0) (slots' := 0) (g' := 0) (by decide) rfl rfl rfl rfl rfl ?_
                    refine g_iload (pc := 85) C 0 rfl dX6_settleAll_85 ?_
                    refine g_idiv (pc := 87) C (fun q => c_64 (by rw [q]; decide)) dX6_settleAll_87 ?_
                    refine g_istore (pc := 88) C [(8, .int ((((stR n z fj fd (fun i9 => n - 1 - i9) S i).1) (n - 1 - i)) / (fd (n - 1 - i)))), (7, .int (fd (n - 1 - i))), (6, .int (nI (n - 1 - i))), (0, .ref pp), (1, .int 1), (2, .int ((stR n z fj fd (fun i9 => n - 1 - i9) S i).2.2.2)), (3, .int (nI r)), (4, .int S.2.2.2), (5, .int (nI i))] dX6_settleAll_88 (by decide) rfl ?_
                    refine g_aload_n (pc := 90) C 3 rfl rfl dX6_settleAll_90 ?_
                    refine g_iload (pc := 91) C 2 rfl dX6_settleAll_91 ?_
                    refine g_iload (pc := 93) C 0 rfl dX6_settleAll_93 ?_
                    refine g_callV (pc := 95) (cells := 0) (slots := 0) (g := 0) (As := [.int (nI (n - 1 - i)), .int ((((stR n z fj fd (fun i9 => n - 1 - i9) S i).1) (n - 1 - i)) / (fd (n - 1 - i)))]) (st := []) (T := TX6) (q0 := 3) C (nA := 2) rfl (c_X6_toppleTimes h jj dd n z fj fd pp r1 a1 r2 a2 ((stR n z fj fd (fun i9 => n - 1 - i9) S i).1) ((stR n z fj fd (fun i9 => n - 1 - i9) S i).2.1) ((stR n z fj fd (fun i9 => n - 1 - i9) S i).2.2.1) (n - 1 - i) ((((stR n z fj fd (fun i9 => n - 1 - i9) S i).1) (n - 1 - i)) / (fd (n - 1 - i))) (by first | assumption | decide | omega) (by first | assumption | decide | omega) (by first | assumption | decide | omega)) q_71 q_72 q_70 q_43 q_69 (by decide +kernel) rfl rfl dX6_settleAll_95 ⟨Nat.le_of_ble_eq_true rfl, Nat.le_of_ble_eq_true rfl⟩ [0, 1, 2, 3, 4, 5, 6, 7] [] rfl (wr := []) rfl (by decide) (by decide) (by decide) (Nat.le_of_ble_eq_true rfl) ⟨Nat.le_of_ble_eq_true rfl, Nat.le_of_ble_eq_true rfl⟩ (fun rv w1 h1 => ?_)
                    obtain ⟨rfl, rfl⟩ := h1
                    refine G.aft [0, 1, 2, 3, 4, 5, 6, 7] (ws' := [(h, .inr (5, [.ref jj, .ref dd, .int (nI n), .int (nI z)])), (jj, aI k 36 fj), (dd, aI k 6 fd), (pp, .inr (8, [.ref h, .ref r1, .ref r2, .int (tpT z fj ((((stR n z fj fd (fun i9 => n - 1 - i9) S i).1) (n - 1 - i)) / (fd (n - 1 - i))) (n - 1 - i) ((stR n z fj fd (fun i9 => n - 1 - i9) S i).2.2.1) n)])), (r1, .inr (10, [.ref a1])), (a1, aI k 6 (tpF z fj ((((stR n z fj fd (fun i9 => n - 1 - i9) S i).1) (n - 1 - i)) / (fd (n - 1 - i))) (n - 1 - i) (upd ((stR n z fj fd (fun i9 => n - 1 - i9) S i).1) (n - 1 - i) (((stR n z fj fd (fun i9 => n - 1 - i9) S i).1) (n - 1 - i) + (-((((stR n z fj fd (fun i9 => n - 1 - i9) S i).1) (n - 1 - i)) / (fd (n - 1 - i)))) * fd (n - 1 - i))) n)), (r2, .inr (10, [.ref a2])), (a2, aI k 6 (upd ((stR n z fj fd (fun i9 => n - 1 - i9) S i).2.1) (n - 1 - i) (((stR n z fj fd (fun i9 => n - 1 - i9) S i).2.1) (n - 1 - i) + ((((stR n z fj fd (fun i9 => n - 1 - i9) S i).1) (n - 1 - i)) / (fd (n - 1 - i))))))]) (st' := []) (cells' := 0) (slots' := 0) (g' := 0) (by decide) rfl rfl rfl rfl rfl ?_
                    refine g_iload_n (pc := 98) C 5 rfl rfl dX6_settleAll_98 ?_
                    refine g_iload (pc := 99) C 0 rfl dX6_settleAll_99 ?_
                    refine g_iadd (pc := 101) C dX6_settleAll_101 ?_
                    refine g_istore_n (pc := 102) C [(2, .int (((stR n z fj fd (fun i9 => n - 1 - i9) S i).2.2.2) + ((((stR n z fj fd (fun i9 => n - 1 - i9) S i).1) (n - 1 - i)) / (fd (n - 1 - i))))), (8, .int ((((stR n z fj fd (fun i9 => n - 1 - i9) S i).1) (n - 1 - i)) / (fd (n - 1 - i)))), (7, .int (fd (n - 1 - i))), (6, .int (nI (n - 1 - i))), (0, .ref pp), (1, .int 1), (3, .int (nI r)), (4, .int S.2.2.2), (5, .int (nI i))] rfl dX6_settleAll_102 (by decide) rfl ?_
                    refine g_iinc (pc := 103) (n := 1) (v := (nI (i + 1))) C 8 [(5, .int (nI (i + 1))), (2, .int (((stR n z fj fd (fun i9 => n - 1 - i9) S i).2.2.2) + ((((stR n z fj fd (fun i9 => n - 1 - i9) S i).1) (n - 1 - i)) / (fd (n - 1 - i))))), (8, .int ((((stR n z fj fd (fun i9 => n - 1 - i9) S i).1) (n - 1 - i)) / (fd (n - 1 - i)))), (7, .int (fd (n - 1 - i))), (6, .int (nI (n - 1 - i))), (0, .ref pp), (1, .int 1), (3, .int (nI r)), (4, .int S.2.2.2)] rfl (nI_1 i) dX6_settleAll_103 (by decide) rfl ?_
                    refine g_goto (pc := 106) C 16 (by decide) dX6_settleAll_106 ?_
                    refine G.loc [5, 6, 1, 7, 8, 0] (lv' := [(0, .ref pp), (1, .int 1), (2, .int (((stR n z fj fd (fun i9 => n - 1 - i9) S i).2.2.2) + ((((stR n z fj fd (fun i9 => n - 1 - i9) S i).1) (n - 1 - i)) / (fd (n - 1 - i))))), (3, .int (nI r)), (4, .int S.2.2.2), (5, .int (nI (i + 1)))]) rfl ?_
                    refine G.eqw (ws' := [(h, .inr (5, [.ref jj, .ref dd, .int (nI n), .int (nI z)])), (jj, aI k 36 fj), (dd, aI k 6 fd), (pp, .inr (8, [.ref h, .ref r1, .ref r2, .int ((stR n z fj fd (fun i9 => n - 1 - i9) S (i + 1)).2.2.1)])), (r1, .inr (10, [.ref a1])), (a1, aI k 6 (tpF z fj ((((stR n z fj fd (fun i9 => n - 1 - i9) S i).1) (n - 1 - i)) / (fd (n - 1 - i))) (n - 1 - i) (upd ((stR n z fj fd (fun i9 => n - 1 - i9) S i).1) (n - 1 - i) (((stR n z fj fd (fun i9 => n - 1 - i9) S i).1) (n - 1 - i) + (-((((stR n z fj fd (fun i9 => n - 1 - i9) S i).1) (n - 1 - i)) / (fd (n - 1 - i)))) * fd (n - 1 - i))) n)), (r2, .inr (10, [.ref a2])), (a2, aI k 6 (upd ((stR n z fj fd (fun i9 => n - 1 - i9) S i).2.1) (n - 1 - i) (((stR n z fj fd (fun i9 => n - 1 - i9) S i).2.1) (n - 1 - i) + ((((stR n z fj fd (fun i9 => n - 1 - i9) S i).1) (n - 1 - i)) / (fd (n - 1 - i))))))]) (congrArg (β := va_W) (fun z9 => [(h, .inr (5, [.ref jj, .ref dd, .int (nI n), .int (nI z)])), (jj, aI k 36 fj), (dd, aI k 6 fd), (pp, .inr (8, [.ref h, .ref r1, .ref r2, .int z9])), (r1, .inr (10, [.ref a1])), (a1, aI k 6 (tpF z fj ((((stR n z fj fd (fun i9 => n - 1 - i9) S i).1) (n - 1 - i)) / (fd (n - 1 - i))) (n - 1 - i) (upd ((stR n z fj fd (fun i9 => n - 1 - i9) S i).1) (n - 1 - i) (((stR n z fj fd (fun i9 => n - 1 - i9) S i).1) (n - 1 - i) + (-((((stR n z fj fd (fun i9 => n - 1 - i9) S i).1) (n - 1 - i)) / (fd (n - 1 - i)))) * fd (n - 1 - i))) n)), (r2, .inr (10, [.ref a2])), (a2, aI k 6 (upd ((stR n z fj fd (fun i9 => n - 1 - i9) S i).2.1) (n - 1 - i) (((stR n z fj fd (fun i9 => n - 1 - i9) S i).2.1) (n - 1 - i) + ((((stR n z fj fd (fun i9 => n - 1 - i9) S i).1) (n - 1 - i)) / (fd (n - 1 - i))))))]) (show ((tpT z fj ((((stR n z fj fd (fun i9 => n - 1 - i9) S i).1) (n - 1 - i)) / (fd (n - 1 - i))) (n - 1 - i) ((stR n z fj fd (fun i9 => n - 1 - i9) S i).2.2.1) n) : Int32) = (stR n z fj fd (fun i9 => n - 1 - i9) S (i + 1)).2.2.1 from by first | rfl | (rw [h3]) | (show _ = (stV n z fj fd _ _).1 j; simp [stV, c_64]; done) | (simp [stR, stV, c_64]; done) | (simp [stR, stV, c_64, c_73]; done))) ?_
                    refine G.fn ((stR n z fj fd (fun i9 => n - 1 - i9) S (i + 1)).1) 5 [(h, .inr (5, [.ref jj, .ref dd, .int (nI n), .int (nI z)])), (jj, aI k 36 fj), (dd, aI k 6 fd), (pp, .inr (8, [.ref h, .ref r1, .ref r2, .int ((stR n z fj fd (fun i9 => n - 1 - i9) S (i + 1)).2.2.1)])), (r1, .inr (10, [.ref a1])), (a1, aI k 6 ((stR n z fj fd (fun i9 => n - 1 - i9) S (i + 1)).1)), (r2, .inr (10, [.ref a2])), (a2, aI k 6 (upd ((stR n z fj fd (fun i9 => n - 1 - i9) S i).2.1) (n - 1 - i) (((stR n z fj fd (fun i9 => n - 1 - i9) S i).2.1) (n - 1 - i) + ((((stR n z fj fd (fun i9 => n - 1 - i9) S i).1) (n - 1 - i)) / (fd (n - 1 - i))))))] rfl (fun j hj => by first | rfl | (rw [h3]) | (show _ = (stV n z fj fd _ _).1 j; simp [stV, c_64]; done) | (simp [stR, stV, c_64]; done) | (simp [stR, stV, c_64, c_73]; done)) rfl ?_
                    refine G.fn ((stR n z fj fd (fun i9 => n - 1 - i9) S (i + 1)).2.1) 7 [(h, .inr (5, [.ref jj, .ref dd, .int (nI n), .int (nI z)])), (jj, aI k 36 fj), (dd, aI k 6 fd), (pp, .inr (8, [.ref h, .ref r1, .ref r2, .int ((stR n z fj fd (fun i9 => n - 1 - i9) S (i + 1)).2.2.1)])), (r1, .inr (10, [.ref a1])), (a1, aI k 6 ((stR n z fj fd (fun i9 => n - 1 - i9) S (i + 1)).1)), (r2, .inr (10, [.ref a2])), (a2, aI k 6 ((stR n z fj fd (fun i9 => n - 1 - i9) S (i + 1)).2.1))] rfl (fun j hj => by first | rfl | (rw [h3]) | (show _ = (stV n z fj fd _ _).1 j; simp [stV, c_64]; done) | (simp [stR, stV, c_64]; done) | (simp [stR, stV, c_64, c_73]; done)) rfl ?_
                    refine G.eql (lv' := [(0, .ref pp), (1, .int 1), (2, .int ((stR n z fj fd (fun i9 => n - 1 - i9) S (i + 1)).2.2.2)), (3, .int (nI r)), (4, .int S.2.2.2), (5, .int (nI (i + 1)))]) (congrArg (β := List (Nat × Value)) (fun z9 => [(0, .ref pp), (1, .int 1), (2, .int z9), (3, .int (nI r)), (4, .int S.2.2.2), (5, .int (nI (i + 1)))]) (show ((((stR n z fj fd (fun i9 => n - 1 - i9) S i).2.2.2) + ((((stR n z fj fd (fun i9 => n - 1 - i9) S i).1) (n - 1 - i)) / (fd (n - 1 - i)))) : Int32) = (stR n z fj fd (fun i9 => n - 1 - i9) S (i + 1)).2.2.2 from by first | rfl | (rw [h3]) | (show _ = (stV n z fj fd _ _).1 j; simp [stV, c_64]; done) | (simp [stR, stV, c_64]; done) | (simp [stR, stV, c_64, c_73]; done))) ?_
                    exact ih_16 (i + 1) (by omega) (by omega)
        refine G.loc [2, 3, 4, 5, 1, 0] (lv' := [(0, .ref pp), (1, .int 1), (2, .int S.2.2.2), (3, .int (nI r)), (4, .int S.2.2.2), (5, .int 0)]) rfl ?_
        refine G.eqw (ws' := [(h, .inr (5, [.ref jj, .ref dd, .int (nI n), .int (nI z)])), (jj, aI k 36 fj), (dd, aI k 6 fd), (pp, .inr (8, [.ref h, .ref r1, .ref r2, .int ((stR n z fj fd (fun i9 => n - 1 - i9) S 0).2.2.1)])), (r1, .inr (10, [.ref a1])), (a1, aI k 6 S.1), (r2, .inr (10, [.ref a2])), (a2, aI k 6 S.2.1)]) (congrArg (β := va_W) (fun z9 => [(h, .inr (5, [.ref jj, .ref dd, .int (nI n), .int (nI z)])), (jj, aI k 36 fj), (dd, aI k 6 fd), (pp, .inr (8, [.ref h, .ref r1, .ref r2, .int z9])), (r1, .inr (10, [.ref a1])), (a1, aI k 6 S.1), (r2, .inr (10, [.ref a2])), (a2, aI k 6 S.2.1)]) (show (S.2.2.1 : Int32) = (stR n z fj fd (fun i9 => n - 1 - i9) S 0).2.2.1 from by rfl)) ?_
        refine G.fn ((stR n z fj fd (fun i9 => n - 1 - i9) S 0).1) 5 [(h, .inr (5, [.ref jj, .ref dd, .int (nI n), .int (nI z)])), (jj, aI k 36 fj), (dd, aI k 6 fd), (pp, .inr (8, [.ref h, .ref r1, .ref r2, .int ((stR n z fj fd (fun i9 => n - 1 - i9) S 0).2.2.1)])), (r1, .inr (10, [.ref a1])), (a1, aI k 6 ((stR n z fj fd (fun i9 => n - 1 - i9) S 0).1)), (r2, .inr (10, [.ref a2])), (a2, aI k 6 S.2.1)] rfl (fun j hj => by rfl) rfl ?_
        refine G.fn ((stR n z fj fd (fun i9 => n - 1 - i9) S 0).2.1) 7 [(h, .inr (5, [.ref jj, .ref dd, .int (nI n), .int (nI z)])), (jj, aI k 36 fj), (dd, aI k 6 fd), (pp, .inr (8, [.ref h, .ref r1, .ref r2, .int ((stR n z fj fd (fun i9 => n - 1 - i9) S 0).2.2.1)])), (r1, .inr (10, [.ref a1])), (a1, aI k 6 ((stR n z fj fd (fun i9 => n - 1 - i9) S 0).1)), (r2, .inr (10, [.ref a2])), (a2, aI k 6 ((stR n z fj fd (fun i9 => n - 1 - i9) S 0).2.1))] rfl (fun j hj => by rfl) rfl ?_
        refine G.eql (lv' := [(0, .ref pp), (1, .int 1), (2, .int ((stR n z fj fd (fun i9 => n - 1 - i9) S 0).2.2.2)), (3, .int (nI r)), (4, .int S.2.2.2), (5, .int (nI 0))]) ((congrArg (β := List (Nat × Value)) (fun z9 => [(0, .ref pp), (1, .int 1), (2, .int z9), (3, .int (nI r)), (4, .int S.2.2.2), (5, .int 0)]) (show (S.2.2.2 : Int32) = (stR n z fj fd (fun i9 => n - 1 - i9) S 0).2.2.2 from by first | rfl | exact nI_0.symm)).trans (congrArg (β := List (Nat × Value)) (fun z9 => [(0, .ref pp), (1, .int 1), (2, .int ((stR n z fj fd (fun i9 => n - 1 - i9) S 0).2.2.2)), (3, .int (nI r)), (4, .int S.2.2.2), (5, .int z9)]) (show (0 : Int32) = (nI 0) from by first | rfl | exact nI_0.symm))) ?_
        exact key_16 (n - 0 + 1) 0 (by omega) (Nat.lt_succ_self _)
  refine G.loc [2, 3, 1, 0] (lv' := [(0, .ref pp), (1, .int 1), (2, .int 0), (3, .int 0)]) rfl ?_
  refine G.eqw (ws' := [(h, .inr (5, [.ref jj, .ref dd, .int (nI n), .int (nI z)])), (jj, aI k 36 fj), (dd, aI k 6 fd), (pp, .inr (8, [.ref h, .ref r1, .ref r2, .int ((f, ct, tk, 0).2.2.1)])), (r1, .inr (10, [.ref a1])), (a1, aI k 6 f), (r2, .inr (10, [.ref a2])), (a2, aI k 6 ct)]) (congrArg (β := va_W) (fun z9 => [(h, .inr (5, [.ref jj, .ref dd, .int (nI n), .int (nI z)])), (jj, aI k 36 fj), (dd, aI k 6 fd), (pp, .inr (8, [.ref h, .ref r1, .ref r2, .int z9])), (r1, .inr (10, [.ref a1])), (a1, aI k 6 f), (r2, .inr (10, [.ref a2])), (a2, aI k 6 ct)]) (show (tk : Int32) = (f, ct, tk, 0).2.2.1 from by rfl)) ?_
  refine G.fn ((f, ct, tk, 0).1) 5 [(h, .inr (5, [.ref jj, .ref dd, .int (nI n), .int (nI z)])), (jj, aI k 36 fj), (dd, aI k 6 fd), (pp, .inr (8, [.ref h, .ref r1, .ref r2, .int ((f, ct, tk, 0).2.2.1)])), (r1, .inr (10, [.ref a1])), (a1, aI k 6 ((f, ct, tk, 0).1)), (r2, .inr (10, [.ref a2])), (a2, aI k 6 ct)] rfl (fun j hj => by rfl) rfl ?_
  refine G.fn ((f, ct, tk, 0).2.1) 7 [(h, .inr (5, [.ref jj, .ref dd, .int (nI n), .int (nI z)])), (jj, aI k 36 fj), (dd, aI k 6 fd), (pp, .inr (8, [.ref h, .ref r1, .ref r2, .int ((f, ct, tk, 0).2.2.1)])), (r1, .inr (10, [.ref a1])), (a1, aI k 6 ((f, ct, tk, 0).1)), (r2, .inr (10, [.ref a2])), (a2, aI k 6 ((f, ct, tk, 0).2.1))] rfl (fun j hj => by rfl) rfl ?_
  refine G.eql (lv' := [(0, .ref pp), (1, .int 1), (2, .int ((f, ct, tk, 0).2.2.2)), (3, .int (nI 0))]) ((congrArg (β := List (Nat × Value)) (fun z9 => [(0, .ref pp), (1, .int 1), (2, .int z9), (3, .int 0)]) (show (0 : Int32) = (f, ct, tk, 0).2.2.2 from by first | rfl | exact nI_0.symm)).trans (congrArg (β := List (Nat × Value)) (fun z9 => [(0, .ref pp), (1, .int 1), (2, .int ((f, ct, tk, 0).2.2.2)), (3, .int z9)]) (show (0 : Int32) = (nI 0) from by first | rfl | exact nI_0.symm))) ?_
  exact key_4 (mR - 0 + 1) 0 (f, ct, tk, 0) (by omega) rfl (Nat.lt_succ_self _)
def sttl (z : Nat) (fd f : Nat → Int32) (n : Nat) : Bool := (List.range n).all fun v => !cTop z fd f v
theorem sttl_iff {z : Nat} {fd f : Nat → Int32} {n : Nat} : sttl z fd f n = true ↔ ∀ v, v < n → cTop z fd f v = false := by simp [sttl]
set_option maxRecDepth 100000 in
set_option maxHeartbeats 400000 in
theorem c_X6_isSettled {l : Launch} {D : va_G} {k : Nat → ClassId} (h : Nat) (jj : Nat) (dd : Nat) (n : Nat) (z : Nat) (fj : Nat → Int32) (fd : Nat → Int32) (pp : Nat) (r1 : Nat) (a1 : Nat) (r2 : Nat) (a2 : Nat) (f : Nat → Int32) (ct : Nat → Int32) (tk : Int32) (hn : n ≤ 6) (hz : z < 6) : CM l D k yX6_isSettled cX6_isSettled 2 (some .boolean)  2 43 [.ref pp] [(h, .inr (5, [.ref jj, .ref dd, .int (nI n), .int (nI z)])), (jj, aI k 36 fj), (dd, aI k 6 fd), (pp, .inr (8, [.ref h, .ref r1, .ref r2, .int tk])), (r1, .inr (10, [.ref a1])), (a1, aI k 6 f), (r2, .inr (10, [.ref a2])), (a2, aI k 6 ct)] (is1 (some (.int (bI (sttl z fd f n)))) [(h, .inr (5, [.ref jj, .ref dd, .int (nI n), .int (nI z)])), (jj, aI k 36 fj), (dd, aI k 6 fd), (pp, .inr (8, [.ref h, .ref r1, .ref r2, .int tk])), (r1, .inr (10, [.ref a1])), (a1, aI k 6 f), (r2, .inr (10, [.ref a2])), (a2, aI k 6 ct)]) 0 0 0 := by
  refine CM.of (lv0 := [(0, .ref pp)]) (by decide +kernel) (Nat.le_of_ble_eq_true rfl) rfl ?_
  intro p9 e9 s9 m9 bl9 me9 co9 C hr hlk hin had
  refine g_iconst (pc := 0) (v := 0) C (by decide) dX6_isSettled_0 ?_
  refine g_istore_n (pc := 1) C [(1, .int 0), (0, .ref pp)] rfl dX6_isSettled_1 (by decide) rfl ?_
  have key_2 : ∀ (fuel : Nat) (i : Nat), i ≤ n → (∀ j, j < i → cTop z fd f j = false) → n - i < fuel → G p9 l e9 { frames := 2, cells := 0, slots := 0, locals := 43 } s9 m9 ([.ref pp] : List Value).toArray bl9 me9 co9 D 2 (va_A [(h, .inr (5, [.ref jj, .ref dd, .int (nI n), .int (nI z)])), (jj, aI k 36 fj), (dd, aI k 6 fd), (pp, .inr (8, [.ref h, .ref r1, .ref r2, .int tk])), (r1, .inr (10, [.ref a1])), (a1, aI k 6 f), (r2, .inr (10, [.ref a2])), (a2, aI k 6 ct)] s9.heap.size) (QM bl9 D ([.ref pp] : List Value).toArray s9 [(h, .inr (5, [.ref jj, .ref dd, .int (nI n), .int (nI z)])), (jj, aI k 36 fj), (dd, aI k 6 fd), (pp, .inr (8, [.ref h, .ref r1, .ref r2, .int tk])), (r1, .inr (10, [.ref a1])), (a1, aI k 6 f), (r2, .inr (10, [.ref a2])), (a2, aI k 6 ct)] (is1 (some (.int (bI (sttl z fd f n)))) [(h, .inr (5, [.ref jj, .ref dd, .int (nI n), .int (nI z)])), (jj, aI k 36 fj), (dd, aI k 6 fd), (pp, .inr (8, [.ref h, .ref r1, .ref r2, .int tk])), (r1, .inr (10, [.ref a1])), (a1, aI k 6 f), (r2, .inr (10, [.ref a2])), (a2, aI k 6 ct)]) 0 0 0) [(h, .inr (5, [.ref jj, .ref dd, .int (nI n), .int (nI z)])), (jj, aI k 36 fj), (dd, aI k 6 fd), (pp, .inr (8, [.ref h, .ref r1, .ref r2, .int tk])), (r1, .inr (10, [.ref a1])), (a1, aI k 6 f), (r2, .inr (10, [.ref a2])), (a2, aI k 6 ct)] [(0, .ref pp), (1, .int (nI i))] 0 0 0 2 [] := by
    intro fuel
    induction fuel with
    | zero => intro i hi hq hm; exact absurd hm (Nat.not_lt_zero _)
    | succ fuel ih =>
      intro i hi hq hm
      have ih_2 := ih
      refine g_iload_n (pc := 2) C 1 rfl rfl dX6_isSettled_2 ?_
      refine g_aload_n (pc := 3) C 0 rfl rfl dX6_isSettled_3 ?_
      refine g_get (pc := 4) C (T := TX6) inX6 3 rfl rfl 0 (by decide) q_37 rfl rfl dX6_isSettled_4 ?_
      refine g_callV (pc := 7) (cells := 0) (slots := 0) (g := 0) (As := []) (st := [.int (nI i)]) (T := TX3) (q0 := 0) C (nA := 0) rfl (c_X3_size h jj dd n z fj fd ) q_66 q_67 q_65 q_16 q_64 (by decide +kernel) rfl rfl dX6_isSettled_7 ⟨Nat.le_of_ble_eq_true rfl, Nat.le_of_ble_eq_true rfl⟩ [0, 1, 2] [3, 4, 5, 6, 7] rfl (wr := [(pp, .inr (8, [.ref h, .ref r1, .ref r2, .int tk])), (r1, .inr (10, [.ref a1])), (a1, aI k 6 f), (r2, .inr (10, [.ref a2])), (a2, aI k 6 ct)]) rfl (by decide) (by decide) (by decide) (Nat.le_of_ble_eq_true rfl) ⟨Nat.le_of_ble_eq_true rfl, Nat.le_of_ble_eq_true rfl⟩ (fun rv w1 h1 => ?_)
      obtain ⟨rfl, rfl⟩ := h1
      refine G.aft [5, 6, 7, 0, 1, 2, 3, 4] (ws' := [(h, .inr (5, [.ref jj, .ref dd, .int (nI n), .int (nI z)])), (jj, aI k 36 fj), (dd, aI k 6 fd), (pp, .inr (8, [.ref h, .ref r1, .ref r2, .int tk])), (r1, .inr (10, [.ref a1])), (a1, aI k 6 f), (r2, .inr (10, [.ref a2])), (a2, aI k 6 ct)]) (st' := [.int (nI n), .int (nI i)]) (cells' := 0) (slots' := 0) (g' := 0) (by decide) rfl rfl rfl rfl rfl ?_
      refine g_icmp_ge (pc := 10) C 29 (by decide) dX6_isSettled_10 (fun c_10 => ?_) (fun c_10 => ?_)
      · have h3 : i = n := by { have := nle_ge (b := n) (a := i) (by omega) c_10; omega }
        refine g_iconst (pc := 29) (v := 1) C (by decide) dX6_isSettled_29 ?_
        refine G.eqs (st' := [.int (bI (sttl z fd f n))]) (congrArg (fun z9 => [Value.int z9]) (show (1 : Int32) = (bI (sttl z fd f n)) from by subst h3; rw [sttl_iff.mpr hq]; try rfl)) ?_
        exact g_zret (pc := 30) C hr (by first | rfl | exact bI_nar _) hlk (by first | decide | omega) (by first | decide | omega) (by first | decide | omega) dX6_isSettled_30 ⟨rfl, rfl⟩
      · have hl10 : i < n := nle_lt (by omega) c_10
        refine g_aload_n (pc := 13) C 0 rfl rfl dX6_isSettled_13 ?_
        refine g_iload_n (pc := 14) C 1 rfl rfl dX6_isSettled_14 ?_
        refine g_callV (pc := 15) (cells := 0) (slots := 0) (g := 0) (As := [.int (nI i)]) (st := []) (T := TX6) (q0 := 3) C (nA := 1) rfl (c_X6_canTopple h jj dd n z fj fd pp r1 a1 r2 a2 f ct tk i (by first | assumption | decide | omega) (by first | assumption | decide | omega)) q_75 q_76 q_74 q_43 q_73 (by decide +kernel) rfl rfl dX6_isSettled_15 ⟨Nat.le_of_ble_eq_true rfl, Nat.le_of_ble_eq_true rfl⟩ [0, 1, 2, 3, 4, 5, 6, 7] [] rfl (wr := []) rfl (by decide) (by decide) (by decide) (Nat.le_of_ble_eq_true rfl) ⟨Nat.le_of_ble_eq_true rfl, Nat.le_of_ble_eq_true rfl⟩ (fun rv w1 h1 => ?_)
        obtain ⟨rfl, rfl⟩ := h1
        refine G.aft [0, 1, 2, 3, 4, 5, 6, 7] (ws' := [(h, .inr (5, [.ref jj, .ref dd, .int (nI n), .int (nI z)])), (jj, aI k 36 fj), (dd, aI k 6 fd), (pp, .inr (8, [.ref h, .ref r1, .ref r2, .int tk])), (r1, .inr (10, [.ref a1])), (a1, aI k 6 f), (r2, .inr (10, [.ref a2])), (a2, aI k 6 ct)]) (st' := [.int (bI (cTop z fd f i))]) (cells' := 0) (slots' := 0) (g' := 0) (by decide) rfl rfl rfl rfl rfl ?_
        refine g_if_eq (pc := 18) C 23 (by decide) dX6_isSettled_18 (fun c_18 => ?_) (fun c_18 => ?_)
        · simp only [bI_0] at c_18
          refine g_iinc (pc := 23) (n := 1) (v := (nI (i + 1))) C 1 [(1, .int (nI (i + 1))), (0, .ref pp)] rfl (nI_1 i) dX6_isSettled_23 (by decide) rfl ?_
          refine g_goto (pc := 26) C 2 (by decide) dX6_isSettled_26 ?_
          refine G.loc [1, 0] (lv' := [(0, .ref pp), (1, .int (nI (i + 1)))]) rfl ?_
          exact ih_2 (i + 1) (by omega) (fun j hj => by rcases Nat.lt_or_ge j i with q | q; exact hq j q; have h1 : j = i := (by omega); subst h1; exact c_18) (by omega)
        · simp only [bI_0] at c_18
          refine g_iconst (pc := 21) (v := 0) C (by decide) dX6_isSettled_21 ?_
          refine G.eqs (st' := [.int (bI (sttl z fd f n))]) (congrArg (fun z9 => [Value.int z9]) (show (0 : Int32) = (bI (sttl z fd f n)) from by rw [Bool.eq_false_iff.mpr (fun h => c_18 (sttl_iff.mp h i hl10))]; try rfl)) ?_
          exact g_zret (pc := 22) C hr (by first | rfl | exact bI_nar _) hlk (by first | decide | omega) (by first | decide | omega) (by first | decide | omega) dX6_isSettled_22 ⟨rfl, rfl⟩
  refine G.loc [1, 0] (lv' := [(0, .ref pp), (1, .int 0)]) rfl ?_
  refine G.eql (lv' := [(0, .ref pp), (1, .int (nI 0))]) (congrArg (β := List (Nat × Value)) (fun z9 => [(0, .ref pp), (1, .int z9)]) (show (0 : Int32) = (nI 0) from by exact nI_0.symm)) ?_
  exact key_2 (n - 0 + 1) 0 (by omega) (fun j hj => absurd hj (Nat.not_lt_zero j)) (Nat.lt_succ_self _)
def unbI (fj fp : Nat → Int32) (v : Nat) : Nat → Int32
  | 0 => 0
  | w + 1 => if fp w < 0 then unbI fj fp v w + fj (v * 6 + w) else unbI fj fp v w
set_option maxRecDepth 100000 in
set_option maxHeartbeats 400000 in
theorem c_X6_unburntEdges {l : Launch} {D : va_G} {k : Nat → ClassId} (h : Nat) (jj : Nat) (dd : Nat) (n : Nat) (z : Nat) (fj : Nat → Int32) (fd : Nat → Int32) (pp : Nat) (r1 : Nat) (r2 : Nat) (tk : Int32) (r5 : Nat) (a5 : Nat) (fp : Nat → Int32) (v : Nat) (hn : n ≤ 6) (hv : v < n) : CM l D k yX6_unburntEdges cX6_unburntEdges 5 (some .int)  1 23 [.ref pp, .int (nI v), .ref r5] [(h, .inr (5, [.ref jj, .ref dd, .int (nI n), .int (nI z)])), (jj, aI k 36 fj), (dd, aI k 6 fd), (pp, .inr (8, [.ref h, .ref r1, .ref r2, .int tk])), (r5, .inr (10, [.ref a5])), (a5, aI k 6 fp)] (is1 (some (.int (unbI fj fp v n))) [(h, .inr (5, [.ref jj, .ref dd, .int (nI n), .int (nI z)])), (jj, aI k 36 fj), (dd, aI k 6 fd), (pp, .inr (8, [.ref h, .ref r1, .ref r2, .int tk])), (r5, .inr (10, [.ref a5])), (a5, aI k 6 fp)]) 0 0 0 := by
  refine CM.of (lv0 := [(0, .ref pp), (1, .int (nI v)), (2, .ref r5)]) (by decide +kernel) (Nat.le_of_ble_eq_true rfl) rfl ?_
  intro p9 e9 s9 m9 bl9 me9 co9 C hr hlk hin had
  refine g_iconst (pc := 0) (v := 0) C (by decide) dX6_unburntEdges_0 ?_
  refine g_istore_n (pc := 1) C [(3, .int 0), (0, .ref pp), (1, .int (nI v)), (2, .ref r5)] rfl dX6_unburntEdges_1 (by decide) rfl ?_
  refine g_iconst (pc := 2) (v := 0) C (by decide) dX6_unburntEdges_2 ?_
  refine g_istore (pc := 3) C [(4, .int 0), (3, .int 0), (0, .ref pp), (1, .int (nI v)), (2, .ref r5)] dX6_unburntEdges_3 (by decide) rfl ?_
  have key_5 : ∀ (fuel : Nat) (w : Nat), w ≤ n → n - w < fuel → G p9 l e9 { frames := 1, cells := 0, slots := 0, locals := 23 } s9 m9 ([.ref pp, .int (nI v), .ref r5] : List Value).toArray bl9 me9 co9 D 5 (va_A [(h, .inr (5, [.ref jj, .ref dd, .int (nI n), .int (nI z)])), (jj, aI k 36 fj), (dd, aI k 6 fd), (pp, .inr (8, [.ref h, .ref r1, .ref r2, .int tk])), (r5, .inr (10, [.ref a5])), (a5, aI k 6 fp)] s9.heap.size) (QM bl9 D ([.ref pp, .int (nI v), .ref r5] : List Value).toArray s9 [(h, .inr (5, [.ref jj, .ref dd, .int (nI n), .int (nI z)])), (jj, aI k 36 fj), (dd, aI k 6 fd), (pp, .inr (8, [.ref h, .ref r1, .ref r2, .int tk])), (r5, .inr (10, [.ref a5])), (a5, aI k 6 fp)] (is1 (some (.int (unbI fj fp v n))) [(h, .inr (5, [.ref jj, .ref dd, .int (nI n), .int (nI z)])), (jj, aI k 36 fj), (dd, aI k 6 fd), (pp, .inr (8, [.ref h, .ref r1, .ref r2, .int tk])), (r5, .inr (10, [.ref a5])), (a5, aI k 6 fp)]) 0 0 0) [(h, .inr (5, [.ref jj, .ref dd, .int (nI n), .int (nI z)])), (jj, aI k 36 fj), (dd, aI k 6 fd), (pp, .inr (8, [.ref h, .ref r1, .ref r2, .int tk])), (r5, .inr (10, [.ref a5])), (a5, aI k 6 fp)] [(0, .ref pp), (1, .int (nI v)), (2, .ref r5), (3, .int (unbI fj fp v w)), (4, .int (nI w))] 0 0 0 5 [] := by
    intro fuel
    induction fuel with
    | zero => intro w hw hm; exact absurd hm (Nat.not_lt_zero _)
    | succ fuel ih =>
      intro w hw hm
      have ih_5 := ih
      refine g_iload (pc := 5) C 4 rfl dX6_unburntEdges_5 ?_
      refine g_aload_n (pc := 7) C 0 rfl rfl dX6_unburntEdges_7 ?_
      refine g_get (pc := 8) C (T := TX6) inX6 3 rfl rfl 0 (by decide) q_37 rfl rfl dX6_unburntEdges_8 ?_
      refine g_callV (pc := 11) (cells := 0) (slots := 0) (g := 0) (As := []) (st := [.int (nI w)]) (T := TX3) (q0 := 0) C (nA := 0) rfl (c_X3_size h jj dd n z fj fd ) q_66 q_67 q_65 q_16 q_64 (by decide +kernel) rfl rfl dX6_unburntEdges_11 ⟨Nat.le_of_ble_eq_true rfl, Nat.le_of_ble_eq_true rfl⟩ [0, 1, 2] [3, 4, 5] rfl (wr := [(pp, .inr (8, [.ref h, .ref r1, .ref r2, .int tk])), (r5, .inr (10, [.ref a5])), (a5, aI k 6 fp)]) rfl (by decide) (by decide) (by decide) (Nat.le_of_ble_eq_true rfl) ⟨Nat.le_of_ble_eq_true rfl, Nat.le_of_ble_eq_true rfl⟩ (fun rv w1 h1 => ?_)
      obtain ⟨rfl, rfl⟩ := h1
      refine G.aft [3, 4, 5, 0, 1, 2] (ws' := [(h, .inr (5, [.ref jj, .ref dd, .int (nI n), .int (nI z)])), (jj, aI k 36 fj), (dd, aI k 6 fd), (pp, .inr (8, [.ref h, .ref r1, .ref r2, .int tk])), (r5, .inr (10, [.ref a5])), (a5, aI k 6 fp)]) (st' := [.int (nI n), .int (nI w)]) (cells' := 0) (slots' := 0) (g' := 0) (by decide) rfl rfl rfl rfl rfl ?_
      refine g_icmp_ge (pc := 14) C 45 (by decide) dX6_unburntEdges_14 (fun c_14 => ?_) (fun c_14 => ?_)
      · have h3 : w = n := by { have := nle_ge (b := n) (a := w) (by omega) c_14; omega }
        refine g_iload_n (pc := 45) C 3 rfl rfl dX6_unburntEdges_45 ?_
        refine G.eqs (st' := [.int (unbI fj fp v n)]) (congrArg (fun z9 => [Value.int z9]) (show ((unbI fj fp v w) : Int32) = (unbI fj fp v n) from by rw [h3])) ?_
        exact g_iret (pc := 46) C hr hlk (by first | decide | omega) (by first | decide | omega) (by first | decide | omega) dX6_unburntEdges_46 ⟨rfl, rfl⟩
      · have hl14 : w < n := nle_lt (by omega) c_14
        refine g_aload_n (pc := 17) C 2 rfl rfl dX6_unburntEdges_17 ?_
        refine g_iload (pc := 18) C 4 rfl dX6_unburntEdges_18 ?_
        refine g_callV (pc := 20) (cells := 0) (slots := 0) (g := 0) (As := [.int (nI w)]) (st := []) (T := TX8) (q0 := 4) C (nA := 1) rfl (c_X8_at_n r5 a5 6 fp w (by first | assumption | decide | omega) (by first | assumption | decide | omega)) q_51 q_9 q_7 q_6 q_5 (by decide +kernel) rfl rfl dX6_unburntEdges_20 ⟨Nat.le_of_ble_eq_true rfl, Nat.le_of_ble_eq_true rfl⟩ [4, 5] [0, 1, 2, 3] rfl (wr := [(h, .inr (5, [.ref jj, .ref dd, .int (nI n), .int (nI z)])), (jj, aI k 36 fj), (dd, aI k 6 fd), (pp, .inr (8, [.ref h, .ref r1, .ref r2, .int tk]))]) rfl (by decide) (by decide) (by decide) (Nat.le_of_ble_eq_true rfl) ⟨Nat.le_of_ble_eq_true rfl, Nat.le_of_ble_eq_true rfl⟩ (fun rv w1 h1 => ?_)
        obtain ⟨rfl, rfl⟩ := h1
        refine G.aft [0, 1, 2, 3, 4, 5] (ws' := [(h, .inr (5, [.ref jj, .ref dd, .int (nI n), .int (nI z)])), (jj, aI k 36 fj), (dd, aI k 6 fd), (pp, .inr (8, [.ref h, .ref r1, .ref r2, .int tk])), (r5, .inr (10, [.ref a5])), (a5, aI k 6 fp)]) (st' := [.int (fp w)]) (cells' := 0) (slots' := 0) (g' := 0) (by decide) rfl rfl rfl rfl rfl ?_
        refine g_if_ge (pc := 23) C 39 (by decide) dX6_unburntEdges_23 (fun c_23 => ?_) (fun c_23 => ?_)
        · refine g_iinc (pc := 39) (n := 1) (v := (nI (w + 1))) C 4 [(4, .int (nI (w + 1))), (0, .ref pp), (1, .int (nI v)), (2, .ref r5), (3, .int (unbI fj fp v w))] rfl (nI_1 w) dX6_unburntEdges_39 (by decide) rfl ?_
          refine g_goto (pc := 42) C 5 (by decide) dX6_unburntEdges_42 ?_
          refine G.loc [1, 2, 3, 4, 0] (lv' := [(0, .ref pp), (1, .int (nI v)), (2, .ref r5), (3, .int (unbI fj fp v w)), (4, .int (nI (w + 1)))]) rfl ?_
          refine G.eql (lv' := [(0, .ref pp), (1, .int (nI v)), (2, .ref r5), (3, .int (unbI fj fp v (w + 1))), (4, .int (nI (w + 1)))]) (congrArg (β := List (Nat × Value)) (fun z9 => [(0, .ref pp), (1, .int (nI v)), (2, .ref r5), (3, .int z9), (4, .int (nI (w + 1)))]) (show ((unbI fj fp v w) : Int32) = (unbI fj fp v (w + 1)) from by first | (show _ = (if _ then _ else _); rw [if_neg (Int32.not_lt.mpr c_23)]) | (show _ = (if _ then _ else _); rw [if_pos (Int32.not_le.mp c_23)]))) ?_
          exact ih_5 (w + 1) (by omega) (by omega)
        · refine g_iload_n (pc := 26) C 3 rfl rfl dX6_unburntEdges_26 ?_
          refine g_aload_n (pc := 27) C 0 rfl rfl dX6_unburntEdges_27 ?_
          refine g_get (pc := 28) C (T := TX6) inX6 3 rfl rfl 0 (by decide) q_37 rfl rfl dX6_unburntEdges_28 ?_
          refine g_iload_n (pc := 31) C 1 rfl rfl dX6_unburntEdges_31 ?_
          refine g_iload (pc := 32) C 4 rfl dX6_unburntEdges_32 ?_
          refine g_callV (pc := 34) (cells := 0) (slots := 0) (g := 0) (As := [.int (nI v), .int (nI w)]) (st := [.int (unbI fj fp v w)]) (T := TX3) (q0 := 0) C (nA := 2) rfl (c_X3_between h jj dd n z fj fd v w (by first | assumption | decide | omega) (by first | assumption | decide | omega) (by first | assumption | decide | omega)) q_68 q_23 q_21 q_16 q_20 (by decide +kernel) rfl rfl dX6_unburntEdges_34 ⟨Nat.le_of_ble_eq_true rfl, Nat.le_of_ble_eq_true rfl⟩ [0, 1, 2] [3, 4, 5] rfl (wr := [(pp, .inr (8, [.ref h, .ref r1, .ref r2, .int tk])), (r5, .inr (10, [.ref a5])), (a5, aI k 6 fp)]) rfl (by decide) (by decide) (by decide) (Nat.le_of_ble_eq_true rfl) ⟨Nat.le_of_ble_eq_true rfl, Nat.le_of_ble_eq_true rfl⟩ (fun rv w1 h1 => ?_)
          obtain ⟨rfl, rfl⟩ := h1
          refine G.aft [3, 4, 5, 0, 1, 2] (ws' := [(h, .inr (5, [.ref jj, .ref dd, .int (nI n), .int (nI z)])), (jj, aI k 36 fj), (dd, aI k 6 fd), (pp, .inr (8, [.ref h, .ref r1, .ref r2, .int tk])), (r5, .inr (10, [.ref a5])), (a5, aI k 6 fp)]) (st' := [.int (fj (v * 6 + w)), .int (unbI fj fp v w)]) (cells' := 0) (slots' := 0) (g' := 0) (by decide) rfl rfl rfl rfl rfl ?_
          refine g_iadd (pc := 37) C dX6_unburntEdges_37 ?_
          refine g_istore_n (pc := 38) C [(3, .int ((unbI fj fp v w) + (fj (v * 6 + w)))), (0, .ref pp), (1, .int (nI v)), (2, .ref r5), (4, .int (nI w))] rfl dX6_unburntEdges_38 (by decide) rfl ?_
          refine g_iinc (pc := 39) (n := 1) (v := (nI (w + 1))) C 4 [(4, .int (nI (w + 1))), (3, .int ((unbI fj fp v w) + (fj (v * 6 + w)))), (0, .ref pp), (1, .int (nI v)), (2, .ref r5)] rfl (nI_1 w) dX6_unburntEdges_39 (by decide) rfl ?_
          refine g_goto (pc := 42) C 5 (by decide) dX6_unburntEdges_42 ?_
          refine G.loc [2, 3, 4, 1, 0] (lv' := [(0, .ref pp), (1, .int (nI v)), (2, .ref r5), (3, .int ((unbI fj fp v w) + (fj (v * 6 + w)))), (4, .int (nI (w + 1)))]) rfl ?_
          refine G.eql (lv' := [(0, .ref pp), (1, .int (nI v)), (2, .ref r5), (3, .int (unbI fj fp v (w + 1))), (4, .int (nI (w + 1)))]) (congrArg (β := List (Nat × Value)) (fun z9 => [(0, .ref pp), (1, .int (nI v)), (2, .ref r5), (3, .int z9), (4, .int (nI (w + 1)))]) (show (((unbI fj fp v w) + (fj (v * 6 + w))) : Int32) = (unbI fj fp v (w + 1)) from by first | (show _ = (if _ then _ else _); rw [if_neg (Int32.not_lt.mpr c_23)]) | (show _ = (if _ then _ else _); rw [if_pos (Int32.not_le.mp c_23)]))) ?_
          exact ih_5 (w + 1) (by omega) (by omega)
  refine G.loc [2, 3, 4, 1, 0] (lv' := [(0, .ref pp), (1, .int (nI v)), (2, .ref r5), (3, .int 0), (4, .int 0)]) rfl ?_
  refine G.eql (lv' := [(0, .ref pp), (1, .int (nI v)), (2, .ref r5), (3, .int (unbI fj fp v 0)), (4, .int (nI 0))]) ((congrArg (β := List (Nat × Value)) (fun z9 => [(0, .ref pp), (1, .int (nI v)), (2, .ref r5), (3, .int z9), (4, .int 0)]) (show (0 : Int32) = (unbI fj fp v 0) from by first | rfl | exact nI_0.symm)).trans (congrArg (β := List (Nat × Value)) (fun z9 => [(0, .ref pp), (1, .int (nI v)), (2, .ref r5), (3, .int (unbI fj fp v 0)), (4, .int z9)]) (show (0 : Int32) = (nI 0) from by first | rfl | exact nI_0.symm))) ?_
  exact key_5 (n - 0 + 1) 0 (by omega) (Nat.lt_succ_self _)
/-- one round of the fire, and so many -/
def canI (n : Nat) (fj f fp : Nat → Int32) (v : Nat) : Bool := decide (fp v < 0) && decide (unbI fj fp v n ≤ f v)
def brnS (n : Nat) (fj f fp : Nat → Int32) (k : Nat) : Nat → Int32 := match low (canI n fj f fp) n with
  | some v => upd fp v (nI k)
  | none => fp
def brnI (n z : Nat) (fj f : Nat → Int32) : Nat → Nat → Int32
  | 0 => upd (fun _ => -1) z 0
  | k + 1 => brnS n fj f (brnI n z fj f k) (k + 1)
theorem brnS_some {n : Nat} {fj f fp : Nat → Int32} {k v : Nat} (hv : v < n) (h1 : ¬ 0 ≤ fp v) (h2 : ¬ f v < unbI fj fp v n) (hq : ∀ u, u < v → canI n fj f fp u = false) : brnS n fj f fp k = upd fp v (nI k) := by
  unfold brnS
  rw [low_some.mpr ⟨hv, by unfold canI; rw [decide_eq_true (Int32.not_le.mp h1), decide_eq_true (Int32.not_lt.mp h2)]; rfl, hq⟩]
theorem brnS_none {n : Nat} {fj f fp : Nat → Int32} {k : Nat} (hq : ∀ u, u < n → canI n fj f fp u = false) : brnS n fj f fp k = fp := by
  unfold brnS
  rw [low_none.mpr hq]
theorem canI_1 {n : Nat} {fj f fp : Nat → Int32} {v : Nat} (h : 0 ≤ fp v) : canI n fj f fp v = false := by
  unfold canI; rw [decide_eq_false (Int32.not_lt.mpr h)]; rfl
theorem canI_2 {n : Nat} {fj f fp : Nat → Int32} {v : Nat} (h : f v < unbI fj fp v n) : canI n fj f fp v = false := by
  unfold canI; rw [decide_eq_false (Int32.not_le.mpr h)]; exact Bool.and_false _
set_option maxRecDepth 100000 in
set_option maxHeartbeats 400000 in
theorem c_X6_burn {l : Launch} {D : va_G} {k : Nat → ClassId} (h : Nat) (jj : Nat) (dd : Nat) (n : Nat) (z : Nat) (fj : Nat → Int32) (fd : Nat → Int32) (pp : Nat) (r1 : Nat) (a1 : Nat) (r2 : Nat) (a2 : Nat) (f : Nat → Int32) (ct : Nat → Int32) (tk : Int32) (r5 : Nat) (a5 : Nat) (fp : Nat → Int32) (hn : n ≤ 6) (h1 : 1 ≤ n) (hz : z < 6) : CM l D k yX6_burn cX6_burn 4 none  2 47 [.ref pp, .ref r5] [(h, .inr (5, [.ref jj, .ref dd, .int (nI n), .int (nI z)])), (jj, aI k 36 fj), (dd, aI k 6 fd), (pp, .inr (8, [.ref h, .ref r1, .ref r2, .int tk])), (r1, .inr (10, [.ref a1])), (a1, aI k 6 f), (r2, .inr (10, [.ref a2])), (a2, aI k 6 ct), (r5, .inr (10, [.ref a5])), (a5, aI k 6 fp)] (is1 none [(h, .inr (5, [.ref jj, .ref dd, .int (nI n), .int (nI z)])), (jj, aI k 36 fj), (dd, aI k 6 fd), (pp, .inr (8, [.ref h, .ref r1, .ref r2, .int tk])), (r1, .inr (10, [.ref a1])), (a1, aI k 6 f), (r2, .inr (10, [.ref a2])), (a2, aI k 6 ct), (r5, .inr (10, [.ref a5])), (a5, aI k 6 (brnI n z fj f (n - 1)))]) 0 0 0 := by
  refine CM.of (lv0 := [(0, .ref pp), (1, .ref r5)]) (by decide +kernel) (Nat.le_of_ble_eq_true rfl) rfl ?_
  intro p9 e9 s9 m9 bl9 me9 co9 C hr hlk hin had
  refine g_aload_n (pc := 0) C 1 rfl rfl dX6_burn_0 ?_
  refine g_iconst (pc := 1) (v := (-1)) C (by decide) dX6_burn_1 ?_
  refine g_callV (pc := 2) (cells := 0) (slots := 0) (g := 0) (As := [.int (-1)]) (st := []) (T := TX8) (q0 := 8) C (nA := 1) rfl (c_X8_fill r5 a5 6 fp (-1) (by first | assumption | decide | omega)) q_40 q_41 q_39 q_6 q_38 (by decide +kernel) rfl rfl dX6_burn_2 ⟨Nat.le_of_ble_eq_true rfl, Nat.le_of_ble_eq_true rfl⟩ [8, 9] [0, 1, 2, 3, 4, 5, 6, 7] rfl (wr := [(h, .inr (5, [.ref jj, .ref dd, .int (nI n), .int (nI z)])), (jj, aI k 36 fj), (dd, aI k 6 fd), (pp, .inr (8, [.ref h, .ref r1, .ref r2, .int tk])), (r1, .inr (10, [.ref a1])), (a1, aI k 6 f), (r2, .inr (10, [.ref a2])), (a2, aI k 6 ct)]) rfl (by decide) (by decide) (by decide) (Nat.le_of_ble_eq_true rfl) ⟨Nat.le_of_ble_eq_true rfl, Nat.le_of_ble_eq_true rfl⟩ (fun rv w1 h1 => ?_)
  obtain ⟨rfl, rfl⟩ := h1
  refine G.aft [0, 1, 2, 3, 4, 5, 6, 7, 8, 9] (ws' := [(h, .inr (5, [.ref jj, .ref dd, .int (nI n), .int (nI z)])), (jj, aI k 36 fj), (dd, aI k 6 fd), (pp, .inr (8, [.ref h, .ref r1, .ref r2, .int tk])), (r1, .inr (10, [.ref a1])), (a1, aI k 6 f), (r2, .inr (10, [.ref a2])), (a2, aI k 6 ct), (r5, .inr (10, [.ref a5])), (a5, aI k 6 (fun _ => (-1)))]) (st' := []) (cells' := 0) (slots' := 0) (g' := 0) (by decide) rfl rfl rfl rfl rfl ?_
  refine g_aload_n (pc := 5) C 1 rfl rfl dX6_burn_5 ?_
  refine g_aload_n (pc := 6) C 0 rfl rfl dX6_burn_6 ?_
  refine g_get (pc := 7) C (T := TX6) inX6 3 rfl rfl 0 (by decide) q_37 rfl rfl dX6_burn_7 ?_
  refine g_callV (pc := 10) (cells := 0) (slots := 0) (g := 0) (As := []) (st := [.ref r5]) (T := TX3) (q0 := 0) C (nA := 0) rfl (c_X3_sinkVertex h jj dd n z fj fd ) q_197 q_198 q_196 q_16 q_195 (by decide +kernel) rfl rfl dX6_burn_10 ⟨Nat.le_of_ble_eq_true rfl, Nat.le_of_ble_eq_true rfl⟩ [0, 1, 2] [3, 4, 5, 6, 7, 8, 9] rfl (wr := [(pp, .inr (8, [.ref h, .ref r1, .ref r2, .int tk])), (r1, .inr (10, [.ref a1])), (a1, aI k 6 f), (r2, .inr (10, [.ref a2])), (a2, aI k 6 ct), (r5, .inr (10, [.ref a5])), (a5, aI k 6 (fun _ => (-1)))]) rfl (by decide) (by decide) (by decide) (Nat.le_of_ble_eq_true rfl) ⟨Nat.le_of_ble_eq_true rfl, Nat.le_of_ble_eq_true rfl⟩ (fun rv w1 h1 => ?_)
  obtain ⟨rfl, rfl⟩ := h1
  refine G.aft [7, 8, 9, 0, 1, 2, 3, 4, 5, 6] (ws' := [(h, .inr (5, [.ref jj, .ref dd, .int (nI n), .int (nI z)])), (jj, aI k 36 fj), (dd, aI k 6 fd), (pp, .inr (8, [.ref h, .ref r1, .ref r2, .int tk])), (r1, .inr (10, [.ref a1])), (a1, aI k 6 f), (r2, .inr (10, [.ref a2])), (a2, aI k 6 ct), (r5, .inr (10, [.ref a5])), (a5, aI k 6 (fun _ => (-1)))]) (st' := [.int (nI z), .ref r5]) (cells' := 0) (slots' := 0) (g' := 0) (by decide) rfl rfl rfl rfl rfl ?_
  refine g_iconst (pc := 13) (v := 0) C (by decide) dX6_burn_13 ?_
  refine g_callV (pc := 14) (cells := 0) (slots := 0) (g := 0) (As := [.int (nI z), .int 0]) (st := []) (T := TX8) (q0 := 8) C (nA := 2) rfl (c_X8_write_n r5 a5 6 (fun _ => (-1)) z 0 (by first | assumption | decide | omega) (by first | assumption | decide | omega)) q_201 q_202 q_200 q_6 q_199 (by decide +kernel) rfl rfl dX6_burn_14 ⟨Nat.le_of_ble_eq_true rfl, Nat.le_of_ble_eq_true rfl⟩ [8, 9] [0, 1, 2, 3, 4, 5, 6, 7] rfl (wr := [(h, .inr (5, [.ref jj, .ref dd, .int (nI n), .int (nI z)])), (jj, aI k 36 fj), (dd, aI k 6 fd), (pp, .inr (8, [.ref h, .ref r1, .ref r2, .int tk])), (r1, .inr (10, [.ref a1])), (a1, aI k 6 f), (r2, .inr (10, [.ref a2])), (a2, aI k 6 ct)]) rfl (by decide) (by decide) (by decide) (Nat.le_of_ble_eq_true rfl) ⟨Nat.le_of_ble_eq_true rfl, Nat.le_of_ble_eq_true rfl⟩ (fun rv w1 h1 => ?_)
  obtain ⟨rfl, rfl⟩ := h1
  refine G.aft [0, 1, 2, 3, 4, 5, 6, 7, 8, 9] (ws' := [(h, .inr (5, [.ref jj, .ref dd, .int (nI n), .int (nI z)])), (jj, aI k 36 fj), (dd, aI k 6 fd), (pp, .inr (8, [.ref h, .ref r1, .ref r2, .int tk])), (r1, .inr (10, [.ref a1])), (a1, aI k 6 f), (r2, .inr (10, [.ref a2])), (a2, aI k 6 ct), (r5, .inr (10, [.ref a5])), (a5, aI k 6 (upd (fun _ => (-1)) z 0))]) (st' := []) (cells' := 0) (slots' := 0) (g' := 0) (by decide) rfl rfl rfl rfl rfl ?_
  refine g_iconst (pc := 17) (v := 1) C (by decide) dX6_burn_17 ?_
  refine g_istore_n (pc := 18) C [(2, .int 1), (0, .ref pp), (1, .ref r5)] rfl dX6_burn_18 (by decide) rfl ?_
  have key_19 : ∀ (fuel : Nat) (k9 : Nat), k9 + 1 ≤ n → n - k9 < fuel → G p9 l e9 { frames := 2, cells := 0, slots := 0, locals := 47 } s9 m9 ([.ref pp, .ref r5] : List Value).toArray bl9 me9 co9 D 4 (va_A [(h, .inr (5, [.ref jj, .ref dd, .int (nI n), .int (nI z)])), (jj, aI k 36 fj), (dd, aI k 6 fd), (pp, .inr (8, [.ref h, .ref r1, .ref r2, .int tk])), (r1, .inr (10, [.ref a1])), (a1, aI k 6 f), (r2, .inr (10, [.ref a2])), (a2, aI k 6 ct), (r5, .inr (10, [.ref a5])), (a5, aI k 6 fp)] s9.heap.size) (QM bl9 D ([.ref pp, .ref r5] : List Value).toArray s9 [(h, .inr (5, [.ref jj, .ref dd, .int (nI n), .int (nI z)])), (jj, aI k 36 fj), (dd, aI k 6 fd), (pp, .inr (8, [.ref h, .ref r1, .ref r2, .int tk])), (r1, .inr (10, [.ref a1])), (a1, aI k 6 f), (r2, .inr (10, [.ref a2])), (a2, aI k 6 ct), (r5, .inr (10, [.ref a5])), (a5, aI k 6 fp)] (is1 none [(h, .inr (5, [.ref jj, .ref dd, .int (nI n), .int (nI z)])), (jj, aI k 36 fj), (dd, aI k 6 fd), (pp, .inr (8, [.ref h, .ref r1, .ref r2, .int tk])), (r1, .inr (10, [.ref a1])), (a1, aI k 6 f), (r2, .inr (10, [.ref a2])), (a2, aI k 6 ct), (r5, .inr (10, [.ref a5])), (a5, aI k 6 (brnI n z fj f (n - 1)))]) 0 0 0) [(h, .inr (5, [.ref jj, .ref dd, .int (nI n), .int (nI z)])), (jj, aI k 36 fj), (dd, aI k 6 fd), (pp, .inr (8, [.ref h, .ref r1, .ref r2, .int tk])), (r1, .inr (10, [.ref a1])), (a1, aI k 6 f), (r2, .inr (10, [.ref a2])), (a2, aI k 6 ct), (r5, .inr (10, [.ref a5])), (a5, aI k 6 (brnI n z fj f k9))] [(0, .ref pp), (1, .ref r5), (2, .int (nI (k9 + 1)))] 0 0 0 19 [] := by
    intro fuel
    induction fuel with
    | zero => intro k9 hk9 hm; exact absurd hm (Nat.not_lt_zero _)
    | succ fuel ih =>
      intro k9 hk9 hm
      have ih_19 := ih
      refine g_iload_n (pc := 19) C 2 rfl rfl dX6_burn_19 ?_
      refine g_aload_n (pc := 20) C 0 rfl rfl dX6_burn_20 ?_
      refine g_get (pc := 21) C (T := TX6) inX6 3 rfl rfl 0 (by decide) q_37 rfl rfl dX6_burn_21 ?_
      refine g_callV (pc := 24) (cells := 0) (slots := 0) (g := 0) (As := []) (st := [.int (nI (k9 + 1))]) (T := TX3) (q0 := 0) C (nA := 0) rfl (c_X3_size h jj dd n z fj fd ) q_66 q_67 q_65 q_16 q_64 (by decide +kernel) rfl rfl dX6_burn_24 ⟨Nat.le_of_ble_eq_true rfl, Nat.le_of_ble_eq_true rfl⟩ [0, 1, 2] [3, 4, 5, 6, 7, 8, 9] rfl (wr := [(pp, .inr (8, [.ref h, .ref r1, .ref r2, .int tk])), (r1, .inr (10, [.ref a1])), (a1, aI k 6 f), (r2, .inr (10, [.ref a2])), (a2, aI k 6 ct), (r5, .inr (10, [.ref a5])), (a5, aI k 6 (brnI n z fj f k9))]) rfl (by decide) (by decide) (by decide) (Nat.le_of_ble_eq_true rfl) ⟨Nat.le_of_ble_eq_true rfl, Nat.le_of_ble_eq_true rfl⟩ (fun rv w1 h1 => ?_)
      obtain ⟨rfl, rfl⟩ := h1
      refine G.aft [7, 8, 9, 0, 1, 2, 3, 4, 5, 6] (ws' := [(h, .inr (5, [.ref jj, .ref dd, .int (nI n), .int (nI z)])), (jj, aI k 36 fj), (dd, aI k 6 fd), (pp, .inr (8, [.ref h, .ref r1, .ref r2, .int tk])), (r1, .inr (10, [.ref a1])), (a1, aI k 6 f), (r2, .inr (10, [.ref a2])), (a2, aI k 6 ct), (r5, .inr (10, [.ref a5])), (a5, aI k 6 (brnI n z fj f k9))]) (st' := [.int (nI n), .int (nI (k9 + 1))]) (cells' := 0) (slots' := 0) (g' := 0) (by decide) rfl rfl rfl rfl rfl ?_
      refine g_icmp_ge (pc := 27) C 89 (by decide) dX6_burn_27 (fun c_27 => ?_) (fun c_27 => ?_)
      · have h4 : k9 = n - 1 := by { have := nle_ge (by omega) c_27; omega }
        refine G.fn (brnI n z fj f (n - 1)) 9 [(h, .inr (5, [.ref jj, .ref dd, .int (nI n), .int (nI z)])), (jj, aI k 36 fj), (dd, aI k 6 fd), (pp, .inr (8, [.ref h, .ref r1, .ref r2, .int tk])), (r1, .inr (10, [.ref a1])), (a1, aI k 6 f), (r2, .inr (10, [.ref a2])), (a2, aI k 6 ct), (r5, .inr (10, [.ref a5])), (a5, aI k 6 (brnI n z fj f (n - 1)))] rfl (fun j hj => by rw [h4]) rfl ?_
        exact g_vret (pc := 89) C hr hlk (by first | decide | omega) (by first | decide | omega) (by first | decide | omega) dX6_burn_89 ⟨rfl, rfl⟩
      · have hl27 : k9 + 1 < n := nle_lt (by omega) c_27
        refine g_iconst (pc := 30) (v := 0) C (by decide) dX6_burn_30 ?_
        refine g_istore_n (pc := 31) C [(3, .int 0), (0, .ref pp), (1, .ref r5), (2, .int (nI (k9 + 1)))] rfl dX6_burn_31 (by decide) rfl ?_
        have key_32 : ∀ (fuel : Nat) (i : Nat), i ≤ n → (∀ j, j < i → canI n fj f (brnI n z fj f k9) j = false) → n - i < fuel → G p9 l e9 { frames := 2, cells := 0, slots := 0, locals := 47 } s9 m9 ([.ref pp, .ref r5] : List Value).toArray bl9 me9 co9 D 4 (va_A [(h, .inr (5, [.ref jj, .ref dd, .int (nI n), .int (nI z)])), (jj, aI k 36 fj), (dd, aI k 6 fd), (pp, .inr (8, [.ref h, .ref r1, .ref r2, .int tk])), (r1, .inr (10, [.ref a1])), (a1, aI k 6 f), (r2, .inr (10, [.ref a2])), (a2, aI k 6 ct), (r5, .inr (10, [.ref a5])), (a5, aI k 6 fp)] s9.heap.size) (QM bl9 D ([.ref pp, .ref r5] : List Value).toArray s9 [(h, .inr (5, [.ref jj, .ref dd, .int (nI n), .int (nI z)])), (jj, aI k 36 fj), (dd, aI k 6 fd), (pp, .inr (8, [.ref h, .ref r1, .ref r2, .int tk])), (r1, .inr (10, [.ref a1])), (a1, aI k 6 f), (r2, .inr (10, [.ref a2])), (a2, aI k 6 ct), (r5, .inr (10, [.ref a5])), (a5, aI k 6 fp)] (is1 none [(h, .inr (5, [.ref jj, .ref dd, .int (nI n), .int (nI z)])), (jj, aI k 36 fj), (dd, aI k 6 fd), (pp, .inr (8, [.ref h, .ref r1, .ref r2, .int tk])), (r1, .inr (10, [.ref a1])), (a1, aI k 6 f), (r2, .inr (10, [.ref a2])), (a2, aI k 6 ct), (r5, .inr (10, [.ref a5])), (a5, aI k 6 (brnI n z fj f (n - 1)))]) 0 0 0) [(h, .inr (5, [.ref jj, .ref dd, .int (nI n), .int (nI z)])), (jj, aI k 36 fj), (dd, aI k 6 fd), (pp, .inr (8, [.ref h, .ref r1, .ref r2, .int tk])), (r1, .inr (10, [.ref a1])), (a1, aI k 6 f), (r2, .inr (10, [.ref a2])), (a2, aI k 6 ct), (r5, .inr (10, [.ref a5])), (a5, aI k 6 (brnI n z fj f k9))] [(0, .ref pp), (1, .ref r5), (2, .int (nI (k9 + 1))), (3, .int (nI i))] 0 0 0 32 [] := by
          intro fuel
          induction fuel with
          | zero => intro i hi hq hm; exact absurd hm (Nat.not_lt_zero _)
          | succ fuel ih =>
            intro i hi hq hm
            have ih_32 := ih
            refine g_iload_n (pc := 32) C 3 rfl rfl dX6_burn_32 ?_
            refine g_aload_n (pc := 33) C 0 rfl rfl dX6_burn_33 ?_
            refine g_get (pc := 34) C (T := TX6) inX6 3 rfl rfl 0 (by decide) q_37 rfl rfl dX6_burn_34 ?_
            refine g_callV (pc := 37) (cells := 0) (slots := 0) (g := 0) (As := []) (st := [.int (nI i)]) (T := TX3) (q0 := 0) C (nA := 0) rfl (c_X3_size h jj dd n z fj fd ) q_66 q_67 q_65 q_16 q_64 (by decide +kernel) rfl rfl dX6_burn_37 ⟨Nat.le_of_ble_eq_true rfl, Nat.le_of_ble_eq_true rfl⟩ [0, 1, 2] [3, 4, 5, 6, 7, 8, 9] rfl (wr := [(pp, .inr (8, [.ref h, .ref r1, .ref r2, .int tk])), (r1, .inr (10, [.ref a1])), (a1, aI k 6 f), (r2, .inr (10, [.ref a2])), (a2, aI k 6 ct), (r5, .inr (10, [.ref a5])), (a5, aI k 6 (brnI n z fj f k9))]) rfl (by decide) (by decide) (by decide) (Nat.le_of_ble_eq_true rfl) ⟨Nat.le_of_ble_eq_true rfl, Nat.le_of_ble_eq_true rfl⟩ (fun rv w1 h1 => ?_)
            obtain ⟨rfl, rfl⟩ := h1
            refine G.aft [7, 8, 9, 0, 1, 2, 3, 4, 5, 6] (ws' := [(h, .inr (5, [.ref jj, .ref dd, .int (nI n), .int (nI z)])), (jj, aI k 36 fj), (dd, aI k 6 fd), (pp, .inr (8, [.ref h, .ref r1, .ref r2, .int tk])), (r1, .inr (10, [.ref a1])), (a1, aI k 6 f), (r2, .inr (10, [.ref a2])), (a2, aI k 6 ct), (r5, .inr (10, [.ref a5])), (a5, aI k 6 (brnI n z fj f k9))]) (st' := [.int (nI n), .int (nI i)]) (cells' := 0) (slots' := 0) (g' := 0) (by decide) rfl rfl rfl rfl rfl ?_
            refine g_icmp_ge (pc := 40) C 83 (by decide) dX6_burn_40 (fun c_40 => ?_) (fun c_40 => ?_)
            · have h3 : i = n := by { have := nle_ge (b := n) (a := i) (by omega) c_40; omega }
              refine g_iinc (pc := 83) (n := 1) (v := (nI ((k9 + 1) + 1))) C 2 [(2, .int (nI ((k9 + 1) + 1))), (0, .ref pp), (1, .ref r5), (3, .int (nI i))] rfl (nI_1 (k9 + 1)) dX6_burn_83 (by decide) rfl ?_
              refine g_goto (pc := 86) C 19 (by decide) dX6_burn_86 ?_
              refine G.loc [1, 2, 0] (lv' := [(0, .ref pp), (1, .ref r5), (2, .int (nI ((k9 + 1) + 1)))]) rfl ?_
              refine G.fn (brnI n z fj f (k9 + 1)) 9 [(h, .inr (5, [.ref jj, .ref dd, .int (nI n), .int (nI z)])), (jj, aI k 36 fj), (dd, aI k 6 fd), (pp, .inr (8, [.ref h, .ref r1, .ref r2, .int tk])), (r1, .inr (10, [.ref a1])), (a1, aI k 6 f), (r2, .inr (10, [.ref a2])), (a2, aI k 6 ct), (r5, .inr (10, [.ref a5])), (a5, aI k 6 (brnI n z fj f (k9 + 1)))] rfl (fun j hj => by first | (show _ = brnS n fj f (brnI n z fj f k9) (k9 + 1) j; rw [brnS_some hl40 c_48 c_65 hq]) | (show _ = brnS n fj f (brnI n z fj f k9) (k9 + 1) j; rw [brnS_none (fun u hu => hq u (by omega))])) rfl ?_
              exact ih_19 (k9 + 1) (by omega) (by omega)
            · have hl40 : i < n := nle_lt (by omega) c_40
              refine g_aload_n (pc := 43) C 1 rfl rfl dX6_burn_43 ?_
              refine g_iload_n (pc := 44) C 3 rfl rfl dX6_burn_44 ?_
              refine g_callV (pc := 45) (cells := 0) (slots := 0) (g := 0) (As := [.int (nI i)]) (st := []) (T := TX8) (q0 := 8) C (nA := 1) rfl (c_X8_at_n r5 a5 6 (brnI n z fj f k9) i (by first | assumption | decide | omega) (by first | assumption | decide | omega)) q_51 q_9 q_7 q_6 q_5 (by decide +kernel) rfl rfl dX6_burn_45 ⟨Nat.le_of_ble_eq_true rfl, Nat.le_of_ble_eq_true rfl⟩ [8, 9] [0, 1, 2, 3, 4, 5, 6, 7] rfl (wr := [(h, .inr (5, [.ref jj, .ref dd, .int (nI n), .int (nI z)])), (jj, aI k 36 fj), (dd, aI k 6 fd), (pp, .inr (8, [.ref h, .ref r1, .ref r2, .int tk])), (r1, .inr (10, [.ref a1])), (a1, aI k 6 f), (r2, .inr (10, [.ref a2])), (a2, aI k 6 ct)]) rfl (by decide) (by decide) (by decide) (Nat.le_of_ble_eq_true rfl) ⟨Nat.le_of_ble_eq_true rfl, Nat.le_of_ble_eq_true rfl⟩ (fun rv w1 h1 => ?_)
              obtain ⟨rfl, rfl⟩ := h1
              refine G.aft [0, 1, 2, 3, 4, 5, 6, 7, 8, 9] (ws' := [(h, .inr (5, [.ref jj, .ref dd, .int (nI n), .int (nI z)])), (jj, aI k 36 fj), (dd, aI k 6 fd), (pp, .inr (8, [.ref h, .ref r1, .ref r2, .int tk])), (r1, .inr (10, [.ref a1])), (a1, aI k 6 f), (r2, .inr (10, [.ref a2])), (a2, aI k 6 ct), (r5, .inr (10, [.ref a5])), (a5, aI k 6 (brnI n z fj f k9))]) (st' := [.int ((brnI n z fj f k9) i)]) (cells' := 0) (slots' := 0) (g' := 0) (by decide) rfl rfl rfl rfl rfl ?_
              refine g_if_ge (pc := 48) C 77 (by decide) dX6_burn_48 (fun c_48 => ?_) (fun c_48 => ?_)
              · refine g_iinc (pc := 77) (n := 1) (v := (nI (i + 1))) C 3 [(3, .int (nI (i + 1))), (0, .ref pp), (1, .ref r5), (2, .int (nI (k9 + 1)))] rfl (nI_1 i) dX6_burn_77 (by decide) rfl ?_
                refine g_goto (pc := 80) C 32 (by decide) dX6_burn_80 ?_
                refine G.loc [1, 2, 3, 0] (lv' := [(0, .ref pp), (1, .ref r5), (2, .int (nI (k9 + 1))), (3, .int (nI (i + 1)))]) rfl ?_
                exact ih_32 (i + 1) (by omega) (fun j hj => by rcases Nat.lt_or_ge j i with q | q; exact hq j q; have h1 : j = i := (by omega); subst h1; exact (by first | exact canI_1 c_48 | exact canI_2 c_65)) (by omega)
              · refine g_aload_n (pc := 51) C 0 rfl rfl dX6_burn_51 ?_
                refine g_get (pc := 52) C (T := TX6) inX6 3 rfl rfl 1 (by decide) q_34 rfl rfl dX6_burn_52 ?_
                refine g_iload_n (pc := 55) C 3 rfl rfl dX6_burn_55 ?_
                refine g_callV (pc := 56) (cells := 0) (slots := 0) (g := 0) (As := [.int (nI i)]) (st := []) (T := TX8) (q0 := 4) C (nA := 1) rfl (c_X8_at_n r1 a1 6 f i (by first | assumption | decide | omega) (by first | assumption | decide | omega)) q_51 q_9 q_7 q_6 q_5 (by decide +kernel) rfl rfl dX6_burn_56 ⟨Nat.le_of_ble_eq_true rfl, Nat.le_of_ble_eq_true rfl⟩ [4, 5] [0, 1, 2, 3, 6, 7, 8, 9] rfl (wr := [(h, .inr (5, [.ref jj, .ref dd, .int (nI n), .int (nI z)])), (jj, aI k 36 fj), (dd, aI k 6 fd), (pp, .inr (8, [.ref h, .ref r1, .ref r2, .int tk])), (r2, .inr (10, [.ref a2])), (a2, aI k 6 ct), (r5, .inr (10, [.ref a5])), (a5, aI k 6 (brnI n z fj f k9))]) rfl (by decide) (by decide) (by decide) (Nat.le_of_ble_eq_true rfl) ⟨Nat.le_of_ble_eq_true rfl, Nat.le_of_ble_eq_true rfl⟩ (fun rv w1 h1 => ?_)
                obtain ⟨rfl, rfl⟩ := h1
                refine G.aft [0, 1, 2, 3, 8, 9, 4, 5, 6, 7] (ws' := [(h, .inr (5, [.ref jj, .ref dd, .int (nI n), .int (nI z)])), (jj, aI k 36 fj), (dd, aI k 6 fd), (pp, .inr (8, [.ref h, .ref r1, .ref r2, .int tk])), (r1, .inr (10, [.ref a1])), (a1, aI k 6 f), (r2, .inr (10, [.ref a2])), (a2, aI k 6 ct), (r5, .inr (10, [.ref a5])), (a5, aI k 6 (brnI n z fj f k9))]) (st' := [.int (f i)]) (cells' := 0) (slots' := 0) (g' := 0) (by decide) rfl rfl rfl rfl rfl ?_
                refine g_aload_n (pc := 59) C 0 rfl rfl dX6_burn_59 ?_
                refine g_iload_n (pc := 60) C 3 rfl rfl dX6_burn_60 ?_
                refine g_aload_n (pc := 61) C 1 rfl rfl dX6_burn_61 ?_
                refine g_callV (pc := 62) (cells := 0) (slots := 0) (g := 0) (As := [.int (nI i), .ref r5]) (st := [.int (f i)]) (T := TX6) (q0 := 3) C (nA := 2) rfl (c_X6_unburntEdges h jj dd n z fj fd pp r1 r2 tk r5 a5 (brnI n z fj f k9) i (by first | assumption | decide | omega) (by first | assumption | decide | omega)) q_205 q_206 q_204 q_43 q_203 (by decide +kernel) rfl rfl dX6_burn_62 ⟨Nat.le_of_ble_eq_true rfl, Nat.le_of_ble_eq_true rfl⟩ [0, 1, 2, 3, 8, 9] [4, 5, 6, 7] rfl (wr := [(r1, .inr (10, [.ref a1])), (a1, aI k 6 f), (r2, .inr (10, [.ref a2])), (a2, aI k 6 ct)]) rfl (by decide) (by decide) (by decide) (Nat.le_of_ble_eq_true rfl) ⟨Nat.le_of_ble_eq_true rfl, Nat.le_of_ble_eq_true rfl⟩ (fun rv w1 h1 => ?_)
                obtain ⟨rfl, rfl⟩ := h1
                refine G.aft [4, 5, 6, 7, 0, 1, 2, 3, 8, 9] (ws' := [(h, .inr (5, [.ref jj, .ref dd, .int (nI n), .int (nI z)])), (jj, aI k 36 fj), (dd, aI k 6 fd), (pp, .inr (8, [.ref h, .ref r1, .ref r2, .int tk])), (r1, .inr (10, [.ref a1])), (a1, aI k 6 f), (r2, .inr (10, [.ref a2])), (a2, aI k 6 ct), (r5, .inr (10, [.ref a5])), (a5, aI k 6 (brnI n z fj f k9))]) (st' := [.int (unbI fj (brnI n z fj f k9) i n), .int (f i)]) (cells' := 0) (slots' := 0) (g' := 0) (by decide) rfl rfl rfl rfl rfl ?_
                refine g_icmp_lt (pc := 65) C 77 (by decide) dX6_burn_65 (fun c_65 => ?_) (fun c_65 => ?_)
                · refine g_iinc (pc := 77) (n := 1) (v := (nI (i + 1))) C 3 [(3, .int (nI (i + 1))), (0, .ref pp), (1, .ref r5), (2, .int (nI (k9 + 1)))] rfl (nI_1 i) dX6_burn_77 (by decide) rfl ?_
                  refine g_goto (pc := 80) C 32 (by decide) dX6_burn_80 ?_
                  refine G.loc [1, 2, 3, 0] (lv' := [(0, .ref pp), (1, .ref r5), (2, .int (nI (k9 + 1))), (3, .int (nI (i + 1)))]) rfl ?_
                  exact ih_32 (i + 1) (by omega) (fun j hj => by rcases Nat.lt_or_ge j i with q | q; exact hq j q; have h1 : j = i := (by omega); subst h1; exact (by first | exact canI_1 c_48 | exact canI_2 c_65)) (by omega)
                · refine g_aload_n (pc := 68) C 1 rfl rfl dX6_burn_68 ?_
                  refine g_iload_n (pc := 69) C 3 rfl rfl dX6_burn_69 ?_
                  refine g_iload_n (pc := 70) C 2 rfl rfl dX6_burn_70 ?_
                  refine g_callV (pc := 71) (cells := 0) (slots := 0) (g := 0) (As := [.int (nI i), .int (nI (k9 + 1))]) (st := []) (T := TX8) (q0 := 8) C (nA := 2) rfl (c_X8_write_n r5 a5 6 (brnI n z fj f k9) i (nI (k9 + 1)) (by first | assumption | decide | omega) (by first | assumption | decide | omega)) q_201 q_202 q_200 q_6 q_199 (by decide +kernel) rfl rfl dX6_burn_71 ⟨Nat.le_of_ble_eq_true rfl, Nat.le_of_ble_eq_true rfl⟩ [8, 9] [0, 1, 2, 3, 4, 5, 6, 7] rfl (wr := [(h, .inr (5, [.ref jj, .ref dd, .int (nI n), .int (nI z)])), (jj, aI k 36 fj), (dd, aI k 6 fd), (pp, .inr (8, [.ref h, .ref r1, .ref r2, .int tk])), (r1, .inr (10, [.ref a1])), (a1, aI k 6 f), (r2, .inr (10, [.ref a2])), (a2, aI k 6 ct)]) rfl (by decide) (by decide) (by decide) (Nat.le_of_ble_eq_true rfl) ⟨Nat.le_of_ble_eq_true rfl, Nat.le_of_ble_eq_true rfl⟩ (fun rv w1 h1 => ?_)
                  obtain ⟨rfl, rfl⟩ := h1
                  refine G.aft [0, 1, 2, 3, 4, 5, 6, 7, 8, 9] (ws' := [(h, .inr (5, [.ref jj, .ref dd, .int (nI n), .int (nI z)])), (jj, aI k 36 fj), (dd, aI k 6 fd), (pp, .inr (8, [.ref h, .ref r1, .ref r2, .int tk])), (r1, .inr (10, [.ref a1])), (a1, aI k 6 f), (r2, .inr (10, [.ref a2])), (a2, aI k 6 ct), (r5, .inr (10, [.ref a5])), (a5, aI k 6 (upd (brnI n z fj f k9) i (nI (k9 + 1))))]) (st' := []) (cells' := 0) (slots' := 0) (g' := 0) (by decide) rfl rfl rfl rfl rfl ?_
                  refine g_goto (pc := 74) C 83 (by decide) dX6_burn_74 ?_
                  refine g_iinc (pc := 83) (n := 1) (v := (nI ((k9 + 1) + 1))) C 2 [(2, .int (nI ((k9 + 1) + 1))), (0, .ref pp), (1, .ref r5), (3, .int (nI i))] rfl (nI_1 (k9 + 1)) dX6_burn_83 (by decide) rfl ?_
                  refine g_goto (pc := 86) C 19 (by decide) dX6_burn_86 ?_
                  refine G.loc [1, 2, 0] (lv' := [(0, .ref pp), (1, .ref r5), (2, .int (nI ((k9 + 1) + 1)))]) rfl ?_
                  refine G.fn (brnI n z fj f (k9 + 1)) 9 [(h, .inr (5, [.ref jj, .ref dd, .int (nI n), .int (nI z)])), (jj, aI k 36 fj), (dd, aI k 6 fd), (pp, .inr (8, [.ref h, .ref r1, .ref r2, .int tk])), (r1, .inr (10, [.ref a1])), (a1, aI k 6 f), (r2, .inr (10, [.ref a2])), (a2, aI k 6 ct), (r5, .inr (10, [.ref a5])), (a5, aI k 6 (brnI n z fj f (k9 + 1)))] rfl (fun j hj => by first | (show _ = brnS n fj f (brnI n z fj f k9) (k9 + 1) j; rw [brnS_some hl40 c_48 c_65 hq]) | (show _ = brnS n fj f (brnI n z fj f k9) (k9 + 1) j; rw [brnS_none (fun u hu => hq u (by omega))])) rfl ?_
                  exact ih_19 (k9 + 1) (by omega) (by omega)
        refine G.loc [1, 2, 3, 0] (lv' := [(0, .ref pp), (1, .ref r5), (2, .int (nI (k9 + 1))), (3, .int 0)]) rfl ?_
        refine G.eql (lv' := [(0, .ref pp), (1, .ref r5), (2, .int (nI (k9 + 1))), (3, .int (nI 0))]) (congrArg (β := List (Nat × Value)) (fun z9 => [(0, .ref pp), (1, .ref r5), (2, .int (nI (k9 + 1))), (3, .int z9)]) (show (0 : Int32) = (nI 0) from by exact nI_0.symm)) ?_
        exact key_32 (n - 0 + 1) 0 (by omega) (fun j hj => absurd hj (Nat.not_lt_zero j)) (Nat.lt_succ_self _)
  refine G.loc [1, 2, 0] (lv' := [(0, .ref pp), (1, .ref r5), (2, .int 1)]) rfl ?_
  refine G.fn (brnI n z fj f 0) 9 [(h, .inr (5, [.ref jj, .ref dd, .int (nI n), .int (nI z)])), (jj, aI k 36 fj), (dd, aI k 6 fd), (pp, .inr (8, [.ref h, .ref r1, .ref r2, .int tk])), (r1, .inr (10, [.ref a1])), (a1, aI k 6 f), (r2, .inr (10, [.ref a2])), (a2, aI k 6 ct), (r5, .inr (10, [.ref a5])), (a5, aI k 6 (brnI n z fj f 0))] rfl (fun j hj => by rfl) rfl ?_
  refine G.eql (lv' := [(0, .ref pp), (1, .ref r5), (2, .int (nI (0 + 1)))]) (congrArg (β := List (Nat × Value)) (fun z9 => [(0, .ref pp), (1, .ref r5), (2, .int z9)]) (show (1 : Int32) = (nI (0 + 1)) from by rfl)) ?_
  exact key_19 (n - 0 + 1) 0 (by omega) (Nat.lt_succ_self _)
