theorem dL_stirred_0 : decode cL_stirred 0 = .ok (.aload_n 0, 1) := by decide +kernel
theorem dL_stirred_1 : decode cL_stirred 1 = .ok (.arraylength, 1) := by decide +kernel
theorem dL_stirred_2 : decode cL_stirred 2 = .ok (.iconst 5, 1) := by decide +kernel
theorem dL_stirred_3 : decode cL_stirred 3 = .ok (.iadd, 1) := by decide +kernel
theorem dL_stirred_4 : decode cL_stirred 4 = .ok (.istore_n 1, 1) := by decide +kernel
theorem dL_stirred_5 : decode cL_stirred 5 = .ok (.aload_n 0, 1) := by decide +kernel
theorem dL_stirred_6 : decode cL_stirred 6 = .ok (.astore_n 2, 1) := by decide +kernel
theorem dL_stirred_7 : decode cL_stirred 7 = .ok (.aload_n 2, 1) := by decide +kernel
theorem dL_stirred_8 : decode cL_stirred 8 = .ok (.arraylength, 1) := by decide +kernel
theorem dL_stirred_9 : decode cL_stirred 9 = .ok (.istore_n 3, 1) := by decide +kernel
theorem dL_stirred_10 : decode cL_stirred 10 = .ok (.iconst 0, 1) := by decide +kernel
theorem dL_stirred_11 : decode cL_stirred 11 = .ok (.istore 4, 2) := by decide +kernel
theorem dL_stirred_13 : decode cL_stirred 13 = .ok (.iload 4, 2) := by decide +kernel
theorem dL_stirred_15 : decode cL_stirred 15 = .ok (.iload_n 3, 1) := by decide +kernel
theorem dL_stirred_16 : decode cL_stirred 16 = .ok (.if_icmp .ge 23, 3) := by decide +kernel
theorem dL_stirred_39 : decode cL_stirred 39 = .ok (.iload_n 1, 1) := by decide +kernel
theorem dL_stirred_40 : decode cL_stirred 40 = .ok (.iload_n 1, 1) := by decide +kernel
theorem dL_stirred_41 : decode cL_stirred 41 = .ok (.bipush 15, 2) := by decide +kernel
theorem dL_stirred_43 : decode cL_stirred 43 = .ok (.iushr, 1) := by decide +kernel
theorem dL_stirred_44 : decode cL_stirred 44 = .ok (.ixor, 1) := by decide +kernel
theorem dL_stirred_45 : decode cL_stirred 45 = .ok (.istore_n 1, 1) := by decide +kernel
theorem dL_stirred_46 : decode cL_stirred 46 = .ok (.iload_n 1, 1) := by decide +kernel
theorem dL_stirred_47 : decode cL_stirred 47 = .ok (.iconst 3, 1) := by decide +kernel
theorem dL_stirred_48 : decode cL_stirred 48 = .ok (.iand, 1) := by decide +kernel
theorem dL_stirred_49 : decode cL_stirred 49 = .ok (.ifCond .ne 7, 3) := by decide +kernel
theorem dL_stirred_56 : decode cL_stirred 56 = .ok (.iload_n 1, 1) := by decide +kernel
theorem dL_stirred_57 : decode cL_stirred 57 = .ok (.ireturn, 1) := by decide +kernel
theorem dL_stirred_52 : decode cL_stirred 52 = .ok (.iconst 0, 1) := by decide +kernel
theorem dL_stirred_53 : decode cL_stirred 53 = .ok (.goto 4, 3) := by decide +kernel
theorem dL_stirred_19 : decode cL_stirred 19 = .ok (.aload_n 2, 1) := by decide +kernel
theorem dL_stirred_20 : decode cL_stirred 20 = .ok (.iload 4, 2) := by decide +kernel
theorem dL_stirred_22 : decode cL_stirred 22 = .ok (.iaload, 1) := by decide +kernel
theorem dL_stirred_23 : decode cL_stirred 23 = .ok (.istore 5, 2) := by decide +kernel
theorem dL_stirred_25 : decode cL_stirred 25 = .ok (.iload_n 1, 1) := by decide +kernel
theorem dL_stirred_26 : decode cL_stirred 26 = .ok (.iload 5, 2) := by decide +kernel
theorem dL_stirred_28 : decode cL_stirred 28 = .ok (.ixor, 1) := by decide +kernel
theorem dL_stirred_29 : decode cL_stirred 29 = .ok (.ldc 30, 2) := by decide +kernel
theorem q_549 : (Jvm.Cond.constant "ChipfoldLaw" (30 : Nat) (16777619 : Int32)) ∈ WG := wg_2 (List.mem_of_getElem? (i := 51) (by decide +kernel)) (by decide +kernel)
theorem dL_stirred_31 : decode cL_stirred 31 = .ok (.imul, 1) := by decide +kernel
theorem dL_stirred_32 : decode cL_stirred 32 = .ok (.istore_n 1, 1) := by decide +kernel
theorem dL_stirred_33 : decode cL_stirred 33 = .ok (.iinc 4 1, 3) := by decide +kernel
theorem dL_stirred_36 : decode cL_stirred 36 = .ok (.goto (-23), 3) := by decide +kernel
theorem dL_cell_0 : decode cL_cell 0 = .ok (.aload_n 0, 1) := by decide +kernel
theorem dL_cell_1 : decode cL_cell 1 = .ok (.invokestatic 31, 3) := by decide +kernel
theorem q_550 : (Jvm.Cond.code ({ cls := "ChipfoldLaw", name := "stirred", desc := "([I)I" } : Jvm.MethodName) method_2_code (6 : Nat) (Option.some Jvm.ClassFile.FieldType.int)) ∈ WG := wg_2 (List.mem_of_getElem? (i := 50) rfl) rfl
theorem q_551 : (Jvm.Cond.initialized "ChipfoldLaw") ∈ WG := wg_1 (List.mem_of_getElem? (i := 0) (by decide +kernel)) (by decide +kernel)
theorem q_552 : (Jvm.Cond.methodLink "ChipfoldLaw" (31 : Nat) ({ cls := "ChipfoldLaw", name := "stirred", desc := "([I)I" } : Jvm.MethodName)) ∈ WG := wg_2 (List.mem_of_getElem? (i := 48) (by decide +kernel)) (by decide +kernel)
theorem q_553 : (Jvm.Cond.static ({ cls := "ChipfoldLaw", name := "stirred", desc := "([I)I" } : Jvm.MethodName)) ∈ WG := wg_2 (List.mem_of_getElem? (i := 49) (by decide +kernel)) (by decide +kernel)
theorem dL_cell_4 : decode cL_cell 4 = .ok (.istore_n 2, 1) := by decide +kernel
theorem dL_cell_5 : decode cL_cell 5 = .ok (.iload_n 2, 1) := by decide +kernel
theorem dL_cell_6 : decode cL_cell 6 = .ok (.ifCond .ne 25, 3) := by decide +kernel
theorem dL_cell_31 : decode cL_cell 31 = .ok (.iload_n 2, 1) := by decide +kernel
theorem dL_cell_32 : decode cL_cell 32 = .ok (.ldc 35, 2) := by decide +kernel
theorem q_554 : (Jvm.Cond.constant "ChipfoldLaw" (35 : Nat) (40503 : Int32)) ∈ WG := wg_2 (List.mem_of_getElem? (i := 52) (by decide +kernel)) (by decide +kernel)
theorem dL_cell_34 : decode cL_cell 34 = .ok (.iload_n 1, 1) := by decide +kernel
theorem dL_cell_35 : decode cL_cell 35 = .ok (.imul, 1) := by decide +kernel
theorem dL_cell_36 : decode cL_cell 36 = .ok (.ixor, 1) := by decide +kernel
theorem dL_cell_37 : decode cL_cell 37 = .ok (.ldc 36, 2) := by decide +kernel
theorem q_555 : (Jvm.Cond.constant "ChipfoldLaw" (36 : Nat) (739982445 : Int32)) ∈ WG := wg_2 (List.mem_of_getElem? (i := 53) (by decide +kernel)) (by decide +kernel)
theorem dL_cell_39 : decode cL_cell 39 = .ok (.imul, 1) := by decide +kernel
theorem dL_cell_40 : decode cL_cell 40 = .ok (.istore_n 2, 1) := by decide +kernel
theorem dL_cell_41 : decode cL_cell 41 = .ok (.iload_n 2, 1) := by decide +kernel
theorem dL_cell_42 : decode cL_cell 42 = .ok (.iload_n 2, 1) := by decide +kernel
theorem dL_cell_43 : decode cL_cell 43 = .ok (.bipush 12, 2) := by decide +kernel
theorem dL_cell_45 : decode cL_cell 45 = .ok (.iushr, 1) := by decide +kernel
theorem dL_cell_46 : decode cL_cell 46 = .ok (.ixor, 1) := by decide +kernel
theorem dL_cell_47 : decode cL_cell 47 = .ok (.ldc 37, 2) := by decide +kernel
theorem q_556 : (Jvm.Cond.constant "ChipfoldLaw" (37 : Nat) (695872825 : Int32)) ∈ WG := wg_2 (List.mem_of_getElem? (i := 54) (by decide +kernel)) (by decide +kernel)
theorem dL_cell_49 : decode cL_cell 49 = .ok (.imul, 1) := by decide +kernel
theorem dL_cell_50 : decode cL_cell 50 = .ok (.istore_n 2, 1) := by decide +kernel
theorem dL_cell_51 : decode cL_cell 51 = .ok (.iload_n 2, 1) := by decide +kernel
theorem dL_cell_52 : decode cL_cell 52 = .ok (.iload_n 2, 1) := by decide +kernel
theorem dL_cell_53 : decode cL_cell 53 = .ok (.bipush 15, 2) := by decide +kernel
theorem dL_cell_55 : decode cL_cell 55 = .ok (.iushr, 1) := by decide +kernel
theorem dL_cell_56 : decode cL_cell 56 = .ok (.ixor, 1) := by decide +kernel
theorem dL_cell_57 : decode cL_cell 57 = .ok (.ireturn, 1) := by decide +kernel
theorem dL_cell_9 : decode cL_cell 9 = .ok (.iload_n 1, 1) := by decide +kernel
theorem dL_cell_10 : decode cL_cell 10 = .ok (.aload_n 0, 1) := by decide +kernel
theorem dL_cell_11 : decode cL_cell 11 = .ok (.arraylength, 1) := by decide +kernel
theorem dL_cell_12 : decode cL_cell 12 = .ok (.if_icmp .ge 9, 3) := by decide +kernel
theorem dL_cell_21 : decode cL_cell 21 = .ok (.sipush 7919, 3) := by decide +kernel
theorem dL_cell_24 : decode cL_cell 24 = .ok (.iload_n 1, 1) := by decide +kernel
theorem dL_cell_25 : decode cL_cell 25 = .ok (.imul, 1) := by decide +kernel
theorem dL_cell_26 : decode cL_cell 26 = .ok (.sipush 163, 3) := by decide +kernel
theorem dL_cell_29 : decode cL_cell 29 = .ok (.iadd, 1) := by decide +kernel
theorem dL_cell_30 : decode cL_cell 30 = .ok (.ireturn, 1) := by decide +kernel
theorem dL_cell_15 : decode cL_cell 15 = .ok (.aload_n 0, 1) := by decide +kernel
theorem dL_cell_16 : decode cL_cell 16 = .ok (.iload_n 1, 1) := by decide +kernel
theorem dL_cell_17 : decode cL_cell 17 = .ok (.iaload, 1) := by decide +kernel
theorem dL_cell_18 : decode cL_cell 18 = .ok (.goto 12, 3) := by decide +kernel
theorem dL_some_0 : decode cL_some 0 = .ok (.aload_n 0, 1) := by decide +kernel
theorem dL_some_1 : decode cL_some 1 = .ok (.iload_n 1, 1) := by decide +kernel
theorem dL_some_2 : decode cL_some 2 = .ok (.invokestatic 38, 3) := by decide +kernel
theorem q_557 : (Jvm.Cond.code ({ cls := "ChipfoldLaw", name := "cell", desc := "([II)I" } : Jvm.MethodName) method_3_code (3 : Nat) (Option.some Jvm.ClassFile.FieldType.int)) ∈ WG := wg_2 (List.mem_of_getElem? (i := 47) rfl) rfl
theorem q_558 : (Jvm.Cond.methodLink "ChipfoldLaw" (38 : Nat) ({ cls := "ChipfoldLaw", name := "cell", desc := "([II)I" } : Jvm.MethodName)) ∈ WG := wg_2 (List.mem_of_getElem? (i := 45) (by decide +kernel)) (by decide +kernel)
theorem q_559 : (Jvm.Cond.static ({ cls := "ChipfoldLaw", name := "cell", desc := "([II)I" } : Jvm.MethodName)) ∈ WG := wg_2 (List.mem_of_getElem? (i := 46) (by decide +kernel)) (by decide +kernel)
theorem dL_some_5 : decode cL_some 5 = .ok (.iconst 3, 1) := by decide +kernel
theorem dL_some_6 : decode cL_some 6 = .ok (.iushr, 1) := by decide +kernel
theorem dL_some_7 : decode cL_some 7 = .ok (.iload_n 2, 1) := by decide +kernel
theorem dL_some_8 : decode cL_some 8 = .ok (.irem, 1) := by decide +kernel
theorem dL_some_9 : decode cL_some 9 = .ok (.ireturn, 1) := by decide +kernel
theorem dL_bad_0 : decode cL_bad 0 = .ok (.ldc 42, 2) := by decide +kernel
theorem q_560 : (Jvm.Cond.constant "ChipfoldLaw" (42 : Nat) (-1000000 : Int32)) ∈ WG := wg_3 (List.mem_of_getElem? (i := 35) (by decide +kernel)) (by decide +kernel)
theorem dL_bad_2 : decode cL_bad 2 = .ok (.iload_n 0, 1) := by decide +kernel
theorem dL_bad_3 : decode cL_bad 3 = .ok (.isub, 1) := by decide +kernel
theorem dL_bad_4 : decode cL_bad 4 = .ok (.ireturn, 1) := by decide +kernel
theorem dL_degree__0 : decode cL_degree_ 0 = .ok (.iconst 0, 1) := by decide +kernel
theorem dL_degree__1 : decode cL_degree_ 1 = .ok (.istore_n 2, 1) := by decide +kernel
theorem dL_degree__2 : decode cL_degree_ 2 = .ok (.iconst 0, 1) := by decide +kernel
theorem dL_degree__3 : decode cL_degree_ 3 = .ok (.istore_n 3, 1) := by decide +kernel
theorem dL_degree__4 : decode cL_degree_ 4 = .ok (.iload_n 3, 1) := by decide +kernel
theorem dL_degree__5 : decode cL_degree_ 5 = .ok (.bipush 6, 2) := by decide +kernel
theorem dL_degree__7 : decode cL_degree_ 7 = .ok (.if_icmp .ge 20, 3) := by decide +kernel
theorem dL_degree__27 : decode cL_degree_ 27 = .ok (.iload_n 2, 1) := by decide +kernel
theorem dL_degree__28 : decode cL_degree_ 28 = .ok (.ireturn, 1) := by decide +kernel
theorem dL_degree__10 : decode cL_degree_ 10 = .ok (.iload_n 2, 1) := by decide +kernel
theorem dL_degree__11 : decode cL_degree_ 11 = .ok (.aload_n 0, 1) := by decide +kernel
theorem dL_degree__12 : decode cL_degree_ 12 = .ok (.getfield 9, 3) := by decide +kernel
theorem q_561 : (Jvm.Cond.fieldLink "ChipfoldLaw" (9 : Nat) "ChipfoldLaw" "edges" "[[I") ∈ WG := wg_2 (List.mem_of_getElem? (i := 14) (by decide +kernel)) (by decide +kernel)
theorem inXL : ∀ w ∈ u_ws RXL TXL 9, w ∈ WG := by decide +kernel
theorem dL_degree__15 : decode cL_degree_ 15 = .ok (.iload_n 1, 1) := by decide +kernel
theorem dL_degree__16 : decode cL_degree_ 16 = .ok (.aaload, 1) := by decide +kernel
theorem dL_degree__17 : decode cL_degree_ 17 = .ok (.iload_n 3, 1) := by decide +kernel
theorem dL_degree__18 : decode cL_degree_ 18 = .ok (.iaload, 1) := by decide +kernel
theorem dL_degree__19 : decode cL_degree_ 19 = .ok (.iadd, 1) := by decide +kernel
theorem dL_degree__20 : decode cL_degree_ 20 = .ok (.istore_n 2, 1) := by decide +kernel
theorem dL_degree__21 : decode cL_degree_ 21 = .ok (.iinc 3 1, 3) := by decide +kernel
theorem dL_degree__24 : decode cL_degree_ 24 = .ok (.goto (-20), 3) := by decide +kernel
theorem dL_isWhole_0 : decode cL_isWhole 0 = .ok (.bipush 6, 2) := by decide +kernel
theorem dL_isWhole_2 : decode cL_isWhole 2 = .ok (.newarray .boolean, 2) := by decide +kernel
theorem q_562 : (Jvm.Cond.arrayClass Jvm.ClassFile.FieldType.boolean) ∈ WG := wg_4 (List.mem_of_getElem? (i := 212) (by decide +kernel)) (by decide +kernel)
theorem dL_isWhole_4 : decode cL_isWhole 4 = .ok (.astore_n 1, 1) := by decide +kernel
theorem dL_isWhole_5 : decode cL_isWhole 5 = .ok (.aload_n 1, 1) := by decide +kernel
theorem dL_isWhole_6 : decode cL_isWhole 6 = .ok (.aload_n 0, 1) := by decide +kernel
theorem dL_isWhole_7 : decode cL_isWhole 7 = .ok (.getfield 164, 3) := by decide +kernel
theorem q_563 : (Jvm.Cond.fieldLink "ChipfoldLaw" (164 : Nat) "ChipfoldLaw" "sink" "I") ∈ WG := wg_2 (List.mem_of_getElem? (i := 21) (by decide +kernel)) (by decide +kernel)
theorem dL_isWhole_10 : decode cL_isWhole 10 = .ok (.iconst 1, 1) := by decide +kernel
theorem dL_isWhole_11 : decode cL_isWhole 11 = .ok (.bastore, 1) := by decide +kernel
theorem dL_isWhole_12 : decode cL_isWhole 12 = .ok (.iconst 0, 1) := by decide +kernel
theorem dL_isWhole_13 : decode cL_isWhole 13 = .ok (.istore_n 2, 1) := by decide +kernel
theorem dL_isWhole_14 : decode cL_isWhole 14 = .ok (.iload_n 2, 1) := by decide +kernel
theorem dL_isWhole_15 : decode cL_isWhole 15 = .ok (.bipush 6, 2) := by decide +kernel
theorem dL_isWhole_17 : decode cL_isWhole 17 = .ok (.if_icmp .ge 69, 3) := by decide +kernel
theorem dL_isWhole_86 : decode cL_isWhole 86 = .ok (.iconst 0, 1) := by decide +kernel
theorem dL_isWhole_87 : decode cL_isWhole 87 = .ok (.istore_n 2, 1) := by decide +kernel
theorem dL_isWhole_88 : decode cL_isWhole 88 = .ok (.iload_n 2, 1) := by decide +kernel
theorem dL_isWhole_89 : decode cL_isWhole 89 = .ok (.aload_n 0, 1) := by decide +kernel
theorem dL_isWhole_90 : decode cL_isWhole 90 = .ok (.getfield 167, 3) := by decide +kernel
theorem q_564 : (Jvm.Cond.fieldLink "ChipfoldLaw" (167 : Nat) "ChipfoldLaw" "size" "I") ∈ WG := wg_2 (List.mem_of_getElem? (i := 20) (by decide +kernel)) (by decide +kernel)
theorem dL_isWhole_93 : decode cL_isWhole 93 = .ok (.if_icmp .ge 17, 3) := by decide +kernel
theorem dL_isWhole_110 : decode cL_isWhole 110 = .ok (.aload_n 0, 1) := by decide +kernel
theorem dL_isWhole_111 : decode cL_isWhole 111 = .ok (.getfield 167, 3) := by decide +kernel
theorem dL_isWhole_114 : decode cL_isWhole 114 = .ok (.iconst 1, 1) := by decide +kernel
theorem dL_isWhole_115 : decode cL_isWhole 115 = .ok (.if_icmp .le 7, 3) := by decide +kernel
theorem dL_isWhole_122 : decode cL_isWhole 122 = .ok (.iconst 0, 1) := by decide +kernel
theorem dL_isWhole_123 : decode cL_isWhole 123 = .ok (.ireturn, 1) := by decide +kernel
theorem dL_isWhole_118 : decode cL_isWhole 118 = .ok (.iconst 1, 1) := by decide +kernel
theorem dL_isWhole_119 : decode cL_isWhole 119 = .ok (.goto 4, 3) := by decide +kernel
theorem dL_isWhole_96 : decode cL_isWhole 96 = .ok (.aload_n 1, 1) := by decide +kernel
theorem dL_isWhole_97 : decode cL_isWhole 97 = .ok (.iload_n 2, 1) := by decide +kernel
theorem dL_isWhole_98 : decode cL_isWhole 98 = .ok (.baload, 1) := by decide +kernel
theorem dL_isWhole_99 : decode cL_isWhole 99 = .ok (.ifCond .ne 5, 3) := by decide +kernel
theorem dL_isWhole_104 : decode cL_isWhole 104 = .ok (.iinc 2 1, 3) := by decide +kernel
theorem dL_isWhole_107 : decode cL_isWhole 107 = .ok (.goto (-19), 3) := by decide +kernel
theorem dL_isWhole_102 : decode cL_isWhole 102 = .ok (.iconst 0, 1) := by decide +kernel
theorem dL_isWhole_103 : decode cL_isWhole 103 = .ok (.ireturn, 1) := by decide +kernel
theorem dL_isWhole_20 : decode cL_isWhole 20 = .ok (.iconst 0, 1) := by decide +kernel
theorem dL_isWhole_21 : decode cL_isWhole 21 = .ok (.istore_n 3, 1) := by decide +kernel
theorem dL_isWhole_22 : decode cL_isWhole 22 = .ok (.iload_n 3, 1) := by decide +kernel
theorem dL_isWhole_23 : decode cL_isWhole 23 = .ok (.bipush 6, 2) := by decide +kernel
theorem dL_isWhole_25 : decode cL_isWhole 25 = .ok (.if_icmp .ge 55, 3) := by decide +kernel
theorem dL_isWhole_80 : decode cL_isWhole 80 = .ok (.iinc 2 1, 3) := by decide +kernel
theorem dL_isWhole_83 : decode cL_isWhole 83 = .ok (.goto (-69), 3) := by decide +kernel
theorem dL_isWhole_28 : decode cL_isWhole 28 = .ok (.iconst 0, 1) := by decide +kernel
theorem dL_isWhole_29 : decode cL_isWhole 29 = .ok (.istore 4, 2) := by decide +kernel
theorem dL_isWhole_31 : decode cL_isWhole 31 = .ok (.iload 4, 2) := by decide +kernel
theorem dL_isWhole_33 : decode cL_isWhole 33 = .ok (.bipush 6, 2) := by decide +kernel
theorem dL_isWhole_35 : decode cL_isWhole 35 = .ok (.if_icmp .ge 39, 3) := by decide +kernel
theorem dL_isWhole_74 : decode cL_isWhole 74 = .ok (.iinc 3 1, 3) := by decide +kernel
theorem dL_isWhole_77 : decode cL_isWhole 77 = .ok (.goto (-55), 3) := by decide +kernel
theorem dL_isWhole_38 : decode cL_isWhole 38 = .ok (.aload_n 1, 1) := by decide +kernel
theorem dL_isWhole_39 : decode cL_isWhole 39 = .ok (.iload 4, 2) := by decide +kernel
theorem dL_isWhole_41 : decode cL_isWhole 41 = .ok (.dup2, 1) := by decide +kernel
theorem dL_isWhole_42 : decode cL_isWhole 42 = .ok (.baload, 1) := by decide +kernel
theorem dL_isWhole_43 : decode cL_isWhole 43 = .ok (.aload_n 1, 1) := by decide +kernel
theorem dL_isWhole_44 : decode cL_isWhole 44 = .ok (.iload_n 3, 1) := by decide +kernel
theorem dL_isWhole_45 : decode cL_isWhole 45 = .ok (.baload, 1) := by decide +kernel
theorem dL_isWhole_46 : decode cL_isWhole 46 = .ok (.ifCond .eq 19, 3) := by decide +kernel
theorem dL_isWhole_65 : decode cL_isWhole 65 = .ok (.iconst 0, 1) := by decide +kernel
theorem dL_isWhole_66 : decode cL_isWhole 66 = .ok (.ior, 1) := by decide +kernel
theorem dL_isWhole_67 : decode cL_isWhole 67 = .ok (.bastore, 1) := by decide +kernel
theorem dL_isWhole_68 : decode cL_isWhole 68 = .ok (.iinc 4 1, 3) := by decide +kernel
theorem dL_isWhole_71 : decode cL_isWhole 71 = .ok (.goto (-40), 3) := by decide +kernel
theorem dL_isWhole_49 : decode cL_isWhole 49 = .ok (.aload_n 0, 1) := by decide +kernel
theorem dL_isWhole_50 : decode cL_isWhole 50 = .ok (.getfield 9, 3) := by decide +kernel
theorem dL_isWhole_53 : decode cL_isWhole 53 = .ok (.iload_n 3, 1) := by decide +kernel
theorem dL_isWhole_54 : decode cL_isWhole 54 = .ok (.aaload, 1) := by decide +kernel
theorem dL_isWhole_55 : decode cL_isWhole 55 = .ok (.iload 4, 2) := by decide +kernel
theorem dL_isWhole_57 : decode cL_isWhole 57 = .ok (.iaload, 1) := by decide +kernel
theorem dL_isWhole_58 : decode cL_isWhole 58 = .ok (.ifCond .le 7, 3) := by decide +kernel
theorem dL_isWhole_61 : decode cL_isWhole 61 = .ok (.iconst 1, 1) := by decide +kernel
theorem dL_isWhole_62 : decode cL_isWhole 62 = .ok (.goto 4, 3) := by decide +kernel
/-- the script stirred; a cell out of it; a number below m -/
def stI (xs : Nat → Int32) (L : Nat) : Nat → Int32
  | 0 => nI L + 5
  | i + 1 => (stI xs L i ^^^ xs i) * 16777619
def strI (xs : Nat → Int32) (L : Nat) : Int32 := if ((stI xs L L ^^^ usr (stI xs L L) 15) &&& 3) = 0 then 0 else stI xs L L ^^^ usr (stI xs L L) 15
set_option maxRecDepth 100000 in
set_option maxHeartbeats 400000 in
theorem c_L_stirred {l : Launch} {D : va_G} {k : Nat → ClassId} (b : Nat) (L : Nat) (xs : Nat → Int32) (hL : L ≤ 260) : CMS l D k b L xs yL_stirred cL_stirred 6 (some .int) 0 0 [.ref b] [] (is1 (some (.int (strI xs L))) []) 0 0 0 := by
  refine CMS.of (lv0 := [(0, .ref b)]) (by decide +kernel) (Nat.le_of_ble_eq_true rfl) rfl ?_
  intro p9 e9 s9 m9 bl9 me9 co9 C hr hlk hin had hX hbl hbA
  refine g_aload_n (pc := 0) C 0 rfl rfl dL_stirred_0 ?_
  refine g_slen (pc := 1) C hX hbl hbA dL_stirred_1 ?_
  refine g_iconst (pc := 2) (v := 5) C (by decide) dL_stirred_2 ?_
  refine g_iadd (pc := 3) C dL_stirred_3 ?_
  refine g_istore_n (pc := 4) C [(1, .int ((nI L) + 5)), (0, .ref b)] rfl dL_stirred_4 (by decide) rfl ?_
  refine g_aload_n (pc := 5) C 1 rfl rfl dL_stirred_5 ?_
  refine g_astore_n (pc := 6) C [(2, .ref b), (1, .int ((nI L) + 5)), (0, .ref b)] rfl dL_stirred_6 (by decide) rfl ?_
  refine g_aload_n (pc := 7) C 0 rfl rfl dL_stirred_7 ?_
  refine g_slen (pc := 8) C hX hbl hbA dL_stirred_8 ?_
  refine g_istore_n (pc := 9) C [(3, .int (nI L)), (2, .ref b), (1, .int ((nI L) + 5)), (0, .ref b)] rfl dL_stirred_9 (by decide) rfl ?_
  refine g_iconst (pc := 10) (v := 0) C (by decide) dL_stirred_10 ?_
  refine g_istore (pc := 11) C [(4, .int 0), (3, .int (nI L)), (2, .ref b), (1, .int ((nI L) + 5)), (0, .ref b)] dL_stirred_11 (by decide) rfl ?_
  have key_13 : ∀ (fuel : Nat) (i : Nat), i ≤ L → L - i < fuel → G p9 l e9 { frames := 0, cells := 0, slots := 0, locals := 0 } s9 m9 ([.ref b] : List Value).toArray bl9 me9 co9 D 6 (va_A [] s9.heap.size) (QM bl9 D ([.ref b] : List Value).toArray s9 [] (is1 (some (.int (strI xs L))) []) 0 0 0) [] [(0, .ref b), (1, .int (stI xs L i)), (2, .ref b), (3, .int (nI L)), (4, .int (nI i))] 0 0 0 13 [] := by
    intro fuel
    induction fuel with
    | zero => intro i hi hm; exact absurd hm (Nat.not_lt_zero _)
    | succ fuel ih =>
      intro i hi hm
      have ih_13 := ih
      refine g_iload (pc := 13) C 4 rfl dL_stirred_13 ?_
      refine g_iload_n (pc := 15) C 3 rfl rfl dL_stirred_15 ?_
      refine g_icmp_ge (pc := 16) C 39 (by decide) dL_stirred_16 (fun c_16 => ?_) (fun c_16 => ?_)
      · have h3 : i = L := by { have := nle_ge (b := L) (a := i) (by omega) c_16; omega }
        refine G.eql (lv' := [(0, .ref b), (1, .int (stI xs L L)), (2, .ref b), (3, .int (nI L)), (4, .int (nI i))]) (congrArg (β := List (Nat × Value)) (fun z9 => [(0, .ref b), (1, .int z9), (2, .ref b), (3, .int (nI L)), (4, .int (nI i))]) (show ((stI xs L i) : Int32) = (stI xs L L) from by rw [h3])) ?_
        refine g_iload_n (pc := 39) C 1 rfl rfl dL_stirred_39 ?_
        refine g_iload_n (pc := 40) C 1 rfl rfl dL_stirred_40 ?_
        refine g_bipush (pc := 41) (v := 15) C (by decide) dL_stirred_41 ?_
        refine g_iushr (pc := 43) C dL_stirred_43 ?_
        refine g_ixor (pc := 44) C dL_stirred_44 ?_
        refine g_istore_n (pc := 45) C [(1, .int ((stI xs L L) ^^^ (usr (stI xs L L) 15))), (0, .ref b), (2, .ref b), (3, .int (nI L)), (4, .int (nI i))] rfl dL_stirred_45 (by decide) rfl ?_
        refine g_iload_n (pc := 46) C 0 rfl rfl dL_stirred_46 ?_
        refine g_iconst (pc := 47) (v := 3) C (by decide) dL_stirred_47 ?_
        refine g_iand (pc := 48) C dL_stirred_48 ?_
        refine g_if_ne (pc := 49) C 56 (by decide) dL_stirred_49 (fun c_49 => ?_) (fun c_49 => ?_)
        · refine g_iload_n (pc := 56) C 0 rfl rfl dL_stirred_56 ?_
          refine G.eqs (st' := [.int (strI xs L)]) (congrArg (fun z9 => [Value.int z9]) (show (((stI xs L L) ^^^ (usr (stI xs L L) 15)) : Int32) = (strI xs L) from by first | (unfold strI; rw [if_pos c_49]) | (unfold strI; rw [if_neg c_49]))) ?_
          exact g_iret (pc := 57) C hr hlk (by first | decide | omega) (by first | decide | omega) (by first | decide | omega) dL_stirred_57 ⟨rfl, rfl⟩
        · refine g_iconst (pc := 52) (v := 0) C (by decide) dL_stirred_52 ?_
          refine g_goto (pc := 53) C 57 (by decide) dL_stirred_53 ?_
          refine G.eqs (st' := [.int (strI xs L)]) (congrArg (fun z9 => [Value.int z9]) (show (0 : Int32) = (strI xs L) from by first | (unfold strI; rw [if_pos c_49]) | (unfold strI; rw [if_neg c_49]))) ?_
          exact g_iret (pc := 57) C hr hlk (by first | decide | omega) (by first | decide | omega) (by first | decide | omega) dL_stirred_57 ⟨rfl, rfl⟩
      · have hl16 : i < L := nle_lt (by omega) c_16
        refine g_aload_n (pc := 19) C 2 rfl rfl dL_stirred_19 ?_
        refine g_iload (pc := 20) C 4 rfl dL_stirred_20 ?_
        refine g_sld (pc := 22) C hX hbl hbA (j := i) (by omega) (by omega) rfl dL_stirred_22 ?_
        refine g_istore (pc := 23) C [(5, .int (xs i)), (0, .ref b), (1, .int (stI xs L i)), (2, .ref b), (3, .int (nI L)), (4, .int (nI i))] dL_stirred_23 (by decide) rfl ?_
        refine g_iload_n (pc := 25) C 2 rfl rfl dL_stirred_25 ?_
        refine g_iload (pc := 26) C 0 rfl dL_stirred_26 ?_
        refine g_ixor (pc := 28) C dL_stirred_28 ?_
        refine g_ldc (pc := 29) C (v := 16777619) q_549 dL_stirred_29 ?_
        refine g_imul (pc := 31) C dL_stirred_31 ?_
        refine g_istore_n (pc := 32) C [(1, .int (((stI xs L i) ^^^ (xs i)) * 16777619)), (5, .int (xs i)), (0, .ref b), (2, .ref b), (3, .int (nI L)), (4, .int (nI i))] rfl dL_stirred_32 (by decide) rfl ?_
        refine g_iinc (pc := 33) (n := 1) (v := (nI (i + 1))) C 5 [(4, .int (nI (i + 1))), (1, .int (((stI xs L i) ^^^ (xs i)) * 16777619)), (5, .int (xs i)), (0, .ref b), (2, .ref b), (3, .int (nI L))] rfl (nI_1 i) dL_stirred_33 (by decide) rfl ?_
        refine g_goto (pc := 36) C 13 (by decide) dL_stirred_36 ?_
        refine G.loc [3, 1, 4, 5, 0] (lv' := [(0, .ref b), (1, .int (((stI xs L i) ^^^ (xs i)) * 16777619)), (2, .ref b), (3, .int (nI L)), (4, .int (nI (i + 1)))]) rfl ?_
        refine G.eql (lv' := [(0, .ref b), (1, .int (stI xs L (i + 1))), (2, .ref b), (3, .int (nI L)), (4, .int (nI (i + 1)))]) (congrArg (β := List (Nat × Value)) (fun z9 => [(0, .ref b), (1, .int z9), (2, .ref b), (3, .int (nI L)), (4, .int (nI (i + 1)))]) (show ((((stI xs L i) ^^^ (xs i)) * 16777619) : Int32) = (stI xs L (i + 1)) from by rfl)) ?_
        exact ih_13 (i + 1) (by omega) (by omega)
  refine G.loc [4, 3, 2, 1, 0] (lv' := [(0, .ref b), (1, .int ((nI L) + 5)), (2, .ref b), (3, .int (nI L)), (4, .int 0)]) rfl ?_
  refine G.eql (lv' := [(0, .ref b), (1, .int (stI xs L 0)), (2, .ref b), (3, .int (nI L)), (4, .int (nI 0))]) ((congrArg (β := List (Nat × Value)) (fun z9 => [(0, .ref b), (1, .int z9), (2, .ref b), (3, .int (nI L)), (4, .int 0)]) (show (((nI L) + 5) : Int32) = (stI xs L 0) from by first | rfl | exact nI_0.symm)).trans (congrArg (β := List (Nat × Value)) (fun z9 => [(0, .ref b), (1, .int (stI xs L 0)), (2, .ref b), (3, .int (nI L)), (4, .int z9)]) (show (0 : Int32) = (nI 0) from by first | rfl | exact nI_0.symm))) ?_
  exact key_13 (L - 0 + 1) 0 (by omega) (Nat.lt_succ_self _)
def celI (xs : Nat → Int32) (L k9 : Nat) : Int32 := if strI xs L = 0 then (if k9 < L then xs k9 else 7919 * nI k9 + 163) else
  let h := (strI xs L ^^^ 40503 * nI k9) * 739982445
  let h := (h ^^^ usr h 12) * 695872825
  h ^^^ usr h 15
set_option maxRecDepth 100000 in
set_option maxHeartbeats 400000 in
theorem c_L_cell {l : Launch} {D : va_G} {k : Nat → ClassId} (b : Nat) (L : Nat) (xs : Nat → Int32) (k9 : Nat) (hL : L ≤ 260) (hk : k9 ≤ 200) : CMS l D k b L xs yL_cell cL_cell 3 (some .int) 1 25 [.ref b, .int (nI k9)] [] (is1 (some (.int (celI xs L k9))) []) 0 0 0 := by
  refine CMS.of (lv0 := [(0, .ref b), (1, .int (nI k9))]) (by decide +kernel) (Nat.le_of_ble_eq_true rfl) rfl ?_
  intro p9 e9 s9 m9 bl9 me9 co9 C hr hlk hin had hX hbl hbA
  refine g_aload_n (pc := 0) C 0 rfl rfl dL_cell_0 ?_
  refine g_callSS (pc := 1) (cells := 0) (slots := 0) (g := 0) (As := [.ref b]) (st := []) C (nA := 1) hX hbl hbA rfl (c_L_stirred b L xs (by first | assumption | decide | omega)) q_552 q_553 q_551 q_550 (by decide +kernel) dL_cell_1 ⟨Nat.le_of_ble_eq_true rfl, Nat.le_of_ble_eq_true rfl⟩ [] [] rfl (wr := []) rfl (by decide) (by decide) (by decide) (Nat.le_of_ble_eq_true rfl) ⟨Nat.le_of_ble_eq_true rfl, Nat.le_of_ble_eq_true rfl⟩ (fun rv w1 h1 => ?_)
  obtain ⟨rfl, rfl⟩ := h1
  refine G.aft [] (ws' := []) (st' := [.int (strI xs L)]) (cells' := 0) (slots' := 0) (g' := 0) (by decide) rfl rfl rfl rfl rfl ?_
  refine g_istore_n (pc := 4) C [(2, .int (strI xs L)), (0, .ref b), (1, .int (nI k9))] rfl dL_cell_4 (by decide) rfl ?_
  refine g_iload_n (pc := 5) C 0 rfl rfl dL_cell_5 ?_
  refine g_if_ne (pc := 6) C 31 (by decide) dL_cell_6 (fun c_6 => ?_) (fun c_6 => ?_)
  · refine g_iload_n (pc := 31) C 0 rfl rfl dL_cell_31 ?_
    refine g_ldc (pc := 32) C (v := 40503) q_554 dL_cell_32 ?_
    refine g_iload_n (pc := 34) C 2 rfl rfl dL_cell_34 ?_
    refine g_imul (pc := 35) C dL_cell_35 ?_
    refine g_ixor (pc := 36) C dL_cell_36 ?_
    refine g_ldc (pc := 37) C (v := 739982445) q_555 dL_cell_37 ?_
    refine g_imul (pc := 39) C dL_cell_39 ?_
    refine g_istore_n (pc := 40) C [(2, .int (((strI xs L) ^^^ (40503 * (nI k9))) * 739982445)), (0, .ref b), (1, .int (nI k9))] rfl dL_cell_40 (by decide) rfl ?_
    refine g_iload_n (pc := 41) C 0 rfl rfl dL_cell_41 ?_
    refine g_iload_n (pc := 42) C 0 rfl rfl dL_cell_42 ?_
    refine g_bipush (pc := 43) (v := 12) C (by decide) dL_cell_43 ?_
    refine g_iushr (pc := 45) C dL_cell_45 ?_
    refine g_ixor (pc := 46) C dL_cell_46 ?_
    refine g_ldc (pc := 47) C (v := 695872825) q_556 dL_cell_47 ?_
    refine g_imul (pc := 49) C dL_cell_49 ?_
    refine g_istore_n (pc := 50) C [(2, .int (((((strI xs L) ^^^ (40503 * (nI k9))) * 739982445) ^^^ (usr (((strI xs L) ^^^ (40503 * (nI k9))) * 739982445) 12)) * 695872825)), (0, .ref b), (1, .int (nI k9))] rfl dL_cell_50 (by decide) rfl ?_
    refine g_iload_n (pc := 51) C 0 rfl rfl dL_cell_51 ?_
    refine g_iload_n (pc := 52) C 0 rfl rfl dL_cell_52 ?_
    refine g_bipush (pc := 53) (v := 15) C (by decide) dL_cell_53 ?_
    refine g_iushr (pc := 55) C dL_cell_55 ?_
    refine g_ixor (pc := 56) C dL_cell_56 ?_
    refine G.eqs (st' := [.int (celI xs L k9)]) (congrArg (fun z9 => [Value.int z9]) (show (((((((strI xs L) ^^^ (40503 * (nI k9))) * 739982445) ^^^ (usr (((strI xs L) ^^^ (40503 * (nI k9))) * 739982445) 12)) * 695872825) ^^^ (usr (((((strI xs L) ^^^ (40503 * (nI k9))) * 739982445) ^^^ (usr (((strI xs L) ^^^ (40503 * (nI k9))) * 739982445) 12)) * 695872825) 15)) : Int32) = (celI xs L k9) from by { unfold celI; rw [if_neg c_6] })) ?_
    exact g_iret (pc := 57) C hr hlk (by first | decide | omega) (by first | decide | omega) (by first | decide | omega) dL_cell_57 ⟨rfl, rfl⟩
  · refine g_iload_n (pc := 9) C 2 rfl rfl dL_cell_9 ?_
    refine g_aload_n (pc := 10) C 1 rfl rfl dL_cell_10 ?_
    refine g_slen (pc := 11) C hX hbl hbA dL_cell_11 ?_
    refine g_icmp_ge (pc := 12) C 21 (by decide) dL_cell_12 (fun c_12 => ?_) (fun c_12 => ?_)
    · refine g_sipush (pc := 21) (v := 7919) C (by decide) dL_cell_21 ?_
      refine g_iload_n (pc := 24) C 2 rfl rfl dL_cell_24 ?_
      refine g_imul (pc := 25) C dL_cell_25 ?_
      refine g_sipush (pc := 26) (v := 163) C (by decide) dL_cell_26 ?_
      refine g_iadd (pc := 29) C dL_cell_29 ?_
      refine G.eqs (st' := [.int (celI xs L k9)]) (congrArg (fun z9 => [Value.int z9]) (show (((7919 * (nI k9)) + 163) : Int32) = (celI xs L k9) from by { unfold celI; rw [if_pos (by first | exact c_6 | exact Decidable.not_not.mp c_6)]; first | rw [if_pos hl12] | rw [if_neg (by have := nle_ge (by omega) c_12; omega)] })) ?_
      exact g_iret (pc := 30) C hr hlk (by first | decide | omega) (by first | decide | omega) (by first | decide | omega) dL_cell_30 ⟨rfl, rfl⟩
    · have hl12 : k9 < L := nle_lt (by omega) c_12
      refine g_aload_n (pc := 15) C 1 rfl rfl dL_cell_15 ?_
      refine g_iload_n (pc := 16) C 2 rfl rfl dL_cell_16 ?_
      refine g_sld (pc := 17) C hX hbl hbA (j := k9) (by omega) (by omega) rfl dL_cell_17 ?_
      refine g_goto (pc := 18) C 30 (by decide) dL_cell_18 ?_
      refine G.eqs (st' := [.int (celI xs L k9)]) (congrArg (fun z9 => [Value.int z9]) (show ((xs k9) : Int32) = (celI xs L k9) from by { unfold celI; rw [if_pos (by first | exact c_6 | exact Decidable.not_not.mp c_6)]; first | rw [if_pos hl12] | rw [if_neg (by have := nle_ge (by omega) c_12; omega)] })) ?_
      exact g_iret (pc := 30) C hr hlk (by first | decide | omega) (by first | decide | omega) (by first | decide | omega) dL_cell_30 ⟨rfl, rfl⟩
def smN (xs : Nat → Int32) (L k9 mm : Nat) : Nat := (celI xs L k9).toBitVec.toNat / 8 % mm
theorem usr_3 (x : Int32) : usr x 3 = nI (x.toBitVec.toNat / 8) := by
  apply Int32.toBitVec_inj.mp
  apply BitVec.eq_of_toNat_eq
  rw [pk_tn (Nat.lt_of_le_of_lt (Nat.div_le_self _ _) x.toBitVec.isLt)]
  exact pk_ushr x 3 3 (by decide)
theorem sm_lt {xs : Nat → Int32} {L k9 mm : Nat} (h : 0 < mm) : smN xs L k9 mm < mm := Nat.mod_lt _ h
set_option maxRecDepth 100000 in
set_option maxHeartbeats 400000 in
theorem c_L_some {l : Launch} {D : va_G} {k : Nat → ClassId} (b : Nat) (L : Nat) (xs : Nat → Int32) (k9 : Nat) (mm : Nat) (hL : L ≤ 260) (hk : k9 ≤ 200) (hm0 : 0 < mm) (hm : mm ≤ 9000) : CMS l D k b L xs yL_some cL_some 3 (some .int) 2 47 [.ref b, .int (nI k9), .int (nI mm)] [] (is1 (some (.int (nI (smN xs L k9 mm)))) []) 0 0 0 := by
  refine CMS.of (lv0 := [(0, .ref b), (1, .int (nI k9)), (2, .int (nI mm))]) (by decide +kernel) (Nat.le_of_ble_eq_true rfl) rfl ?_
  intro p9 e9 s9 m9 bl9 me9 co9 C hr hlk hin had hX hbl hbA
  refine g_aload_n (pc := 0) C 0 rfl rfl dL_some_0 ?_
  refine g_iload_n (pc := 1) C 1 rfl rfl dL_some_1 ?_
  refine g_callSS (pc := 2) (cells := 0) (slots := 0) (g := 0) (As := [.ref b, .int (nI k9)]) (st := []) C (nA := 2) hX hbl hbA rfl (c_L_cell b L xs k9 (by first | assumption | decide | omega) (by first | assumption | decide | omega)) q_558 q_559 q_551 q_557 (by decide +kernel) dL_some_2 ⟨Nat.le_of_ble_eq_true rfl, Nat.le_of_ble_eq_true rfl⟩ [] [] rfl (wr := []) rfl (by decide) (by decide) (by decide) (Nat.le_of_ble_eq_true rfl) ⟨Nat.le_of_ble_eq_true rfl, Nat.le_of_ble_eq_true rfl⟩ (fun rv w1 h1 => ?_)
  obtain ⟨rfl, rfl⟩ := h1
  refine G.aft [] (ws' := []) (st' := [.int (celI xs L k9)]) (cells' := 0) (slots' := 0) (g' := 0) (by decide) rfl rfl rfl rfl rfl ?_
  refine g_iconst (pc := 5) (v := 3) C (by decide) dL_some_5 ?_
  refine g_iushr (pc := 6) C dL_some_6 ?_
  refine g_iload_n (pc := 7) C 2 rfl rfl dL_some_7 ?_
  refine g_irem (pc := 8) C (nI_ne0 hm0 (by omega)) dL_some_8 ?_
  refine G.eqs (st' := [.int (nI (smN xs L k9 mm))]) (congrArg (fun z9 => [Value.int z9]) (show (((usr (celI xs L k9) 3) - (usr (celI xs L k9) 3) / (nI mm) * (nI mm)) : Int32) = (nI (smN xs L k9 mm)) from by { rw [usr_3]; exact pk_rem (by have := (celI xs L k9).toBitVec.isLt; omega) hm0 (by omega) })) ?_
  exact g_iret (pc := 9) C hr hlk (by first | decide | omega) (by first | decide | omega) (by first | decide | omega) dL_some_9 ⟨rfl, rfl⟩
set_option maxRecDepth 100000 in
set_option maxHeartbeats 400000 in
theorem c_L_bad {l : Launch} {D : va_G} {k : Nat → ClassId} (x : Int32)  : CM l D k yL_bad cL_bad 1 (some .int)  0 0 [.int x] [] (is1 (some (.int (-1000000 - x))) []) 0 0 0 := by
  refine CM.of (lv0 := [(0, .int x)]) (by decide +kernel) (Nat.le_of_ble_eq_true rfl) rfl ?_
  intro p9 e9 s9 m9 bl9 me9 co9 C hr hlk hin had
  refine g_ldc (pc := 0) C (v := -1000000) q_560 dL_bad_0 ?_
  refine g_iload_n (pc := 2) C 0 rfl rfl dL_bad_2 ?_
  refine g_isub (pc := 3) C dL_bad_3 ?_
  exact g_iret (pc := 4) C hr hlk (by first | decide | omega) (by first | decide | omega) (by first | decide | omega) dL_bad_4 ⟨rfl, rfl⟩
set_option maxRecDepth 100000 in
set_option maxHeartbeats 400000 in
theorem c_L_degree_ {l : Launch} {D : va_G} {k : Nat → ClassId} (lo : Nat) (eo : Nat) (e1 : Nat) (e2 : Nat) (e3 : Nat) (e4 : Nat) (e5 : Nat) (er : Nat → Nat) (E : Nat → Nat → Nat) (n : Nat) (z : Nat) (sw : Int32) (v : Nat) (hv : v < 6) : CM l D k yL_degree_ cL_degree_ 4 (some .int)  0 0 [.ref lo, .int (nI v)] [(lo, .inr (13, [.ref eo, .ref e1, .ref e2, .ref e3, .ref e4, .ref e5, .int (nI n), .int (nI z), .int sw])), (eo, aR k 3 6 (fun i9 => if i9 < 6 then some (er i9) else none)), ((er 0), aI k 6 (EN E 0)), ((er 1), aI k 6 (EN E 1)), ((er 2), aI k 6 (EN E 2)), ((er 3), aI k 6 (EN E 3)), ((er 4), aI k 6 (EN E 4)), ((er 5), aI k 6 (EN E 5))] (is1 (some (.int (nI (dg E v)))) [(lo, .inr (13, [.ref eo, .ref e1, .ref e2, .ref e3, .ref e4, .ref e5, .int (nI n), .int (nI z), .int sw])), (eo, aR k 3 6 (fun i9 => if i9 < 6 then some (er i9) else none)), ((er 0), aI k 6 (EN E 0)), ((er 1), aI k 6 (EN E 1)), ((er 2), aI k 6 (EN E 2)), ((er 3), aI k 6 (EN E 3)), ((er 4), aI k 6 (EN E 4)), ((er 5), aI k 6 (EN E 5))]) 0 0 0 := by
  refine CM.of (lv0 := [(0, .ref lo), (1, .int (nI v))]) (by decide +kernel) (Nat.le_of_ble_eq_true rfl) rfl ?_
  intro p9 e9 s9 m9 bl9 me9 co9 C hr hlk hin had
  refine g_iconst (pc := 0) (v := 0) C (by decide) dL_degree__0 ?_
  refine g_istore_n (pc := 1) C [(2, .int 0), (0, .ref lo), (1, .int (nI v))] rfl dL_degree__1 (by decide) rfl ?_
  refine g_iconst (pc := 2) (v := 0) C (by decide) dL_degree__2 ?_
  refine g_istore_n (pc := 3) C [(3, .int 0), (2, .int 0), (0, .ref lo), (1, .int (nI v))] rfl dL_degree__3 (by decide) rfl ?_
  have key_4 : ∀ (fuel : Nat) (w : Nat), w ≤ 6 → 6 - w < fuel → G p9 l e9 { frames := 0, cells := 0, slots := 0, locals := 0 } s9 m9 ([.ref lo, .int (nI v)] : List Value).toArray bl9 me9 co9 D 4 (va_A [(lo, .inr (13, [.ref eo, .ref e1, .ref e2, .ref e3, .ref e4, .ref e5, .int (nI n), .int (nI z), .int sw])), (eo, aR k 3 6 (fun i9 => if i9 < 6 then some (er i9) else none)), ((er 0), aI k 6 (EN E 0)), ((er 1), aI k 6 (EN E 1)), ((er 2), aI k 6 (EN E 2)), ((er 3), aI k 6 (EN E 3)), ((er 4), aI k 6 (EN E 4)), ((er 5), aI k 6 (EN E 5))] s9.heap.size) (QM bl9 D ([.ref lo, .int (nI v)] : List Value).toArray s9 [(lo, .inr (13, [.ref eo, .ref e1, .ref e2, .ref e3, .ref e4, .ref e5, .int (nI n), .int (nI z), .int sw])), (eo, aR k 3 6 (fun i9 => if i9 < 6 then some (er i9) else none)), ((er 0), aI k 6 (EN E 0)), ((er 1), aI k 6 (EN E 1)), ((er 2), aI k 6 (EN E 2)), ((er 3), aI k 6 (EN E 3)), ((er 4), aI k 6 (EN E 4)), ((er 5), aI k 6 (EN E 5))] (is1 (some (.int (nI (dg E v)))) [(lo, .inr (13, [.ref eo, .ref e1, .ref e2, .ref e3, .ref e4, .ref e5, .int (nI n), .int (nI z), .int sw])), (eo, aR k 3 6 (fun i9 => if i9 < 6 then some (er i9) else none)), ((er 0), aI k 6 (EN E 0)), ((er 1), aI k 6 (EN E 1)), ((er 2), aI k 6 (EN E 2)), ((er 3), aI k 6 (EN E 3)), ((er 4), aI k 6 (EN E 4)), ((er 5), aI k 6 (EN E 5))]) 0 0 0) [(lo, .inr (13, [.ref eo, .ref e1, .ref e2, .ref e3, .ref e4, .ref e5, .int (nI n), .int (nI z), .int sw])), (eo, aR k 3 6 (fun i9 => if i9 < 6 then some (er i9) else none)), ((er 0), aI k 6 (EN E 0)), ((er 1), aI k 6 (EN E 1)), ((er 2), aI k 6 (EN E 2)), ((er 3), aI k 6 (EN E 3)), ((er 4), aI k 6 (EN E 4)), ((er 5), aI k 6 (EN E 5))] [(0, .ref lo), (1, .int (nI v)), (2, .int (nI (sumN (E v) w))), (3, .int (nI w))] 0 0 0 4 [] := by
    intro fuel
    induction fuel with
    | zero => intro w hw hm; exact absurd hm (Nat.not_lt_zero _)
    | succ fuel ih =>
      intro w hw hm
      have ih_4 := ih
      refine g_iload_n (pc := 4) C 3 rfl rfl dL_degree__4 ?_
      refine g_bipush (pc := 5) (v := 6) C (by decide) dL_degree__5 ?_
      refine g_icmp_ge (pc := 7) C 27 (by decide) dL_degree__7 (fun c_7 => ?_) (fun c_7 => ?_)
      · have h3 : w = 6 := by { have := nle_ge (b := 6) (a := w) (by omega) c_7; omega }
        refine g_iload_n (pc := 27) C 2 rfl rfl dL_degree__27 ?_
        refine G.eqs (st' := [.int (nI (dg E v))]) (congrArg (fun z9 => [Value.int z9]) (show ((nI (sumN (E v) w)) : Int32) = (nI (dg E v)) from by { rw [h3]; try rfl })) ?_
        exact g_iret (pc := 28) C hr hlk (by first | decide | omega) (by first | decide | omega) (by first | decide | omega) dL_degree__28 ⟨rfl, rfl⟩
      · have hl7 : w < 6 := nle_lt (by omega) c_7
        refine g_iload_n (pc := 10) C 2 rfl rfl dL_degree__10 ?_
        refine g_aload_n (pc := 11) C 0 rfl rfl dL_degree__11 ?_
        refine g_get (pc := 12) C (T := TXL) inXL 0 rfl rfl 0 (by decide) q_561 rfl rfl dL_degree__12 ?_
        refine g_iload_n (pc := 15) C 1 rfl rfl dL_degree__15 ?_
        refine g_aald (pc := 16) C (j := v) (b := er v) 1 rfl (by omega) (by decide) rfl (if_pos (by omega)) dL_degree__16 ?_
        refine g_iload_n (pc := 17) C 3 rfl rfl dL_degree__17 ?_
        refine g_iald_n (pc := 18) (a := (er v)) (n := 6) (f := (EN E v)) C (j := w) (2 + v) (by rcases (show v = 0 ∨ v = 1 ∨ v = 2 ∨ v = 3 ∨ v = 4 ∨ v = 5 by omega) with h9 | h9 | h9 | h9 | h9 | h9 <;> rw [h9] <;> rfl) (by omega) (by first | decide | omega) rfl dL_degree__18 ?_
        refine g_iadd (pc := 19) C dL_degree__19 ?_
        refine g_istore_n (pc := 20) C [(2, .int ((nI (sumN (E v) w)) + ((EN E v) w))), (0, .ref lo), (1, .int (nI v)), (3, .int (nI w))] rfl dL_degree__20 (by decide) rfl ?_
        refine g_iinc (pc := 21) (n := 1) (v := (nI (w + 1))) C 3 [(3, .int (nI (w + 1))), (2, .int ((nI (sumN (E v) w)) + ((EN E v) w))), (0, .ref lo), (1, .int (nI v))] rfl (nI_1 w) dL_degree__21 (by decide) rfl ?_
        refine g_goto (pc := 24) C 4 (by decide) dL_degree__24 ?_
        refine G.loc [2, 3, 1, 0] (lv' := [(0, .ref lo), (1, .int (nI v)), (2, .int ((nI (sumN (E v) w)) + ((EN E v) w))), (3, .int (nI (w + 1)))]) rfl ?_
        refine G.eql (lv' := [(0, .ref lo), (1, .int (nI v)), (2, .int (nI (sumN (E v) (w + 1)))), (3, .int (nI (w + 1)))]) (congrArg (β := List (Nat × Value)) (fun z9 => [(0, .ref lo), (1, .int (nI v)), (2, .int z9), (3, .int (nI (w + 1)))]) (show (((nI (sumN (E v) w)) + ((EN E v) w)) : Int32) = (nI (sumN (E v) (w + 1))) from by exact nI_add _ _)) ?_
        exact ih_4 (w + 1) (by omega) (by omega)
  refine G.loc [2, 3, 1, 0] (lv' := [(0, .ref lo), (1, .int (nI v)), (2, .int 0), (3, .int 0)]) rfl ?_
  refine G.eql (lv' := [(0, .ref lo), (1, .int (nI v)), (2, .int (nI (sumN (E v) 0))), (3, .int (nI 0))]) ((congrArg (β := List (Nat × Value)) (fun z9 => [(0, .ref lo), (1, .int (nI v)), (2, .int z9), (3, .int 0)]) (show (0 : Int32) = (nI (sumN (E v) 0)) from by first | rfl | exact nI_0.symm)).trans (congrArg (β := List (Nat × Value)) (fun z9 => [(0, .ref lo), (1, .int (nI v)), (2, .int (nI (sumN (E v) 0))), (3, .int z9)]) (show (0 : Int32) = (nI 0) from by first | rfl | exact nI_0.symm))) ?_
  exact key_4 (6 - 0 + 1) 0 (by omega) (Nat.lt_succ_self _)
/-- what is reached from the sink: through vertex k, through all, so many times -/
def bup (q : Nat → Bool) (m : Nat) (x : Bool) : Nat → Bool := fun j => if j = m then x else q j
def lwS (E : Nat → Nat → Nat) (a : Nat) (q : Nat → Bool) : Nat → Nat → Bool
  | 0 => q
  | m + 1 => bup (lwS E a q m) m (lwS E a q m m || (lwS E a q m a && decide (0 < E a m)))
def lwK (E : Nat → Nat → Nat) (q : Nat → Bool) : Nat → Nat → Bool
  | 0 => q
  | a + 1 => lwS E a (lwK E q a) 6
def lwT (E : Nat → Nat → Nat) (q : Nat → Bool) : Nat → Nat → Bool
  | 0 => q
  | t + 1 => lwK E (lwT E q t) 6
def lwV (E : Nat → Nat → Nat) (n z : Nat) : Bool := (List.range n).all (lwT E (fun j9 => decide (j9 = z)) 6) && decide (1 < n)
theorem lw_a {q : Nat → Bool} {E : Nat → Nat → Nat} {a m : Nat} (h : bI (q a) = 0) : bI (q m) ||| 0 = bI (q m || (q a && decide (0 < E a m))) := by
  rw [bI_0] at h
  rw [h, Bool.false_and, Bool.or_false]; cases q m <;> rfl
theorem lw_b {q : Nat → Bool} {E : Nat → Nat → Nat} {a m : Nat} (hE : E a m ≤ 3) (h : EN E a m ≤ 0) : bI (q m) ||| 0 = bI (q m || (q a && decide (0 < E a m))) := by
  have h1 : ¬ 0 < E a m := fun h0 => nI_nle h0 (by omega) h
  rw [decide_eq_false h1, Bool.and_false, Bool.or_false]; cases q m <;> rfl
theorem lw_c {q : Nat → Bool} {E : Nat → Nat → Nat} {a m : Nat} (h1 : ¬ bI (q a) = 0) (h : ¬ EN E a m ≤ 0) : bI (q m) ||| 1 = bI (q m || (q a && decide (0 < E a m))) := by
  have h2 : 0 < E a m := Nat.pos_of_ne_zero fun h0 => h (by show nI (E a m) ≤ 0; rw [h0]; decide)
  rw [bI_0, Bool.not_eq_false] at h1
  rw [h1, decide_eq_true h2, Bool.true_and, Bool.or_true]; cases q m <;> rfl
theorem lw_u {q : Nat → Bool} {m : Nat} {x : Bool} (j : Nat) : upd (fun j9 => bI (q j9)) m (bI x) j = bI (bup q m x j) := by
  unfold upd bup
  by_cases h : j = m
  · rw [if_pos h, if_pos h]
  · rw [if_neg h, if_neg h]
theorem lwV_f {E : Nat → Nat → Nat} {n z v : Nat} (hv : v < n) (h : bI (lwT E (fun j9 => decide (j9 = z)) 6 v) = 0) : lwV E n z = false := by
  unfold lwV
  rw [Bool.and_eq_false_iff]
  left
  rw [Bool.eq_false_iff]
  intro q
  have := List.all_eq_true.mp q v (List.mem_range.mpr hv)
  rw [(bI_0 _).mp h] at this
  exact absurd this (by decide)
theorem lwV_e {E : Nat → Nat → Nat} {n z : Nat} (hq : ∀ v, v < n → ¬ bI (lwT E (fun j9 => decide (j9 = z)) 6 v) = 0) : lwV E n z = decide (1 < n) := by
  unfold lwV
  rw [List.all_eq_true.mpr, Bool.true_and]
  intro v hv
  have := hq v (List.mem_range.mp hv)
  rw [bI_0, Bool.not_eq_false] at this
  exact this
set_option maxRecDepth 100000 in
set_option maxHeartbeats 400000 in
theorem c_L_isWhole {l : Launch} {D : va_G} {k : Nat → ClassId} (lo : Nat) (eo : Nat) (e1 : Nat) (e2 : Nat) (e3 : Nat) (e4 : Nat) (e5 : Nat) (er : Nat → Nat) (E : Nat → Nat → Nat) (n : Nat) (z : Nat) (sw : Int32) (hn : n ≤ 6) (hz : z < n) (hE3 : ∀ i j, E i j ≤ 3) : CM l D k yL_isWhole cL_isWhole 5 (some .boolean)  0 0 [.ref lo] [(lo, .inr (13, [.ref eo, .ref e1, .ref e2, .ref e3, .ref e4, .ref e5, .int (nI n), .int (nI z), .int sw])), (eo, aR k 3 6 (fun i9 => if i9 < 6 then some (er i9) else none)), ((er 0), aI k 6 (EN E 0)), ((er 1), aI k 6 (EN E 1)), ((er 2), aI k 6 (EN E 2)), ((er 3), aI k 6 (EN E 3)), ((er 4), aI k 6 (EN E 4)), ((er 5), aI k 6 (EN E 5))] (is1 (some (.int (bI (lwV E n z)))) [(lo, .inr (13, [.ref eo, .ref e1, .ref e2, .ref e3, .ref e4, .ref e5, .int (nI n), .int (nI z), .int sw])), (eo, aR k 3 6 (fun i9 => if i9 < 6 then some (er i9) else none)), ((er 0), aI k 6 (EN E 0)), ((er 1), aI k 6 (EN E 1)), ((er 2), aI k 6 (EN E 2)), ((er 3), aI k 6 (EN E 3)), ((er 4), aI k 6 (EN E 4)), ((er 5), aI k 6 (EN E 5))]) 1 6 0 := by
  refine CM.of (lv0 := [(0, .ref lo)]) (by decide +kernel) (Nat.le_of_ble_eq_true rfl) rfl ?_
  intro p9 e9 s9 m9 bl9 me9 co9 C hr hlk hin had
  refine g_bipush (pc := 0) (v := 6) C (by decide) dL_isWhole_0 ?_
  refine g_newZ (pc := 2) (cells := 0) (slots := 0) (g := 0) C 6 q_562 (by decide) (by decide) (Nat.le_of_ble_eq_true rfl) (Nat.le_of_ble_eq_true rfl) (Nat.le_of_ble_eq_true rfl) dL_isWhole_2 (fun q1 => ?_)
  refine G.eqw (ws' := [(lo, .inr (13, [.ref eo, .ref e1, .ref e2, .ref e3, .ref e4, .ref e5, .int (nI n), .int (nI z), .int sw])), (eo, aR k 3 6 (fun i9 => if i9 < 6 then some (er i9) else none)), ((er 0), aI k 6 (EN E 0)), ((er 1), aI k 6 (EN E 1)), ((er 2), aI k 6 (EN E 2)), ((er 3), aI k 6 (EN E 3)), ((er 4), aI k 6 (EN E 4)), ((er 5), aI k 6 (EN E 5)), (q1, aZ k 6 (fun _ => 0))]) rfl ?_
  refine g_astore_n (pc := 4) C [(1, .ref q1), (0, .ref lo)] rfl dL_isWhole_4 (by decide) rfl ?_
  refine g_aload_n (pc := 5) C 0 rfl rfl dL_isWhole_5 ?_
  refine g_aload_n (pc := 6) C 1 rfl rfl dL_isWhole_6 ?_
  refine g_get (pc := 7) C (T := TXL) inXL 0 rfl rfl 7 (by decide) q_563 rfl rfl dL_isWhole_7 ?_
  refine g_iconst (pc := 10) (v := 1) C (by decide) dL_isWhole_10 ?_
  refine g_zast_n (pc := 11) C (j := z) 8 [(lo, .inr (13, [.ref eo, .ref e1, .ref e2, .ref e3, .ref e4, .ref e5, .int (nI n), .int (nI z), .int sw])), (eo, aR k 3 6 (fun i9 => if i9 < 6 then some (er i9) else none)), ((er 0), aI k 6 (EN E 0)), ((er 1), aI k 6 (EN E 1)), ((er 2), aI k 6 (EN E 2)), ((er 3), aI k 6 (EN E 3)), ((er 4), aI k 6 (EN E 4)), ((er 5), aI k 6 (EN E 5)), (q1, aZ k 6 (upd (fun _ => 0) z 1))] rfl (by omega) (by first | decide | omega) rfl (by first | exact bI_vp _ | rfl) rfl dL_isWhole_11 ?_
  refine g_iconst (pc := 12) (v := 0) C (by decide) dL_isWhole_12 ?_
  refine g_istore_n (pc := 13) C [(2, .int 0), (1, .ref q1), (0, .ref lo)] rfl dL_isWhole_13 (by decide) rfl ?_
  have key_14 : ∀ (fuel : Nat) (t9 : Nat), t9 ≤ 6 → 6 - t9 < fuel → G p9 l e9 { frames := 0, cells := 1, slots := 6, locals := 0 } s9 m9 ([.ref lo] : List Value).toArray bl9 me9 co9 D 5 (va_A [(lo, .inr (13, [.ref eo, .ref e1, .ref e2, .ref e3, .ref e4, .ref e5, .int (nI n), .int (nI z), .int sw])), (eo, aR k 3 6 (fun i9 => if i9 < 6 then some (er i9) else none)), ((er 0), aI k 6 (EN E 0)), ((er 1), aI k 6 (EN E 1)), ((er 2), aI k 6 (EN E 2)), ((er 3), aI k 6 (EN E 3)), ((er 4), aI k 6 (EN E 4)), ((er 5), aI k 6 (EN E 5))] s9.heap.size) (QM bl9 D ([.ref lo] : List Value).toArray s9 [(lo, .inr (13, [.ref eo, .ref e1, .ref e2, .ref e3, .ref e4, .ref e5, .int (nI n), .int (nI z), .int sw])), (eo, aR k 3 6 (fun i9 => if i9 < 6 then some (er i9) else none)), ((er 0), aI k 6 (EN E 0)), ((er 1), aI k 6 (EN E 1)), ((er 2), aI k 6 (EN E 2)), ((er 3), aI k 6 (EN E 3)), ((er 4), aI k 6 (EN E 4)), ((er 5), aI k 6 (EN E 5))] (is1 (some (.int (bI (lwV E n z)))) [(lo, .inr (13, [.ref eo, .ref e1, .ref e2, .ref e3, .ref e4, .ref e5, .int (nI n), .int (nI z), .int sw])), (eo, aR k 3 6 (fun i9 => if i9 < 6 then some (er i9) else none)), ((er 0), aI k 6 (EN E 0)), ((er 1), aI k 6 (EN E 1)), ((er 2), aI k 6 (EN E 2)), ((er 3), aI k 6 (EN E 3)), ((er 4), aI k 6 (EN E 4)), ((er 5), aI k 6 (EN E 5))]) 1 6 0) [(lo, .inr (13, [.ref eo, .ref e1, .ref e2, .ref e3, .ref e4, .ref e5, .int (nI n), .int (nI z), .int sw])), (eo, aR k 3 6 (fun i9 => if i9 < 6 then some (er i9) else none)), ((er 0), aI k 6 (EN E 0)), ((er 1), aI k 6 (EN E 1)), ((er 2), aI k 6 (EN E 2)), ((er 3), aI k 6 (EN E 3)), ((er 4), aI k 6 (EN E 4)), ((er 5), aI k 6 (EN E 5)), (q1, aZ k 6 (fun j9 => bI ((lwT E (fun j9 => decide (j9 = z)) t9) j9)))] [(0, .ref lo), (1, .ref q1), (2, .int (nI t9))] 1 6 1 14 [] := by
    intro fuel
    induction fuel with
    | zero => intro t9 ht9 hm; exact absurd hm (Nat.not_lt_zero _)
    | succ fuel ih =>
      intro t9 ht9 hm
      have ih_14 := ih
      refine g_iload_n (pc := 14) C 2 rfl rfl dL_isWhole_14 ?_
      refine g_bipush (pc := 15) (v := 6) C (by decide) dL_isWhole_15 ?_
      refine g_icmp_ge (pc := 17) C 86 (by decide) dL_isWhole_17 (fun c_17 => ?_) (fun c_17 => ?_)
      · have h3 : t9 = 6 := by { have := nle_ge (b := 6) (a := t9) (by omega) c_17; omega }
        refine G.fn (fun j9 => bI ((lwT E (fun j9 => decide (j9 = z)) 6) j9)) 8 [(lo, .inr (13, [.ref eo, .ref e1, .ref e2, .ref e3, .ref e4, .ref e5, .int (nI n), .int (nI z), .int sw])), (eo, aR k 3 6 (fun i9 => if i9 < 6 then some (er i9) else none)), ((er 0), aI k 6 (EN E 0)), ((er 1), aI k 6 (EN E 1)), ((er 2), aI k 6 (EN E 2)), ((er 3), aI k 6 (EN E 3)), ((er 4), aI k 6 (EN E 4)), ((er 5), aI k 6 (EN E 5)), (q1, aZ k 6 (fun j9 => bI ((lwT E (fun j9 => decide (j9 = z)) 6) j9)))] rfl (fun j hj => by rw [h3]) rfl ?_
        refine g_iconst (pc := 86) (v := 0) C (by decide) dL_isWhole_86 ?_
        refine g_istore_n (pc := 87) C [(2, .int 0), (0, .ref lo), (1, .ref q1)] rfl dL_isWhole_87 (by decide) rfl ?_
        have key_88 : ∀ (fuel : Nat) (v : Nat), v ≤ n → (∀ j, j < v → ¬ bI ((lwT E (fun j9 => decide (j9 = z)) 6) j) = 0) → n - v < fuel → G p9 l e9 { frames := 0, cells := 1, slots := 6, locals := 0 } s9 m9 ([.ref lo] : List Value).toArray bl9 me9 co9 D 5 (va_A [(lo, .inr (13, [.ref eo, .ref e1, .ref e2, .ref e3, .ref e4, .ref e5, .int (nI n), .int (nI z), .int sw])), (eo, aR k 3 6 (fun i9 => if i9 < 6 then some (er i9) else none)), ((er 0), aI k 6 (EN E 0)), ((er 1), aI k 6 (EN E 1)), ((er 2), aI k 6 (EN E 2)), ((er 3), aI k 6 (EN E 3)), ((er 4), aI k 6 (EN E 4)), ((er 5), aI k 6 (EN E 5))] s9.heap.size) (QM bl9 D ([.ref lo] : List Value).toArray s9 [(lo, .inr (13, [.ref eo, .ref e1, .ref e2, .ref e3, .ref e4, .ref e5, .int (nI n), .int (nI z), .int sw])), (eo, aR k 3 6 (fun i9 => if i9 < 6 then some (er i9) else none)), ((er 0), aI k 6 (EN E 0)), ((er 1), aI k 6 (EN E 1)), ((er 2), aI k 6 (EN E 2)), ((er 3), aI k 6 (EN E 3)), ((er 4), aI k 6 (EN E 4)), ((er 5), aI k 6 (EN E 5))] (is1 (some (.int (bI (lwV E n z)))) [(lo, .inr (13, [.ref eo, .ref e1, .ref e2, .ref e3, .ref e4, .ref e5, .int (nI n), .int (nI z), .int sw])), (eo, aR k 3 6 (fun i9 => if i9 < 6 then some (er i9) else none)), ((er 0), aI k 6 (EN E 0)), ((er 1), aI k 6 (EN E 1)), ((er 2), aI k 6 (EN E 2)), ((er 3), aI k 6 (EN E 3)), ((er 4), aI k 6 (EN E 4)), ((er 5), aI k 6 (EN E 5))]) 1 6 0) [(lo, .inr (13, [.ref eo, .ref e1, .ref e2, .ref e3, .ref e4, .ref e5, .int (nI n), .int (nI z), .int sw])), (eo, aR k 3 6 (fun i9 => if i9 < 6 then some (er i9) else none)), ((er 0), aI k 6 (EN E 0)), ((er 1), aI k 6 (EN E 1)), ((er 2), aI k 6 (EN E 2)), ((er 3), aI k 6 (EN E 3)), ((er 4), aI k 6 (EN E 4)), ((er 5), aI k 6 (EN E 5)), (q1, aZ k 6 (fun j9 => bI ((lwT E (fun j9 => decide (j9 = z)) 6) j9)))] [(0, .ref lo), (1, .ref q1), (2, .int (nI v))] 1 6 1 88 [] := by
          intro fuel
          induction fuel with
          | zero => intro v hv hq hm; exact absurd hm (Nat.not_lt_zero _)
          | succ fuel ih =>
            intro v hv hq hm
            have ih_88 := ih
            refine g_iload_n (pc := 88) C 2 rfl rfl dL_isWhole_88 ?_
            refine g_aload_n (pc := 89) C 0 rfl rfl dL_isWhole_89 ?_
            refine g_get (pc := 90) C (T := TXL) inXL 0 rfl rfl 6 (by decide) q_564 rfl rfl dL_isWhole_90 ?_
            refine g_icmp_ge (pc := 93) C 110 (by decide) dL_isWhole_93 (fun c_93 => ?_) (fun c_93 => ?_)
            · have h6 : v = n := by { have := nle_ge (b := n) (a := v) (by omega) c_93; omega }
              refine g_aload_n (pc := 110) C 0 rfl rfl dL_isWhole_110 ?_
              refine g_get (pc := 111) C (T := TXL) inXL 0 rfl rfl 6 (by decide) q_564 rfl rfl dL_isWhole_111 ?_
              refine g_iconst (pc := 114) (v := 1) C (by decide) dL_isWhole_114 ?_
              refine g_icmp_le (pc := 115) C 122 (by decide) dL_isWhole_115 (fun c_115 => ?_) (fun c_115 => ?_)
              · refine g_iconst (pc := 122) (v := 0) C (by decide) dL_isWhole_122 ?_
                refine G.re [0, 1, 2, 3, 4, 5, 6, 7] (ws' := [(lo, .inr (13, [.ref eo, .ref e1, .ref e2, .ref e3, .ref e4, .ref e5, .int (nI n), .int (nI z), .int sw])), (eo, aR k 3 6 (fun i9 => if i9 < 6 then some (er i9) else none)), ((er 0), aI k 6 (EN E 0)), ((er 1), aI k 6 (EN E 1)), ((er 2), aI k 6 (EN E 2)), ((er 3), aI k 6 (EN E 3)), ((er 4), aI k 6 (EN E 4)), ((er 5), aI k 6 (EN E 5))]) (by decide) rfl ?_
                refine G.eqs (st' := [.int (bI (lwV E n z))]) (congrArg (fun z9 => [Value.int z9]) (show (0 : Int32) = (bI (lwV E n z)) from by { rw [lwV_e (fun j hj => hq j (by omega))]; first | (rw [decide_eq_true (nle_lt (a := 1) (by omega) c_115)]; try rfl) | (rw [decide_eq_false (fun q => nI_ge q (by omega) c_115)]; try rfl) })) ?_
                exact g_zret (pc := 123) C hr (by first | rfl | exact bI_nar _) hlk (by first | decide | omega) (by first | decide | omega) (by first | decide | omega) dL_isWhole_123 ⟨rfl, rfl⟩
              · refine g_iconst (pc := 118) (v := 1) C (by decide) dL_isWhole_118 ?_
                refine g_goto (pc := 119) C 123 (by decide) dL_isWhole_119 ?_
                refine G.re [0, 1, 2, 3, 4, 5, 6, 7] (ws' := [(lo, .inr (13, [.ref eo, .ref e1, .ref e2, .ref e3, .ref e4, .ref e5, .int (nI n), .int (nI z), .int sw])), (eo, aR k 3 6 (fun i9 => if i9 < 6 then some (er i9) else none)), ((er 0), aI k 6 (EN E 0)), ((er 1), aI k 6 (EN E 1)), ((er 2), aI k 6 (EN E 2)), ((er 3), aI k 6 (EN E 3)), ((er 4), aI k 6 (EN E 4)), ((er 5), aI k 6 (EN E 5))]) (by decide) rfl ?_
                refine G.eqs (st' := [.int (bI (lwV E n z))]) (congrArg (fun z9 => [Value.int z9]) (show (1 : Int32) = (bI (lwV E n z)) from by { rw [lwV_e (fun j hj => hq j (by omega))]; first | (rw [decide_eq_true (nle_lt (a := 1) (by omega) c_115)]; try rfl) | (rw [decide_eq_false (fun q => nI_ge q (by omega) c_115)]; try rfl) })) ?_
                exact g_zret (pc := 123) C hr (by first | rfl | exact bI_nar _) hlk (by first | decide | omega) (by first | decide | omega) (by first | decide | omega) dL_isWhole_123 ⟨rfl, rfl⟩
            · have hl93 : v < n := nle_lt (by omega) c_93
              refine g_aload_n (pc := 96) C 1 rfl rfl dL_isWhole_96 ?_
              refine g_iload_n (pc := 97) C 2 rfl rfl dL_isWhole_97 ?_
              refine g_zald_n (pc := 98) C (j := v) 8 rfl (by omega) (by first | decide | omega) rfl dL_isWhole_98 ?_
              refine g_if_ne (pc := 99) C 104 (by decide) dL_isWhole_99 (fun c_99 => ?_) (fun c_99 => ?_)
              · refine g_iinc (pc := 104) (n := 1) (v := (nI (v + 1))) C 2 [(2, .int (nI (v + 1))), (0, .ref lo), (1, .ref q1)] rfl (nI_1 v) dL_isWhole_104 (by decide) rfl ?_
                refine g_goto (pc := 107) C 88 (by decide) dL_isWhole_107 ?_
                refine G.loc [1, 2, 0] (lv' := [(0, .ref lo), (1, .ref q1), (2, .int (nI (v + 1)))]) rfl ?_
                exact ih_88 (v + 1) (by omega) (fun j hj => by rcases Nat.lt_or_ge j v with q | q; exact hq j q; have h1 : j = v := (by omega); subst h1; exact c_99) (by omega)
              · refine g_iconst (pc := 102) (v := 0) C (by decide) dL_isWhole_102 ?_
                refine G.re [0, 1, 2, 3, 4, 5, 6, 7] (ws' := [(lo, .inr (13, [.ref eo, .ref e1, .ref e2, .ref e3, .ref e4, .ref e5, .int (nI n), .int (nI z), .int sw])), (eo, aR k 3 6 (fun i9 => if i9 < 6 then some (er i9) else none)), ((er 0), aI k 6 (EN E 0)), ((er 1), aI k 6 (EN E 1)), ((er 2), aI k 6 (EN E 2)), ((er 3), aI k 6 (EN E 3)), ((er 4), aI k 6 (EN E 4)), ((er 5), aI k 6 (EN E 5))]) (by decide) rfl ?_
                refine G.eqs (st' := [.int (bI (lwV E n z))]) (congrArg (fun z9 => [Value.int z9]) (show (0 : Int32) = (bI (lwV E n z)) from by rw [lwV_f hl93 c_99]; try rfl)) ?_
                exact g_zret (pc := 103) C hr (by first | rfl | exact bI_nar _) hlk (by first | decide | omega) (by first | decide | omega) (by first | decide | omega) dL_isWhole_103 ⟨rfl, rfl⟩
        refine G.loc [1, 2, 0] (lv' := [(0, .ref lo), (1, .ref q1), (2, .int 0)]) rfl ?_
        refine G.eql (lv' := [(0, .ref lo), (1, .ref q1), (2, .int (nI 0))]) (congrArg (β := List (Nat × Value)) (fun z9 => [(0, .ref lo), (1, .ref q1), (2, .int z9)]) (show (0 : Int32) = (nI 0) from by exact nI_0.symm)) ?_
        exact key_88 (n - 0 + 1) 0 (by omega) (fun j hj => absurd hj (Nat.not_lt_zero j)) (Nat.lt_succ_self _)
      · have hl17 : t9 < 6 := nle_lt (by omega) c_17
        refine g_iconst (pc := 20) (v := 0) C (by decide) dL_isWhole_20 ?_
        refine g_istore_n (pc := 21) C [(3, .int 0), (0, .ref lo), (1, .ref q1), (2, .int (nI t9))] rfl dL_isWhole_21 (by decide) rfl ?_
        have key_22 : ∀ (fuel : Nat) (a9 : Nat), a9 ≤ 6 → 6 - a9 < fuel → G p9 l e9 { frames := 0, cells := 1, slots := 6, locals := 0 } s9 m9 ([.ref lo] : List Value).toArray bl9 me9 co9 D 5 (va_A [(lo, .inr (13, [.ref eo, .ref e1, .ref e2, .ref e3, .ref e4, .ref e5, .int (nI n), .int (nI z), .int sw])), (eo, aR k 3 6 (fun i9 => if i9 < 6 then some (er i9) else none)), ((er 0), aI k 6 (EN E 0)), ((er 1), aI k 6 (EN E 1)), ((er 2), aI k 6 (EN E 2)), ((er 3), aI k 6 (EN E 3)), ((er 4), aI k 6 (EN E 4)), ((er 5), aI k 6 (EN E 5))] s9.heap.size) (QM bl9 D ([.ref lo] : List Value).toArray s9 [(lo, .inr (13, [.ref eo, .ref e1, .ref e2, .ref e3, .ref e4, .ref e5, .int (nI n), .int (nI z), .int sw])), (eo, aR k 3 6 (fun i9 => if i9 < 6 then some (er i9) else none)), ((er 0), aI k 6 (EN E 0)), ((er 1), aI k 6 (EN E 1)), ((er 2), aI k 6 (EN E 2)), ((er 3), aI k 6 (EN E 3)), ((er 4), aI k 6 (EN E 4)), ((er 5), aI k 6 (EN E 5))] (is1 (some (.int (bI (lwV E n z)))) [(lo, .inr (13, [.ref eo, .ref e1, .ref e2, .ref e3, .ref e4, .ref e5, .int (nI n), .int (nI z), .int sw])), (eo, aR k 3 6 (fun i9 => if i9 < 6 then some (er i9) else none)), ((er 0), aI k 6 (EN E 0)), ((er 1), aI k 6 (EN E 1)), ((er 2), aI k 6 (EN E 2)), ((er 3), aI k 6 (EN E 3)), ((er 4), aI k 6 (EN E 4)), ((er 5), aI k 6 (EN E 5))]) 1 6 0) [(lo, .inr (13, [.ref eo, .ref e1, .ref e2, .ref e3, .ref e4, .ref e5, .int (nI n), .int (nI z), .int sw])), (eo, aR k 3 6 (fun i9 => if i9 < 6 then some (er i9) else none)), ((er 0), aI k 6 (EN E 0)), ((er 1), aI k 6 (EN E 1)), ((er 2), aI k 6 (EN E 2)), ((er 3), aI k 6 (EN E 3)), ((er 4), aI k 6 (EN E 4)), ((er 5), aI k 6 (EN E 5)), (q1, aZ k 6 (fun j9 => bI ((lwK E (lwT E (fun j9 => decide (j9 = z)) t9) a9) j9)))] [(0, .ref lo), (1, .ref q1), (2, .int (nI t9)), (3, .int (nI a9))] 1 6 1 22 [] := by
          intro fuel
          induction fuel with
          | zero => intro a9 ha9 hm; exact absurd hm (Nat.not_lt_zero _)
          | succ fuel ih =>
            intro a9 ha9 hm
            have ih_22 := ih
            refine g_iload_n (pc := 22) C 3 rfl rfl dL_isWhole_22 ?_
            refine g_bipush (pc := 23) (v := 6) C (by decide) dL_isWhole_23 ?_
            refine g_icmp_ge (pc := 25) C 80 (by decide) dL_isWhole_25 (fun c_25 => ?_) (fun c_25 => ?_)
            · have h4 : a9 = 6 := by { have := nle_ge (b := 6) (a := a9) (by omega) c_25; omega }
              refine g_iinc (pc := 80) (n := 1) (v := (nI (t9 + 1))) C 2 [(2, .int (nI (t9 + 1))), (0, .ref lo), (1, .ref q1), (3, .int (nI a9))] rfl (nI_1 t9) dL_isWhole_80 (by decide) rfl ?_
              refine g_goto (pc := 83) C 14 (by decide) dL_isWhole_83 ?_
              refine G.loc [1, 2, 0] (lv' := [(0, .ref lo), (1, .ref q1), (2, .int (nI (t9 + 1)))]) rfl ?_
              refine G.fn (fun j9 => bI ((lwT E (fun j9 => decide (j9 = z)) (t9 + 1)) j9)) 8 [(lo, .inr (13, [.ref eo, .ref e1, .ref e2, .ref e3, .ref e4, .ref e5, .int (nI n), .int (nI z), .int sw])), (eo, aR k 3 6 (fun i9 => if i9 < 6 then some (er i9) else none)), ((er 0), aI k 6 (EN E 0)), ((er 1), aI k 6 (EN E 1)), ((er 2), aI k 6 (EN E 2)), ((er 3), aI k 6 (EN E 3)), ((er 4), aI k 6 (EN E 4)), ((er 5), aI k 6 (EN E 5)), (q1, aZ k 6 (fun j9 => bI ((lwT E (fun j9 => decide (j9 = z)) (t9 + 1)) j9)))] rfl (fun j hj => by rw [h4]; try rfl) rfl ?_
              exact ih_14 (t9 + 1) (by omega) (by omega)
            · have hl25 : a9 < 6 := nle_lt (by omega) c_25
              refine g_iconst (pc := 28) (v := 0) C (by decide) dL_isWhole_28 ?_
              refine g_istore (pc := 29) C [(4, .int 0), (0, .ref lo), (1, .ref q1), (2, .int (nI t9)), (3, .int (nI a9))] dL_isWhole_29 (by decide) rfl ?_
              have key_31 : ∀ (fuel : Nat) (mm : Nat), mm ≤ 6 → 6 - mm < fuel → G p9 l e9 { frames := 0, cells := 1, slots := 6, locals := 0 } s9 m9 ([.ref lo] : List Value).toArray bl9 me9 co9 D 5 (va_A [(lo, .inr (13, [.ref eo, .ref e1, .ref e2, .ref e3, .ref e4, .ref e5, .int (nI n), .int (nI z), .int sw])), (eo, aR k 3 6 (fun i9 => if i9 < 6 then some (er i9) else none)), ((er 0), aI k 6 (EN E 0)), ((er 1), aI k 6 (EN E 1)), ((er 2), aI k 6 (EN E 2)), ((er 3), aI k 6 (EN E 3)), ((er 4), aI k 6 (EN E 4)), ((er 5), aI k 6 (EN E 5))] s9.heap.size) (QM bl9 D ([.ref lo] : List Value).toArray s9 [(lo, .inr (13, [.ref eo, .ref e1, .ref e2, .ref e3, .ref e4, .ref e5, .int (nI n), .int (nI z), .int sw])), (eo, aR k 3 6 (fun i9 => if i9 < 6 then some (er i9) else none)), ((er 0), aI k 6 (EN E 0)), ((er 1), aI k 6 (EN E 1)), ((er 2), aI k 6 (EN E 2)), ((er 3), aI k 6 (EN E 3)), ((er 4), aI k 6 (EN E 4)), ((er 5), aI k 6 (EN E 5))] (is1 (some (.int (bI (lwV E n z)))) [(lo, .inr (13, [.ref eo, .ref e1, .ref e2, .ref e3, .ref e4, .ref e5, .int (nI n), .int (nI z), .int sw])), (eo, aR k 3 6 (fun i9 => if i9 < 6 then some (er i9) else none)), ((er 0), aI k 6 (EN E 0)), ((er 1), aI k 6 (EN E 1)), ((er 2), aI k 6 (EN E 2)), ((er 3), aI k 6 (EN E 3)), ((er 4), aI k 6 (EN E 4)), ((er 5), aI k 6 (EN E 5))]) 1 6 0) [(lo, .inr (13, [.ref eo, .ref e1, .ref e2, .ref e3, .ref e4, .ref e5, .int (nI n), .int (nI z), .int sw])), (eo, aR k 3 6 (fun i9 => if i9 < 6 then some (er i9) else none)), ((er 0), aI k 6 (EN E 0)), ((er 1), aI k 6 (EN E 1)), ((er 2), aI k 6 (EN E 2)), ((er 3), aI k 6 (EN E 3)), ((er 4), aI k 6 (EN E 4)), ((er 5), aI k 6 (EN E 5)), (q1, aZ k 6 (fun j9 => bI ((lwS E a9 (lwK E (lwT E (fun j9 => decide (j9 = z)) t9) a9) mm) j9)))] [(0, .ref lo), (1, .ref q1), (2, .int (nI t9)), (3, .int (nI a9)), (4, .int (nI mm))] 1 6 1 31 [] := by
                intro fuel
                induction fuel with
                | zero => intro mm hmm hm; exact absurd hm (Nat.not_lt_zero _)
                | succ fuel ih =>
                  intro mm hmm hm
                  have ih_31 := ih
                  refine g_iload (pc := 31) C 4 rfl dL_isWhole_31 ?_
                  refine g_bipush (pc := 33) (v := 6) C (by decide) dL_isWhole_33 ?_
                  refine g_icmp_ge (pc := 35) C 74 (by decide) dL_isWhole_35 (fun c_35 => ?_) (fun c_35 => ?_)
                  · have h5 : mm = 6 := by { have := nle_ge (b := 6) (a := mm) (by omega) c_35; omega }
                    refine g_iinc (pc := 74) (n := 1) (v := (nI (a9 + 1))) C 3 [(3, .int (nI (a9 + 1))), (0, .ref lo), (1, .ref q1), (2, .int (nI t9)), (4, .int (nI mm))] rfl (nI_1 a9) dL_isWhole_74 (by decide) rfl ?_
                    refine g_goto (pc := 77) C 22 (by decide) dL_isWhole_77 ?_
                    refine G.loc [1, 2, 3, 0] (lv' := [(0, .ref lo), (1, .ref q1), (2, .int (nI t9)), (3, .int (nI (a9 + 1)))]) rfl ?_
                    refine G.fn (fun j9 => bI ((lwK E (lwT E (fun j9 => decide (j9 = z)) t9) (a9 + 1)) j9)) 8 [(lo, .inr (13, [.ref eo, .ref e1, .ref e2, .ref e3, .ref e4, .ref e5, .int (nI n), .int (nI z), .int sw])), (eo, aR k 3 6 (fun i9 => if i9 < 6 then some (er i9) else none)), ((er 0), aI k 6 (EN E 0)), ((er 1), aI k 6 (EN E 1)), ((er 2), aI k 6 (EN E 2)), ((er 3), aI k 6 (EN E 3)), ((er 4), aI k 6 (EN E 4)), ((er 5), aI k 6 (EN E 5)), (q1, aZ k 6 (fun j9 => bI ((lwK E (lwT E (fun j9 => decide (j9 = z)) t9) (a9 + 1)) j9)))] rfl (fun j hj => by rw [h5]; try rfl) rfl ?_
                    exact ih_22 (a9 + 1) (by omega) (by omega)
                  · have hl35 : mm < 6 := nle_lt (by omega) c_35
                    refine g_aload_n (pc := 38) C 1 rfl rfl dL_isWhole_38 ?_
                    refine g_iload (pc := 39) C 4 rfl dL_isWhole_39 ?_
                    refine g_dup2 (pc := 41) C rfl rfl dL_isWhole_41 ?_
                    refine g_zald_n (pc := 42) C (j := mm) 8 rfl (by omega) (by first | decide | omega) rfl dL_isWhole_42 ?_
                    refine g_aload_n (pc := 43) C 1 rfl rfl dL_isWhole_43 ?_
                    refine g_iload_n (pc := 44) C 3 rfl rfl dL_isWhole_44 ?_
                    refine g_zald_n (pc := 45) C (j := a9) 8 rfl (by omega) (by first | decide | omega) rfl dL_isWhole_45 ?_
                    refine g_if_eq (pc := 46) C 65 (by decide) dL_isWhole_46 (fun c_46 => ?_) (fun c_46 => ?_)
                    · refine g_iconst (pc := 65) (v := 0) C (by decide) dL_isWhole_65 ?_
                      refine g_ior (pc := 66) C dL_isWhole_66 ?_
                      refine G.eqs (st' := [.int (bI ((lwS E a9 (lwK E (lwT E (fun j9 => decide (j9 = z)) t9) a9) mm) mm || ((lwS E a9 (lwK E (lwT E (fun j9 => decide (j9 = z)) t9) a9) mm) a9 && decide (0 < E a9 mm)))), .int (nI mm), .ref q1]) (congrArg (β := List Value) (fun z9 => [.int z9, .int (nI mm), .ref q1]) (show ((((fun j9 => bI ((lwS E a9 (lwK E (lwT E (fun j9 => decide (j9 = z)) t9) a9) mm) j9)) mm) ||| 0) : Int32) = (bI ((lwS E a9 (lwK E (lwT E (fun j9 => decide (j9 = z)) t9) a9) mm) mm || ((lwS E a9 (lwK E (lwT E (fun j9 => decide (j9 = z)) t9) a9) mm) a9 && decide (0 < E a9 mm)))) from (by first | exact lw_a c_46 | exact lw_b (hE3 a9 mm) c_58 | exact lw_c c_46 c_58))) ?_
                      refine g_zast_n (pc := 67) C (j := mm) 8 [(lo, .inr (13, [.ref eo, .ref e1, .ref e2, .ref e3, .ref e4, .ref e5, .int (nI n), .int (nI z), .int sw])), (eo, aR k 3 6 (fun i9 => if i9 < 6 then some (er i9) else none)), ((er 0), aI k 6 (EN E 0)), ((er 1), aI k 6 (EN E 1)), ((er 2), aI k 6 (EN E 2)), ((er 3), aI k 6 (EN E 3)), ((er 4), aI k 6 (EN E 4)), ((er 5), aI k 6 (EN E 5)), (q1, aZ k 6 (upd (fun j9 => bI ((lwS E a9 (lwK E (lwT E (fun j9 => decide (j9 = z)) t9) a9) mm) j9)) mm (bI ((lwS E a9 (lwK E (lwT E (fun j9 => decide (j9 = z)) t9) a9) mm) mm || ((lwS E a9 (lwK E (lwT E (fun j9 => decide (j9 = z)) t9) a9) mm) a9 && decide (0 < E a9 mm))))))] rfl (by omega) (by first | decide | omega) rfl (by first | exact bI_vp _ | rfl) rfl dL_isWhole_67 ?_
                      refine g_iinc (pc := 68) (n := 1) (v := (nI (mm + 1))) C 4 [(4, .int (nI (mm + 1))), (0, .ref lo), (1, .ref q1), (2, .int (nI t9)), (3, .int (nI a9))] rfl (nI_1 mm) dL_isWhole_68 (by decide) rfl ?_
                      refine g_goto (pc := 71) C 31 (by decide) dL_isWhole_71 ?_
                      refine G.loc [1, 2, 3, 4, 0] (lv' := [(0, .ref lo), (1, .ref q1), (2, .int (nI t9)), (3, .int (nI a9)), (4, .int (nI (mm + 1)))]) rfl ?_
                      refine G.fn (fun j9 => bI ((lwS E a9 (lwK E (lwT E (fun j9 => decide (j9 = z)) t9) a9) (mm + 1)) j9)) 8 [(lo, .inr (13, [.ref eo, .ref e1, .ref e2, .ref e3, .ref e4, .ref e5, .int (nI n), .int (nI z), .int sw])), (eo, aR k 3 6 (fun i9 => if i9 < 6 then some (er i9) else none)), ((er 0), aI k 6 (EN E 0)), ((er 1), aI k 6 (EN E 1)), ((er 2), aI k 6 (EN E 2)), ((er 3), aI k 6 (EN E 3)), ((er 4), aI k 6 (EN E 4)), ((er 5), aI k 6 (EN E 5)), (q1, aZ k 6 (fun j9 => bI ((lwS E a9 (lwK E (lwT E (fun j9 => decide (j9 = z)) t9) a9) (mm + 1)) j9)))] rfl (fun j hj => by exact lw_u j) rfl ?_
                      exact ih_31 (mm + 1) (by omega) (by omega)
                    · refine g_aload_n (pc := 49) C 0 rfl rfl dL_isWhole_49 ?_
                      refine g_get (pc := 50) C (T := TXL) inXL 0 rfl rfl 0 (by decide) q_561 rfl rfl dL_isWhole_50 ?_
                      refine g_iload_n (pc := 53) C 3 rfl rfl dL_isWhole_53 ?_
                      refine g_aald (pc := 54) C (j := a9) (b := er a9) 1 rfl (by omega) (by decide) rfl (if_pos (by omega)) dL_isWhole_54 ?_
                      refine g_iload (pc := 55) C 4 rfl dL_isWhole_55 ?_
                      refine g_iald_n (pc := 57) (a := (er a9)) (n := 6) (f := (EN E a9)) C (j := mm) (2 + a9) (by rcases (show a9 = 0 ∨ a9 = 1 ∨ a9 = 2 ∨ a9 = 3 ∨ a9 = 4 ∨ a9 = 5 by omega) with h9 | h9 | h9 | h9 | h9 | h9 <;> rw [h9] <;> rfl) (by omega) (by first | decide | omega) rfl dL_isWhole_57 ?_
                      refine g_if_le (pc := 58) C 65 (by decide) dL_isWhole_58 (fun c_58 => ?_) (fun c_58 => ?_)
                      · refine g_iconst (pc := 65) (v := 0) C (by decide) dL_isWhole_65 ?_
                        refine g_ior (pc := 66) C dL_isWhole_66 ?_
                        refine G.eqs (st' := [.int (bI ((lwS E a9 (lwK E (lwT E (fun j9 => decide (j9 = z)) t9) a9) mm) mm || ((lwS E a9 (lwK E (lwT E (fun j9 => decide (j9 = z)) t9) a9) mm) a9 && decide (0 < E a9 mm)))), .int (nI mm), .ref q1]) (congrArg (β := List Value) (fun z9 => [.int z9, .int (nI mm), .ref q1]) (show ((((fun j9 => bI ((lwS E a9 (lwK E (lwT E (fun j9 => decide (j9 = z)) t9) a9) mm) j9)) mm) ||| 0) : Int32) = (bI ((lwS E a9 (lwK E (lwT E (fun j9 => decide (j9 = z)) t9) a9) mm) mm || ((lwS E a9 (lwK E (lwT E (fun j9 => decide (j9 = z)) t9) a9) mm) a9 && decide (0 < E a9 mm)))) from (by first | exact lw_a c_46 | exact lw_b (hE3 a9 mm) c_58 | exact lw_c c_46 c_58))) ?_
                        refine g_zast_n (pc := 67) C (j := mm) 8 [(lo, .inr (13, [.ref eo, .ref e1, .ref e2, .ref e3, .ref e4, .ref e5, .int (nI n), .int (nI z), .int sw])), (eo, aR k 3 6 (fun i9 => if i9 < 6 then some (er i9) else none)), ((er 0), aI k 6 (EN E 0)), ((er 1), aI k 6 (EN E 1)), ((er 2), aI k 6 (EN E 2)), ((er 3), aI k 6 (EN E 3)), ((er 4), aI k 6 (EN E 4)), ((er 5), aI k 6 (EN E 5)), (q1, aZ k 6 (upd (fun j9 => bI ((lwS E a9 (lwK E (lwT E (fun j9 => decide (j9 = z)) t9) a9) mm) j9)) mm (bI ((lwS E a9 (lwK E (lwT E (fun j9 => decide (j9 = z)) t9) a9) mm) mm || ((lwS E a9 (lwK E (lwT E (fun j9 => decide (j9 = z)) t9) a9) mm) a9 && decide (0 < E a9 mm))))))] rfl (by omega) (by first | decide | omega) rfl (by first | exact bI_vp _ | rfl) rfl dL_isWhole_67 ?_
                        refine g_iinc (pc := 68) (n := 1) (v := (nI (mm + 1))) C 4 [(4, .int (nI (mm + 1))), (0, .ref lo), (1, .ref q1), (2, .int (nI t9)), (3, .int (nI a9))] rfl (nI_1 mm) dL_isWhole_68 (by decide) rfl ?_
                        refine g_goto (pc := 71) C 31 (by decide) dL_isWhole_71 ?_
                        refine G.loc [1, 2, 3, 4, 0] (lv' := [(0, .ref lo), (1, .ref q1), (2, .int (nI t9)), (3, .int (nI a9)), (4, .int (nI (mm + 1)))]) rfl ?_
                        refine G.fn (fun j9 => bI ((lwS E a9 (lwK E (lwT E (fun j9 => decide (j9 = z)) t9) a9) (mm + 1)) j9)) 8 [(lo, .inr (13, [.ref eo, .ref e1, .ref e2, .ref e3, .ref e4, .ref e5, .int (nI n), .int (nI z), .int sw])), (eo, aR k 3 6 (fun i9 => if i9 < 6 then some (er i9) else none)), ((er 0), aI k 6 (EN E 0)), ((er 1), aI k 6 (EN E 1)), ((er 2), aI k 6 (EN E 2)), ((er 3), aI k 6 (EN E 3)), ((er 4), aI k 6 (EN E 4)), ((er 5), aI k 6 (EN E 5)), (q1, aZ k 6 (fun j9 => bI ((lwS E a9 (lwK E (lwT E (fun j9 => decide (j9 = z)) t9) a9) (mm + 1)) j9)))] rfl (fun j hj => by exact lw_u j) rfl ?_
                        exact ih_31 (mm + 1) (by omega) (by omega)
                      · refine g_iconst (pc := 61) (v := 1) C (by decide) dL_isWhole_61 ?_
                        refine g_goto (pc := 62) C 66 (by decide) dL_isWhole_62 ?_
                        refine g_ior (pc := 66) C dL_isWhole_66 ?_
                        refine G.eqs (st' := [.int (bI ((lwS E a9 (lwK E (lwT E (fun j9 => decide (j9 = z)) t9) a9) mm) mm || ((lwS E a9 (lwK E (lwT E (fun j9 => decide (j9 = z)) t9) a9) mm) a9 && decide (0 < E a9 mm)))), .int (nI mm), .ref q1]) (congrArg (β := List Value) (fun z9 => [.int z9, .int (nI mm), .ref q1]) (show ((((fun j9 => bI ((lwS E a9 (lwK E (lwT E (fun j9 => decide (j9 = z)) t9) a9) mm) j9)) mm) ||| 1) : Int32) = (bI ((lwS E a9 (lwK E (lwT E (fun j9 => decide (j9 = z)) t9) a9) mm) mm || ((lwS E a9 (lwK E (lwT E (fun j9 => decide (j9 = z)) t9) a9) mm) a9 && decide (0 < E a9 mm)))) from (by first | exact lw_a c_46 | exact lw_b (hE3 a9 mm) c_58 | exact lw_c c_46 c_58))) ?_
                        refine g_zast_n (pc := 67) C (j := mm) 8 [(lo, .inr (13, [.ref eo, .ref e1, .ref e2, .ref e3, .ref e4, .ref e5, .int (nI n), .int (nI z), .int sw])), (eo, aR k 3 6 (fun i9 => if i9 < 6 then some (er i9) else none)), ((er 0), aI k 6 (EN E 0)), ((er 1), aI k 6 (EN E 1)), ((er 2), aI k 6 (EN E 2)), ((er 3), aI k 6 (EN E 3)), ((er 4), aI k 6 (EN E 4)), ((er 5), aI k 6 (EN E 5)), (q1, aZ k 6 (upd (fun j9 => bI ((lwS E a9 (lwK E (lwT E (fun j9 => decide (j9 = z)) t9) a9) mm) j9)) mm (bI ((lwS E a9 (lwK E (lwT E (fun j9 => decide (j9 = z)) t9) a9) mm) mm || ((lwS E a9 (lwK E (lwT E (fun j9 => decide (j9 = z)) t9) a9) mm) a9 && decide (0 < E a9 mm))))))] rfl (by omega) (by first | decide | omega) rfl (by first | exact bI_vp _ | rfl) rfl dL_isWhole_67 ?_
                        refine g_iinc (pc := 68) (n := 1) (v := (nI (mm + 1))) C 4 [(4, .int (nI (mm + 1))), (0, .ref lo), (1, .ref q1), (2, .int (nI t9)), (3, .int (nI a9))] rfl (nI_1 mm) dL_isWhole_68 (by decide) rfl ?_
                        refine g_goto (pc := 71) C 31 (by decide) dL_isWhole_71 ?_
                        refine G.loc [1, 2, 3, 4, 0] (lv' := [(0, .ref lo), (1, .ref q1), (2, .int (nI t9)), (3, .int (nI a9)), (4, .int (nI (mm + 1)))]) rfl ?_
                        refine G.fn (fun j9 => bI ((lwS E a9 (lwK E (lwT E (fun j9 => decide (j9 = z)) t9) a9) (mm + 1)) j9)) 8 [(lo, .inr (13, [.ref eo, .ref e1, .ref e2, .ref e3, .ref e4, .ref e5, .int (nI n), .int (nI z), .int sw])), (eo, aR k 3 6 (fun i9 => if i9 < 6 then some (er i9) else none)), ((er 0), aI k 6 (EN E 0)), ((er 1), aI k 6 (EN E 1)), ((er 2), aI k 6 (EN E 2)), ((er 3), aI k 6 (EN E 3)), ((er 4), aI k 6 (EN E 4)), ((er 5), aI k 6 (EN E 5)), (q1, aZ k 6 (fun j9 => bI ((lwS E a9 (lwK E (lwT E (fun j9 => decide (j9 = z)) t9) a9) (mm + 1)) j9)))] rfl (fun j hj => by exact lw_u j) rfl ?_
                        exact ih_31 (mm + 1) (by omega) (by omega)
              refine G.loc [1, 2, 3, 4, 0] (lv' := [(0, .ref lo), (1, .ref q1), (2, .int (nI t9)), (3, .int (nI a9)), (4, .int 0)]) rfl ?_
              refine G.fn (fun j9 => bI ((lwS E a9 (lwK E (lwT E (fun j9 => decide (j9 = z)) t9) a9) 0) j9)) 8 [(lo, .inr (13, [.ref eo, .ref e1, .ref e2, .ref e3, .ref e4, .ref e5, .int (nI n), .int (nI z), .int sw])), (eo, aR k 3 6 (fun i9 => if i9 < 6 then some (er i9) else none)), ((er 0), aI k 6 (EN E 0)), ((er 1), aI k 6 (EN E 1)), ((er 2), aI k 6 (EN E 2)), ((er 3), aI k 6 (EN E 3)), ((er 4), aI k 6 (EN E 4)), ((er 5), aI k 6 (EN E 5)), (q1, aZ k 6 (fun j9 => bI ((lwS E a9 (lwK E (lwT E (fun j9 => decide (j9 = z)) t9) a9) 0) j9)))] rfl (fun j hj => by rfl) rfl ?_
              refine G.eql (lv' := [(0, .ref lo), (1, .ref q1), (2, .int (nI t9)), (3, .int (nI a9)), (4, .int (nI 0))]) (congrArg (β := List (Nat × Value)) (fun z9 => [(0, .ref lo), (1, .ref q1), (2, .int (nI t9)), (3, .int (nI a9)), (4, .int z9)]) (show (0 : Int32) = (nI 0) from by exact nI_0.symm)) ?_
              exact key_31 (6 - 0 + 1) 0 (by omega) (Nat.lt_succ_self _)
        refine G.loc [1, 2, 3, 0] (lv' := [(0, .ref lo), (1, .ref q1), (2, .int (nI t9)), (3, .int 0)]) rfl ?_
        refine G.fn (fun j9 => bI ((lwK E (lwT E (fun j9 => decide (j9 = z)) t9) 0) j9)) 8 [(lo, .inr (13, [.ref eo, .ref e1, .ref e2, .ref e3, .ref e4, .ref e5, .int (nI n), .int (nI z), .int sw])), (eo, aR k 3 6 (fun i9 => if i9 < 6 then some (er i9) else none)), ((er 0), aI k 6 (EN E 0)), ((er 1), aI k 6 (EN E 1)), ((er 2), aI k 6 (EN E 2)), ((er 3), aI k 6 (EN E 3)), ((er 4), aI k 6 (EN E 4)), ((er 5), aI k 6 (EN E 5)), (q1, aZ k 6 (fun j9 => bI ((lwK E (lwT E (fun j9 => decide (j9 = z)) t9) 0) j9)))] rfl (fun j hj => by rfl) rfl ?_
        refine G.eql (lv' := [(0, .ref lo), (1, .ref q1), (2, .int (nI t9)), (3, .int (nI 0))]) (congrArg (β := List (Nat × Value)) (fun z9 => [(0, .ref lo), (1, .ref q1), (2, .int (nI t9)), (3, .int z9)]) (show (0 : Int32) = (nI 0) from by exact nI_0.symm)) ?_
        exact key_22 (6 - 0 + 1) 0 (by omega) (Nat.lt_succ_self _)
  refine G.loc [2, 1, 0] (lv' := [(0, .ref lo), (1, .ref q1), (2, .int 0)]) rfl ?_
  refine G.fn (fun j9 => bI ((lwT E (fun j9 => decide (j9 = z)) 0) j9)) 8 [(lo, .inr (13, [.ref eo, .ref e1, .ref e2, .ref e3, .ref e4, .ref e5, .int (nI n), .int (nI z), .int sw])), (eo, aR k 3 6 (fun i9 => if i9 < 6 then some (er i9) else none)), ((er 0), aI k 6 (EN E 0)), ((er 1), aI k 6 (EN E 1)), ((er 2), aI k 6 (EN E 2)), ((er 3), aI k 6 (EN E 3)), ((er 4), aI k 6 (EN E 4)), ((er 5), aI k 6 (EN E 5)), (q1, aZ k 6 (fun j9 => bI ((lwT E (fun j9 => decide (j9 = z)) 0) j9)))] rfl (fun j hj => by { show _ = bI (decide (j = z)); unfold upd; by_cases h : j = z <;> simp [h, bI] }) rfl ?_
  refine G.eql (lv' := [(0, .ref lo), (1, .ref q1), (2, .int (nI 0))]) (congrArg (β := List (Nat × Value)) (fun z9 => [(0, .ref lo), (1, .ref q1), (2, .int z9)]) (show (0 : Int32) = (nI 0) from by exact nI_0.symm)) ?_
  exact key_14 (6 - 0 + 1) 0 (by omega) (Nat.lt_succ_self _)
