theorem dX1_toppleCell_0 : decode cX1_toppleCell 0 = .ok (.aload_n 0, 1) := by decide +kernel
theorem dX1_toppleCell_1 : decode cX1_toppleCell 1 = .ok (.getfield 14, 3) := by decide +kernel
theorem dX1_toppleCell_4 : decode cX1_toppleCell 4 = .ok (.iload_n 1, 1) := by decide +kernel
theorem dX1_toppleCell_5 : decode cX1_toppleCell 5 = .ok (.invokevirtual 24, 3) := by decide +kernel
theorem q_432 : (Jvm.Cond.methodLink "Chipfold$Drawing" (24 : Nat) ({ cls := "Chipfold$Row", name := "at", desc := "(I)I" } : Jvm.MethodName)) ∈ WG := wg_5 (List.mem_of_getElem? (i := 83) (by decide +kernel)) (by decide +kernel)
theorem dX1_toppleCell_8 : decode cX1_toppleCell 8 = .ok (.iconst 4, 1) := by decide +kernel
theorem dX1_toppleCell_9 : decode cX1_toppleCell 9 = .ok (.idiv, 1) := by decide +kernel
theorem dX1_toppleCell_10 : decode cX1_toppleCell 10 = .ok (.istore_n 2, 1) := by decide +kernel
theorem dX1_toppleCell_11 : decode cX1_toppleCell 11 = .ok (.iload_n 2, 1) := by decide +kernel
theorem dX1_toppleCell_12 : decode cX1_toppleCell 12 = .ok (.iconst 1, 1) := by decide +kernel
theorem dX1_toppleCell_13 : decode cX1_toppleCell 13 = .ok (.if_icmp .lt 11, 3) := by decide +kernel
theorem dX1_toppleCell_24 : decode cX1_toppleCell 24 = .ok (.iconst 0, 1) := by decide +kernel
theorem dX1_toppleCell_25 : decode cX1_toppleCell 25 = .ok (.ireturn, 1) := by decide +kernel
theorem dX1_toppleCell_16 : decode cX1_toppleCell 16 = .ok (.aload_n 0, 1) := by decide +kernel
theorem dX1_toppleCell_17 : decode cX1_toppleCell 17 = .ok (.getfield 20, 3) := by decide +kernel
theorem dX1_toppleCell_20 : decode cX1_toppleCell 20 = .ok (.iconst 1, 1) := by decide +kernel
theorem dX1_toppleCell_21 : decode cX1_toppleCell 21 = .ok (.if_icmp .ge 5, 3) := by decide +kernel
theorem dX1_toppleCell_26 : decode cX1_toppleCell 26 = .ok (.aload_n 0, 1) := by decide +kernel
theorem dX1_toppleCell_27 : decode cX1_toppleCell 27 = .ok (.getfield 14, 3) := by decide +kernel
theorem dX1_toppleCell_30 : decode cX1_toppleCell 30 = .ok (.iload_n 1, 1) := by decide +kernel
theorem dX1_toppleCell_31 : decode cX1_toppleCell 31 = .ok (.iload_n 2, 1) := by decide +kernel
theorem dX1_toppleCell_32 : decode cX1_toppleCell 32 = .ok (.ineg, 1) := by decide +kernel
theorem dX1_toppleCell_33 : decode cX1_toppleCell 33 = .ok (.iconst 4, 1) := by decide +kernel
theorem dX1_toppleCell_34 : decode cX1_toppleCell 34 = .ok (.imul, 1) := by decide +kernel
theorem dX1_toppleCell_35 : decode cX1_toppleCell 35 = .ok (.invokevirtual 43, 3) := by decide +kernel
theorem q_433 : (Jvm.Cond.methodLink "Chipfold$Drawing" (43 : Nat) ({ cls := "Chipfold$Row", name := "add", desc := "(II)V" } : Jvm.MethodName)) ∈ WG := wg_5 (List.mem_of_getElem? (i := 84) (by decide +kernel)) (by decide +kernel)
theorem dX1_toppleCell_38 : decode cX1_toppleCell 38 = .ok (.iload_n 1, 1) := by decide +kernel
theorem dX1_toppleCell_39 : decode cX1_toppleCell 39 = .ok (.aload_n 0, 1) := by decide +kernel
theorem dX1_toppleCell_40 : decode cX1_toppleCell 40 = .ok (.getfield 20, 3) := by decide +kernel
theorem dX1_toppleCell_43 : decode cX1_toppleCell 43 = .ok (.irem, 1) := by decide +kernel
theorem dX1_toppleCell_44 : decode cX1_toppleCell 44 = .ok (.istore_n 3, 1) := by decide +kernel
theorem dX1_toppleCell_45 : decode cX1_toppleCell 45 = .ok (.iload_n 3, 1) := by decide +kernel
theorem dX1_toppleCell_46 : decode cX1_toppleCell 46 = .ok (.ifCond .le 14, 3) := by decide +kernel
theorem dX1_toppleCell_60 : decode cX1_toppleCell 60 = .ok (.iload_n 3, 1) := by decide +kernel
theorem dX1_toppleCell_61 : decode cX1_toppleCell 61 = .ok (.aload_n 0, 1) := by decide +kernel
theorem dX1_toppleCell_62 : decode cX1_toppleCell 62 = .ok (.getfield 20, 3) := by decide +kernel
theorem dX1_toppleCell_65 : decode cX1_toppleCell 65 = .ok (.iconst 1, 1) := by decide +kernel
theorem dX1_toppleCell_66 : decode cX1_toppleCell 66 = .ok (.isub, 1) := by decide +kernel
theorem dX1_toppleCell_67 : decode cX1_toppleCell 67 = .ok (.if_icmp .ge 14, 3) := by decide +kernel
theorem dX1_toppleCell_81 : decode cX1_toppleCell 81 = .ok (.iload_n 1, 1) := by decide +kernel
theorem dX1_toppleCell_82 : decode cX1_toppleCell 82 = .ok (.aload_n 0, 1) := by decide +kernel
theorem dX1_toppleCell_83 : decode cX1_toppleCell 83 = .ok (.getfield 20, 3) := by decide +kernel
theorem dX1_toppleCell_86 : decode cX1_toppleCell 86 = .ok (.if_icmp .lt 17, 3) := by decide +kernel
theorem dX1_toppleCell_103 : decode cX1_toppleCell 103 = .ok (.iload_n 1, 1) := by decide +kernel
theorem dX1_toppleCell_104 : decode cX1_toppleCell 104 = .ok (.aload_n 0, 1) := by decide +kernel
theorem dX1_toppleCell_105 : decode cX1_toppleCell 105 = .ok (.invokevirtual 31, 3) := by decide +kernel
theorem q_434 : (Jvm.Cond.methodLink "Chipfold$Drawing" (31 : Nat) ({ cls := "Chipfold$Drawing", name := "cellNumber", desc := "()I" } : Jvm.MethodName)) ∈ WG := wg_5 (List.mem_of_getElem? (i := 73) (by decide +kernel)) (by decide +kernel)
theorem dX1_toppleCell_108 : decode cX1_toppleCell 108 = .ok (.aload_n 0, 1) := by decide +kernel
theorem dX1_toppleCell_109 : decode cX1_toppleCell 109 = .ok (.getfield 20, 3) := by decide +kernel
theorem dX1_toppleCell_112 : decode cX1_toppleCell 112 = .ok (.isub, 1) := by decide +kernel
theorem dX1_toppleCell_113 : decode cX1_toppleCell 113 = .ok (.if_icmp .ge 17, 3) := by decide +kernel
theorem dX1_toppleCell_130 : decode cX1_toppleCell 130 = .ok (.iload_n 2, 1) := by decide +kernel
theorem dX1_toppleCell_131 : decode cX1_toppleCell 131 = .ok (.ireturn, 1) := by decide +kernel
theorem dX1_toppleCell_116 : decode cX1_toppleCell 116 = .ok (.aload_n 0, 1) := by decide +kernel
theorem dX1_toppleCell_117 : decode cX1_toppleCell 117 = .ok (.getfield 14, 3) := by decide +kernel
theorem dX1_toppleCell_120 : decode cX1_toppleCell 120 = .ok (.iload_n 1, 1) := by decide +kernel
theorem dX1_toppleCell_121 : decode cX1_toppleCell 121 = .ok (.aload_n 0, 1) := by decide +kernel
theorem dX1_toppleCell_122 : decode cX1_toppleCell 122 = .ok (.getfield 20, 3) := by decide +kernel
theorem dX1_toppleCell_125 : decode cX1_toppleCell 125 = .ok (.iadd, 1) := by decide +kernel
theorem dX1_toppleCell_126 : decode cX1_toppleCell 126 = .ok (.iload_n 2, 1) := by decide +kernel
theorem dX1_toppleCell_127 : decode cX1_toppleCell 127 = .ok (.invokevirtual 43, 3) := by decide +kernel
theorem dX1_toppleCell_89 : decode cX1_toppleCell 89 = .ok (.aload_n 0, 1) := by decide +kernel
theorem dX1_toppleCell_90 : decode cX1_toppleCell 90 = .ok (.getfield 14, 3) := by decide +kernel
theorem dX1_toppleCell_93 : decode cX1_toppleCell 93 = .ok (.iload_n 1, 1) := by decide +kernel
theorem dX1_toppleCell_94 : decode cX1_toppleCell 94 = .ok (.aload_n 0, 1) := by decide +kernel
theorem dX1_toppleCell_95 : decode cX1_toppleCell 95 = .ok (.getfield 20, 3) := by decide +kernel
theorem dX1_toppleCell_98 : decode cX1_toppleCell 98 = .ok (.isub, 1) := by decide +kernel
theorem dX1_toppleCell_99 : decode cX1_toppleCell 99 = .ok (.iload_n 2, 1) := by decide +kernel
theorem dX1_toppleCell_100 : decode cX1_toppleCell 100 = .ok (.invokevirtual 43, 3) := by decide +kernel
theorem dX1_toppleCell_70 : decode cX1_toppleCell 70 = .ok (.aload_n 0, 1) := by decide +kernel
theorem dX1_toppleCell_71 : decode cX1_toppleCell 71 = .ok (.getfield 14, 3) := by decide +kernel
theorem dX1_toppleCell_74 : decode cX1_toppleCell 74 = .ok (.iload_n 1, 1) := by decide +kernel
theorem dX1_toppleCell_75 : decode cX1_toppleCell 75 = .ok (.iconst 1, 1) := by decide +kernel
theorem dX1_toppleCell_76 : decode cX1_toppleCell 76 = .ok (.iadd, 1) := by decide +kernel
theorem dX1_toppleCell_77 : decode cX1_toppleCell 77 = .ok (.iload_n 2, 1) := by decide +kernel
theorem dX1_toppleCell_78 : decode cX1_toppleCell 78 = .ok (.invokevirtual 43, 3) := by decide +kernel
theorem dX1_toppleCell_49 : decode cX1_toppleCell 49 = .ok (.aload_n 0, 1) := by decide +kernel
theorem dX1_toppleCell_50 : decode cX1_toppleCell 50 = .ok (.getfield 14, 3) := by decide +kernel
theorem dX1_toppleCell_53 : decode cX1_toppleCell 53 = .ok (.iload_n 1, 1) := by decide +kernel
theorem dX1_toppleCell_54 : decode cX1_toppleCell 54 = .ok (.iconst 1, 1) := by decide +kernel
theorem dX1_toppleCell_55 : decode cX1_toppleCell 55 = .ok (.isub, 1) := by decide +kernel
theorem dX1_toppleCell_56 : decode cX1_toppleCell 56 = .ok (.iload_n 2, 1) := by decide +kernel
theorem dX1_toppleCell_57 : decode cX1_toppleCell 57 = .ok (.invokevirtual 43, 3) := by decide +kernel
theorem dX1_draw_0 : decode cX1_draw 0 = .ok (.aload_n 0, 1) := by decide +kernel
theorem dX1_draw_1 : decode cX1_draw 1 = .ok (.iload_n 1, 1) := by decide +kernel
theorem dX1_draw_2 : decode cX1_draw 2 = .ok (.putfield 20, 3) := by decide +kernel
theorem dX1_draw_5 : decode cX1_draw 5 = .ok (.aload_n 0, 1) := by decide +kernel
theorem dX1_draw_6 : decode cX1_draw 6 = .ok (.getfield 14, 3) := by decide +kernel
theorem dX1_draw_9 : decode cX1_draw 9 = .ok (.iconst 0, 1) := by decide +kernel
theorem dX1_draw_10 : decode cX1_draw 10 = .ok (.invokevirtual 28, 3) := by decide +kernel
theorem q_435 : (Jvm.Cond.methodLink "Chipfold$Drawing" (28 : Nat) ({ cls := "Chipfold$Row", name := "fill", desc := "(I)V" } : Jvm.MethodName)) ∈ WG := wg_5 (List.mem_of_getElem? (i := 72) (by decide +kernel)) (by decide +kernel)
theorem dX1_draw_13 : decode cX1_draw 13 = .ok (.aload_n 0, 1) := by decide +kernel
theorem dX1_draw_14 : decode cX1_draw 14 = .ok (.getfield 14, 3) := by decide +kernel
theorem dX1_draw_17 : decode cX1_draw 17 = .ok (.aload_n 0, 1) := by decide +kernel
theorem dX1_draw_18 : decode cX1_draw 18 = .ok (.invokevirtual 31, 3) := by decide +kernel
theorem dX1_draw_21 : decode cX1_draw 21 = .ok (.iconst 2, 1) := by decide +kernel
theorem dX1_draw_22 : decode cX1_draw 22 = .ok (.idiv, 1) := by decide +kernel
theorem dX1_draw_23 : decode cX1_draw 23 = .ok (.iload_n 2, 1) := by decide +kernel
theorem dX1_draw_24 : decode cX1_draw 24 = .ok (.invokevirtual 35, 3) := by decide +kernel
theorem q_436 : (Jvm.Cond.code ({ cls := "Chipfold$Row", name := "write", desc := "(II)V" } : Jvm.MethodName) prog_10_method_3_code (3 : Nat) (Option.none : Option Jvm.ClassFile.FieldType)) ∈ WG := wg_2 (List.mem_of_getElem? (i := 117) rfl) rfl
theorem q_437 : (Jvm.Cond.selects "Chipfold$Row" ({ cls := "Chipfold$Row", name := "write", desc := "(II)V" } : Jvm.MethodName) ({ cls := "Chipfold$Row", name := "write", desc := "(II)V" } : Jvm.MethodName)) ∈ WG := wg_2 (List.mem_of_getElem? (i := 116) (by decide +kernel)) (by decide +kernel)
theorem q_438 : (Jvm.Cond.methodLink "Chipfold$Drawing" (35 : Nat) ({ cls := "Chipfold$Row", name := "write", desc := "(II)V" } : Jvm.MethodName)) ∈ WG := wg_5 (List.mem_of_getElem? (i := 77) (by decide +kernel)) (by decide +kernel)
theorem q_439 : (Jvm.Cond.instanceMethod ({ cls := "Chipfold$Row", name := "write", desc := "(II)V" } : Jvm.MethodName)) ∈ WG := wg_2 (List.mem_of_getElem? (i := 115) (by decide +kernel)) (by decide +kernel)
theorem dX1_draw_27 : decode cX1_draw 27 = .ok (.iconst 0, 1) := by decide +kernel
theorem dX1_draw_28 : decode cX1_draw 28 = .ok (.istore_n 3, 1) := by decide +kernel
theorem dX1_draw_29 : decode cX1_draw 29 = .ok (.iconst 0, 1) := by decide +kernel
theorem dX1_draw_30 : decode cX1_draw 30 = .ok (.istore 4, 2) := by decide +kernel
theorem dX1_draw_32 : decode cX1_draw 32 = .ok (.iload 4, 2) := by decide +kernel
theorem dX1_draw_34 : decode cX1_draw 34 = .ok (.ldc 39, 2) := by decide +kernel
theorem q_440 : (Jvm.Cond.constant "Chipfold$Drawing" (39 : Nat) (1000000 : Int32)) ∈ WG := wg_5 (List.mem_of_getElem? (i := 78) (by decide +kernel)) (by decide +kernel)
theorem dX1_draw_36 : decode cX1_draw 36 = .ok (.if_icmp .ge 47, 3) := by decide +kernel
theorem dX1_draw_39 : decode cX1_draw 39 = .ok (.iload_n 3, 1) := by decide +kernel
theorem dX1_draw_40 : decode cX1_draw 40 = .ok (.istore 5, 2) := by decide +kernel
theorem dX1_draw_42 : decode cX1_draw 42 = .ok (.iconst 0, 1) := by decide +kernel
theorem dX1_draw_43 : decode cX1_draw 43 = .ok (.istore 6, 2) := by decide +kernel
theorem dX1_draw_45 : decode cX1_draw 45 = .ok (.iload 6, 2) := by decide +kernel
theorem dX1_draw_47 : decode cX1_draw 47 = .ok (.aload_n 0, 1) := by decide +kernel
theorem dX1_draw_48 : decode cX1_draw 48 = .ok (.invokevirtual 31, 3) := by decide +kernel
theorem dX1_draw_51 : decode cX1_draw 51 = .ok (.if_icmp .ge 18, 3) := by decide +kernel
theorem dX1_draw_69 : decode cX1_draw 69 = .ok (.iload_n 3, 1) := by decide +kernel
theorem dX1_draw_70 : decode cX1_draw 70 = .ok (.iload 5, 2) := by decide +kernel
theorem dX1_draw_72 : decode cX1_draw 72 = .ok (.if_icmp .ne 5, 3) := by decide +kernel
theorem dX1_draw_77 : decode cX1_draw 77 = .ok (.iinc 4 1, 3) := by decide +kernel
theorem dX1_draw_80 : decode cX1_draw 80 = .ok (.goto (-48), 3) := by decide +kernel
theorem dX1_draw_75 : decode cX1_draw 75 = .ok (.iload_n 3, 1) := by decide +kernel
theorem dX1_draw_76 : decode cX1_draw 76 = .ok (.ireturn, 1) := by decide +kernel
theorem dX1_draw_54 : decode cX1_draw 54 = .ok (.iload_n 3, 1) := by decide +kernel
theorem dX1_draw_55 : decode cX1_draw 55 = .ok (.aload_n 0, 1) := by decide +kernel
theorem dX1_draw_56 : decode cX1_draw 56 = .ok (.iload 6, 2) := by decide +kernel
theorem dX1_draw_58 : decode cX1_draw 58 = .ok (.invokevirtual 40, 3) := by decide +kernel
theorem q_441 : (Jvm.Cond.code ({ cls := "Chipfold$Drawing", name := "toppleCell", desc := "(I)I" } : Jvm.MethodName) prog_3_method_5_code (4 : Nat) (Option.some Jvm.ClassFile.FieldType.int)) ∈ WG := wg_5 (List.mem_of_getElem? (i := 82) rfl) rfl
theorem q_442 : (Jvm.Cond.selects "Chipfold$Drawing" ({ cls := "Chipfold$Drawing", name := "toppleCell", desc := "(I)I" } : Jvm.MethodName) ({ cls := "Chipfold$Drawing", name := "toppleCell", desc := "(I)I" } : Jvm.MethodName)) ∈ WG := wg_0 (by decide +kernel) (by decide +kernel)
theorem q_443 : (Jvm.Cond.methodLink "Chipfold$Drawing" (40 : Nat) ({ cls := "Chipfold$Drawing", name := "toppleCell", desc := "(I)I" } : Jvm.MethodName)) ∈ WG := wg_5 (List.mem_of_getElem? (i := 79) (by decide +kernel)) (by decide +kernel)
theorem q_444 : (Jvm.Cond.instanceMethod ({ cls := "Chipfold$Drawing", name := "toppleCell", desc := "(I)I" } : Jvm.MethodName)) ∈ WG := wg_5 (List.mem_of_getElem? (i := 81) (by decide +kernel)) (by decide +kernel)
theorem dX1_draw_61 : decode cX1_draw 61 = .ok (.iadd, 1) := by decide +kernel
theorem dX1_draw_62 : decode cX1_draw 62 = .ok (.istore_n 3, 1) := by decide +kernel
theorem dX1_draw_63 : decode cX1_draw 63 = .ok (.iinc 6 1, 3) := by decide +kernel
theorem dX1_draw_66 : decode cX1_draw 66 = .ok (.goto (-21), 3) := by decide +kernel
theorem dX10_picture_0 : decode cX10_picture 0 = .ok (.iload_n 1, 1) := by decide +kernel
theorem dX10_picture_1 : decode cX10_picture 1 = .ok (.iconst 3, 1) := by decide +kernel
theorem dX10_picture_2 : decode cX10_picture 2 = .ok (.if_icmp .lt 15, 3) := by decide +kernel
theorem dX10_picture_5 : decode cX10_picture 5 = .ok (.iload_n 1, 1) := by decide +kernel
theorem dX10_picture_6 : decode cX10_picture 6 = .ok (.bipush 9, 2) := by decide +kernel
theorem dX10_picture_8 : decode cX10_picture 8 = .ok (.if_icmp .gt 9, 3) := by decide +kernel
theorem dX10_picture_11 : decode cX10_picture 11 = .ok (.iload_n 1, 1) := by decide +kernel
theorem dX10_picture_12 : decode cX10_picture 12 = .ok (.iconst 1, 1) := by decide +kernel
theorem dX10_picture_13 : decode cX10_picture 13 = .ok (.iand, 1) := by decide +kernel
theorem dX10_picture_14 : decode cX10_picture 14 = .ok (.ifCond .ne 13, 3) := by decide +kernel
theorem dX10_picture_27 : decode cX10_picture 27 = .ok (.iload_n 2, 1) := by decide +kernel
theorem dX10_picture_28 : decode cX10_picture 28 = .ok (.ifCond .lt 10, 3) := by decide +kernel
theorem dX10_picture_31 : decode cX10_picture 31 = .ok (.iload_n 2, 1) := by decide +kernel
theorem dX10_picture_32 : decode cX10_picture 32 = .ok (.sipush 300, 3) := by decide +kernel
theorem dX10_picture_35 : decode cX10_picture 35 = .ok (.if_icmp .le 13, 3) := by decide +kernel
theorem dX10_picture_48 : decode cX10_picture 48 = .ok (.aload_n 0, 1) := by decide +kernel
theorem dX10_picture_49 : decode cX10_picture 49 = .ok (.getfield 80, 3) := by decide +kernel
theorem dX10_picture_52 : decode cX10_picture 52 = .ok (.iload_n 1, 1) := by decide +kernel
theorem dX10_picture_53 : decode cX10_picture 53 = .ok (.iload_n 2, 1) := by decide +kernel
theorem dX10_picture_54 : decode cX10_picture 54 = .ok (.invokevirtual 252, 3) := by decide +kernel
theorem q_445 : (Jvm.Cond.code ({ cls := "Chipfold$Drawing", name := "draw", desc := "(II)I" } : Jvm.MethodName) prog_3_method_4_code (7 : Nat) (Option.some Jvm.ClassFile.FieldType.int)) ∈ WG := wg_5 (List.mem_of_getElem? (i := 71) rfl) rfl
theorem q_446 : (Jvm.Cond.selects "Chipfold$Drawing" ({ cls := "Chipfold$Drawing", name := "draw", desc := "(II)I" } : Jvm.MethodName) ({ cls := "Chipfold$Drawing", name := "draw", desc := "(II)I" } : Jvm.MethodName)) ∈ WG := wg_5 (List.mem_of_getElem? (i := 70) (by decide +kernel)) (by decide +kernel)
theorem q_447 : (Jvm.Cond.methodLink "Chipfold" (252 : Nat) ({ cls := "Chipfold$Drawing", name := "draw", desc := "(II)I" } : Jvm.MethodName)) ∈ WG := wg_5 (List.mem_of_getElem? (i := 68) (by decide +kernel)) (by decide +kernel)
theorem q_448 : (Jvm.Cond.instanceMethod ({ cls := "Chipfold$Drawing", name := "draw", desc := "(II)I" } : Jvm.MethodName)) ∈ WG := wg_5 (List.mem_of_getElem? (i := 69) (by decide +kernel)) (by decide +kernel)
theorem dX10_picture_57 : decode cX10_picture 57 = .ok (.ireturn, 1) := by decide +kernel
theorem dL_picture_0 : decode cL_picture 0 = .ok (.aload_n 3, 1) := by decide +kernel
theorem dL_picture_1 : decode cL_picture 1 = .ok (.iconst 0, 1) := by decide +kernel
theorem dL_picture_2 : decode cL_picture 2 = .ok (.aload_n 0, 1) := by decide +kernel
theorem dL_picture_3 : decode cL_picture 3 = .ok (.iload_n 1, 1) := by decide +kernel
theorem dL_picture_4 : decode cL_picture 4 = .ok (.iload_n 2, 1) := by decide +kernel
theorem dL_picture_5 : decode cL_picture 5 = .ok (.invokevirtual 106, 3) := by decide +kernel
theorem q_449 : (Jvm.Cond.code ({ cls := "Chipfold", name := "picture", desc := "(II)I" } : Jvm.MethodName) prog_1_method_32_code (3 : Nat) (Option.some Jvm.ClassFile.FieldType.int)) ∈ WG := wg_5 (List.mem_of_getElem? (i := 66) rfl) rfl
theorem q_450 : (Jvm.Cond.selects "Chipfold" ({ cls := "Chipfold", name := "picture", desc := "(II)I" } : Jvm.MethodName) ({ cls := "Chipfold", name := "picture", desc := "(II)I" } : Jvm.MethodName)) ∈ WG := wg_5 (List.mem_of_getElem? (i := 65) (by decide +kernel)) (by decide +kernel)
theorem q_451 : (Jvm.Cond.methodLink "ChipfoldLaw" (106 : Nat) ({ cls := "Chipfold", name := "picture", desc := "(II)I" } : Jvm.MethodName)) ∈ WG := wg_5 (List.mem_of_getElem? (i := 63) (by decide +kernel)) (by decide +kernel)
theorem q_452 : (Jvm.Cond.instanceMethod ({ cls := "Chipfold", name := "picture", desc := "(II)I" } : Jvm.MethodName)) ∈ WG := wg_5 (List.mem_of_getElem? (i := 64) (by decide +kernel)) (by decide +kernel)
theorem dL_picture_8 : decode cL_picture 8 = .ok (.i2l, 1) := by decide +kernel
theorem dL_picture_9 : decode cL_picture 9 = .ok (.lastore, 1) := by decide +kernel
theorem dL_picture_10 : decode cL_picture 10 = .ok (.goto 7, 3) := by decide +kernel
theorem dL_picture_17 : decode cL_picture 17 = .ok (.iconst 0, 1) := by decide +kernel
theorem dL_picture_18 : decode cL_picture 18 = .ok (.ireturn, 1) := by decide +kernel
theorem dX10_picture_17 : decode cX10_picture 17 = .ok (.new 104, 3) := by decide +kernel
theorem ex_7_1 : ∀ w ∈ (vx_atS "Chipfold" 108 "java/lang/IllegalArgumentException" ["java/lang/RuntimeException", "java/lang/Exception"]).filter goodWord, w ∈ WG := by decide +kernel
theorem ex_7_2 : ∀ w ∈ (vx_atS "Chipfold" 108 "java/lang/IllegalArgumentException" ["java/lang/RuntimeException", "java/lang/Exception"]).filter (fun w => !goodWord w), w = .castable "java/lang/IllegalArgumentException" "java/lang/IllegalArgumentException" ∨ ∃ y ∈ declW, w = .declares y := by decide +kernel
theorem exg_8 : ∀ w ∈ Cond.classLink "Chipfold" 104 "java/lang/IllegalArgumentException" :: Cond.initialized "java/lang/IllegalArgumentException" :: vx_atS "Chipfold" 108 "java/lang/IllegalArgumentException" ["java/lang/RuntimeException", "java/lang/Exception"], vx_ot w = true := by decide +kernel
theorem q_455 : (Jvm.Cond.classLink "Chipfold" (104 : Nat) "java/lang/IllegalArgumentException") ∈ WG := wg_3 (List.mem_of_getElem? (i := 174) (by decide +kernel)) (by decide +kernel)
theorem q_456 : (Jvm.Cond.initialized "java/lang/IllegalArgumentException") ∈ WG := wg_1 (List.mem_of_getElem? (i := 20) (by decide +kernel)) (by decide +kernel)
theorem dX10_picture_20 : decode cX10_picture 20 = .ok (.dup, 1) := by decide +kernel
theorem dX10_picture_21 : decode cX10_picture 21 = .ok (.ldc 250, 2) := by decide +kernel
theorem dX10_picture_23 : decode cX10_picture 23 = .ok (.invokespecial 108, 3) := by decide +kernel
theorem dX10_picture_26 : decode cX10_picture 26 = .ok (.athrow, 1) := by decide +kernel
theorem dX10_picture_38 : decode cX10_picture 38 = .ok (.new 104, 3) := by decide +kernel
theorem dX10_picture_41 : decode cX10_picture 41 = .ok (.dup, 1) := by decide +kernel
theorem dX10_picture_42 : decode cX10_picture 42 = .ok (.ldc 133, 2) := by decide +kernel
theorem dX10_picture_44 : decode cX10_picture 44 = .ok (.invokespecial 108, 3) := by decide +kernel
theorem dX10_picture_47 : decode cX10_picture 47 = .ok (.athrow, 1) := by decide +kernel
theorem q_457 : (Jvm.Cond.classLink "ChipfoldLaw" (21 : Nat) "java/lang/IllegalArgumentException") ∈ WG := wg_3 (List.mem_of_getElem? (i := 148) (by decide +kernel)) (by decide +kernel)
theorem dL_picture_13 : decode cL_picture 13 = .ok (.astore 4, 2) := by decide +kernel
theorem dL_picture_15 : decode cL_picture 15 = .ok (.iconst 1, 1) := by decide +kernel
theorem dL_picture_16 : decode cL_picture 16 = .ok (.ireturn, 1) := by decide +kernel
set_option maxRecDepth 100000 in
set_option maxHeartbeats 4000000 in
theorem c_X1_toppleCell_s3 {l : Launch} {D : va_G} {k : Nat → ClassId} (o1 : Nat) (d1 : Nat) (d2 : Nat) (g : Nat → Nat) (c : Nat) (hc : c < 9) (hg : g c < 100000) : CM l D k yX1_toppleCell cX1_toppleCell 4 (some .int)  1 22 [.ref o1, .int (nI c)] [(o1, .inr (5, [.ref d1, .int (nI 3)])), (d1, .inr (12, [.ref d2])), (d2, aI k 81 (fun j9 => nI (g j9)))] (is1 (some (.int (nI (g c / 4)))) [(o1, .inr (5, [.ref d1, .int (nI 3)])), (d1, .inr (12, [.ref d2])), (d2, aI k 81 (fun j9 => nI (tpl 3 c (g c / 4) g j9)))]) 0 0 0 := by
  refine CM.of (lv0 := [(0, .ref o1), (1, .int (nI c))]) (by decide +kernel) (Nat.le_of_ble_eq_true rfl) rfl ?_
  intro p9 e9 s9 m9 bl9 me9 co9 C hr hlk hin had
  refine g_aload_n (pc := 0) C 0 rfl rfl dX1_toppleCell_0 ?_
  refine g_get (pc := 1) C (T := TX1) inX1 0 rfl rfl 0 (by decide) q_130 rfl rfl dX1_toppleCell_1 ?_
  refine g_iload_n (pc := 4) C 1 rfl rfl dX1_toppleCell_4 ?_
  refine g_callV (pc := 5) (cells := 0) (slots := 0) (g := 0) (As := [.int (nI c)]) (st := []) (T := TX8) (q0 := 1) C (nA := 1) rfl (c_X8_at_n d1 d2 81 (fun j9 => nI (g j9)) c (by first | assumption | decide | omega) (by first | assumption | decide | omega)) q_432 q_9 q_7 q_6 q_5 (by decide +kernel) rfl rfl dX1_toppleCell_5 ⟨Nat.le_of_ble_eq_true rfl, Nat.le_of_ble_eq_true rfl⟩ [1, 2] [0] rfl (wr := [(o1, .inr (5, [.ref d1, .int (nI 3)]))]) rfl (by decide) (by decide) (by decide) (Nat.le_of_ble_eq_true rfl) ⟨Nat.le_of_ble_eq_true rfl, Nat.le_of_ble_eq_true rfl⟩ (fun rv w1 h1 => ?_)
  obtain ⟨rfl, rfl⟩ := h1
  refine G.aft [0, 1, 2] (ws' := [(o1, .inr (5, [.ref d1, .int (nI 3)])), (d1, .inr (12, [.ref d2])), (d2, aI k 81 (fun j9 => nI (g j9)))]) (st' := [.int ((fun j9 => nI (g j9)) c)]) (cells' := 0) (slots' := 0) (g' := 0) (by decide) rfl rfl rfl rfl rfl ?_
  refine G.eqs (st' := [.int (nI (g c))]) (congrArg (β := List Value) (fun z9 => [.int z9]) (show (((fun j9 => nI (g j9)) c) : Int32) = (nI (g c)) from rfl)) ?_
  refine g_iconst (pc := 8) (v := 4) C (by decide) dX1_toppleCell_8 ?_
  refine g_idiv (pc := 9) C (by first | assumption | decide) dX1_toppleCell_9 ?_
  refine G.eqs (st' := [.int (nI (g c / 4))]) (congrArg (β := List Value) (fun z9 => [.int z9]) (show (((nI (g c)) / 4) : Int32) = (nI (g c / 4)) from by rw [show (4 : Int32) = nI 4 from rfl]; exact pk_div (by omega) (by decide) (by decide))) ?_
  refine g_istore_n (pc := 10) C [(2, .int (nI (g c / 4))), (0, .ref o1), (1, .int (nI c))] rfl dX1_toppleCell_10 (by decide) rfl ?_
  refine g_iload_n (pc := 11) C 0 rfl rfl dX1_toppleCell_11 ?_
  refine g_iconst (pc := 12) (v := 1) C (by decide) dX1_toppleCell_12 ?_
  refine g_icmp_lt (pc := 13) C 24 (by decide) dX1_toppleCell_13 (fun c_13 => ?_) (fun c_13 => ?_)
  · have k13 : (g c / 4) < 1 := by rcases Nat.lt_or_ge ((g c / 4)) (1) with q | q; exact q; exact absurd c_13 (nI_nlt q (by omega))
    refine g_iconst (pc := 24) (v := 0) C (by decide) dX1_toppleCell_24 ?_
    refine G.fn (fun j9 => nI (tpl 3 c (g c / 4) g j9)) 2 [(o1, .inr (5, [.ref d1, .int (nI 3)])), (d1, .inr (12, [.ref d2])), (d2, aI k 81 (fun j9 => nI (tpl 3 c (g c / 4) g j9)))] rfl (fun j hj => by first | (rw [show g c / 4 = 0 by omega]; rfl) | (exact congrArg nI (by rw [show g c / 4 = 0 by omega]; simp only [tpl]; split <;> simp_all))) rfl ?_
    refine G.eqs (st' := [.int (nI (g c / 4))]) (congrArg (fun z9 => [Value.int z9]) (show (0 : Int32) = (nI (g c / 4)) from by first | (rw [show g c / 4 = 0 by omega]; rfl) | (exact congrArg nI (by rw [show g c / 4 = 0 by omega]; simp only [tpl]; split <;> simp_all)))) ?_
    exact g_iret (pc := 25) C hr hlk (by first | decide | omega) (by first | decide | omega) (by first | decide | omega) dX1_toppleCell_25 ⟨rfl, rfl⟩
  · have k13 : 1 ≤ (g c / 4) := by rcases Nat.lt_or_ge ((g c / 4)) (1) with q | q; exact absurd (nI_lt q (by omega)) c_13; exact q
    refine g_aload_n (pc := 16) C 1 rfl rfl dX1_toppleCell_16 ?_
    refine g_get (pc := 17) C (T := TX1) inX1 0 rfl rfl 1 (by decide) q_131 rfl rfl dX1_toppleCell_17 ?_
    refine g_iconst (pc := 20) (v := 1) C (by decide) dX1_toppleCell_20 ?_
    refine g_icmp_ge (pc := 21) C 26 (by decide) dX1_toppleCell_21 (fun c_21 => ?_) (fun c_21 => ?_)
    · refine g_aload_n (pc := 26) C 1 rfl rfl dX1_toppleCell_26 ?_
      refine g_get (pc := 27) C (T := TX1) inX1 0 rfl rfl 0 (by decide) q_130 rfl rfl dX1_toppleCell_27 ?_
      refine g_iload_n (pc := 30) C 2 rfl rfl dX1_toppleCell_30 ?_
      refine g_iload_n (pc := 31) C 0 rfl rfl dX1_toppleCell_31 ?_
      refine g_ineg (pc := 32) C dX1_toppleCell_32 ?_
      refine g_iconst (pc := 33) (v := 4) C (by decide) dX1_toppleCell_33 ?_
      refine g_imul (pc := 34) C dX1_toppleCell_34 ?_
      refine g_callV (pc := 35) (cells := 0) (slots := 0) (g := 0) (As := [.int (nI c), .int ((-(nI (g c / 4))) * 4)]) (st := []) (T := TX8) (q0 := 1) C (nA := 2) rfl (c_X8_add_n d1 d2 81 (fun j9 => nI (g j9)) c ((-(nI (g c / 4))) * 4) (by first | assumption | decide | omega) (by first | assumption | decide | omega)) q_433 q_59 q_57 q_6 q_56 (by decide +kernel) rfl rfl dX1_toppleCell_35 ⟨Nat.le_of_ble_eq_true rfl, Nat.le_of_ble_eq_true rfl⟩ [1, 2] [0] rfl (wr := [(o1, .inr (5, [.ref d1, .int (nI 3)]))]) rfl (by decide) (by decide) (by decide) (Nat.le_of_ble_eq_true rfl) ⟨Nat.le_of_ble_eq_true rfl, Nat.le_of_ble_eq_true rfl⟩ (fun rv w1 h1 => ?_)
      obtain ⟨rfl, rfl⟩ := h1
      refine G.aft [0, 1, 2] (ws' := [(o1, .inr (5, [.ref d1, .int (nI 3)])), (d1, .inr (12, [.ref d2])), (d2, aI k 81 (upd (fun j9 => nI (g j9)) c ((fun j9 => nI (g j9)) c + ((-(nI (g c / 4))) * 4))))]) (st' := []) (cells' := 0) (slots' := 0) (g' := 0) (by decide) rfl rfl rfl rfl rfl ?_
      refine G.fn (fun j9 => nI ((sb g c (4 * (g c / 4))) j9)) 2 [(o1, .inr (5, [.ref d1, .int (nI 3)])), (d1, .inr (12, [.ref d2])), (d2, aI k 81 (fun j9 => nI ((sb g c (4 * (g c / 4))) j9)))] rfl (fun j hj => by exact sb_step (by omega) j) rfl ?_
      refine g_iload_n (pc := 38) C 2 rfl rfl dX1_toppleCell_38 ?_
      refine g_aload_n (pc := 39) C 1 rfl rfl dX1_toppleCell_39 ?_
      refine g_get (pc := 40) C (T := TX1) inX1 0 rfl rfl 1 (by decide) q_131 rfl rfl dX1_toppleCell_40 ?_
      refine g_irem (pc := 43) C (by first | assumption | decide) dX1_toppleCell_43 ?_
      refine G.eqs (st' := [.int (nI (c % 3))]) (congrArg (β := List Value) (fun z9 => [.int z9]) (show (((nI c) - (nI c) / (nI 3) * (nI 3)) : Int32) = (nI (c % 3)) from pk_rem (by omega) (by decide) (by decide))) ?_
      refine g_istore_n (pc := 44) C [(3, .int (nI (c % 3))), (2, .int (nI (g c / 4))), (0, .ref o1), (1, .int (nI c))] rfl dX1_toppleCell_44 (by decide) rfl ?_
      refine g_iload_n (pc := 45) C 0 rfl rfl dX1_toppleCell_45 ?_
      refine g_if_le (pc := 46) C 60 (by decide) dX1_toppleCell_46 (fun c_46 => ?_) (fun c_46 => ?_)
      · have k46 : c % 3 = 0 := by rcases Nat.eq_zero_or_pos (c % 3) with q | q; exact q; exact absurd c_46 (nI_nle q (by omega))
        refine g_iload_n (pc := 60) C 0 rfl rfl dX1_toppleCell_60 ?_
        refine g_aload_n (pc := 61) C 2 rfl rfl dX1_toppleCell_61 ?_
        refine g_get (pc := 62) C (T := TX1) inX1 0 rfl rfl 1 (by decide) q_131 rfl rfl dX1_toppleCell_62 ?_
        refine g_iconst (pc := 65) (v := 1) C (by decide) dX1_toppleCell_65 ?_
        refine g_isub (pc := 66) C dX1_toppleCell_66 ?_
        refine G.eqs (st' := [.int (nI 2), .int (nI (c % 3))]) (congrArg (β := List Value) (fun z9 => [.int z9, .int (nI (c % 3))]) (show (((nI 3) - 1) : Int32) = (nI 2) from by decide)) ?_
        refine g_icmp_ge (pc := 67) C 81 (by decide) dX1_toppleCell_67 (fun c_67 => ?_) (fun c_67 => ?_)
        · have k67 : 2 ≤ c % 3 := by rcases Nat.lt_or_ge (c % 3) (2) with q | q; exact absurd (show nI (2) ≤ nI (c % 3) from c_67) (nI_ge q (by omega)); exact q
          refine g_iload_n (pc := 81) C 3 rfl rfl dX1_toppleCell_81 ?_
          refine g_aload_n (pc := 82) C 2 rfl rfl dX1_toppleCell_82 ?_
          refine g_get (pc := 83) C (T := TX1) inX1 0 rfl rfl 1 (by decide) q_131 rfl rfl dX1_toppleCell_83 ?_
          refine g_icmp_lt (pc := 86) C 103 (by decide) dX1_toppleCell_86 (fun c_86 => ?_) (fun c_86 => ?_)
          · have k86 : c < 3 := by rcases Nat.lt_or_ge (c) (3) with q | q; exact q; exact absurd c_86 (nI_nlt q (by omega))
            refine g_iload_n (pc := 103) C 3 rfl rfl dX1_toppleCell_103 ?_
            refine g_aload_n (pc := 104) C 2 rfl rfl dX1_toppleCell_104 ?_
            refine g_callV (pc := 105) (cells := 0) (slots := 0) (g := 0) (As := []) (st := [.int (nI c)]) (T := TX1) (q0 := 0) C (nA := 0) rfl (c_X1_cellNumber o1 d1 (nI 3) ) q_434 q_235 q_233 q_182 q_232 (by decide +kernel) rfl rfl dX1_toppleCell_105 ⟨Nat.le_of_ble_eq_true rfl, Nat.le_of_ble_eq_true rfl⟩ [0] [1, 2] rfl (wr := [(d1, .inr (12, [.ref d2])), (d2, aI k 81 (fun j9 => nI ((sb g c (4 * (g c / 4))) j9)))]) rfl (by decide) (by decide) (by decide) (Nat.le_of_ble_eq_true rfl) ⟨Nat.le_of_ble_eq_true rfl, Nat.le_of_ble_eq_true rfl⟩ (fun rv w1 h1 => ?_)
            obtain ⟨rfl, rfl⟩ := h1
            refine G.aft [2, 0, 1] (ws' := [(o1, .inr (5, [.ref d1, .int (nI 3)])), (d1, .inr (12, [.ref d2])), (d2, aI k 81 (fun j9 => nI ((sb g c (4 * (g c / 4))) j9)))]) (st' := [.int ((nI 3) * (nI 3)), .int (nI c)]) (cells' := 0) (slots' := 0) (g' := 0) (by decide) rfl rfl rfl rfl rfl ?_
            refine g_aload_n (pc := 108) C 2 rfl rfl dX1_toppleCell_108 ?_
            refine g_get (pc := 109) C (T := TX1) inX1 0 rfl rfl 1 (by decide) q_131 rfl rfl dX1_toppleCell_109 ?_
            refine g_isub (pc := 112) C dX1_toppleCell_112 ?_
            refine G.eqs (st' := [.int (nI 6), .int (nI c)]) (congrArg (β := List Value) (fun z9 => [.int z9, .int (nI c)]) (show ((((nI 3) * (nI 3)) - (nI 3)) : Int32) = (nI 6) from by decide)) ?_
            refine g_icmp_ge (pc := 113) C 130 (by decide) dX1_toppleCell_113 (fun c_113 => ?_) (fun c_113 => ?_)
            · have k113 : 6 ≤ c := by rcases Nat.lt_or_ge (c) (6) with q | q; exact absurd (show nI (6) ≤ nI (c) from c_113) (nI_ge q (by omega)); exact q
              refine g_iload_n (pc := 130) C 1 rfl rfl dX1_toppleCell_130 ?_
              refine G.fn (fun j9 => nI (tpl 3 c (g c / 4) g j9)) 2 [(o1, .inr (5, [.ref d1, .int (nI 3)])), (d1, .inr (12, [.ref d2])), (d2, aI k 81 (fun j9 => nI (tpl 3 c (g c / 4) g j9)))] rfl (fun j hj => by exact congrArg nI (by simp only [ad, sb, tpl, nbr]; repeat' (first | omega | split))) rfl ?_
              exact g_iret (pc := 131) C hr hlk (by first | decide | omega) (by first | decide | omega) (by first | decide | omega) dX1_toppleCell_131 ⟨rfl, rfl⟩
            · have k113 : c < 6 := by rcases Nat.lt_or_ge (c) (6) with q | q; exact q; exact absurd (show nI (6) ≤ nI (c) from nI_le q (by omega)) c_113
              refine g_aload_n (pc := 116) C 2 rfl rfl dX1_toppleCell_116 ?_
              refine g_get (pc := 117) C (T := TX1) inX1 0 rfl rfl 0 (by decide) q_130 rfl rfl dX1_toppleCell_117 ?_
              refine g_iload_n (pc := 120) C 3 rfl rfl dX1_toppleCell_120 ?_
              refine g_aload_n (pc := 121) C 2 rfl rfl dX1_toppleCell_121 ?_
              refine g_get (pc := 122) C (T := TX1) inX1 0 rfl rfl 1 (by decide) q_131 rfl rfl dX1_toppleCell_122 ?_
              refine g_iadd (pc := 125) C dX1_toppleCell_125 ?_
              refine G.eqs (st' := [.int (nI (c + 3)), .ref d1]) (congrArg (β := List Value) (fun z9 => [.int z9, .ref d1]) (show (((nI c) + (nI 3)) : Int32) = (nI (c + 3)) from nI_add c 3)) ?_
              refine g_iload_n (pc := 126) C 1 rfl rfl dX1_toppleCell_126 ?_
              refine g_callV (pc := 127) (cells := 0) (slots := 0) (g := 0) (As := [.int (nI (c + 3)), .int (nI (g c / 4))]) (st := []) (T := TX8) (q0 := 1) C (nA := 2) rfl (c_X8_add_n d1 d2 81 (fun j9 => nI ((sb g c (4 * (g c / 4))) j9)) (c + 3) (nI (g c / 4)) (by first | assumption | decide | omega) (by first | assumption | decide | omega)) q_433 q_59 q_57 q_6 q_56 (by decide +kernel) rfl rfl dX1_toppleCell_127 ⟨Nat.le_of_ble_eq_true rfl, Nat.le_of_ble_eq_true rfl⟩ [1, 2] [0] rfl (wr := [(o1, .inr (5, [.ref d1, .int (nI 3)]))]) rfl (by decide) (by decide) (by decide) (Nat.le_of_ble_eq_true rfl) ⟨Nat.le_of_ble_eq_true rfl, Nat.le_of_ble_eq_true rfl⟩ (fun rv w1 h1 => ?_)
              obtain ⟨rfl, rfl⟩ := h1
              refine G.aft [0, 1, 2] (ws' := [(o1, .inr (5, [.ref d1, .int (nI 3)])), (d1, .inr (12, [.ref d2])), (d2, aI k 81 (upd (fun j9 => nI ((sb g c (4 * (g c / 4))) j9)) (c + 3) ((fun j9 => nI ((sb g c (4 * (g c / 4))) j9)) (c + 3) + (nI (g c / 4)))))]) (st' := []) (cells' := 0) (slots' := 0) (g' := 0) (by decide) rfl rfl rfl rfl rfl ?_
              refine G.fn (fun j9 => nI ((ad (sb g c (4 * (g c / 4))) (c + 3) (g c / 4)) j9)) 2 [(o1, .inr (5, [.ref d1, .int (nI 3)])), (d1, .inr (12, [.ref d2])), (d2, aI k 81 (fun j9 => nI ((ad (sb g c (4 * (g c / 4))) (c + 3) (g c / 4)) j9)))] rfl (fun j hj => by exact ad_step _ _ _ j) rfl ?_
              refine g_iload_n (pc := 130) C 1 rfl rfl dX1_toppleCell_130 ?_
              refine G.fn (fun j9 => nI (tpl 3 c (g c / 4) g j9)) 2 [(o1, .inr (5, [.ref d1, .int (nI 3)])), (d1, .inr (12, [.ref d2])), (d2, aI k 81 (fun j9 => nI (tpl 3 c (g c / 4) g j9)))] rfl (fun j hj => by exact congrArg nI (by simp only [ad, sb, tpl, nbr]; repeat' (first | omega | split))) rfl ?_
              exact g_iret (pc := 131) C hr hlk (by first | decide | omega) (by first | decide | omega) (by first | decide | omega) dX1_toppleCell_131 ⟨rfl, rfl⟩
          · have k86 : 3 ≤ c := by rcases Nat.lt_or_ge (c) (3) with q | q; exact absurd (nI_lt q (by omega)) c_86; exact q
            refine g_aload_n (pc := 89) C 2 rfl rfl dX1_toppleCell_89 ?_
            refine g_get (pc := 90) C (T := TX1) inX1 0 rfl rfl 0 (by decide) q_130 rfl rfl dX1_toppleCell_90 ?_
            refine g_iload_n (pc := 93) C 3 rfl rfl dX1_toppleCell_93 ?_
            refine g_aload_n (pc := 94) C 2 rfl rfl dX1_toppleCell_94 ?_
            refine g_get (pc := 95) C (T := TX1) inX1 0 rfl rfl 1 (by decide) q_131 rfl rfl dX1_toppleCell_95 ?_
            refine g_isub (pc := 98) C dX1_toppleCell_98 ?_
            refine G.eqs (st' := [.int (nI (c - 3)), .ref d1]) (congrArg (β := List Value) (fun z9 => [.int z9, .ref d1]) (show (((nI c) - (nI 3)) : Int32) = (nI (c - 3)) from pk_sub (by omega))) ?_
            refine g_iload_n (pc := 99) C 1 rfl rfl dX1_toppleCell_99 ?_
            refine g_callV (pc := 100) (cells := 0) (slots := 0) (g := 0) (As := [.int (nI (c - 3)), .int (nI (g c / 4))]) (st := []) (T := TX8) (q0 := 1) C (nA := 2) rfl (c_X8_add_n d1 d2 81 (fun j9 => nI ((sb g c (4 * (g c / 4))) j9)) (c - 3) (nI (g c / 4)) (by first | assumption | decide | omega) (by first | assumption | decide | omega)) q_433 q_59 q_57 q_6 q_56 (by decide +kernel) rfl rfl dX1_toppleCell_100 ⟨Nat.le_of_ble_eq_true rfl, Nat.le_of_ble_eq_true rfl⟩ [1, 2] [0] rfl (wr := [(o1, .inr (5, [.ref d1, .int (nI 3)]))]) rfl (by decide) (by decide) (by decide) (Nat.le_of_ble_eq_true rfl) ⟨Nat.le_of_ble_eq_true rfl, Nat.le_of_ble_eq_true rfl⟩ (fun rv w1 h1 => ?_)
            obtain ⟨rfl, rfl⟩ := h1
            refine G.aft [0, 1, 2] (ws' := [(o1, .inr (5, [.ref d1, .int (nI 3)])), (d1, .inr (12, [.ref d2])), (d2, aI k 81 (upd (fun j9 => nI ((sb g c (4 * (g c / 4))) j9)) (c - 3) ((fun j9 => nI ((sb g c (4 * (g c / 4))) j9)) (c - 3) + (nI (g c / 4)))))]) (st' := []) (cells' := 0) (slots' := 0) (g' := 0) (by decide) rfl rfl rfl rfl rfl ?_
            refine G.fn (fun j9 => nI ((ad (sb g c (4 * (g c / 4))) (c - 3) (g c / 4)) j9)) 2 [(o1, .inr (5, [.ref d1, .int (nI 3)])), (d1, .inr (12, [.ref d2])), (d2, aI k 81 (fun j9 => nI ((ad (sb g c (4 * (g c / 4))) (c - 3) (g c / 4)) j9)))] rfl (fun j hj => by exact ad_step _ _ _ j) rfl ?_
            refine g_iload_n (pc := 103) C 3 rfl rfl dX1_toppleCell_103 ?_
            refine g_aload_n (pc := 104) C 2 rfl rfl dX1_toppleCell_104 ?_
            refine g_callV (pc := 105) (cells := 0) (slots := 0) (g := 0) (As := []) (st := [.int (nI c)]) (T := TX1) (q0 := 0) C (nA := 0) rfl (c_X1_cellNumber o1 d1 (nI 3) ) q_434 q_235 q_233 q_182 q_232 (by decide +kernel) rfl rfl dX1_toppleCell_105 ⟨Nat.le_of_ble_eq_true rfl, Nat.le_of_ble_eq_true rfl⟩ [0] [1, 2] rfl (wr := [(d1, .inr (12, [.ref d2])), (d2, aI k 81 (fun j9 => nI ((ad (sb g c (4 * (g c / 4))) (c - 3) (g c / 4)) j9)))]) rfl (by decide) (by decide) (by decide) (Nat.le_of_ble_eq_true rfl) ⟨Nat.le_of_ble_eq_true rfl, Nat.le_of_ble_eq_true rfl⟩ (fun rv w1 h1 => ?_)
            obtain ⟨rfl, rfl⟩ := h1
            refine G.aft [2, 0, 1] (ws' := [(o1, .inr (5, [.ref d1, .int (nI 3)])), (d1, .inr (12, [.ref d2])), (d2, aI k 81 (fun j9 => nI ((ad (sb g c (4 * (g c / 4))) (c - 3) (g c / 4)) j9)))]) (st' := [.int ((nI 3) * (nI 3)), .int (nI c)]) (cells' := 0) (slots' := 0) (g' := 0) (by decide) rfl rfl rfl rfl rfl ?_
            refine g_aload_n (pc := 108) C 2 rfl rfl dX1_toppleCell_108 ?_
            refine g_get (pc := 109) C (T := TX1) inX1 0 rfl rfl 1 (by decide) q_131 rfl rfl dX1_toppleCell_109 ?_
            refine g_isub (pc := 112) C dX1_toppleCell_112 ?_
            refine G.eqs (st' := [.int (nI 6), .int (nI c)]) (congrArg (β := List Value) (fun z9 => [.int z9, .int (nI c)]) (show ((((nI 3) * (nI 3)) - (nI 3)) : Int32) = (nI 6) from by decide)) ?_
            refine g_icmp_ge (pc := 113) C 130 (by decide) dX1_toppleCell_113 (fun c_113 => ?_) (fun c_113 => ?_)
            · have k113 : 6 ≤ c := by rcases Nat.lt_or_ge (c) (6) with q | q; exact absurd (show nI (6) ≤ nI (c) from c_113) (nI_ge q (by omega)); exact q
              refine g_iload_n (pc := 130) C 1 rfl rfl dX1_toppleCell_130 ?_
              refine G.fn (fun j9 => nI (tpl 3 c (g c / 4) g j9)) 2 [(o1, .inr (5, [.ref d1, .int (nI 3)])), (d1, .inr (12, [.ref d2])), (d2, aI k 81 (fun j9 => nI (tpl 3 c (g c / 4) g j9)))] rfl (fun j hj => by exact congrArg nI (by simp only [ad, sb, tpl, nbr]; repeat' (first | omega | split))) rfl ?_
              exact g_iret (pc := 131) C hr hlk (by first | decide | omega) (by first | decide | omega) (by first | decide | omega) dX1_toppleCell_131 ⟨rfl, rfl⟩
            · have k113 : c < 6 := by rcases Nat.lt_or_ge (c) (6) with q | q; exact q; exact absurd (show nI (6) ≤ nI (c) from nI_le q (by omega)) c_113
              refine g_aload_n (pc := 116) C 2 rfl rfl dX1_toppleCell_116 ?_
              refine g_get (pc := 117) C (T := TX1) inX1 0 rfl rfl 0 (by decide) q_130 rfl rfl dX1_toppleCell_117 ?_
              refine g_iload_n (pc := 120) C 3 rfl rfl dX1_toppleCell_120 ?_
              refine g_aload_n (pc := 121) C 2 rfl rfl dX1_toppleCell_121 ?_
              refine g_get (pc := 122) C (T := TX1) inX1 0 rfl rfl 1 (by decide) q_131 rfl rfl dX1_toppleCell_122 ?_
              refine g_iadd (pc := 125) C dX1_toppleCell_125 ?_
              refine G.eqs (st' := [.int (nI (c + 3)), .ref d1]) (congrArg (β := List Value) (fun z9 => [.int z9, .ref d1]) (show (((nI c) + (nI 3)) : Int32) = (nI (c + 3)) from nI_add c 3)) ?_
              refine g_iload_n (pc := 126) C 1 rfl rfl dX1_toppleCell_126 ?_
              refine g_callV (pc := 127) (cells := 0) (slots := 0) (g := 0) (As := [.int (nI (c + 3)), .int (nI (g c / 4))]) (st := []) (T := TX8) (q0 := 1) C (nA := 2) rfl (c_X8_add_n d1 d2 81 (fun j9 => nI ((ad (sb g c (4 * (g c / 4))) (c - 3) (g c / 4)) j9)) (c + 3) (nI (g c / 4)) (by first | assumption | decide | omega) (by first | assumption | decide | omega)) q_433 q_59 q_57 q_6 q_56 (by decide +kernel) rfl rfl dX1_toppleCell_127 ⟨Nat.le_of_ble_eq_true rfl, Nat.le_of_ble_eq_true rfl⟩ [1, 2] [0] rfl (wr := [(o1, .inr (5, [.ref d1, .int (nI 3)]))]) rfl (by decide) (by decide) (by decide) (Nat.le_of_ble_eq_true rfl) ⟨Nat.le_of_ble_eq_true rfl, Nat.le_of_ble_eq_true rfl⟩ (fun rv w1 h1 => ?_)
              obtain ⟨rfl, rfl⟩ := h1
              refine G.aft [0, 1, 2] (ws' := [(o1, .inr (5, [.ref d1, .int (nI 3)])), (d1, .inr (12, [.ref d2])), (d2, aI k 81 (upd (fun j9 => nI ((ad (sb g c (4 * (g c / 4))) (c - 3) (g c / 4)) j9)) (c + 3) ((fun j9 => nI ((ad (sb g c (4 * (g c / 4))) (c - 3) (g c / 4)) j9)) (c + 3) + (nI (g c / 4)))))]) (st' := []) (cells' := 0) (slots' := 0) (g' := 0) (by decide) rfl rfl rfl rfl rfl ?_
              refine G.fn (fun j9 => nI ((ad (ad (sb g c (4 * (g c / 4))) (c - 3) (g c / 4)) (c + 3) (g c / 4)) j9)) 2 [(o1, .inr (5, [.ref d1, .int (nI 3)])), (d1, .inr (12, [.ref d2])), (d2, aI k 81 (fun j9 => nI ((ad (ad (sb g c (4 * (g c / 4))) (c - 3) (g c / 4)) (c + 3) (g c / 4)) j9)))] rfl (fun j hj => by exact ad_step _ _ _ j) rfl ?_
              refine g_iload_n (pc := 130) C 1 rfl rfl dX1_toppleCell_130 ?_
              refine G.fn (fun j9 => nI (tpl 3 c (g c / 4) g j9)) 2 [(o1, .inr (5, [.ref d1, .int (nI 3)])), (d1, .inr (12, [.ref d2])), (d2, aI k 81 (fun j9 => nI (tpl 3 c (g c / 4) g j9)))] rfl (fun j hj => by exact congrArg nI (by simp only [ad, sb, tpl, nbr]; repeat' (first | omega | split))) rfl ?_
              exact g_iret (pc := 131) C hr hlk (by first | decide | omega) (by first | decide | omega) (by first | decide | omega) dX1_toppleCell_131 ⟨rfl, rfl⟩
        · have k67 : c % 3 < 2 := by rcases Nat.lt_or_ge (c % 3) (2) with q | q; exact q; exact absurd (show nI (2) ≤ nI (c % 3) from nI_le q (by omega)) c_67
          refine g_aload_n (pc := 70) C 2 rfl rfl dX1_toppleCell_70 ?_
          refine g_get (pc := 71) C (T := TX1) inX1 0 rfl rfl 0 (by decide) q_130 rfl rfl dX1_toppleCell_71 ?_
          refine g_iload_n (pc := 74) C 3 rfl rfl dX1_toppleCell_74 ?_
          refine g_iconst (pc := 75) (v := 1) C (by decide) dX1_toppleCell_75 ?_
          refine g_iadd (pc := 76) C dX1_toppleCell_76 ?_
          refine G.eqs (st' := [.int (nI (c + 1)), .ref d1]) (congrArg (β := List Value) (fun z9 => [.int z9, .ref d1]) (show (((nI c) + 1) : Int32) = (nI (c + 1)) from nI_1 c)) ?_
          refine g_iload_n (pc := 77) C 1 rfl rfl dX1_toppleCell_77 ?_
          refine g_callV (pc := 78) (cells := 0) (slots := 0) (g := 0) (As := [.int (nI (c + 1)), .int (nI (g c / 4))]) (st := []) (T := TX8) (q0 := 1) C (nA := 2) rfl (c_X8_add_n d1 d2 81 (fun j9 => nI ((sb g c (4 * (g c / 4))) j9)) (c + 1) (nI (g c / 4)) (by first | assumption | decide | omega) (by first | assumption | decide | omega)) q_433 q_59 q_57 q_6 q_56 (by decide +kernel) rfl rfl dX1_toppleCell_78 ⟨Nat.le_of_ble_eq_true rfl, Nat.le_of_ble_eq_true rfl⟩ [1, 2] [0] rfl (wr := [(o1, .inr (5, [.ref d1, .int (nI 3)]))]) rfl (by decide) (by decide) (by decide) (Nat.le_of_ble_eq_true rfl) ⟨Nat.le_of_ble_eq_true rfl, Nat.le_of_ble_eq_true rfl⟩ (fun rv w1 h1 => ?_)
          obtain ⟨rfl, rfl⟩ := h1
          refine G.aft [0, 1, 2] (ws' := [(o1, .inr (5, [.ref d1, .int (nI 3)])), (d1, .inr (12, [.ref d2])), (d2, aI k 81 (upd (fun j9 => nI ((sb g c (4 * (g c / 4))) j9)) (c + 1) ((fun j9 => nI ((sb g c (4 * (g c / 4))) j9)) (c + 1) + (nI (g c / 4)))))]) (st' := []) (cells' := 0) (slots' := 0) (g' := 0) (by decide) rfl rfl rfl rfl rfl ?_
          refine G.fn (fun j9 => nI ((ad (sb g c (4 * (g c / 4))) (c + 1) (g c / 4)) j9)) 2 [(o1, .inr (5, [.ref d1, .int (nI 3)])), (d1, .inr (12, [.ref d2])), (d2, aI k 81 (fun j9 => nI ((ad (sb g c (4 * (g c / 4))) (c + 1) (g c / 4)) j9)))] rfl (fun j hj => by exact ad_step _ _ _ j) rfl ?_
          refine g_iload_n (pc := 81) C 3 rfl rfl dX1_toppleCell_81 ?_
          refine g_aload_n (pc := 82) C 2 rfl rfl dX1_toppleCell_82 ?_
          refine g_get (pc := 83) C (T := TX1) inX1 0 rfl rfl 1 (by decide) q_131 rfl rfl dX1_toppleCell_83 ?_
          refine g_icmp_lt (pc := 86) C 103 (by decide) dX1_toppleCell_86 (fun c_86 => ?_) (fun c_86 => ?_)
          · have k86 : c < 3 := by rcases Nat.lt_or_ge (c) (3) with q | q; exact q; exact absurd c_86 (nI_nlt q (by omega))
            refine g_iload_n (pc := 103) C 3 rfl rfl dX1_toppleCell_103 ?_
            refine g_aload_n (pc := 104) C 2 rfl rfl dX1_toppleCell_104 ?_
            refine g_callV (pc := 105) (cells := 0) (slots := 0) (g := 0) (As := []) (st := [.int (nI c)]) (T := TX1) (q0 := 0) C (nA := 0) rfl (c_X1_cellNumber o1 d1 (nI 3) ) q_434 q_235 q_233 q_182 q_232 (by decide +kernel) rfl rfl dX1_toppleCell_105 ⟨Nat.le_of_ble_eq_true rfl, Nat.le_of_ble_eq_true rfl⟩ [0] [1, 2] rfl (wr := [(d1, .inr (12, [.ref d2])), (d2, aI k 81 (fun j9 => nI ((ad (sb g c (4 * (g c / 4))) (c + 1) (g c / 4)) j9)))]) rfl (by decide) (by decide) (by decide) (Nat.le_of_ble_eq_true rfl) ⟨Nat.le_of_ble_eq_true rfl, Nat.le_of_ble_eq_true rfl⟩ (fun rv w1 h1 => ?_)
            obtain ⟨rfl, rfl⟩ := h1
            refine G.aft [2, 0, 1] (ws' := [(o1, .inr (5, [.ref d1, .int (nI 3)])), (d1, .inr (12, [.ref d2])), (d2, aI k 81 (fun j9 => nI ((ad (sb g c (4 * (g c / 4))) (c + 1) (g c / 4)) j9)))]) (st' := [.int ((nI 3) * (nI 3)), .int (nI c)]) (cells' := 0) (slots' := 0) (g' := 0) (by decide) rfl rfl rfl rfl rfl ?_
            refine g_aload_n (pc := 108) C 2 rfl rfl dX1_toppleCell_108 ?_
            refine g_get (pc := 109) C (T := TX1) inX1 0 rfl rfl 1 (by decide) q_131 rfl rfl dX1_toppleCell_109 ?_
            refine g_isub (pc := 112) C dX1_toppleCell_112 ?_
            refine G.eqs (st' := [.int (nI 6), .int (nI c)]) (congrArg (β := List Value) (fun z9 => [.int z9, .int (nI c)]) (show ((((nI 3) * (nI 3)) - (nI 3)) : Int32) = (nI 6) from by decide)) ?_
            refine g_icmp_ge (pc := 113) C 130 (by decide) dX1_toppleCell_113 (fun c_113 => ?_) (fun c_113 => ?_)
            · have k113 : 6 ≤ c := by rcases Nat.lt_or_ge (c) (6) with q | q; exact absurd (show nI (6) ≤ nI (c) from c_113) (nI_ge q (by omega)); exact q
              refine g_iload_n (pc := 130) C 1 rfl rfl dX1_toppleCell_130 ?_
              refine G.fn (fun j9 => nI (tpl 3 c (g c / 4) g j9)) 2 [(o1, .inr (5, [.ref d1, .int (nI 3)])), (d1, .inr (12, [.ref d2])), (d2, aI k 81 (fun j9 => nI (tpl 3 c (g c / 4) g j9)))] rfl (fun j hj => by exact congrArg nI (by simp only [ad, sb, tpl, nbr]; repeat' (first | omega | split))) rfl ?_
              exact g_iret (pc := 131) C hr hlk (by first | decide | omega) (by first | decide | omega) (by first | decide | omega) dX1_toppleCell_131 ⟨rfl, rfl⟩
            · have k113 : c < 6 := by rcases Nat.lt_or_ge (c) (6) with q | q; exact q; exact absurd (show nI (6) ≤ nI (c) from nI_le q (by omega)) c_113
              refine g_aload_n (pc := 116) C 2 rfl rfl dX1_toppleCell_116 ?_
              refine g_get (pc := 117) C (T := TX1) inX1 0 rfl rfl 0 (by decide) q_130 rfl rfl dX1_toppleCell_117 ?_
              refine g_iload_n (pc := 120) C 3 rfl rfl dX1_toppleCell_120 ?_
              refine g_aload_n (pc := 121) C 2 rfl rfl dX1_toppleCell_121 ?_
              refine g_get (pc := 122) C (T := TX1) inX1 0 rfl rfl 1 (by decide) q_131 rfl rfl dX1_toppleCell_122 ?_
              refine g_iadd (pc := 125) C dX1_toppleCell_125 ?_
              refine G.eqs (st' := [.int (nI (c + 3)), .ref d1]) (congrArg (β := List Value) (fun z9 => [.int z9, .ref d1]) (show (((nI c) + (nI 3)) : Int32) = (nI (c + 3)) from nI_add c 3)) ?_
              refine g_iload_n (pc := 126) C 1 rfl rfl dX1_toppleCell_126 ?_
              refine g_callV (pc := 127) (cells := 0) (slots := 0) (g := 0) (As := [.int (nI (c + 3)), .int (nI (g c / 4))]) (st := []) (T := TX8) (q0 := 1) C (nA := 2) rfl (c_X8_add_n d1 d2 81 (fun j9 => nI ((ad (sb g c (4 * (g c / 4))) (c + 1) (g c / 4)) j9)) (c + 3) (nI (g c / 4)) (by first | assumption | decide | omega) (by first | assumption | decide | omega)) q_433 q_59 q_57 q_6 q_56 (by decide +kernel) rfl rfl dX1_toppleCell_127 ⟨Nat.le_of_ble_eq_true rfl, Nat.le_of_ble_eq_true rfl⟩ [1, 2] [0] rfl (wr := [(o1, .inr (5, [.ref d1, .int (nI 3)]))]) rfl (by decide) (by decide) (by decide) (Nat.le_of_ble_eq_true rfl) ⟨Nat.le_of_ble_eq_true rfl, Nat.le_of_ble_eq_true rfl⟩ (fun rv w1 h1 => ?_)
              obtain ⟨rfl, rfl⟩ := h1
              refine G.aft [0, 1, 2] (ws' := [(o1, .inr (5, [.ref d1, .int (nI 3)])), (d1, .inr (12, [.ref d2])), (d2, aI k 81 (upd (fun j9 => nI ((ad (sb g c (4 * (g c / 4))) (c + 1) (g c / 4)) j9)) (c + 3) ((fun j9 => nI ((ad (sb g c (4 * (g c / 4))) (c + 1) (g c / 4)) j9)) (c + 3) + (nI (g c / 4)))))]) (st' := []) (cells' := 0) (slots' := 0) (g' := 0) (by decide) rfl rfl rfl rfl rfl ?_
              refine G.fn (fun j9 => nI ((ad (ad (sb g c (4 * (g c / 4))) (c + 1) (g c / 4)) (c + 3) (g c / 4)) j9)) 2 [(o1, .inr (5, [.ref d1, .int (nI 3)])), (d1, .inr (12, [.ref d2])), (d2, aI k 81 (fun j9 => nI ((ad (ad (sb g c (4 * (g c / 4))) (c + 1) (g c / 4)) (c + 3) (g c / 4)) j9)))] rfl (fun j hj => by exact ad_step _ _ _ j) rfl ?_
              refine g_iload_n (pc := 130) C 1 rfl rfl dX1_toppleCell_130 ?_
              refine G.fn (fun j9 => nI (tpl 3 c (g c / 4) g j9)) 2 [(o1, .inr (5, [.ref d1, .int (nI 3)])), (d1, .inr (12, [.ref d2])), (d2, aI k 81 (fun j9 => nI (tpl 3 c (g c / 4) g j9)))] rfl (fun j hj => by exact congrArg nI (by simp only [ad, sb, tpl, nbr]; repeat' (first | omega | split))) rfl ?_
              exact g_iret (pc := 131) C hr hlk (by first | decide | omega) (by first | decide | omega) (by first | decide | omega) dX1_toppleCell_131 ⟨rfl, rfl⟩
          · have k86 : 3 ≤ c := by rcases Nat.lt_or_ge (c) (3) with q | q; exact absurd (nI_lt q (by omega)) c_86; exact q
            refine g_aload_n (pc := 89) C 2 rfl rfl dX1_toppleCell_89 ?_
            refine g_get (pc := 90) C (T := TX1) inX1 0 rfl rfl 0 (by decide) q_130 rfl rfl dX1_toppleCell_90 ?_
            refine g_iload_n (pc := 93) C 3 rfl rfl dX1_toppleCell_93 ?_
            refine g_aload_n (pc := 94) C 2 rfl rfl dX1_toppleCell_94 ?_
            refine g_get (pc := 95) C (T := TX1) inX1 0 rfl rfl 1 (by decide) q_131 rfl rfl dX1_toppleCell_95 ?_
            refine g_isub (pc := 98) C dX1_toppleCell_98 ?_
            refine G.eqs (st' := [.int (nI (c - 3)), .ref d1]) (congrArg (β := List Value) (fun z9 => [.int z9, .ref d1]) (show (((nI c) - (nI 3)) : Int32) = (nI (c - 3)) from pk_sub (by omega))) ?_
            refine g_iload_n (pc := 99) C 1 rfl rfl dX1_toppleCell_99 ?_
            refine g_callV (pc := 100) (cells := 0) (slots := 0) (g := 0) (As := [.int (nI (c - 3)), .int (nI (g c / 4))]) (st := []) (T := TX8) (q0 := 1) C (nA := 2) rfl (c_X8_add_n d1 d2 81 (fun j9 => nI ((ad (sb g c (4 * (g c / 4))) (c + 1) (g c / 4)) j9)) (c - 3) (nI (g c / 4)) (by first | assumption | decide | omega) (by first | assumption | decide | omega)) q_433 q_59 q_57 q_6 q_56 (by decide +kernel) rfl rfl dX1_toppleCell_100 ⟨Nat.le_of_ble_eq_true rfl, Nat.le_of_ble_eq_true rfl⟩ [1, 2] [0] rfl (wr := [(o1, .inr (5, [.ref d1, .int (nI 3)]))]) rfl (by decide) (by decide) (by decide) (Nat.le_of_ble_eq_true rfl) ⟨Nat.le_of_ble_eq_true rfl, Nat.le_of_ble_eq_true rfl⟩ (fun rv w1 h1 => ?_)
            obtain ⟨rfl, rfl⟩ := h1
            refine G.aft [0, 1, 2] (ws' := [(o1, .inr (5, [.ref d1, .int (nI 3)])), (d1, .inr (12, [.ref d2])), (d2, aI k 81 (upd (fun j9 => nI ((ad (sb g c (4 * (g c / 4))) (c + 1) (g c / 4)) j9)) (c - 3) ((fun j9 => nI ((ad (sb g c (4 * (g c / 4))) (c + 1) (g c / 4)) j9)) (c - 3) + (nI (g c / 4)))))]) (st' := []) (cells' := 0) (slots' := 0) (g' := 0) (by decide) rfl rfl rfl rfl rfl ?_
            refine G.fn (fun j9 => nI ((ad (ad (sb g c (4 * (g c / 4))) (c + 1) (g c / 4)) (c - 3) (g c / 4)) j9)) 2 [(o1, .inr (5, [.ref d1, .int (nI 3)])), (d1, .inr (12, [.ref d2])), (d2, aI k 81 (fun j9 => nI ((ad (ad (sb g c (4 * (g c / 4))) (c + 1) (g c / 4)) (c - 3) (g c / 4)) j9)))] rfl (fun j hj => by exact ad_step _ _ _ j) rfl ?_
            refine g_iload_n (pc := 103) C 3 rfl rfl dX1_toppleCell_103 ?_
            refine g_aload_n (pc := 104) C 2 rfl rfl dX1_toppleCell_104 ?_
            refine g_callV (pc := 105) (cells := 0) (slots := 0) (g := 0) (As := []) (st := [.int (nI c)]) (T := TX1) (q0 := 0) C (nA := 0) rfl (c_X1_cellNumber o1 d1 (nI 3) ) q_434 q_235 q_233 q_182 q_232 (by decide +kernel) rfl rfl dX1_toppleCell_105 ⟨Nat.le_of_ble_eq_true rfl, Nat.le_of_ble_eq_true rfl⟩ [0] [1, 2] rfl (wr := [(d1, .inr (12, [.ref d2])), (d2, aI k 81 (fun j9 => nI ((ad (ad (sb g c (4 * (g c / 4))) (c + 1) (g c / 4)) (c - 3) (g c / 4)) j9)))]) rfl (by decide) (by decide) (by decide) (Nat.le_of_ble_eq_true rfl) ⟨Nat.le_of_ble_eq_true rfl, Nat.le_of_ble_eq_true rfl⟩ (fun rv w1 h1 => ?_)
            obtain ⟨rfl, rfl⟩ := h1
            refine G.aft [2, 0, 1] (ws' := [(o1, .inr (5, [.ref d1, .int (nI 3)])), (d1, .inr (12, [.ref d2])), (d2, aI k 81 (fun j9 => nI ((ad (ad (sb g c (4 * (g c / 4))) (c + 1) (g c / 4)) (c - 3) (g c / 4)) j9)))]) (st' := [.int ((nI 3) * (nI 3)), .int (nI c)]) (cells' := 0) (slots' := 0) (g' := 0) (by decide) rfl rfl rfl rfl rfl ?_
            refine g_aload_n (pc := 108) C 2 rfl rfl dX1_toppleCell_108 ?_
            refine g_get (pc := 109) C (T := TX1) inX1 0 rfl rfl 1 (by decide) q_131 rfl rfl dX1_toppleCell_109 ?_
            refine g_isub (pc := 112) C dX1_toppleCell_112 ?_
            refine G.eqs (st' := [.int (nI 6), .int (nI c)]) (congrArg (β := List Value) (fun z9 => [.int z9, .int (nI c)]) (show ((((nI 3) * (nI 3)) - (nI 3)) : Int32) = (nI 6) from by decide)) ?_
            refine g_icmp_ge (pc := 113) C 130 (by decide) dX1_toppleCell_113 (fun c_113 => ?_) (fun c_113 => ?_)
            · have k113 : 6 ≤ c := by rcases Nat.lt_or_ge (c) (6) with q | q; exact absurd (show nI (6) ≤ nI (c) from c_113) (nI_ge q (by omega)); exact q
              refine g_iload_n (pc := 130) C 1 rfl rfl dX1_toppleCell_130 ?_
              refine G.fn (fun j9 => nI (tpl 3 c (g c / 4) g j9)) 2 [(o1, .inr (5, [.ref d1, .int (nI 3)])), (d1, .inr (12, [.ref d2])), (d2, aI k 81 (fun j9 => nI (tpl 3 c (g c / 4) g j9)))] rfl (fun j hj => by exact congrArg nI (by simp only [ad, sb, tpl, nbr]; repeat' (first | omega | split))) rfl ?_
              exact g_iret (pc := 131) C hr hlk (by first | decide | omega) (by first | decide | omega) (by first | decide | omega) dX1_toppleCell_131 ⟨rfl, rfl⟩
            · have k113 : c < 6 := by rcases Nat.lt_or_ge (c) (6) with q | q; exact q; exact absurd (show nI (6) ≤ nI (c) from nI_le q (by omega)) c_113
              refine g_aload_n (pc := 116) C 2 rfl rfl dX1_toppleCell_116 ?_
              refine g_get (pc := 117) C (T := TX1) inX1 0 rfl rfl 0 (by decide) q_130 rfl rfl dX1_toppleCell_117 ?_
              refine g_iload_n (pc := 120) C 3 rfl rfl dX1_toppleCell_120 ?_
              refine g_aload_n (pc := 121) C 2 rfl rfl dX1_toppleCell_121 ?_
              refine g_get (pc := 122) C (T := TX1) inX1 0 rfl rfl 1 (by decide) q_131 rfl rfl dX1_toppleCell_122 ?_
              refine g_iadd (pc := 125) C dX1_toppleCell_125 ?_
              refine G.eqs (st' := [.int (nI (c + 3)), .ref d1]) (congrArg (β := List Value) (fun z9 => [.int z9, .ref d1]) (show (((nI c) + (nI 3)) : Int32) = (nI (c + 3)) from nI_add c 3)) ?_
              refine g_iload_n (pc := 126) C 1 rfl rfl dX1_toppleCell_126 ?_
              refine g_callV (pc := 127) (cells := 0) (slots := 0) (g := 0) (As := [.int (nI (c + 3)), .int (nI (g c / 4))]) (st := []) (T := TX8) (q0 := 1) C (nA := 2) rfl (c_X8_add_n d1 d2 81 (fun j9 => nI ((ad (ad (sb g c (4 * (g c / 4))) (c + 1) (g c / 4)) (c - 3) (g c / 4)) j9)) (c + 3) (nI (g c / 4)) (by first | assumption | decide | omega) (by first | assumption | decide | omega)) q_433 q_59 q_57 q_6 q_56 (by decide +kernel) rfl rfl dX1_toppleCell_127 ⟨Nat.le_of_ble_eq_true rfl, Nat.le_of_ble_eq_true rfl⟩ [1, 2] [0] rfl (wr := [(o1, .inr (5, [.ref d1, .int (nI 3)]))]) rfl (by decide) (by decide) (by decide) (Nat.le_of_ble_eq_true rfl) ⟨Nat.le_of_ble_eq_true rfl, Nat.le_of_ble_eq_true rfl⟩ (fun rv w1 h1 => ?_)
              obtain ⟨rfl, rfl⟩ := h1
              refine G.aft [0, 1, 2] (ws' := [(o1, .inr (5, [.ref d1, .int (nI 3)])), (d1, .inr (12, [.ref d2])), (d2, aI k 81 (upd (fun j9 => nI ((ad (ad (sb g c (4 * (g c / 4))) (c + 1) (g c / 4)) (c - 3) (g c / 4)) j9)) (c + 3) ((fun j9 => nI ((ad (ad (sb g c (4 * (g c / 4))) (c + 1) (g c / 4)) (c - 3) (g c / 4)) j9)) (c + 3) + (nI (g c / 4)))))]) (st' := []) (cells' := 0) (slots' := 0) (g' := 0) (by decide) rfl rfl rfl rfl rfl ?_
              refine G.fn (fun j9 => nI ((ad (ad (ad (sb g c (4 * (g c / 4))) (c + 1) (g c / 4)) (c - 3) (g c / 4)) (c + 3) (g c / 4)) j9)) 2 [(o1, .inr (5, [.ref d1, .int (nI 3)])), (d1, .inr (12, [.ref d2])), (d2, aI k 81 (fun j9 => nI ((ad (ad (ad (sb g c (4 * (g c / 4))) (c + 1) (g c / 4)) (c - 3) (g c / 4)) (c + 3) (g c / 4)) j9)))] rfl (fun j hj => by exact ad_step _ _ _ j) rfl ?_
              refine g_iload_n (pc := 130) C 1 rfl rfl dX1_toppleCell_130 ?_
              refine G.fn (fun j9 => nI (tpl 3 c (g c / 4) g j9)) 2 [(o1, .inr (5, [.ref d1, .int (nI 3)])), (d1, .inr (12, [.ref d2])), (d2, aI k 81 (fun j9 => nI (tpl 3 c (g c / 4) g j9)))] rfl (fun j hj => by exact congrArg nI (by simp only [ad, sb, tpl, nbr]; repeat' (first | omega | split))) rfl ?_
              exact g_iret (pc := 131) C hr hlk (by first | decide | omega) (by first | decide | omega) (by first | decide | omega) dX1_toppleCell_131 ⟨rfl, rfl⟩
      · have k46 : 0 < c % 3 := by rcases Nat.eq_zero_or_pos (c % 3) with q | q; rw [q] at c_46; exact absurd (show nI 0 ≤ 0 by decide) c_46; exact q
        refine g_aload_n (pc := 49) C 2 rfl rfl dX1_toppleCell_49 ?_
        refine g_get (pc := 50) C (T := TX1) inX1 0 rfl rfl 0 (by decide) q_130 rfl rfl dX1_toppleCell_50 ?_
        refine g_iload_n (pc := 53) C 3 rfl rfl dX1_toppleCell_53 ?_
        refine g_iconst (pc := 54) (v := 1) C (by decide) dX1_toppleCell_54 ?_
        refine g_isub (pc := 55) C dX1_toppleCell_55 ?_
        refine G.eqs (st' := [.int (nI (c - 1)), .ref d1]) (congrArg (β := List Value) (fun z9 => [.int z9, .ref d1]) (show (((nI c) - 1) : Int32) = (nI (c - 1)) from by rw [show (1 : Int32) = nI 1 from rfl]; exact pk_sub (by omega))) ?_
        refine g_iload_n (pc := 56) C 1 rfl rfl dX1_toppleCell_56 ?_
        refine g_callV (pc := 57) (cells := 0) (slots := 0) (g := 0) (As := [.int (nI (c - 1)), .int (nI (g c / 4))]) (st := []) (T := TX8) (q0 := 1) C (nA := 2) rfl (c_X8_add_n d1 d2 81 (fun j9 => nI ((sb g c (4 * (g c / 4))) j9)) (c - 1) (nI (g c / 4)) (by first | assumption | decide | omega) (by first | assumption | decide | omega)) q_433 q_59 q_57 q_6 q_56 (by decide +kernel) rfl rfl dX1_toppleCell_57 ⟨Nat.le_of_ble_eq_true rfl, Nat.le_of_ble_eq_true rfl⟩ [1, 2] [0] rfl (wr := [(o1, .inr (5, [.ref d1, .int (nI 3)]))]) rfl (by decide) (by decide) (by decide) (Nat.le_of_ble_eq_true rfl) ⟨Nat.le_of_ble_eq_true rfl, Nat.le_of_ble_eq_true rfl⟩ (fun rv w1 h1 => ?_)
        obtain ⟨rfl, rfl⟩ := h1
        refine G.aft [0, 1, 2] (ws' := [(o1, .inr (5, [.ref d1, .int (nI 3)])), (d1, .inr (12, [.ref d2])), (d2, aI k 81 (upd (fun j9 => nI ((sb g c (4 * (g c / 4))) j9)) (c - 1) ((fun j9 => nI ((sb g c (4 * (g c / 4))) j9)) (c - 1) + (nI (g c / 4)))))]) (st' := []) (cells' := 0) (slots' := 0) (g' := 0) (by decide) rfl rfl rfl rfl rfl ?_
        refine G.fn (fun j9 => nI ((ad (sb g c (4 * (g c / 4))) (c - 1) (g c / 4)) j9)) 2 [(o1, .inr (5, [.ref d1, .int (nI 3)])), (d1, .inr (12, [.ref d2])), (d2, aI k 81 (fun j9 => nI ((ad (sb g c (4 * (g c / 4))) (c - 1) (g c / 4)) j9)))] rfl (fun j hj => by exact ad_step _ _ _ j) rfl ?_
        refine g_iload_n (pc := 60) C 0 rfl rfl dX1_toppleCell_60 ?_
        refine g_aload_n (pc := 61) C 2 rfl rfl dX1_toppleCell_61 ?_
        refine g_get (pc := 62) C (T := TX1) inX1 0 rfl rfl 1 (by decide) q_131 rfl rfl dX1_toppleCell_62 ?_
        refine g_iconst (pc := 65) (v := 1) C (by decide) dX1_toppleCell_65 ?_
        refine g_isub (pc := 66) C dX1_toppleCell_66 ?_
        refine G.eqs (st' := [.int (nI 2), .int (nI (c % 3))]) (congrArg (β := List Value) (fun z9 => [.int z9, .int (nI (c % 3))]) (show (((nI 3) - 1) : Int32) = (nI 2) from by decide)) ?_
        refine g_icmp_ge (pc := 67) C 81 (by decide) dX1_toppleCell_67 (fun c_67 => ?_) (fun c_67 => ?_)
        · have k67 : 2 ≤ c % 3 := by rcases Nat.lt_or_ge (c % 3) (2) with q | q; exact absurd (show nI (2) ≤ nI (c % 3) from c_67) (nI_ge q (by omega)); exact q
          refine g_iload_n (pc := 81) C 3 rfl rfl dX1_toppleCell_81 ?_
          refine g_aload_n (pc := 82) C 2 rfl rfl dX1_toppleCell_82 ?_
          refine g_get (pc := 83) C (T := TX1) inX1 0 rfl rfl 1 (by decide) q_131 rfl rfl dX1_toppleCell_83 ?_
          refine g_icmp_lt (pc := 86) C 103 (by decide) dX1_toppleCell_86 (fun c_86 => ?_) (fun c_86 => ?_)
          · have k86 : c < 3 := by rcases Nat.lt_or_ge (c) (3) with q | q; exact q; exact absurd c_86 (nI_nlt q (by omega))
            refine g_iload_n (pc := 103) C 3 rfl rfl dX1_toppleCell_103 ?_
            refine g_aload_n (pc := 104) C 2 rfl rfl dX1_toppleCell_104 ?_
            refine g_callV (pc := 105) (cells := 0) (slots := 0) (g := 0) (As := []) (st := [.int (nI c)]) (T := TX1) (q0 := 0) C (nA := 0) rfl (c_X1_cellNumber o1 d1 (nI 3) ) q_434 q_235 q_233 q_182 q_232 (by decide +kernel) rfl rfl dX1_toppleCell_105 ⟨Nat.le_of_ble_eq_true rfl, Nat.le_of_ble_eq_true rfl⟩ [0] [1, 2] rfl (wr := [(d1, .inr (12, [.ref d2])), (d2, aI k 81 (fun j9 => nI ((ad (sb g c (4 * (g c / 4))) (c - 1) (g c / 4)) j9)))]) rfl (by decide) (by decide) (by decide) (Nat.le_of_ble_eq_true rfl) ⟨Nat.le_of_ble_eq_true rfl, Nat.le_of_ble_eq_true rfl⟩ (fun rv w1 h1 => ?_)
            obtain ⟨rfl, rfl⟩ := h1
            refine G.aft [2, 0, 1] (ws' := [(o1, .inr (5, [.ref d1, .int (nI 3)])), (d1, .inr (12, [.ref d2])), (d2, aI k 81 (fun j9 => nI ((ad (sb g c (4 * (g c / 4))) (c - 1) (g c / 4)) j9)))]) (st' := [.int ((nI 3) * (nI 3)), .int (nI c)]) (cells' := 0) (slots' := 0) (g' := 0) (by decide) rfl rfl rfl rfl rfl ?_
            refine g_aload_n (pc := 108) C 2 rfl rfl dX1_toppleCell_108 ?_
            refine g_get (pc := 109) C (T := TX1) inX1 0 rfl rfl 1 (by decide) q_131 rfl rfl dX1_toppleCell_109 ?_
            refine g_isub (pc := 112) C dX1_toppleCell_112 ?_
            refine G.eqs (st' := [.int (nI 6), .int (nI c)]) (congrArg (β := List Value) (fun z9 => [.int z9, .int (nI c)]) (show ((((nI 3) * (nI 3)) - (nI 3)) : Int32) = (nI 6) from by decide)) ?_
            refine g_icmp_ge (pc := 113) C 130 (by decide) dX1_toppleCell_113 (fun c_113 => ?_) (fun c_113 => ?_)
            · have k113 : 6 ≤ c := by rcases Nat.lt_or_ge (c) (6) with q | q; exact absurd (show nI (6) ≤ nI (c) from c_113) (nI_ge q (by omega)); exact q
              refine g_iload_n (pc := 130) C 1 rfl rfl dX1_toppleCell_130 ?_
              refine G.fn (fun j9 => nI (tpl 3 c (g c / 4) g j9)) 2 [(o1, .inr (5, [.ref d1, .int (nI 3)])), (d1, .inr (12, [.ref d2])), (d2, aI k 81 (fun j9 => nI (tpl 3 c (g c / 4) g j9)))] rfl (fun j hj => by exact congrArg nI (by simp only [ad, sb, tpl, nbr]; repeat' (first | omega | split))) rfl ?_
              exact g_iret (pc := 131) C hr hlk (by first | decide | omega) (by first | decide | omega) (by first | decide | omega) dX1_toppleCell_131 ⟨rfl, rfl⟩
            · have k113 : c < 6 := by rcases Nat.lt_or_ge (c) (6) with q | q; exact q; exact absurd (show nI (6) ≤ nI (c) from nI_le q (by omega)) c_113
              refine g_aload_n (pc := 116) C 2 rfl rfl dX1_toppleCell_116 ?_
              refine g_get (pc := 117) C (T := TX1) inX1 0 rfl rfl 0 (by decide) q_130 rfl rfl dX1_toppleCell_117 ?_
              refine g_iload_n (pc := 120) C 3 rfl rfl dX1_toppleCell_120 ?_
              refine g_aload_n (pc := 121) C 2 rfl rfl dX1_toppleCell_121 ?_
              refine g_get (pc := 122) C (T := TX1) inX1 0 rfl rfl 1 (by decide) q_131 rfl rfl dX1_toppleCell_122 ?_
              refine g_iadd (pc := 125) C dX1_toppleCell_125 ?_
              refine G.eqs (st' := [.int (nI (c + 3)), .ref d1]) (congrArg (β := List Value) (fun z9 => [.int z9, .ref d1]) (show (((nI c) + (nI 3)) : Int32) = (nI (c + 3)) from nI_add c 3)) ?_
              refine g_iload_n (pc := 126) C 1 rfl rfl dX1_toppleCell_126 ?_
              refine g_callV (pc := 127) (cells := 0) (slots := 0) (g := 0) (As := [.int (nI (c + 3)), .int (nI (g c / 4))]) (st := []) (T := TX8) (q0 := 1) C (nA := 2) rfl (c_X8_add_n d1 d2 81 (fun j9 => nI ((ad (sb g c (4 * (g c / 4))) (c - 1) (g c / 4)) j9)) (c + 3) (nI (g c / 4)) (by first | assumption | decide | omega) (by first | assumption | decide | omega)) q_433 q_59 q_57 q_6 q_56 (by decide +kernel) rfl rfl dX1_toppleCell_127 ⟨Nat.le_of_ble_eq_true rfl, Nat.le_of_ble_eq_true rfl⟩ [1, 2] [0] rfl (wr := [(o1, .inr (5, [.ref d1, .int (nI 3)]))]) rfl (by decide) (by decide) (by decide) (Nat.le_of_ble_eq_true rfl) ⟨Nat.le_of_ble_eq_true rfl, Nat.le_of_ble_eq_true rfl⟩ (fun rv w1 h1 => ?_)
              obtain ⟨rfl, rfl⟩ := h1
              refine G.aft [0, 1, 2] (ws' := [(o1, .inr (5, [.ref d1, .int (nI 3)])), (d1, .inr (12, [.ref d2])), (d2, aI k 81 (upd (fun j9 => nI ((ad (sb g c (4 * (g c / 4))) (c - 1) (g c / 4)) j9)) (c + 3) ((fun j9 => nI ((ad (sb g c (4 * (g c / 4))) (c - 1) (g c / 4)) j9)) (c + 3) + (nI (g c / 4)))))]) (st' := []) (cells' := 0) (slots' := 0) (g' := 0) (by decide) rfl rfl rfl rfl rfl ?_
              refine G.fn (fun j9 => nI ((ad (ad (sb g c (4 * (g c / 4))) (c - 1) (g c / 4)) (c + 3) (g c / 4)) j9)) 2 [(o1, .inr (5, [.ref d1, .int (nI 3)])), (d1, .inr (12, [.ref d2])), (d2, aI k 81 (fun j9 => nI ((ad (ad (sb g c (4 * (g c / 4))) (c - 1) (g c / 4)) (c + 3) (g c / 4)) j9)))] rfl (fun j hj => by exact ad_step _ _ _ j) rfl ?_
              refine g_iload_n (pc := 130) C 1 rfl rfl dX1_toppleCell_130 ?_
              refine G.fn (fun j9 => nI (tpl 3 c (g c / 4) g j9)) 2 [(o1, .inr (5, [.ref d1, .int (nI 3)])), (d1, .inr (12, [.ref d2])), (d2, aI k 81 (fun j9 => nI (tpl 3 c (g c / 4) g j9)))] rfl (fun j hj => by exact congrArg nI (by simp only [ad, sb, tpl, nbr]; repeat' (first | omega | split))) rfl ?_
              exact g_iret (pc := 131) C hr hlk (by first | decide | omega) (by first | decide | omega) (by first | decide | omega) dX1_toppleCell_131 ⟨rfl, rfl⟩
          · have k86 : 3 ≤ c := by rcases Nat.lt_or_ge (c) (3) with q | q; exact absurd (nI_lt q (by omega)) c_86; exact q
            refine g_aload_n (pc := 89) C 2 rfl rfl dX1_toppleCell_89 ?_
            refine g_get (pc := 90) C (T := TX1) inX1 0 rfl rfl 0 (by decide) q_130 rfl rfl dX1_toppleCell_90 ?_
            refine g_iload_n (pc := 93) C 3 rfl rfl dX1_toppleCell_93 ?_
            refine g_aload_n (pc := 94) C 2 rfl rfl dX1_toppleCell_94 ?_
            refine g_get (pc := 95) C (T := TX1) inX1 0 rfl rfl 1 (by decide) q_131 rfl rfl dX1_toppleCell_95 ?_
            refine g_isub (pc := 98) C dX1_toppleCell_98 ?_
            refine G.eqs (st' := [.int (nI (c - 3)), .ref d1]) (congrArg (β := List Value) (fun z9 => [.int z9, .ref d1]) (show (((nI c) - (nI 3)) : Int32) = (nI (c - 3)) from pk_sub (by omega))) ?_
            refine g_iload_n (pc := 99) C 1 rfl rfl dX1_toppleCell_99 ?_
            refine g_callV (pc := 100) (cells := 0) (slots := 0) (g := 0) (As := [.int (nI (c - 3)), .int (nI (g c / 4))]) (st := []) (T := TX8) (q0 := 1) C (nA := 2) rfl (c_X8_add_n d1 d2 81 (fun j9 => nI ((ad (sb g c (4 * (g c / 4))) (c - 1) (g c / 4)) j9)) (c - 3) (nI (g c / 4)) (by first | assumption | decide | omega) (by first | assumption | decide | omega)) q_433 q_59 q_57 q_6 q_56 (by decide +kernel) rfl rfl dX1_toppleCell_100 ⟨Nat.le_of_ble_eq_true rfl, Nat.le_of_ble_eq_true rfl⟩ [1, 2] [0] rfl (wr := [(o1, .inr (5, [.ref d1, .int (nI 3)]))]) rfl (by decide) (by decide) (by decide) (Nat.le_of_ble_eq_true rfl) ⟨Nat.le_of_ble_eq_true rfl, Nat.le_of_ble_eq_true rfl⟩ (fun rv w1 h1 => ?_)
            obtain ⟨rfl, rfl⟩ := h1
            refine G.aft [0, 1, 2] (ws' := [(o1, .inr (5, [.ref d1, .int (nI 3)])), (d1, .inr (12, [.ref d2])), (d2, aI k 81 (upd (fun j9 => nI ((ad (sb g c (4 * (g c / 4))) (c - 1) (g c / 4)) j9)) (c - 3) ((fun j9 => nI ((ad (sb g c (4 * (g c / 4))) (c - 1) (g c / 4)) j9)) (c - 3) + (nI (g c / 4)))))]) (st' := []) (cells' := 0) (slots' := 0) (g' := 0) (by decide) rfl rfl rfl rfl rfl ?_
            refine G.fn (fun j9 => nI ((ad (ad (sb g c (4 * (g c / 4))) (c - 1) (g c / 4)) (c - 3) (g c / 4)) j9)) 2 [(o1, .inr (5, [.ref d1, .int (nI 3)])), (d1, .inr (12, [.ref d2])), (d2, aI k 81 (fun j9 => nI ((ad (ad (sb g c (4 * (g c / 4))) (c - 1) (g c / 4)) (c - 3) (g c / 4)) j9)))] rfl (fun j hj => by exact ad_step _ _ _ j) rfl ?_
            refine g_iload_n (pc := 103) C 3 rfl rfl dX1_toppleCell_103 ?_
            refine g_aload_n (pc := 104) C 2 rfl rfl dX1_toppleCell_104 ?_
            refine g_callV (pc := 105) (cells := 0) (slots := 0) (g := 0) (As := []) (st := [.int (nI c)]) (T := TX1) (q0 := 0) C (nA := 0) rfl (c_X1_cellNumber o1 d1 (nI 3) ) q_434 q_235 q_233 q_182 q_232 (by decide +kernel) rfl rfl dX1_toppleCell_105 ⟨Nat.le_of_ble_eq_true rfl, Nat.le_of_ble_eq_true rfl⟩ [0] [1, 2] rfl (wr := [(d1, .inr (12, [.ref d2])), (d2, aI k 81 (fun j9 => nI ((ad (ad (sb g c (4 * (g c / 4))) (c - 1) (g c / 4)) (c - 3) (g c / 4)) j9)))]) rfl (by decide) (by decide) (by decide) (Nat.le_of_ble_eq_true rfl) ⟨Nat.le_of_ble_eq_true rfl, Nat.le_of_ble_eq_true rfl⟩ (fun rv w1 h1 => ?_)
            obtain ⟨rfl, rfl⟩ := h1
            refine G.aft [2, 0, 1] (ws' := [(o1, .inr (5, [.ref d1, .int (nI 3)])), (d1, .inr (12, [.ref d2])), (d2, aI k 81 (fun j9 => nI ((ad (ad (sb g c (4 * (g c / 4))) (c - 1) (g c / 4)) (c - 3) (g c / 4)) j9)))]) (st' := [.int ((nI 3) * (nI 3)), .int (nI c)]) (cells' := 0) (slots' := 0) (g' := 0) (by decide) rfl rfl rfl rfl rfl ?_
            refine g_aload_n (pc := 108) C 2 rfl rfl dX1_toppleCell_108 ?_
            refine g_get (pc := 109) C (T := TX1) inX1 0 rfl rfl 1 (by decide) q_131 rfl rfl dX1_toppleCell_109 ?_
            refine g_isub (pc := 112) C dX1_toppleCell_112 ?_
            refine G.eqs (st' := [.int (nI 6), .int (nI c)]) (congrArg (β := List Value) (fun z9 => [.int z9, .int (nI c)]) (show ((((nI 3) * (nI 3)) - (nI 3)) : Int32) = (nI 6) from by decide)) ?_
            refine g_icmp_ge (pc := 113) C 130 (by decide) dX1_toppleCell_113 (fun c_113 => ?_) (fun c_113 => ?_)
            · have k113 : 6 ≤ c := by rcases Nat.lt_or_ge (c) (6) with q | q; exact absurd (show nI (6) ≤ nI (c) from c_113) (nI_ge q (by omega)); exact q
              refine g_iload_n (pc := 130) C 1 rfl rfl dX1_toppleCell_130 ?_
              refine G.fn (fun j9 => nI (tpl 3 c (g c / 4) g j9)) 2 [(o1, .inr (5, [.ref d1, .int (nI 3)])), (d1, .inr (12, [.ref d2])), (d2, aI k 81 (fun j9 => nI (tpl 3 c (g c / 4) g j9)))] rfl (fun j hj => by exact congrArg nI (by simp only [ad, sb, tpl, nbr]; repeat' (first | omega | split))) rfl ?_
              exact g_iret (pc := 131) C hr hlk (by first | decide | omega) (by first | decide | omega) (by first | decide | omega) dX1_toppleCell_131 ⟨rfl, rfl⟩
            · have k113 : c < 6 := by rcases Nat.lt_or_ge (c) (6) with q | q; exact q; exact absurd (show nI (6) ≤ nI (c) from nI_le q (by omega)) c_113
              refine g_aload_n (pc := 116) C 2 rfl rfl dX1_toppleCell_116 ?_
              refine g_get (pc := 117) C (T := TX1) inX1 0 rfl rfl 0 (by decide) q_130 rfl rfl dX1_toppleCell_117 ?_
              refine g_iload_n (pc := 120) C 3 rfl rfl dX1_toppleCell_120 ?_
              refine g_aload_n (pc := 121) C 2 rfl rfl dX1_toppleCell_121 ?_
              refine g_get (pc := 122) C (T := TX1) inX1 0 rfl rfl 1 (by decide) q_131 rfl rfl dX1_toppleCell_122 ?_
              refine g_iadd (pc := 125) C dX1_toppleCell_125 ?_
              refine G.eqs (st' := [.int (nI (c + 3)), .ref d1]) (congrArg (β := List Value) (fun z9 => [.int z9, .ref d1]) (show (((nI c) + (nI 3)) : Int32) = (nI (c + 3)) from nI_add c 3)) ?_
              refine g_iload_n (pc := 126) C 1 rfl rfl dX1_toppleCell_126 ?_
              refine g_callV (pc := 127) (cells := 0) (slots := 0) (g := 0) (As := [.int (nI (c + 3)), .int (nI (g c / 4))]) (st := []) (T := TX8) (q0 := 1) C (nA := 2) rfl (c_X8_add_n d1 d2 81 (fun j9 => nI ((ad (ad (sb g c (4 * (g c / 4))) (c - 1) (g c / 4)) (c - 3) (g c / 4)) j9)) (c + 3) (nI (g c / 4)) (by first | assumption | decide | omega) (by first | assumption | decide | omega)) q_433 q_59 q_57 q_6 q_56 (by decide +kernel) rfl rfl dX1_toppleCell_127 ⟨Nat.le_of_ble_eq_true rfl, Nat.le_of_ble_eq_true rfl⟩ [1, 2] [0] rfl (wr := [(o1, .inr (5, [.ref d1, .int (nI 3)]))]) rfl (by decide) (by decide) (by decide) (Nat.le_of_ble_eq_true rfl) ⟨Nat.le_of_ble_eq_true rfl, Nat.le_of_ble_eq_true rfl⟩ (fun rv w1 h1 => ?_)
              obtain ⟨rfl, rfl⟩ := h1
              refine G.aft [0, 1, 2] (ws' := [(o1, .inr (5, [.ref d1, .int (nI 3)])), (d1, .inr (12, [.ref d2])), (d2, aI k 81 (upd (fun j9 => nI ((ad (ad (sb g c (4 * (g c / 4))) (c - 1) (g c / 4)) (c - 3) (g c / 4)) j9)) (c + 3) ((fun j9 => nI ((ad (ad (sb g c (4 * (g c / 4))) (c - 1) (g c / 4)) (c - 3) (g c / 4)) j9)) (c + 3) + (nI (g c / 4)))))]) (st' := []) (cells' := 0) (slots' := 0) (g' := 0) (by decide) rfl rfl rfl rfl rfl ?_
              refine G.fn (fun j9 => nI ((ad (ad (ad (sb g c (4 * (g c / 4))) (c - 1) (g c / 4)) (c - 3) (g c / 4)) (c + 3) (g c / 4)) j9)) 2 [(o1, .inr (5, [.ref d1, .int (nI 3)])), (d1, .inr (12, [.ref d2])), (d2, aI k 81 (fun j9 => nI ((ad (ad (ad (sb g c (4 * (g c / 4))) (c - 1) (g c / 4)) (c - 3) (g c / 4)) (c + 3) (g c / 4)) j9)))] rfl (fun j hj => by exact ad_step _ _ _ j) rfl ?_
              refine g_iload_n (pc := 130) C 1 rfl rfl dX1_toppleCell_130 ?_
              refine G.fn (fun j9 => nI (tpl 3 c (g c / 4) g j9)) 2 [(o1, .inr (5, [.ref d1, .int (nI 3)])), (d1, .inr (12, [.ref d2])), (d2, aI k 81 (fun j9 => nI (tpl 3 c (g c / 4) g j9)))] rfl (fun j hj => by exact congrArg nI (by simp only [ad, sb, tpl, nbr]; repeat' (first | omega | split))) rfl ?_
              exact g_iret (pc := 131) C hr hlk (by first | decide | omega) (by first | decide | omega) (by first | decide | omega) dX1_toppleCell_131 ⟨rfl, rfl⟩
        · have k67 : c % 3 < 2 := by rcases Nat.lt_or_ge (c % 3) (2) with q | q; exact q; exact absurd (show nI (2) ≤ nI (c % 3) from nI_le q (by omega)) c_67
          refine g_aload_n (pc := 70) C 2 rfl rfl dX1_toppleCell_70 ?_
          refine g_get (pc := 71) C (T := TX1) inX1 0 rfl rfl 0 (by decide) q_130 rfl rfl dX1_toppleCell_71 ?_
          refine g_iload_n (pc := 74) C 3 rfl rfl dX1_toppleCell_74 ?_
          refine g_iconst (pc := 75) (v := 1) C (by decide) dX1_toppleCell_75 ?_
          refine g_iadd (pc := 76) C dX1_toppleCell_76 ?_
          refine G.eqs (st' := [.int (nI (c + 1)), .ref d1]) (congrArg (β := List Value) (fun z9 => [.int z9, .ref d1]) (show (((nI c) + 1) : Int32) = (nI (c + 1)) from nI_1 c)) ?_
          refine g_iload_n (pc := 77) C 1 rfl rfl dX1_toppleCell_77 ?_
          refine g_callV (pc := 78) (cells := 0) (slots := 0) (g := 0) (As := [.int (nI (c + 1)), .int (nI (g c / 4))]) (st := []) (T := TX8) (q0 := 1) C (nA := 2) rfl (c_X8_add_n d1 d2 81 (fun j9 => nI ((ad (sb g c (4 * (g c / 4))) (c - 1) (g c / 4)) j9)) (c + 1) (nI (g c / 4)) (by first | assumption | decide | omega) (by first | assumption | decide | omega)) q_433 q_59 q_57 q_6 q_56 (by decide +kernel) rfl rfl dX1_toppleCell_78 ⟨Nat.le_of_ble_eq_true rfl, Nat.le_of_ble_eq_true rfl⟩ [1, 2] [0] rfl (wr := [(o1, .inr (5, [.ref d1, .int (nI 3)]))]) rfl (by decide) (by decide) (by decide) (Nat.le_of_ble_eq_true rfl) ⟨Nat.le_of_ble_eq_true rfl, Nat.le_of_ble_eq_true rfl⟩ (fun rv w1 h1 => ?_)
          obtain ⟨rfl, rfl⟩ := h1
          refine G.aft [0, 1, 2] (ws' := [(o1, .inr (5, [.ref d1, .int (nI 3)])), (d1, .inr (12, [.ref d2])), (d2, aI k 81 (upd (fun j9 => nI ((ad (sb g c (4 * (g c / 4))) (c - 1) (g c / 4)) j9)) (c + 1) ((fun j9 => nI ((ad (sb g c (4 * (g c / 4))) (c - 1) (g c / 4)) j9)) (c + 1) + (nI (g c / 4)))))]) (st' := []) (cells' := 0) (slots' := 0) (g' := 0) (by decide) rfl rfl rfl rfl rfl ?_
          refine G.fn (fun j9 => nI ((ad (ad (sb g c (4 * (g c / 4))) (c - 1) (g c / 4)) (c + 1) (g c / 4)) j9)) 2 [(o1, .inr (5, [.ref d1, .int (nI 3)])), (d1, .inr (12, [.ref d2])), (d2, aI k 81 (fun j9 => nI ((ad (ad (sb g c (4 * (g c / 4))) (c - 1) (g c / 4)) (c + 1) (g c / 4)) j9)))] rfl (fun j hj => by exact ad_step _ _ _ j) rfl ?_
          refine g_iload_n (pc := 81) C 3 rfl rfl dX1_toppleCell_81 ?_
          refine g_aload_n (pc := 82) C 2 rfl rfl dX1_toppleCell_82 ?_
          refine g_get (pc := 83) C (T := TX1) inX1 0 rfl rfl 1 (by decide) q_131 rfl rfl dX1_toppleCell_83 ?_
          refine g_icmp_lt (pc := 86) C 103 (by decide) dX1_toppleCell_86 (fun c_86 => ?_) (fun c_86 => ?_)
          · have k86 : c < 3 := by rcases Nat.lt_or_ge (c) (3) with q | q; exact q; exact absurd c_86 (nI_nlt q (by omega))
            refine g_iload_n (pc := 103) C 3 rfl rfl dX1_toppleCell_103 ?_
            refine g_aload_n (pc := 104) C 2 rfl rfl dX1_toppleCell_104 ?_
            refine g_callV (pc := 105) (cells := 0) (slots := 0) (g := 0) (As := []) (st := [.int (nI c)]) (T := TX1) (q0 := 0) C (nA := 0) rfl (c_X1_cellNumber o1 d1 (nI 3) ) q_434 q_235 q_233 q_182 q_232 (by decide +kernel) rfl rfl dX1_toppleCell_105 ⟨Nat.le_of_ble_eq_true rfl, Nat.le_of_ble_eq_true rfl⟩ [0] [1, 2] rfl (wr := [(d1, .inr (12, [.ref d2])), (d2, aI k 81 (fun j9 => nI ((ad (ad (sb g c (4 * (g c / 4))) (c - 1) (g c / 4)) (c + 1) (g c / 4)) j9)))]) rfl (by decide) (by decide) (by decide) (Nat.le_of_ble_eq_true rfl) ⟨Nat.le_of_ble_eq_true rfl, Nat.le_of_ble_eq_true rfl⟩ (fun rv w1 h1 => ?_)
            obtain ⟨rfl, rfl⟩ := h1
            refine G.aft [2, 0, 1] (ws' := [(o1, .inr (5, [.ref d1, .int (nI 3)])), (d1, .inr (12, [.ref d2])), (d2, aI k 81 (fun j9 => nI ((ad (ad (sb g c (4 * (g c / 4))) (c - 1) (g c / 4)) (c + 1) (g c / 4)) j9)))]) (st' := [.int ((nI 3) * (nI 3)), .int (nI c)]) (cells' := 0) (slots' := 0) (g' := 0) (by decide) rfl rfl rfl rfl rfl ?_
            refine g_aload_n (pc := 108) C 2 rfl rfl dX1_toppleCell_108 ?_
            refine g_get (pc := 109) C (T := TX1) inX1 0 rfl rfl 1 (by decide) q_131 rfl rfl dX1_toppleCell_109 ?_
            refine g_isub (pc := 112) C dX1_toppleCell_112 ?_
            refine G.eqs (st' := [.int (nI 6), .int (nI c)]) (congrArg (β := List Value) (fun z9 => [.int z9, .int (nI c)]) (show ((((nI 3) * (nI 3)) - (nI 3)) : Int32) = (nI 6) from by decide)) ?_
            refine g_icmp_ge (pc := 113) C 130 (by decide) dX1_toppleCell_113 (fun c_113 => ?_) (fun c_113 => ?_)
            · have k113 : 6 ≤ c := by rcases Nat.lt_or_ge (c) (6) with q | q; exact absurd (show nI (6) ≤ nI (c) from c_113) (nI_ge q (by omega)); exact q
              refine g_iload_n (pc := 130) C 1 rfl rfl dX1_toppleCell_130 ?_
              refine G.fn (fun j9 => nI (tpl 3 c (g c / 4) g j9)) 2 [(o1, .inr (5, [.ref d1, .int (nI 3)])), (d1, .inr (12, [.ref d2])), (d2, aI k 81 (fun j9 => nI (tpl 3 c (g c / 4) g j9)))] rfl (fun j hj => by exact congrArg nI (by simp only [ad, sb, tpl, nbr]; repeat' (first | omega | split))) rfl ?_
              exact g_iret (pc := 131) C hr hlk (by first | decide | omega) (by first | decide | omega) (by first | decide | omega) dX1_toppleCell_131 ⟨rfl, rfl⟩
            · have k113 : c < 6 := by rcases Nat.lt_or_ge (c) (6) with q | q; exact q; exact absurd (show nI (6) ≤ nI (c) from nI_le q (by omega)) c_113
              refine g_aload_n (pc := 116) C 2 rfl rfl dX1_toppleCell_116 ?_
              refine g_get (pc := 117) C (T := TX1) inX1 0 rfl rfl 0 (by decide) q_130 rfl rfl dX1_toppleCell_117 ?_
              refine g_iload_n (pc := 120) C 3 rfl rfl dX1_toppleCell_120 ?_
              refine g_aload_n (pc := 121) C 2 rfl rfl dX1_toppleCell_121 ?_
              refine g_get (pc := 122) C (T := TX1) inX1 0 rfl rfl 1 (by decide) q_131 rfl rfl dX1_toppleCell_122 ?_
              refine g_iadd (pc := 125) C dX1_toppleCell_125 ?_
              refine G.eqs (st' := [.int (nI (c + 3)), .ref d1]) (congrArg (β := List Value) (fun z9 => [.int z9, .ref d1]) (show (((nI c) + (nI 3)) : Int32) = (nI (c + 3)) from nI_add c 3)) ?_
              refine g_iload_n (pc := 126) C 1 rfl rfl dX1_toppleCell_126 ?_
              refine g_callV (pc := 127) (cells := 0) (slots := 0) (g := 0) (As := [.int (nI (c + 3)), .int (nI (g c / 4))]) (st := []) (T := TX8) (q0 := 1) C (nA := 2) rfl (c_X8_add_n d1 d2 81 (fun j9 => nI ((ad (ad (sb g c (4 * (g c / 4))) (c - 1) (g c / 4)) (c + 1) (g c / 4)) j9)) (c + 3) (nI (g c / 4)) (by first | assumption | decide | omega) (by first | assumption | decide | omega)) q_433 q_59 q_57 q_6 q_56 (by decide +kernel) rfl rfl dX1_toppleCell_127 ⟨Nat.le_of_ble_eq_true rfl, Nat.le_of_ble_eq_true rfl⟩ [1, 2] [0] rfl (wr := [(o1, .inr (5, [.ref d1, .int (nI 3)]))]) rfl (by decide) (by decide) (by decide) (Nat.le_of_ble_eq_true rfl) ⟨Nat.le_of_ble_eq_true rfl, Nat.le_of_ble_eq_true rfl⟩ (fun rv w1 h1 => ?_)
              obtain ⟨rfl, rfl⟩ := h1
              refine G.aft [0, 1, 2] (ws' := [(o1, .inr (5, [.ref d1, .int (nI 3)])), (d1, .inr (12, [.ref d2])), (d2, aI k 81 (upd (fun j9 => nI ((ad (ad (sb g c (4 * (g c / 4))) (c - 1) (g c / 4)) (c + 1) (g c / 4)) j9)) (c + 3) ((fun j9 => nI ((ad (ad (sb g c (4 * (g c / 4))) (c - 1) (g c / 4)) (c + 1) (g c / 4)) j9)) (c + 3) + (nI (g c / 4)))))]) (st' := []) (cells' := 0) (slots' := 0) (g' := 0) (by decide) rfl rfl rfl rfl rfl ?_
              refine G.fn (fun j9 => nI ((ad (ad (ad (sb g c (4 * (g c / 4))) (c - 1) (g c / 4)) (c + 1) (g c / 4)) (c + 3) (g c / 4)) j9)) 2 [(o1, .inr (5, [.ref d1, .int (nI 3)])), (d1, .inr (12, [.ref d2])), (d2, aI k 81 (fun j9 => nI ((ad (ad (ad (sb g c (4 * (g c / 4))) (c - 1) (g c / 4)) (c + 1) (g c / 4)) (c + 3) (g c / 4)) j9)))] rfl (fun j hj => by exact ad_step _ _ _ j) rfl ?_
              refine g_iload_n (pc := 130) C 1 rfl rfl dX1_toppleCell_130 ?_
              refine G.fn (fun j9 => nI (tpl 3 c (g c / 4) g j9)) 2 [(o1, .inr (5, [.ref d1, .int (nI 3)])), (d1, .inr (12, [.ref d2])), (d2, aI k 81 (fun j9 => nI (tpl 3 c (g c / 4) g j9)))] rfl (fun j hj => by exact congrArg nI (by simp only [ad, sb, tpl, nbr]; repeat' (first | omega | split))) rfl ?_
              exact g_iret (pc := 131) C hr hlk (by first | decide | omega) (by first | decide | omega) (by first | decide | omega) dX1_toppleCell_131 ⟨rfl, rfl⟩
          · have k86 : 3 ≤ c := by rcases Nat.lt_or_ge (c) (3) with q | q; exact absurd (nI_lt q (by omega)) c_86; exact q
            refine g_aload_n (pc := 89) C 2 rfl rfl dX1_toppleCell_89 ?_
            refine g_get (pc := 90) C (T := TX1) inX1 0 rfl rfl 0 (by decide) q_130 rfl rfl dX1_toppleCell_90 ?_
            refine g_iload_n (pc := 93) C 3 rfl rfl dX1_toppleCell_93 ?_
            refine g_aload_n (pc := 94) C 2 rfl rfl dX1_toppleCell_94 ?_
            refine g_get (pc := 95) C (T := TX1) inX1 0 rfl rfl 1 (by decide) q_131 rfl rfl dX1_toppleCell_95 ?_
            refine g_isub (pc := 98) C dX1_toppleCell_98 ?_
            refine G.eqs (st' := [.int (nI (c - 3)), .ref d1]) (congrArg (β := List Value) (fun z9 => [.int z9, .ref d1]) (show (((nI c) - (nI 3)) : Int32) = (nI (c - 3)) from pk_sub (by omega))) ?_
            refine g_iload_n (pc := 99) C 1 rfl rfl dX1_toppleCell_99 ?_
            refine g_callV (pc := 100) (cells := 0) (slots := 0) (g := 0) (As := [.int (nI (c - 3)), .int (nI (g c / 4))]) (st := []) (T := TX8) (q0 := 1) C (nA := 2) rfl (c_X8_add_n d1 d2 81 (fun j9 => nI ((ad (ad (sb g c (4 * (g c / 4))) (c - 1) (g c / 4)) (c + 1) (g c / 4)) j9)) (c - 3) (nI (g c / 4)) (by first | assumption | decide | omega) (by first | assumption | decide | omega)) q_433 q_59 q_57 q_6 q_56 (by decide +kernel) rfl rfl dX1_toppleCell_100 ⟨Nat.le_of_ble_eq_true rfl, Nat.le_of_ble_eq_true rfl⟩ [1, 2] [0] rfl (wr := [(o1, .inr (5, [.ref d1, .int (nI 3)]))]) rfl (by decide) (by decide) (by decide) (Nat.le_of_ble_eq_true rfl) ⟨Nat.le_of_ble_eq_true rfl, Nat.le_of_ble_eq_true rfl⟩ (fun rv w1 h1 => ?_)
            obtain ⟨rfl, rfl⟩ := h1
            refine G.aft [0, 1, 2] (ws' := [(o1, .inr (5, [.ref d1, .int (nI 3)])), (d1, .inr (12, [.ref d2])), (d2, aI k 81 (upd (fun j9 => nI ((ad (ad (sb g c (4 * (g c / 4))) (c - 1) (g c / 4)) (c + 1) (g c / 4)) j9)) (c - 3) ((fun j9 => nI ((ad (ad (sb g c (4 * (g c / 4))) (c - 1) (g c / 4)) (c + 1) (g c / 4)) j9)) (c - 3) + (nI (g c / 4)))))]) (st' := []) (cells' := 0) (slots' := 0) (g' := 0) (by decide) rfl rfl rfl rfl rfl ?_
            refine G.fn (fun j9 => nI ((ad (ad (ad (sb g c (4 * (g c / 4))) (c - 1) (g c / 4)) (c + 1) (g c / 4)) (c - 3) (g c / 4)) j9)) 2 [(o1, .inr (5, [.ref d1, .int (nI 3)])), (d1, .inr (12, [.ref d2])), (d2, aI k 81 (fun j9 => nI ((ad (ad (ad (sb g c (4 * (g c / 4))) (c - 1) (g c / 4)) (c + 1) (g c / 4)) (c - 3) (g c / 4)) j9)))] rfl (fun j hj => by exact ad_step _ _ _ j) rfl ?_
            refine g_iload_n (pc := 103) C 3 rfl rfl dX1_toppleCell_103 ?_
            refine g_aload_n (pc := 104) C 2 rfl rfl dX1_toppleCell_104 ?_
            refine g_callV (pc := 105) (cells := 0) (slots := 0) (g := 0) (As := []) (st := [.int (nI c)]) (T := TX1) (q0 := 0) C (nA := 0) rfl (c_X1_cellNumber o1 d1 (nI 3) ) q_434 q_235 q_233 q_182 q_232 (by decide +kernel) rfl rfl dX1_toppleCell_105 ⟨Nat.le_of_ble_eq_true rfl, Nat.le_of_ble_eq_true rfl⟩ [0] [1, 2] rfl (wr := [(d1, .inr (12, [.ref d2])), (d2, aI k 81 (fun j9 => nI ((ad (ad (ad (sb g c (4 * (g c / 4))) (c - 1) (g c / 4)) (c + 1) (g c / 4)) (c - 3) (g c / 4)) j9)))]) rfl (by decide) (by decide) (by decide) (Nat.le_of_ble_eq_true rfl) ⟨Nat.le_of_ble_eq_true rfl, Nat.le_of_ble_eq_true rfl⟩ (fun rv w1 h1 => ?_)
            obtain ⟨rfl, rfl⟩ := h1
            refine G.aft [2, 0, 1] (ws' := [(o1, .inr (5, [.ref d1, .int (nI 3)])), (d1, .inr (12, [.ref d2])), (d2, aI k 81 (fun j9 => nI ((ad (ad (ad (sb g c (4 * (g c / 4))) (c - 1) (g c / 4)) (c + 1) (g c / 4)) (c - 3) (g c / 4)) j9)))]) (st' := [.int ((nI 3) * (nI 3)), .int (nI c)]) (cells' := 0) (slots' := 0) (g' := 0) (by decide) rfl rfl rfl rfl rfl ?_
            refine g_aload_n (pc := 108) C 2 rfl rfl dX1_toppleCell_108 ?_
            refine g_get (pc := 109) C (T := TX1) inX1 0 rfl rfl 1 (by decide) q_131 rfl rfl dX1_toppleCell_109 ?_
            refine g_isub (pc := 112) C dX1_toppleCell_112 ?_
            refine G.eqs (st' := [.int (nI 6), .int (nI c)]) (congrArg (β := List Value) (fun z9 => [.int z9, .int (nI c)]) (show ((((nI 3) * (nI 3)) - (nI 3)) : Int32) = (nI 6) from by decide)) ?_
            refine g_icmp_ge (pc := 113) C 130 (by decide) dX1_toppleCell_113 (fun c_113 => ?_) (fun c_113 => ?_)
            · have k113 : 6 ≤ c := by rcases Nat.lt_or_ge (c) (6) with q | q; exact absurd (show nI (6) ≤ nI (c) from c_113) (nI_ge q (by omega)); exact q
              refine g_iload_n (pc := 130) C 1 rfl rfl dX1_toppleCell_130 ?_
              refine G.fn (fun j9 => nI (tpl 3 c (g c / 4) g j9)) 2 [(o1, .inr (5, [.ref d1, .int (nI 3)])), (d1, .inr (12, [.ref d2])), (d2, aI k 81 (fun j9 => nI (tpl 3 c (g c / 4) g j9)))] rfl (fun j hj => by exact congrArg nI (by simp only [ad, sb, tpl, nbr]; repeat' (first | omega | split))) rfl ?_
              exact g_iret (pc := 131) C hr hlk (by first | decide | omega) (by first | decide | omega) (by first | decide | omega) dX1_toppleCell_131 ⟨rfl, rfl⟩
            · have k113 : c < 6 := by rcases Nat.lt_or_ge (c) (6) with q | q; exact q; exact absurd (show nI (6) ≤ nI (c) from nI_le q (by omega)) c_113
              refine g_aload_n (pc := 116) C 2 rfl rfl dX1_toppleCell_116 ?_
              refine g_get (pc := 117) C (T := TX1) inX1 0 rfl rfl 0 (by decide) q_130 rfl rfl dX1_toppleCell_117 ?_
              refine g_iload_n (pc := 120) C 3 rfl rfl dX1_toppleCell_120 ?_
              refine g_aload_n (pc := 121) C 2 rfl rfl dX1_toppleCell_121 ?_
              refine g_get (pc := 122) C (T := TX1) inX1 0 rfl rfl 1 (by decide) q_131 rfl rfl dX1_toppleCell_122 ?_
              refine g_iadd (pc := 125) C dX1_toppleCell_125 ?_
              refine G.eqs (st' := [.int (nI (c + 3)), .ref d1]) (congrArg (β := List Value) (fun z9 => [.int z9, .ref d1]) (show (((nI c) + (nI 3)) : Int32) = (nI (c + 3)) from nI_add c 3)) ?_
              refine g_iload_n (pc := 126) C 1 rfl rfl dX1_toppleCell_126 ?_
              refine g_callV (pc := 127) (cells := 0) (slots := 0) (g := 0) (As := [.int (nI (c + 3)), .int (nI (g c / 4))]) (st := []) (T := TX8) (q0 := 1) C (nA := 2) rfl (c_X8_add_n d1 d2 81 (fun j9 => nI ((ad (ad (ad (sb g c (4 * (g c / 4))) (c - 1) (g c / 4)) (c + 1) (g c / 4)) (c - 3) (g c / 4)) j9)) (c + 3) (nI (g c / 4)) (by first | assumption | decide | omega) (by first | assumption | decide | omega)) q_433 q_59 q_57 q_6 q_56 (by decide +kernel) rfl rfl dX1_toppleCell_127 ⟨Nat.le_of_ble_eq_true rfl, Nat.le_of_ble_eq_true rfl⟩ [1, 2] [0] rfl (wr := [(o1, .inr (5, [.ref d1, .int (nI 3)]))]) rfl (by decide) (by decide) (by decide) (Nat.le_of_ble_eq_true rfl) ⟨Nat.le_of_ble_eq_true rfl, Nat.le_of_ble_eq_true rfl⟩ (fun rv w1 h1 => ?_)
              obtain ⟨rfl, rfl⟩ := h1
              refine G.aft [0, 1, 2] (ws' := [(o1, .inr (5, [.ref d1, .int (nI 3)])), (d1, .inr (12, [.ref d2])), (d2, aI k 81 (upd (fun j9 => nI ((ad (ad (ad (sb g c (4 * (g c / 4))) (c - 1) (g c / 4)) (c + 1) (g c / 4)) (c - 3) (g c / 4)) j9)) (c + 3) ((fun j9 => nI ((ad (ad (ad (sb g c (4 * (g c / 4))) (c - 1) (g c / 4)) (c + 1) (g c / 4)) (c - 3) (g c / 4)) j9)) (c + 3) + (nI (g c / 4)))))]) (st' := []) (cells' := 0) (slots' := 0) (g' := 0) (by decide) rfl rfl rfl rfl rfl ?_
              refine G.fn (fun j9 => nI ((ad (ad (ad (ad (sb g c (4 * (g c / 4))) (c - 1) (g c / 4)) (c + 1) (g c / 4)) (c - 3) (g c / 4)) (c + 3) (g c / 4)) j9)) 2 [(o1, .inr (5, [.ref d1, .int (nI 3)])), (d1, .inr (12, [.ref d2])), (d2, aI k 81 (fun j9 => nI ((ad (ad (ad (ad (sb g c (4 * (g c / 4))) (c - 1) (g c / 4)) (c + 1) (g c / 4)) (c - 3) (g c / 4)) (c + 3) (g c / 4)) j9)))] rfl (fun j hj => by exact ad_step _ _ _ j) rfl ?_
              refine g_iload_n (pc := 130) C 1 rfl rfl dX1_toppleCell_130 ?_
              refine G.fn (fun j9 => nI (tpl 3 c (g c / 4) g j9)) 2 [(o1, .inr (5, [.ref d1, .int (nI 3)])), (d1, .inr (12, [.ref d2])), (d2, aI k 81 (fun j9 => nI (tpl 3 c (g c / 4) g j9)))] rfl (fun j hj => by exact congrArg nI (by simp only [ad, sb, tpl, nbr]; repeat' (first | omega | split))) rfl ?_
              exact g_iret (pc := 131) C hr hlk (by first | decide | omega) (by first | decide | omega) (by first | decide | omega) dX1_toppleCell_131 ⟨rfl, rfl⟩
    · exact absurd c_21 (by decide)
set_option maxRecDepth 100000 in
set_option maxHeartbeats 400000 in
theorem c_X1_draw_s3 {l : Launch} {D : va_G} {k : Nat → ClassId} (o1 : Nat) (d1 : Nat) (d2 : Nat) (wd : Int32) (f0 : Nat → Int32) (m : Nat) (hmm : m ≤ 300) : CM l D k yX1_draw cX1_draw 7 (some .int)  2 45 [.ref o1, .int (nI 3), .int (nI m)] [(o1, .inr (5, [.ref d1, .int wd])), (d1, .inr (12, [.ref d2])), (d2, aI k 81 f0)] (fun rv9 w9 => rv9 = (some (.int (nI (picN 3 (fm 3 m))))) ∧ ∃ (gg : Nat → Int32), w9 = [(o1, .inr (5, [.ref d1, .int (nI 3)])), (d1, .inr (12, [.ref d2])), (d2, aI k 81 gg)]) 0 0 0 := by
  refine CM.of (lv0 := [(0, .ref o1), (1, .int (nI 3)), (2, .int (nI m))]) (by decide +kernel) (Nat.le_of_ble_eq_true rfl) rfl ?_
  intro p9 e9 s9 m9 bl9 me9 co9 C hr hlk hin had
  refine g_aload_n (pc := 0) C 0 rfl rfl dX1_draw_0 ?_
  refine g_iload_n (pc := 1) C 1 rfl rfl dX1_draw_1 ?_
  refine g_put (pc := 2) C (T := TX1) inX1 0 rfl rfl 1 (by decide) q_131 rfl tyX1 tyX1_ok nmX1 rfl [(o1, .inr (5, [.ref d1, .int (nI 3)])), (d1, .inr (12, [.ref d2])), (d2, aI k 81 f0)] (tyX1_ok 1 (by decide)) rfl (by rfl) (Nat.le_of_ble_eq_true rfl) rfl dX1_draw_2 ?_
  refine g_aload_n (pc := 5) C 0 rfl rfl dX1_draw_5 ?_
  refine g_get (pc := 6) C (T := TX1) inX1 0 rfl rfl 0 (by decide) q_130 rfl rfl dX1_draw_6 ?_
  refine g_iconst (pc := 9) (v := 0) C (by decide) dX1_draw_9 ?_
  refine g_callV (pc := 10) (cells := 0) (slots := 0) (g := 0) (As := [.int 0]) (st := []) (T := TX8) (q0 := 1) C (nA := 1) rfl (c_X8_fill d1 d2 81 f0 0 (by first | assumption | decide | omega)) q_435 q_41 q_39 q_6 q_38 (by decide +kernel) rfl rfl dX1_draw_10 ⟨Nat.le_of_ble_eq_true rfl, Nat.le_of_ble_eq_true rfl⟩ [1, 2] [0] rfl (wr := [(o1, .inr (5, [.ref d1, .int (nI 3)]))]) rfl (by decide) (by decide) (by decide) (Nat.le_of_ble_eq_true rfl) ⟨Nat.le_of_ble_eq_true rfl, Nat.le_of_ble_eq_true rfl⟩ (fun rv w1 h1 => ?_)
  obtain ⟨rfl, rfl⟩ := h1
  refine G.aft [0, 1, 2] (ws' := [(o1, .inr (5, [.ref d1, .int (nI 3)])), (d1, .inr (12, [.ref d2])), (d2, aI k 81 (fun _ => 0))]) (st' := []) (cells' := 0) (slots' := 0) (g' := 0) (by decide) rfl rfl rfl rfl rfl ?_
  refine g_aload_n (pc := 13) C 0 rfl rfl dX1_draw_13 ?_
  refine g_get (pc := 14) C (T := TX1) inX1 0 rfl rfl 0 (by decide) q_130 rfl rfl dX1_draw_14 ?_
  refine g_aload_n (pc := 17) C 0 rfl rfl dX1_draw_17 ?_
  refine g_callV (pc := 18) (cells := 0) (slots := 0) (g := 0) (As := []) (st := [.ref d1]) (T := TX1) (q0 := 0) C (nA := 0) rfl (c_X1_cellNumber o1 d1 (nI 3) ) q_434 q_235 q_233 q_182 q_232 (by decide +kernel) rfl rfl dX1_draw_18 ⟨Nat.le_of_ble_eq_true rfl, Nat.le_of_ble_eq_true rfl⟩ [0] [1, 2] rfl (wr := [(d1, .inr (12, [.ref d2])), (d2, aI k 81 (fun _ => 0))]) rfl (by decide) (by decide) (by decide) (Nat.le_of_ble_eq_true rfl) ⟨Nat.le_of_ble_eq_true rfl, Nat.le_of_ble_eq_true rfl⟩ (fun rv w1 h1 => ?_)
  obtain ⟨rfl, rfl⟩ := h1
  refine G.aft [2, 0, 1] (ws' := [(o1, .inr (5, [.ref d1, .int (nI 3)])), (d1, .inr (12, [.ref d2])), (d2, aI k 81 (fun _ => 0))]) (st' := [.int ((nI 3) * (nI 3)), .ref d1]) (cells' := 0) (slots' := 0) (g' := 0) (by decide) rfl rfl rfl rfl rfl ?_
  refine g_iconst (pc := 21) (v := 2) C (by decide) dX1_draw_21 ?_
  refine g_idiv (pc := 22) C (by first | assumption | decide) dX1_draw_22 ?_
  refine G.eqs (st' := [.int (nI 4), .ref d1]) (congrArg (β := List Value) (fun z9 => [.int z9, .ref d1]) (show ((((nI 3) * (nI 3)) / 2) : Int32) = (nI 4) from by decide)) ?_
  refine g_iload_n (pc := 23) C 2 rfl rfl dX1_draw_23 ?_
  refine g_callV (pc := 24) (cells := 0) (slots := 0) (g := 0) (As := [.int (nI 4), .int (nI m)]) (st := []) (T := TX8) (q0 := 1) C (nA := 2) rfl (c_X8_write_n d1 d2 81 (fun _ => 0) 4 (nI m) (by first | assumption | decide | omega) (by first | assumption | decide | omega)) q_438 q_439 q_437 q_6 q_436 (by decide +kernel) rfl rfl dX1_draw_24 ⟨Nat.le_of_ble_eq_true rfl, Nat.le_of_ble_eq_true rfl⟩ [1, 2] [0] rfl (wr := [(o1, .inr (5, [.ref d1, .int (nI 3)]))]) rfl (by decide) (by decide) (by decide) (Nat.le_of_ble_eq_true rfl) ⟨Nat.le_of_ble_eq_true rfl, Nat.le_of_ble_eq_true rfl⟩ (fun rv w1 h1 => ?_)
  obtain ⟨rfl, rfl⟩ := h1
  refine G.aft [0, 1, 2] (ws' := [(o1, .inr (5, [.ref d1, .int (nI 3)])), (d1, .inr (12, [.ref d2])), (d2, aI k 81 (upd (fun _ => 0) 4 (nI m)))]) (st' := []) (cells' := 0) (slots' := 0) (g' := 0) (by decide) rfl rfl rfl rfl rfl ?_
  refine G.fn (fun j9 => nI ((fm 3 m) j9)) 2 [(o1, .inr (5, [.ref d1, .int (nI 3)])), (d1, .inr (12, [.ref d2])), (d2, aI k 81 (fun j9 => nI ((fm 3 m) j9)))] rfl (fun j hj => by { show upd (fun _ => 0) 4 (nI m) j = nI (if j = 4 then m else 0); unfold upd; by_cases h : j = 4 <;> simp [h, nI_0] }) rfl ?_
  refine g_iconst (pc := 27) (v := 0) C (by decide) dX1_draw_27 ?_
  refine g_istore_n (pc := 28) C [(3, .int 0), (0, .ref o1), (1, .int (nI 3)), (2, .int (nI m))] rfl dX1_draw_28 (by decide) rfl ?_
  refine g_iconst (pc := 29) (v := 0) C (by decide) dX1_draw_29 ?_
  refine g_istore (pc := 30) C [(4, .int 0), (3, .int 0), (0, .ref o1), (1, .int (nI 3)), (2, .int (nI m))] dX1_draw_30 (by decide) rfl ?_
  have key_32 : ∀ (fuel : Nat) (r : Nat) (g : Nat → Nat) (v : Nat → Nat), Went 3 (fm 3 m) g v → r ≤ sumN v (3 * 3) → 328 - sumN v (3 * 3) < fuel → G p9 l e9 { frames := 2, cells := 0, slots := 0, locals := 45 } s9 m9 ([.ref o1, .int (nI 3), .int (nI m)] : List Value).toArray bl9 me9 co9 D 7 (va_A [(o1, .inr (5, [.ref d1, .int wd])), (d1, .inr (12, [.ref d2])), (d2, aI k 81 f0)] s9.heap.size) (QM bl9 D ([.ref o1, .int (nI 3), .int (nI m)] : List Value).toArray s9 [(o1, .inr (5, [.ref d1, .int wd])), (d1, .inr (12, [.ref d2])), (d2, aI k 81 f0)] (fun rv9 w9 => rv9 = (some (.int (nI (picN 3 (fm 3 m))))) ∧ ∃ (gg : Nat → Int32), w9 = [(o1, .inr (5, [.ref d1, .int (nI 3)])), (d1, .inr (12, [.ref d2])), (d2, aI k 81 gg)]) 0 0 0) [(o1, .inr (5, [.ref d1, .int (nI 3)])), (d1, .inr (12, [.ref d2])), (d2, aI k 81 (fun j9 => nI (g j9)))] [(0, .ref o1), (1, .int (nI 3)), (2, .int (nI m)), (3, .int (nI (sumN v (3 * 3)))), (4, .int (nI r))] 0 0 0 32 [] := by
    intro fuel
    induction fuel with
    | zero => intro r g v hW hrr hm; exact absurd hm (Nat.not_lt_zero _)
    | succ fuel ih =>
      intro r g v hW hrr hm
      have ih_32 := ih
      have hsum := went_sum hmm hW pw3_s
      rw [pw3_n] at hsum
      refine g_iload (pc := 32) C 4 rfl dX1_draw_32 ?_
      refine g_ldc (pc := 34) C (v := 1000000) q_440 dX1_draw_34 ?_
      refine g_icmp_ge (pc := 36) C 83 (by decide) dX1_draw_36 (fun c_36 => ?_) (fun c_36 => ?_)
      · exact absurd (show nI 1000000 ≤ nI r from c_36) (nI_ge (by omega) (by decide))
      · refine g_iload_n (pc := 39) C 3 rfl rfl dX1_draw_39 ?_
        refine g_istore (pc := 40) C [(5, .int (nI (sumN v (3 * 3)))), (0, .ref o1), (1, .int (nI 3)), (2, .int (nI m)), (3, .int (nI (sumN v (3 * 3)))), (4, .int (nI r))] dX1_draw_40 (by decide) rfl ?_
        refine g_iconst (pc := 42) (v := 0) C (by decide) dX1_draw_42 ?_
        refine g_istore (pc := 43) C [(6, .int 0), (5, .int (nI (sumN v (3 * 3)))), (0, .ref o1), (1, .int (nI 3)), (2, .int (nI m)), (3, .int (nI (sumN v (3 * 3)))), (4, .int (nI r))] dX1_draw_43 (by decide) rfl ?_
        have key_45 : ∀ (fuel : Nat) (c : Nat) (g2 : Nat → Nat) (v2 : Nat → Nat), Went 3 (fm 3 m) g2 v2 → c ≤ 9 → sumN v (3 * 3) ≤ sumN v2 (3 * 3) → (sumN v2 (3 * 3) = sumN v (3 * 3) → ∀ j, j < c → g2 j < 4) → 9 - c < fuel → G p9 l e9 { frames := 2, cells := 0, slots := 0, locals := 45 } s9 m9 ([.ref o1, .int (nI 3), .int (nI m)] : List Value).toArray bl9 me9 co9 D 7 (va_A [(o1, .inr (5, [.ref d1, .int wd])), (d1, .inr (12, [.ref d2])), (d2, aI k 81 f0)] s9.heap.size) (QM bl9 D ([.ref o1, .int (nI 3), .int (nI m)] : List Value).toArray s9 [(o1, .inr (5, [.ref d1, .int wd])), (d1, .inr (12, [.ref d2])), (d2, aI k 81 f0)] (fun rv9 w9 => rv9 = (some (.int (nI (picN 3 (fm 3 m))))) ∧ ∃ (gg : Nat → Int32), w9 = [(o1, .inr (5, [.ref d1, .int (nI 3)])), (d1, .inr (12, [.ref d2])), (d2, aI k 81 gg)]) 0 0 0) [(o1, .inr (5, [.ref d1, .int (nI 3)])), (d1, .inr (12, [.ref d2])), (d2, aI k 81 (fun j9 => nI (g2 j9)))] [(0, .ref o1), (1, .int (nI 3)), (2, .int (nI m)), (3, .int (nI (sumN v2 (3 * 3)))), (4, .int (nI r)), (5, .int (nI (sumN v (3 * 3)))), (6, .int (nI c))] 0 0 0 45 [] := by
          intro fuel
          induction fuel with
          | zero => intro c g2 v2 hW2 hc hs hq hm; exact absurd hm (Nat.not_lt_zero _)
          | succ fuel ih =>
            intro c g2 v2 hW2 hc hs hq hm
            have ih_45 := ih
            have hsum2 := went_sum hmm hW2 pw3_s
            rw [pw3_n] at hsum2
            refine g_iload (pc := 45) C 6 rfl dX1_draw_45 ?_
            refine g_aload_n (pc := 47) C 0 rfl rfl dX1_draw_47 ?_
            refine g_callV (pc := 48) (cells := 0) (slots := 0) (g := 0) (As := []) (st := [.int (nI c)]) (T := TX1) (q0 := 0) C (nA := 0) rfl (c_X1_cellNumber o1 d1 (nI 3) ) q_434 q_235 q_233 q_182 q_232 (by decide +kernel) rfl rfl dX1_draw_48 ⟨Nat.le_of_ble_eq_true rfl, Nat.le_of_ble_eq_true rfl⟩ [0] [1, 2] rfl (wr := [(d1, .inr (12, [.ref d2])), (d2, aI k 81 (fun j9 => nI (g2 j9)))]) rfl (by decide) (by decide) (by decide) (Nat.le_of_ble_eq_true rfl) ⟨Nat.le_of_ble_eq_true rfl, Nat.le_of_ble_eq_true rfl⟩ (fun rv w1 h1 => ?_)
            obtain ⟨rfl, rfl⟩ := h1
            refine G.aft [2, 0, 1] (ws' := [(o1, .inr (5, [.ref d1, .int (nI 3)])), (d1, .inr (12, [.ref d2])), (d2, aI k 81 (fun j9 => nI (g2 j9)))]) (st' := [.int ((nI 3) * (nI 3)), .int (nI c)]) (cells' := 0) (slots' := 0) (g' := 0) (by decide) rfl rfl rfl rfl rfl ?_
            refine G.eqs (st' := [.int (nI 9), .int (nI c)]) (congrArg (β := List Value) (fun z9 => [.int z9, .int (nI c)]) (show (((nI 3) * (nI 3)) : Int32) = (nI 9) from by decide)) ?_
            refine g_icmp_ge (pc := 51) C 69 (by decide) dX1_draw_51 (fun c_51 => ?_) (fun c_51 => ?_)
            · have k51 : 9 ≤ c := by rcases Nat.lt_or_ge (c) (9) with q | q; exact absurd (show nI (9) ≤ nI (c) from c_51) (nI_ge q (by omega)); exact q
              refine g_iload_n (pc := 69) C 3 rfl rfl dX1_draw_69 ?_
              refine g_iload (pc := 70) C 5 rfl dX1_draw_70 ?_
              refine g_icmp_ne (pc := 72) C 77 (by decide) dX1_draw_72 (fun c_72 => ?_) (fun c_72 => ?_)
              · have k72 : sumN v2 (3 * 3) ≠ sumN v (3 * 3) := fun h => c_72 (by rw [h])
                refine g_iinc (pc := 77) (n := 1) (v := (nI (r + 1))) C 4 [(4, .int (nI (r + 1))), (0, .ref o1), (1, .int (nI 3)), (2, .int (nI m)), (3, .int (nI (sumN v2 (3 * 3)))), (5, .int (nI (sumN v (3 * 3)))), (6, .int (nI c))] rfl (nI_1 r) dX1_draw_77 (by decide) rfl ?_
                refine g_goto (pc := 80) C 32 (by decide) dX1_draw_80 ?_
                refine G.loc [1, 2, 3, 4, 0] (lv' := [(0, .ref o1), (1, .int (nI 3)), (2, .int (nI m)), (3, .int (nI (sumN v2 (3 * 3)))), (4, .int (nI (r + 1)))]) rfl ?_
                exact ih_32 (r + 1) g2 v2 hW2 (by omega) (by omega)
              · have k72 : sumN v2 (3 * 3) = sumN v (3 * 3) := (nI_eq (by omega) (by omega)).mp c_72
                refine g_iload_n (pc := 75) C 3 rfl rfl dX1_draw_75 ?_
                refine G.eqs (st' := [.int (nI (picN 3 (fm 3 m)))]) (congrArg (fun z9 => [Value.int z9]) (show ((nI (sumN v2 (3 * 3))) : Int32) = (nI (picN 3 (fm 3 m))) from by first | rfl | (rw [picN_eq hW2 (fun j hj => hq k72 j (by omega))]))) ?_
                exact g_iret (pc := 76) C hr hlk (by first | decide | omega) (by first | decide | omega) (by first | decide | omega) dX1_draw_76 ⟨rfl, (fun j9 => nI (g2 j9)), rfl⟩
            · have k51 : c < 9 := by rcases Nat.lt_or_ge (c) (9) with q | q; exact q; exact absurd (show nI (9) ≤ nI (c) from nI_le q (by omega)) c_51
              refine g_iload_n (pc := 54) C 3 rfl rfl dX1_draw_54 ?_
              refine g_aload_n (pc := 55) C 0 rfl rfl dX1_draw_55 ?_
              refine g_iload (pc := 56) C 6 rfl dX1_draw_56 ?_
              refine g_callV (pc := 58) (cells := 0) (slots := 0) (g := 0) (As := [.int (nI c)]) (st := [.int (nI (sumN v2 (3 * 3)))]) (T := TX1) (q0 := 0) C (nA := 1) rfl (c_X1_toppleCell_s3 o1 d1 d2 g2 c (by first | assumption | decide | omega) (went_bnd hmm hW2 pw3_s pw3_b c (by omega))) q_443 q_444 q_442 q_182 q_441 (by decide +kernel) rfl rfl dX1_draw_58 ⟨Nat.le_of_ble_eq_true rfl, Nat.le_of_ble_eq_true rfl⟩ [0, 1, 2] [] rfl (wr := []) rfl (by decide) (by decide) (by decide) (Nat.le_of_ble_eq_true rfl) ⟨Nat.le_of_ble_eq_true rfl, Nat.le_of_ble_eq_true rfl⟩ (fun rv w1 h1 => ?_)
              obtain ⟨rfl, rfl⟩ := h1
              refine G.aft [0, 1, 2] (ws' := [(o1, .inr (5, [.ref d1, .int (nI 3)])), (d1, .inr (12, [.ref d2])), (d2, aI k 81 (fun j9 => nI (tpl 3 c (g2 c / 4) g2 j9)))]) (st' := [.int (nI (g2 c / 4)), .int (nI (sumN v2 (3 * 3)))]) (cells' := 0) (slots' := 0) (g' := 0) (by decide) rfl rfl rfl rfl rfl ?_
              refine g_iadd (pc := 61) C dX1_draw_61 ?_
              refine G.eqs (st' := [.int (nI (sumN (adv v2 c (g2 c / 4)) (3 * 3)))]) (congrArg (β := List Value) (fun z9 => [.int z9]) (show (((nI (sumN v2 (3 * 3))) + (nI (g2 c / 4))) : Int32) = (nI (sumN (adv v2 c (g2 c / 4)) (3 * 3))) from by rw [nI_add, sumN_adv1 _ _ _ _ (show c < (3 * 3) by omega)])) ?_
              refine g_istore_n (pc := 62) C [(3, .int (nI (sumN (adv v2 c (g2 c / 4)) (3 * 3)))), (0, .ref o1), (1, .int (nI 3)), (2, .int (nI m)), (4, .int (nI r)), (5, .int (nI (sumN v (3 * 3)))), (6, .int (nI c))] rfl dX1_draw_62 (by decide) rfl ?_
              refine g_iinc (pc := 63) (n := 1) (v := (nI (c + 1))) C 6 [(6, .int (nI (c + 1))), (3, .int (nI (sumN (adv v2 c (g2 c / 4)) (3 * 3)))), (0, .ref o1), (1, .int (nI 3)), (2, .int (nI m)), (4, .int (nI r)), (5, .int (nI (sumN v (3 * 3))))] rfl (nI_1 c) dX1_draw_63 (by decide) rfl ?_
              refine g_goto (pc := 66) C 45 (by decide) dX1_draw_66 ?_
              refine G.loc [2, 3, 4, 1, 5, 6, 0] (lv' := [(0, .ref o1), (1, .int (nI 3)), (2, .int (nI m)), (3, .int (nI (sumN (adv v2 c (g2 c / 4)) (3 * 3)))), (4, .int (nI r)), (5, .int (nI (sumN v (3 * 3)))), (6, .int (nI (c + 1)))]) rfl ?_
              exact ih_45 (c + 1) (tpl 3 c (g2 c / 4) g2) (adv v2 c (g2 c / 4)) (went_step (by decide) hW2 (show c < (3 * 3) by omega) (by omega)) (by omega) (by rw [sumN_adv1 _ _ _ _ (show c < (3 * 3) by omega)]; omega) (pic_q (m := m) (show c < (3 * 3) by omega) hs hq) (by omega)
        refine G.loc [2, 3, 4, 5, 6, 1, 0] (lv' := [(0, .ref o1), (1, .int (nI 3)), (2, .int (nI m)), (3, .int (nI (sumN v (3 * 3)))), (4, .int (nI r)), (5, .int (nI (sumN v (3 * 3)))), (6, .int 0)]) rfl ?_
        refine G.eql (lv' := [(0, .ref o1), (1, .int (nI 3)), (2, .int (nI m)), (3, .int (nI (sumN v (3 * 3)))), (4, .int (nI r)), (5, .int (nI (sumN v (3 * 3)))), (6, .int (nI 0))]) (congrArg (β := List (Nat × Value)) (fun z9 => [(0, .ref o1), (1, .int (nI 3)), (2, .int (nI m)), (3, .int (nI (sumN v (3 * 3)))), (4, .int (nI r)), (5, .int (nI (sumN v (3 * 3)))), (6, .int z9)]) (show (0 : Int32) = (nI 0) from by first | rfl | exact nI_0.symm)) ?_
        exact key_45 (9 - 0 + 1) 0 g v hW (by omega) (Nat.le_refl _) (fun _ j hj => absurd hj (Nat.not_lt_zero j)) (Nat.lt_succ_self _)
  refine G.loc [2, 3, 4, 1, 0] (lv' := [(0, .ref o1), (1, .int (nI 3)), (2, .int (nI m)), (3, .int 0), (4, .int 0)]) rfl ?_
  refine G.eql (lv' := [(0, .ref o1), (1, .int (nI 3)), (2, .int (nI m)), (3, .int (nI (sumN (fun _ => 0) (3 * 3)))), (4, .int (nI 0))]) ((congrArg (β := List (Nat × Value)) (fun z9 => [(0, .ref o1), (1, .int (nI 3)), (2, .int (nI m)), (3, .int z9), (4, .int 0)]) (show (0 : Int32) = (nI (sumN (fun _ => 0) (3 * 3))) from by first | rfl | exact nI_0.symm | (rw [sumN_0]; exact nI_0.symm))).trans (congrArg (β := List (Nat × Value)) (fun z9 => [(0, .ref o1), (1, .int (nI 3)), (2, .int (nI m)), (3, .int (nI (sumN (fun _ => 0) (3 * 3)))), (4, .int z9)]) (show (0 : Int32) = (nI 0) from by first | rfl | exact nI_0.symm | (rw [sumN_0]; exact nI_0.symm)))) ?_
  exact key_32 (328 - sumN (fun _ => 0) (3 * 3) + 1) 0 (fm 3 m) (fun _ => 0) (went_0 3 _) (Nat.zero_le _) (Nat.lt_succ_self _)
set_option maxRecDepth 100000 in
set_option maxHeartbeats 400000 in
theorem c_X10_picture_s3 {l : Launch} {D : va_G} {k : Nat → ClassId} (o : Nat) (h : Nat) (pp : Nat) (x2 : Nat) (x3 : Nat) (x4 : Nat) (o2 : Nat) (o4 : Nat) (o9 : Nat) (o7 : Nat) (o0 : Nat) (o1 : Nat) (d1 : Nat) (d2 : Nat) (wd : Int32) (f0 : Nat → Int32) (m : Nat) (hmm : m ≤ 300) : CM l D k yX10_picture cX10_picture 3 (some .int)  3 71 [.ref o, .int (nI 3), .int (nI m)] [(o, .inr (14, [.ref h, .ref pp, .ref x2, .ref x3, .ref x4, .ref o2, .ref o4, .ref o9, .ref o7, .ref o0, .ref o1])), (o1, .inr (5, [.ref d1, .int wd])), (d1, .inr (12, [.ref d2])), (d2, aI k 81 f0)] (fun rv9 w9 => rv9 = (some (.int (nI (picN 3 (fm 3 m))))) ∧ ∃ (gg : Nat → Int32), w9 = [(o, .inr (14, [.ref h, .ref pp, .ref x2, .ref x3, .ref x4, .ref o2, .ref o4, .ref o9, .ref o7, .ref o0, .ref o1])), (o1, .inr (5, [.ref d1, .int (nI 3)])), (d1, .inr (12, [.ref d2])), (d2, aI k 81 gg)]) 0 0 0 := by
  refine CM.of (lv0 := [(0, .ref o), (1, .int (nI 3)), (2, .int (nI m))]) (by decide +kernel) (Nat.le_of_ble_eq_true rfl) rfl ?_
  intro p9 e9 s9 m9 bl9 me9 co9 C hr hlk hin had
  refine g_iload_n (pc := 0) C 1 rfl rfl dX10_picture_0 ?_
  refine g_iconst (pc := 1) (v := 3) C (by decide) dX10_picture_1 ?_
  refine g_icmp_lt (pc := 2) C 17 (by decide) dX10_picture_2 (fun c_2 => ?_) (fun c_2 => ?_)
  · exact absurd c_2 (by decide)
  · refine g_iload_n (pc := 5) C 1 rfl rfl dX10_picture_5 ?_
    refine g_bipush (pc := 6) (v := 9) C (by decide) dX10_picture_6 ?_
    refine g_icmp_gt (pc := 8) C 17 (by decide) dX10_picture_8 (fun c_8 => ?_) (fun c_8 => ?_)
    · exact absurd c_8 (by decide)
    · refine g_iload_n (pc := 11) C 1 rfl rfl dX10_picture_11 ?_
      refine g_iconst (pc := 12) (v := 1) C (by decide) dX10_picture_12 ?_
      refine g_iand (pc := 13) C dX10_picture_13 ?_
      refine G.eqs (st' := [.int 1]) (congrArg (β := List Value) (fun z9 => [.int z9]) (show (((nI 3) &&& 1) : Int32) = 1 from by decide)) ?_
      refine g_if_ne (pc := 14) C 27 (by decide) dX10_picture_14 (fun c_14 => ?_) (fun c_14 => ?_)
      · refine g_iload_n (pc := 27) C 2 rfl rfl dX10_picture_27 ?_
        refine g_if_lt (pc := 28) C 38 (by decide) dX10_picture_28 (fun c_28 => ?_) (fun c_28 => ?_)
        · exact absurd c_28 (nI_pos (by omega))
        · refine g_iload_n (pc := 31) C 2 rfl rfl dX10_picture_31 ?_
          refine g_sipush (pc := 32) (v := 300) C (by decide) dX10_picture_32 ?_
          refine g_icmp_le (pc := 35) C 48 (by decide) dX10_picture_35 (fun c_35 => ?_) (fun c_35 => ?_)
          · refine g_aload_n (pc := 48) C 0 rfl rfl dX10_picture_48 ?_
            refine g_get (pc := 49) C (T := TX10) inX10 0 rfl rfl 10 (by decide) q_185 rfl rfl dX10_picture_49 ?_
            refine g_iload_n (pc := 52) C 1 rfl rfl dX10_picture_52 ?_
            refine g_iload_n (pc := 53) C 2 rfl rfl dX10_picture_53 ?_
            refine g_callV (pc := 54) (cells := 0) (slots := 0) (g := 0) (As := [.int (nI 3), .int (nI m)]) (st := []) (T := TX1) (q0 := 1) C (nA := 2) rfl (c_X1_draw_s3 o1 d1 d2 wd f0 m (by first | assumption | decide | omega)) q_447 q_448 q_446 q_182 q_445 (by decide +kernel) rfl rfl dX10_picture_54 ⟨Nat.le_of_ble_eq_true rfl, Nat.le_of_ble_eq_true rfl⟩ [1, 2, 3] [0] rfl (wr := [(o, .inr (14, [.ref h, .ref pp, .ref x2, .ref x3, .ref x4, .ref o2, .ref o4, .ref o9, .ref o7, .ref o0, .ref o1]))]) rfl (by decide) (by decide) (by decide) (Nat.le_of_ble_eq_true rfl) ⟨Nat.le_of_ble_eq_true rfl, Nat.le_of_ble_eq_true rfl⟩ (fun rv w1 h1 => ?_)
            obtain ⟨rfl, q1, rfl⟩ := h1
            refine G.aft [0, 1, 2, 3] (ws' := [(o, .inr (14, [.ref h, .ref pp, .ref x2, .ref x3, .ref x4, .ref o2, .ref o4, .ref o9, .ref o7, .ref o0, .ref o1])), (o1, .inr (5, [.ref d1, .int (nI 3)])), (d1, .inr (12, [.ref d2])), (d2, aI k 81 q1)]) (st' := [.int (nI (picN 3 (fm 3 m)))]) (cells' := 0) (slots' := 0) (g' := 0) (by decide) rfl rfl rfl rfl rfl ?_
            exact g_iret (pc := 57) C hr hlk (by first | decide | omega) (by first | decide | omega) (by first | decide | omega) dX10_picture_57 ⟨rfl, q1, rfl⟩
          · exact absurd (show nI m ≤ nI 300 from nI_le hmm (by omega)) c_35
      · exact absurd c_14 (by decide)
set_option maxRecDepth 100000 in
set_option maxHeartbeats 400000 in
theorem c_L_picture_s3 {l : Launch} {D : va_G} {k : Nat → ClassId} (o : Nat) (h : Nat) (pp : Nat) (x2 : Nat) (x3 : Nat) (x4 : Nat) (o2 : Nat) (o4 : Nat) (o9 : Nat) (o7 : Nat) (o0 : Nat) (o1 : Nat) (d1 : Nat) (d2 : Nat) (oo : Nat) (wd : Int32) (f0 : Nat → Int32) (fl : Nat → Int64) (m : Nat) (hmm : m ≤ 300) : CMW l D k yL_picture cL_picture 5 (some .int) [((0 : Nat), (10 : Nat), (13 : Nat), (21 : Nat))] 4 93 [.ref o, .int (nI 3), .int (nI m), .ref oo] [(o, .inr (14, [.ref h, .ref pp, .ref x2, .ref x3, .ref x4, .ref o2, .ref o4, .ref o9, .ref o7, .ref o0, .ref o1])), (o1, .inr (5, [.ref d1, .int wd])), (d1, .inr (12, [.ref d2])), (d2, aI k 81 f0), (oo, aJ k 1 fl)] (fun rv9 w9 => rv9 = (some (.int 0)) ∧ ∃ (gg : Nat → Int32), w9 = [(o, .inr (14, [.ref h, .ref pp, .ref x2, .ref x3, .ref x4, .ref o2, .ref o4, .ref o9, .ref o7, .ref o0, .ref o1])), (o1, .inr (5, [.ref d1, .int (nI 3)])), (d1, .inr (12, [.ref d2])), (d2, aI k 81 gg), (oo, aJ k 1 (fun _ => (nI (picN 3 (fm 3 m))).toInt64))]) 0 0 0 := by
  refine CMW.of (lv0 := [(0, .ref o), (1, .int (nI 3)), (2, .int (nI m)), (3, .ref oo)]) (by decide +kernel) (Nat.le_of_ble_eq_true rfl) rfl ?_
  intro p9 e9 s9 m9 bl9 me9 co9 C hr hlk hin had htab
  refine g_aload_n (pc := 0) C 3 rfl rfl dL_picture_0 ?_
  refine g_iconst (pc := 1) (v := 0) C (by decide) dL_picture_1 ?_
  refine g_aload_n (pc := 2) C 0 rfl rfl dL_picture_2 ?_
  refine g_iload_n (pc := 3) C 1 rfl rfl dL_picture_3 ?_
  refine g_iload_n (pc := 4) C 2 rfl rfl dL_picture_4 ?_
  refine g_callV (pc := 5) (cells := 0) (slots := 0) (g := 0) (As := [.int (nI 3), .int (nI m)]) (st := [.int 0, .ref oo]) (T := TX10) (q0 := 0) C (nA := 2) rfl (c_X10_picture_s3 o h pp x2 x3 x4 o2 o4 o9 o7 o0 o1 d1 d2 wd f0 m (by first | assumption | decide | omega)) q_451 q_452 q_450 q_203 q_449 (by decide +kernel) rfl rfl dL_picture_5 ⟨Nat.le_of_ble_eq_true rfl, Nat.le_of_ble_eq_true rfl⟩ [0, 1, 2, 3] [4] rfl (wr := [(oo, aJ k 1 fl)]) rfl (by decide) (by decide) (by decide) (Nat.le_of_ble_eq_true rfl) ⟨Nat.le_of_ble_eq_true rfl, Nat.le_of_ble_eq_true rfl⟩ (fun rv w1 h1 => ?_)
  obtain ⟨rfl, q1, rfl⟩ := h1
  refine G.aft [1, 2, 3, 4, 0] (ws' := [(o, .inr (14, [.ref h, .ref pp, .ref x2, .ref x3, .ref x4, .ref o2, .ref o4, .ref o9, .ref o7, .ref o0, .ref o1])), (o1, .inr (5, [.ref d1, .int (nI 3)])), (d1, .inr (12, [.ref d2])), (d2, aI k 81 q1), (oo, aJ k 1 fl)]) (st' := [.int (nI (picN 3 (fm 3 m))), .int 0, .ref oo]) (cells' := 0) (slots' := 0) (g' := 0) (by decide) rfl rfl rfl rfl rfl ?_
  refine g_i2l (pc := 8) C dL_picture_8 ?_
  refine g_last_n (pc := 9) C (j := 0) 4 [(o, .inr (14, [.ref h, .ref pp, .ref x2, .ref x3, .ref x4, .ref o2, .ref o4, .ref o9, .ref o7, .ref o0, .ref o1])), (o1, .inr (5, [.ref d1, .int (nI 3)])), (d1, .inr (12, [.ref d2])), (d2, aI k 81 q1), (oo, aJ k 1 (vp_updL fl 0 ((nI (picN 3 (fm 3 m))).toInt64)))] rfl (by omega) (by first | decide | omega) rfl rfl dL_picture_9 ?_
  refine g_goto (pc := 10) C 17 (by decide) dL_picture_10 ?_
  refine g_iconst (pc := 17) (v := 0) C (by decide) dL_picture_17 ?_
  refine G.fnJ (fun _ => (nI (picN 3 (fm 3 m))).toInt64) 4 [(o, .inr (14, [.ref h, .ref pp, .ref x2, .ref x3, .ref x4, .ref o2, .ref o4, .ref o9, .ref o7, .ref o0, .ref o1])), (o1, .inr (5, [.ref d1, .int (nI 3)])), (d1, .inr (12, [.ref d2])), (d2, aI k 81 q1), (oo, aJ k 1 (fun _ => (nI (picN 3 (fm 3 m))).toInt64))] rfl (fun j hj => by first | rfl | simp [vp_updL, show j = 0 by omega]) rfl ?_
  exact g_iret (pc := 18) C hr hlk (by first | decide | omega) (by first | decide | omega) (by first | decide | omega) dL_picture_18 ⟨rfl, q1, rfl⟩
set_option maxRecDepth 100000 in
set_option maxHeartbeats 4000000 in
theorem c_X1_toppleCell_s5 {l : Launch} {D : va_G} {k : Nat → ClassId} (o1 : Nat) (d1 : Nat) (d2 : Nat) (g : Nat → Nat) (c : Nat) (hc : c < 25) (hg : g c < 100000) : CM l D k yX1_toppleCell cX1_toppleCell 4 (some .int)  1 22 [.ref o1, .int (nI c)] [(o1, .inr (5, [.ref d1, .int (nI 5)])), (d1, .inr (12, [.ref d2])), (d2, aI k 81 (fun j9 => nI (g j9)))] (is1 (some (.int (nI (g c / 4)))) [(o1, .inr (5, [.ref d1, .int (nI 5)])), (d1, .inr (12, [.ref d2])), (d2, aI k 81 (fun j9 => nI (tpl 5 c (g c / 4) g j9)))]) 0 0 0 := by
  refine CM.of (lv0 := [(0, .ref o1), (1, .int (nI c))]) (by decide +kernel) (Nat.le_of_ble_eq_true rfl) rfl ?_
  intro p9 e9 s9 m9 bl9 me9 co9 C hr hlk hin had
  refine g_aload_n (pc := 0) C 0 rfl rfl dX1_toppleCell_0 ?_
  refine g_get (pc := 1) C (T := TX1) inX1 0 rfl rfl 0 (by decide) q_130 rfl rfl dX1_toppleCell_1 ?_
  refine g_iload_n (pc := 4) C 1 rfl rfl dX1_toppleCell_4 ?_
  refine g_callV (pc := 5) (cells := 0) (slots := 0) (g := 0) (As := [.int (nI c)]) (st := []) (T := TX8) (q0 := 1) C (nA := 1) rfl (c_X8_at_n d1 d2 81 (fun j9 => nI (g j9)) c (by first | assumption | decide | omega) (by first | assumption | decide | omega)) q_432 q_9 q_7 q_6 q_5 (by decide +kernel) rfl rfl dX1_toppleCell_5 ⟨Nat.le_of_ble_eq_true rfl, Nat.le_of_ble_eq_true rfl⟩ [1, 2] [0] rfl (wr := [(o1, .inr (5, [.ref d1, .int (nI 5)]))]) rfl (by decide) (by decide) (by decide) (Nat.le_of_ble_eq_true rfl) ⟨Nat.le_of_ble_eq_true rfl, Nat.le_of_ble_eq_true rfl⟩ (fun rv w1 h1 => ?_)
  obtain ⟨rfl, rfl⟩ := h1
  refine G.aft [0, 1, 2] (ws' := [(o1, .inr (5, [.ref d1, .int (nI 5)])), (d1, .inr (12, [.ref d2])), (d2, aI k 81 (fun j9 => nI (g j9)))]) (st' := [.int ((fun j9 => nI (g j9)) c)]) (cells' := 0) (slots' := 0) (g' := 0) (by decide) rfl rfl rfl rfl rfl ?_
  refine G.eqs (st' := [.int (nI (g c))]) (congrArg (β := List Value) (fun z9 => [.int z9]) (show (((fun j9 => nI (g j9)) c) : Int32) = (nI (g c)) from rfl)) ?_
  refine g_iconst (pc := 8) (v := 4) C (by decide) dX1_toppleCell_8 ?_
  refine g_idiv (pc := 9) C (by first | assumption | decide) dX1_toppleCell_9 ?_
  refine G.eqs (st' := [.int (nI (g c / 4))]) (congrArg (β := List Value) (fun z9 => [.int z9]) (show (((nI (g c)) / 4) : Int32) = (nI (g c / 4)) from by rw [show (4 : Int32) = nI 4 from rfl]; exact pk_div (by omega) (by decide) (by decide))) ?_
  refine g_istore_n (pc := 10) C [(2, .int (nI (g c / 4))), (0, .ref o1), (1, .int (nI c))] rfl dX1_toppleCell_10 (by decide) rfl ?_
  refine g_iload_n (pc := 11) C 0 rfl rfl dX1_toppleCell_11 ?_
  refine g_iconst (pc := 12) (v := 1) C (by decide) dX1_toppleCell_12 ?_
  refine g_icmp_lt (pc := 13) C 24 (by decide) dX1_toppleCell_13 (fun c_13 => ?_) (fun c_13 => ?_)
  · have k13 : (g c / 4) < 1 := by rcases Nat.lt_or_ge ((g c / 4)) (1) with q | q; exact q; exact absurd c_13 (nI_nlt q (by omega))
    refine g_iconst (pc := 24) (v := 0) C (by decide) dX1_toppleCell_24 ?_
    refine G.fn (fun j9 => nI (tpl 5 c (g c / 4) g j9)) 2 [(o1, .inr (5, [.ref d1, .int (nI 5)])), (d1, .inr (12, [.ref d2])), (d2, aI k 81 (fun j9 => nI (tpl 5 c (g c / 4) g j9)))] rfl (fun j hj => by first | (rw [show g c / 4 = 0 by omega]; rfl) | (exact congrArg nI (by rw [show g c / 4 = 0 by omega]; simp only [tpl]; split <;> simp_all))) rfl ?_
    refine G.eqs (st' := [.int (nI (g c / 4))]) (congrArg (fun z9 => [Value.int z9]) (show (0 : Int32) = (nI (g c / 4)) from by first | (rw [show g c / 4 = 0 by omega]; rfl) | (exact congrArg nI (by rw [show g c / 4 = 0 by omega]; simp only [tpl]; split <;> simp_all)))) ?_
    exact g_iret (pc := 25) C hr hlk (by first | decide | omega) (by first | decide | omega) (by first | decide | omega) dX1_toppleCell_25 ⟨rfl, rfl⟩
  · have k13 : 1 ≤ (g c / 4) := by rcases Nat.lt_or_ge ((g c / 4)) (1) with q | q; exact absurd (nI_lt q (by omega)) c_13; exact q
    refine g_aload_n (pc := 16) C 1 rfl rfl dX1_toppleCell_16 ?_
    refine g_get (pc := 17) C (T := TX1) inX1 0 rfl rfl 1 (by decide) q_131 rfl rfl dX1_toppleCell_17 ?_
    refine g_iconst (pc := 20) (v := 1) C (by decide) dX1_toppleCell_20 ?_
    refine g_icmp_ge (pc := 21) C 26 (by decide) dX1_toppleCell_21 (fun c_21 => ?_) (fun c_21 => ?_)
    · refine g_aload_n (pc := 26) C 1 rfl rfl dX1_toppleCell_26 ?_
      refine g_get (pc := 27) C (T := TX1) inX1 0 rfl rfl 0 (by decide) q_130 rfl rfl dX1_toppleCell_27 ?_
      refine g_iload_n (pc := 30) C 2 rfl rfl dX1_toppleCell_30 ?_
      refine g_iload_n (pc := 31) C 0 rfl rfl dX1_toppleCell_31 ?_
      refine g_ineg (pc := 32) C dX1_toppleCell_32 ?_
      refine g_iconst (pc := 33) (v := 4) C (by decide) dX1_toppleCell_33 ?_
      refine g_imul (pc := 34) C dX1_toppleCell_34 ?_
      refine g_callV (pc := 35) (cells := 0) (slots := 0) (g := 0) (As := [.int (nI c), .int ((-(nI (g c / 4))) * 4)]) (st := []) (T := TX8) (q0 := 1) C (nA := 2) rfl (c_X8_add_n d1 d2 81 (fun j9 => nI (g j9)) c ((-(nI (g c / 4))) * 4) (by first | assumption | decide | omega) (by first | assumption | decide | omega)) q_433 q_59 q_57 q_6 q_56 (by decide +kernel) rfl rfl dX1_toppleCell_35 ⟨Nat.le_of_ble_eq_true rfl, Nat.le_of_ble_eq_true rfl⟩ [1, 2] [0] rfl (wr := [(o1, .inr (5, [.ref d1, .int (nI 5)]))]) rfl (by decide) (by decide) (by decide) (Nat.le_of_ble_eq_true rfl) ⟨Nat.le_of_ble_eq_true rfl, Nat.le_of_ble_eq_true rfl⟩ (fun rv w1 h1 => ?_)
      obtain ⟨rfl, rfl⟩ := h1
      refine G.aft [0, 1, 2] (ws' := [(o1, .inr (5, [.ref d1, .int (nI 5)])), (d1, .inr (12, [.ref d2])), (d2, aI k 81 (upd (fun j9 => nI (g j9)) c ((fun j9 => nI (g j9)) c + ((-(nI (g c / 4))) * 4))))]) (st' := []) (cells' := 0) (slots' := 0) (g' := 0) (by decide) rfl rfl rfl rfl rfl ?_
      refine G.fn (fun j9 => nI ((sb g c (4 * (g c / 4))) j9)) 2 [(o1, .inr (5, [.ref d1, .int (nI 5)])), (d1, .inr (12, [.ref d2])), (d2, aI k 81 (fun j9 => nI ((sb g c (4 * (g c / 4))) j9)))] rfl (fun j hj => by exact sb_step (by omega) j) rfl ?_
      refine g_iload_n (pc := 38) C 2 rfl rfl dX1_toppleCell_38 ?_
      refine g_aload_n (pc := 39) C 1 rfl rfl dX1_toppleCell_39 ?_
      refine g_get (pc := 40) C (T := TX1) inX1 0 rfl rfl 1 (by decide) q_131 rfl rfl dX1_toppleCell_40 ?_
      refine g_irem (pc := 43) C (by first | assumption | decide) dX1_toppleCell_43 ?_
      refine G.eqs (st' := [.int (nI (c % 5))]) (congrArg (β := List Value) (fun z9 => [.int z9]) (show (((nI c) - (nI c) / (nI 5) * (nI 5)) : Int32) = (nI (c % 5)) from pk_rem (by omega) (by decide) (by decide))) ?_
      refine g_istore_n (pc := 44) C [(3, .int (nI (c % 5))), (2, .int (nI (g c / 4))), (0, .ref o1), (1, .int (nI c))] rfl dX1_toppleCell_44 (by decide) rfl ?_
      refine g_iload_n (pc := 45) C 0 rfl rfl dX1_toppleCell_45 ?_
      refine g_if_le (pc := 46) C 60 (by decide) dX1_toppleCell_46 (fun c_46 => ?_) (fun c_46 => ?_)
      · have k46 : c % 5 = 0 := by rcases Nat.eq_zero_or_pos (c % 5) with q | q; exact q; exact absurd c_46 (nI_nle q (by omega))
        refine g_iload_n (pc := 60) C 0 rfl rfl dX1_toppleCell_60 ?_
        refine g_aload_n (pc := 61) C 2 rfl rfl dX1_toppleCell_61 ?_
        refine g_get (pc := 62) C (T := TX1) inX1 0 rfl rfl 1 (by decide) q_131 rfl rfl dX1_toppleCell_62 ?_
        refine g_iconst (pc := 65) (v := 1) C (by decide) dX1_toppleCell_65 ?_
        refine g_isub (pc := 66) C dX1_toppleCell_66 ?_
        refine G.eqs (st' := [.int (nI 4), .int (nI (c % 5))]) (congrArg (β := List Value) (fun z9 => [.int z9, .int (nI (c % 5))]) (show (((nI 5) - 1) : Int32) = (nI 4) from by decide)) ?_
        refine g_icmp_ge (pc := 67) C 81 (by decide) dX1_toppleCell_67 (fun c_67 => ?_) (fun c_67 => ?_)
        · have k67 : 4 ≤ c % 5 := by rcases Nat.lt_or_ge (c % 5) (4) with q | q; exact absurd (show nI (4) ≤ nI (c % 5) from c_67) (nI_ge q (by omega)); exact q
          refine g_iload_n (pc := 81) C 3 rfl rfl dX1_toppleCell_81 ?_
          refine g_aload_n (pc := 82) C 2 rfl rfl dX1_toppleCell_82 ?_
          refine g_get (pc := 83) C (T := TX1) inX1 0 rfl rfl 1 (by decide) q_131 rfl rfl dX1_toppleCell_83 ?_
          refine g_icmp_lt (pc := 86) C 103 (by decide) dX1_toppleCell_86 (fun c_86 => ?_) (fun c_86 => ?_)
          · have k86 : c < 5 := by rcases Nat.lt_or_ge (c) (5) with q | q; exact q; exact absurd c_86 (nI_nlt q (by omega))
            refine g_iload_n (pc := 103) C 3 rfl rfl dX1_toppleCell_103 ?_
            refine g_aload_n (pc := 104) C 2 rfl rfl dX1_toppleCell_104 ?_
            refine g_callV (pc := 105) (cells := 0) (slots := 0) (g := 0) (As := []) (st := [.int (nI c)]) (T := TX1) (q0 := 0) C (nA := 0) rfl (c_X1_cellNumber o1 d1 (nI 5) ) q_434 q_235 q_233 q_182 q_232 (by decide +kernel) rfl rfl dX1_toppleCell_105 ⟨Nat.le_of_ble_eq_true rfl, Nat.le_of_ble_eq_true rfl⟩ [0] [1, 2] rfl (wr := [(d1, .inr (12, [.ref d2])), (d2, aI k 81 (fun j9 => nI ((sb g c (4 * (g c / 4))) j9)))]) rfl (by decide) (by decide) (by decide) (Nat.le_of_ble_eq_true rfl) ⟨Nat.le_of_ble_eq_true rfl, Nat.le_of_ble_eq_true rfl⟩ (fun rv w1 h1 => ?_)
            obtain ⟨rfl, rfl⟩ := h1
            refine G.aft [2, 0, 1] (ws' := [(o1, .inr (5, [.ref d1, .int (nI 5)])), (d1, .inr (12, [.ref d2])), (d2, aI k 81 (fun j9 => nI ((sb g c (4 * (g c / 4))) j9)))]) (st' := [.int ((nI 5) * (nI 5)), .int (nI c)]) (cells' := 0) (slots' := 0) (g' := 0) (by decide) rfl rfl rfl rfl rfl ?_
            refine g_aload_n (pc := 108) C 2 rfl rfl dX1_toppleCell_108 ?_
            refine g_get (pc := 109) C (T := TX1) inX1 0 rfl rfl 1 (by decide) q_131 rfl rfl dX1_toppleCell_109 ?_
            refine g_isub (pc := 112) C dX1_toppleCell_112 ?_
            refine G.eqs (st' := [.int (nI 20), .int (nI c)]) (congrArg (β := List Value) (fun z9 => [.int z9, .int (nI c)]) (show ((((nI 5) * (nI 5)) - (nI 5)) : Int32) = (nI 20) from by decide)) ?_
            refine g_icmp_ge (pc := 113) C 130 (by decide) dX1_toppleCell_113 (fun c_113 => ?_) (fun c_113 => ?_)
            · have k113 : 20 ≤ c := by rcases Nat.lt_or_ge (c) (20) with q | q; exact absurd (show nI (20) ≤ nI (c) from c_113) (nI_ge q (by omega)); exact q
              refine g_iload_n (pc := 130) C 1 rfl rfl dX1_toppleCell_130 ?_
              refine G.fn (fun j9 => nI (tpl 5 c (g c / 4) g j9)) 2 [(o1, .inr (5, [.ref d1, .int (nI 5)])), (d1, .inr (12, [.ref d2])), (d2, aI k 81 (fun j9 => nI (tpl 5 c (g c / 4) g j9)))] rfl (fun j hj => by exact congrArg nI (by simp only [ad, sb, tpl, nbr]; repeat' (first | omega | split))) rfl ?_
              exact g_iret (pc := 131) C hr hlk (by first | decide | omega) (by first | decide | omega) (by first | decide | omega) dX1_toppleCell_131 ⟨rfl, rfl⟩
            · have k113 : c < 20 := by rcases Nat.lt_or_ge (c) (20) with q | q; exact q; exact absurd (show nI (20) ≤ nI (c) from nI_le q (by omega)) c_113
              refine g_aload_n (pc := 116) C 2 rfl rfl dX1_toppleCell_116 ?_
              refine g_get (pc := 117) C (T := TX1) inX1 0 rfl rfl 0 (by decide) q_130 rfl rfl dX1_toppleCell_117 ?_
              refine g_iload_n (pc := 120) C 3 rfl rfl dX1_toppleCell_120 ?_
              refine g_aload_n (pc := 121) C 2 rfl rfl dX1_toppleCell_121 ?_
              refine g_get (pc := 122) C (T := TX1) inX1 0 rfl rfl 1 (by decide) q_131 rfl rfl dX1_toppleCell_122 ?_
              refine g_iadd (pc := 125) C dX1_toppleCell_125 ?_
              refine G.eqs (st' := [.int (nI (c + 5)), .ref d1]) (congrArg (β := List Value) (fun z9 => [.int z9, .ref d1]) (show (((nI c) + (nI 5)) : Int32) = (nI (c + 5)) from nI_add c 5)) ?_
              refine g_iload_n (pc := 126) C 1 rfl rfl dX1_toppleCell_126 ?_
              refine g_callV (pc := 127) (cells := 0) (slots := 0) (g := 0) (As := [.int (nI (c + 5)), .int (nI (g c / 4))]) (st := []) (T := TX8) (q0 := 1) C (nA := 2) rfl (c_X8_add_n d1 d2 81 (fun j9 => nI ((sb g c (4 * (g c / 4))) j9)) (c + 5) (nI (g c / 4)) (by first | assumption | decide | omega) (by first | assumption | decide | omega)) q_433 q_59 q_57 q_6 q_56 (by decide +kernel) rfl rfl dX1_toppleCell_127 ⟨Nat.le_of_ble_eq_true rfl, Nat.le_of_ble_eq_true rfl⟩ [1, 2] [0] rfl (wr := [(o1, .inr (5, [.ref d1, .int (nI 5)]))]) rfl (by decide) (by decide) (by decide) (Nat.le_of_ble_eq_true rfl) ⟨Nat.le_of_ble_eq_true rfl, Nat.le_of_ble_eq_true rfl⟩ (fun rv w1 h1 => ?_)
              obtain ⟨rfl, rfl⟩ := h1
              refine G.aft [0, 1, 2] (ws' := [(o1, .inr (5, [.ref d1, .int (nI 5)])), (d1, .inr (12, [.ref d2])), (d2, aI k 81 (upd (fun j9 => nI ((sb g c (4 * (g c / 4))) j9)) (c + 5) ((fun j9 => nI ((sb g c (4 * (g c / 4))) j9)) (c + 5) + (nI (g c / 4)))))]) (st' := []) (cells' := 0) (slots' := 0) (g' := 0) (by decide) rfl rfl rfl rfl rfl ?_
              refine G.fn (fun j9 => nI ((ad (sb g c (4 * (g c / 4))) (c + 5) (g c / 4)) j9)) 2 [(o1, .inr (5, [.ref d1, .int (nI 5)])), (d1, .inr (12, [.ref d2])), (d2, aI k 81 (fun j9 => nI ((ad (sb g c (4 * (g c / 4))) (c + 5) (g c / 4)) j9)))] rfl (fun j hj => by exact ad_step _ _ _ j) rfl ?_
              refine g_iload_n (pc := 130) C 1 rfl rfl dX1_toppleCell_130 ?_
              refine G.fn (fun j9 => nI (tpl 5 c (g c / 4) g j9)) 2 [(o1, .inr (5, [.ref d1, .int (nI 5)])), (d1, .inr (12, [.ref d2])), (d2, aI k 81 (fun j9 => nI (tpl 5 c (g c / 4) g j9)))] rfl (fun j hj => by exact congrArg nI (by simp only [ad, sb, tpl, nbr]; repeat' (first | omega | split))) rfl ?_
              exact g_iret (pc := 131) C hr hlk (by first | decide | omega) (by first | decide | omega) (by first | decide | omega) dX1_toppleCell_131 ⟨rfl, rfl⟩
          · have k86 : 5 ≤ c := by rcases Nat.lt_or_ge (c) (5) with q | q; exact absurd (nI_lt q (by omega)) c_86; exact q
            refine g_aload_n (pc := 89) C 2 rfl rfl dX1_toppleCell_89 ?_
            refine g_get (pc := 90) C (T := TX1) inX1 0 rfl rfl 0 (by decide) q_130 rfl rfl dX1_toppleCell_90 ?_
            refine g_iload_n (pc := 93) C 3 rfl rfl dX1_toppleCell_93 ?_
            refine g_aload_n (pc := 94) C 2 rfl rfl dX1_toppleCell_94 ?_
            refine g_get (pc := 95) C (T := TX1) inX1 0 rfl rfl 1 (by decide) q_131 rfl rfl dX1_toppleCell_95 ?_
            refine g_isub (pc := 98) C dX1_toppleCell_98 ?_
            refine G.eqs (st' := [.int (nI (c - 5)), .ref d1]) (congrArg (β := List Value) (fun z9 => [.int z9, .ref d1]) (show (((nI c) - (nI 5)) : Int32) = (nI (c - 5)) from pk_sub (by omega))) ?_
            refine g_iload_n (pc := 99) C 1 rfl rfl dX1_toppleCell_99 ?_
            refine g_callV (pc := 100) (cells := 0) (slots := 0) (g := 0) (As := [.int (nI (c - 5)), .int (nI (g c / 4))]) (st := []) (T := TX8) (q0 := 1) C (nA := 2) rfl (c_X8_add_n d1 d2 81 (fun j9 => nI ((sb g c (4 * (g c / 4))) j9)) (c - 5) (nI (g c / 4)) (by first | assumption | decide | omega) (by first | assumption | decide | omega)) q_433 q_59 q_57 q_6 q_56 (by decide +kernel) rfl rfl dX1_toppleCell_100 ⟨Nat.le_of_ble_eq_true rfl, Nat.le_of_ble_eq_true rfl⟩ [1, 2] [0] rfl (wr := [(o1, .inr (5, [.ref d1, .int (nI 5)]))]) rfl (by decide) (by decide) (by decide) (Nat.le_of_ble_eq_true rfl) ⟨Nat.le_of_ble_eq_true rfl, Nat.le_of_ble_eq_true rfl⟩ (fun rv w1 h1 => ?_)
            obtain ⟨rfl, rfl⟩ := h1
            refine G.aft [0, 1, 2] (ws' := [(o1, .inr (5, [.ref d1, .int (nI 5)])), (d1, .inr (12, [.ref d2])), (d2, aI k 81 (upd (fun j9 => nI ((sb g c (4 * (g c / 4))) j9)) (c - 5) ((fun j9 => nI ((sb g c (4 * (g c / 4))) j9)) (c - 5) + (nI (g c / 4)))))]) (st' := []) (cells' := 0) (slots' := 0) (g' := 0) (by decide) rfl rfl rfl rfl rfl ?_
            refine G.fn (fun j9 => nI ((ad (sb g c (4 * (g c / 4))) (c - 5) (g c / 4)) j9)) 2 [(o1, .inr (5, [.ref d1, .int (nI 5)])), (d1, .inr (12, [.ref d2])), (d2, aI k 81 (fun j9 => nI ((ad (sb g c (4 * (g c / 4))) (c - 5) (g c / 4)) j9)))] rfl (fun j hj => by exact ad_step _ _ _ j) rfl ?_
            refine g_iload_n (pc := 103) C 3 rfl rfl dX1_toppleCell_103 ?_
            refine g_aload_n (pc := 104) C 2 rfl rfl dX1_toppleCell_104 ?_
            refine g_callV (pc := 105) (cells := 0) (slots := 0) (g := 0) (As := []) (st := [.int (nI c)]) (T := TX1) (q0 := 0) C (nA := 0) rfl (c_X1_cellNumber o1 d1 (nI 5) ) q_434 q_235 q_233 q_182 q_232 (by decide +kernel) rfl rfl dX1_toppleCell_105 ⟨Nat.le_of_ble_eq_true rfl, Nat.le_of_ble_eq_true rfl⟩ [0] [1, 2] rfl (wr := [(d1, .inr (12, [.ref d2])), (d2, aI k 81 (fun j9 => nI ((ad (sb g c (4 * (g c / 4))) (c - 5) (g c / 4)) j9)))]) rfl (by decide) (by decide) (by decide) (Nat.le_of_ble_eq_true rfl) ⟨Nat.le_of_ble_eq_true rfl, Nat.le_of_ble_eq_true rfl⟩ (fun rv w1 h1 => ?_)
            obtain ⟨rfl, rfl⟩ := h1
            refine G.aft [2, 0, 1] (ws' := [(o1, .inr (5, [.ref d1, .int (nI 5)])), (d1, .inr (12, [.ref d2])), (d2, aI k 81 (fun j9 => nI ((ad (sb g c (4 * (g c / 4))) (c - 5) (g c / 4)) j9)))]) (st' := [.int ((nI 5) * (nI 5)), .int (nI c)]) (cells' := 0) (slots' := 0) (g' := 0) (by decide) rfl rfl rfl rfl rfl ?_
            refine g_aload_n (pc := 108) C 2 rfl rfl dX1_toppleCell_108 ?_
            refine g_get (pc := 109) C (T := TX1) inX1 0 rfl rfl 1 (by decide) q_131 rfl rfl dX1_toppleCell_109 ?_
            refine g_isub (pc := 112) C dX1_toppleCell_112 ?_
            refine G.eqs (st' := [.int (nI 20), .int (nI c)]) (congrArg (β := List Value) (fun z9 => [.int z9, .int (nI c)]) (show ((((nI 5) * (nI 5)) - (nI 5)) : Int32) = (nI 20) from by decide)) ?_
            refine g_icmp_ge (pc := 113) C 130 (by decide) dX1_toppleCell_113 (fun c_113 => ?_) (fun c_113 => ?_)
            · have k113 : 20 ≤ c := by rcases Nat.lt_or_ge (c) (20) with q | q; exact absurd (show nI (20) ≤ nI (c) from c_113) (nI_ge q (by omega)); exact q
              refine g_iload_n (pc := 130) C 1 rfl rfl dX1_toppleCell_130 ?_
              refine G.fn (fun j9 => nI (tpl 5 c (g c / 4) g j9)) 2 [(o1, .inr (5, [.ref d1, .int (nI 5)])), (d1, .inr (12, [.ref d2])), (d2, aI k 81 (fun j9 => nI (tpl 5 c (g c / 4) g j9)))] rfl (fun j hj => by exact congrArg nI (by simp only [ad, sb, tpl, nbr]; repeat' (first | omega | split))) rfl ?_
              exact g_iret (pc := 131) C hr hlk (by first | decide | omega) (by first | decide | omega) (by first | decide | omega) dX1_toppleCell_131 ⟨rfl, rfl⟩
            · have k113 : c < 20 := by rcases Nat.lt_or_ge (c) (20) with q | q; exact q; exact absurd (show nI (20) ≤ nI (c) from nI_le q (by omega)) c_113
              refine g_aload_n (pc := 116) C 2 rfl rfl dX1_toppleCell_116 ?_
              refine g_get (pc := 117) C (T := TX1) inX1 0 rfl rfl 0 (by decide) q_130 rfl rfl dX1_toppleCell_117 ?_
              refine g_iload_n (pc := 120) C 3 rfl rfl dX1_toppleCell_120 ?_
              refine g_aload_n (pc := 121) C 2 rfl rfl dX1_toppleCell_121 ?_
              refine g_get (pc := 122) C (T := TX1) inX1 0 rfl rfl 1 (by decide) q_131 rfl rfl dX1_toppleCell_122 ?_
              refine g_iadd (pc := 125) C dX1_toppleCell_125 ?_
              refine G.eqs (st' := [.int (nI (c + 5)), .ref d1]) (congrArg (β := List Value) (fun z9 => [.int z9, .ref d1]) (show (((nI c) + (nI 5)) : Int32) = (nI (c + 5)) from nI_add c 5)) ?_
              refine g_iload_n (pc := 126) C 1 rfl rfl dX1_toppleCell_126 ?_
              refine g_callV (pc := 127) (cells := 0) (slots := 0) (g := 0) (As := [.int (nI (c + 5)), .int (nI (g c / 4))]) (st := []) (T := TX8) (q0 := 1) C (nA := 2) rfl (c_X8_add_n d1 d2 81 (fun j9 => nI ((ad (sb g c (4 * (g c / 4))) (c - 5) (g c / 4)) j9)) (c + 5) (nI (g c / 4)) (by first | assumption | decide | omega) (by first | assumption | decide | omega)) q_433 q_59 q_57 q_6 q_56 (by decide +kernel) rfl rfl dX1_toppleCell_127 ⟨Nat.le_of_ble_eq_true rfl, Nat.le_of_ble_eq_true rfl⟩ [1, 2] [0] rfl (wr := [(o1, .inr (5, [.ref d1, .int (nI 5)]))]) rfl (by decide) (by decide) (by decide) (Nat.le_of_ble_eq_true rfl) ⟨Nat.le_of_ble_eq_true rfl, Nat.le_of_ble_eq_true rfl⟩ (fun rv w1 h1 => ?_)
              obtain ⟨rfl, rfl⟩ := h1
              refine G.aft [0, 1, 2] (ws' := [(o1, .inr (5, [.ref d1, .int (nI 5)])), (d1, .inr (12, [.ref d2])), (d2, aI k 81 (upd (fun j9 => nI ((ad (sb g c (4 * (g c / 4))) (c - 5) (g c / 4)) j9)) (c + 5) ((fun j9 => nI ((ad (sb g c (4 * (g c / 4))) (c - 5) (g c / 4)) j9)) (c + 5) + (nI (g c / 4)))))]) (st' := []) (cells' := 0) (slots' := 0) (g' := 0) (by decide) rfl rfl rfl rfl rfl ?_
              refine G.fn (fun j9 => nI ((ad (ad (sb g c (4 * (g c / 4))) (c - 5) (g c / 4)) (c + 5) (g c / 4)) j9)) 2 [(o1, .inr (5, [.ref d1, .int (nI 5)])), (d1, .inr (12, [.ref d2])), (d2, aI k 81 (fun j9 => nI ((ad (ad (sb g c (4 * (g c / 4))) (c - 5) (g c / 4)) (c + 5) (g c / 4)) j9)))] rfl (fun j hj => by exact ad_step _ _ _ j) rfl ?_
              refine g_iload_n (pc := 130) C 1 rfl rfl dX1_toppleCell_130 ?_
              refine G.fn (fun j9 => nI (tpl 5 c (g c / 4) g j9)) 2 [(o1, .inr (5, [.ref d1, .int (nI 5)])), (d1, .inr (12, [.ref d2])), (d2, aI k 81 (fun j9 => nI (tpl 5 c (g c / 4) g j9)))] rfl (fun j hj => by exact congrArg nI (by simp only [ad, sb, tpl, nbr]; repeat' (first | omega | split))) rfl ?_
              exact g_iret (pc := 131) C hr hlk (by first | decide | omega) (by first | decide | omega) (by first | decide | omega) dX1_toppleCell_131 ⟨rfl, rfl⟩
        · have k67 : c % 5 < 4 := by rcases Nat.lt_or_ge (c % 5) (4) with q | q; exact q; exact absurd (show nI (4) ≤ nI (c % 5) from nI_le q (by omega)) c_67
          refine g_aload_n (pc := 70) C 2 rfl rfl dX1_toppleCell_70 ?_
          refine g_get (pc := 71) C (T := TX1) inX1 0 rfl rfl 0 (by decide) q_130 rfl rfl dX1_toppleCell_71 ?_
          refine g_iload_n (pc := 74) C 3 rfl rfl dX1_toppleCell_74 ?_
          refine g_iconst (pc := 75) (v := 1) C (by decide) dX1_toppleCell_75 ?_
          refine g_iadd (pc := 76) C dX1_toppleCell_76 ?_
          refine G.eqs (st' := [.int (nI (c + 1)), .ref d1]) (congrArg (β := List Value) (fun z9 => [.int z9, .ref d1]) (show (((nI c) + 1) : Int32) = (nI (c + 1)) from nI_1 c)) ?_
          refine g_iload_n (pc := 77) C 1 rfl rfl dX1_toppleCell_77 ?_
          refine g_callV (pc := 78) (cells := 0) (slots := 0) (g := 0) (As := [.int (nI (c + 1)), .int (nI (g c / 4))]) (st := []) (T := TX8) (q0 := 1) C (nA := 2) rfl (c_X8_add_n d1 d2 81 (fun j9 => nI ((sb g c (4 * (g c / 4))) j9)) (c + 1) (nI (g c / 4)) (by first | assumption | decide | omega) (by first | assumption | decide | omega)) q_433 q_59 q_57 q_6 q_56 (by decide +kernel) rfl rfl dX1_toppleCell_78 ⟨Nat.le_of_ble_eq_true rfl, Nat.le_of_ble_eq_true rfl⟩ [1, 2] [0] rfl (wr := [(o1, .inr (5, [.ref d1, .int (nI 5)]))]) rfl (by decide) (by decide) (by decide) (Nat.le_of_ble_eq_true rfl) ⟨Nat.le_of_ble_eq_true rfl, Nat.le_of_ble_eq_true rfl⟩ (fun rv w1 h1 => ?_)
          obtain ⟨rfl, rfl⟩ := h1
          refine G.aft [0, 1, 2] (ws' := [(o1, .inr (5, [.ref d1, .int (nI 5)])), (d1, .inr (12, [.ref d2])), (d2, aI k 81 (upd (fun j9 => nI ((sb g c (4 * (g c / 4))) j9)) (c + 1) ((fun j9 => nI ((sb g c (4 * (g c / 4))) j9)) (c + 1) + (nI (g c / 4)))))]) (st' := []) (cells' := 0) (slots' := 0) (g' := 0) (by decide) rfl rfl rfl rfl rfl ?_
          refine G.fn (fun j9 => nI ((ad (sb g c (4 * (g c / 4))) (c + 1) (g c / 4)) j9)) 2 [(o1, .inr (5, [.ref d1, .int (nI 5)])), (d1, .inr (12, [.ref d2])), (d2, aI k 81 (fun j9 => nI ((ad (sb g c (4 * (g c / 4))) (c + 1) (g c / 4)) j9)))] rfl (fun j hj => by exact ad_step _ _ _ j) rfl ?_
          refine g_iload_n (pc := 81) C 3 rfl rfl dX1_toppleCell_81 ?_
          refine g_aload_n (pc := 82) C 2 rfl rfl dX1_toppleCell_82 ?_
          refine g_get (pc := 83) C (T := TX1) inX1 0 rfl rfl 1 (by decide) q_131 rfl rfl dX1_toppleCell_83 ?_
          refine g_icmp_lt (pc := 86) C 103 (by decide) dX1_toppleCell_86 (fun c_86 => ?_) (fun c_86 => ?_)
          · have k86 : c < 5 := by rcases Nat.lt_or_ge (c) (5) with q | q; exact q; exact absurd c_86 (nI_nlt q (by omega))
            refine g_iload_n (pc := 103) C 3 rfl rfl dX1_toppleCell_103 ?_
            refine g_aload_n (pc := 104) C 2 rfl rfl dX1_toppleCell_104 ?_
            refine g_callV (pc := 105) (cells := 0) (slots := 0) (g := 0) (As := []) (st := [.int (nI c)]) (T := TX1) (q0 := 0) C (nA := 0) rfl (c_X1_cellNumber o1 d1 (nI 5) ) q_434 q_235 q_233 q_182 q_232 (by decide +kernel) rfl rfl dX1_toppleCell_105 ⟨Nat.le_of_ble_eq_true rfl, Nat.le_of_ble_eq_true rfl⟩ [0] [1, 2] rfl (wr := [(d1, .inr (12, [.ref d2])), (d2, aI k 81 (fun j9 => nI ((ad (sb g c (4 * (g c / 4))) (c + 1) (g c / 4)) j9)))]) rfl (by decide) (by decide) (by decide) (Nat.le_of_ble_eq_true rfl) ⟨Nat.le_of_ble_eq_true rfl, Nat.le_of_ble_eq_true rfl⟩ (fun rv w1 h1 => ?_)
            obtain ⟨rfl, rfl⟩ := h1
            refine G.aft [2, 0, 1] (ws' := [(o1, .inr (5, [.ref d1, .int (nI 5)])), (d1, .inr (12, [.ref d2])), (d2, aI k 81 (fun j9 => nI ((ad (sb g c (4 * (g c / 4))) (c + 1) (g c / 4)) j9)))]) (st' := [.int ((nI 5) * (nI 5)), .int (nI c)]) (cells' := 0) (slots' := 0) (g' := 0) (by decide) rfl rfl rfl rfl rfl ?_
            refine g_aload_n (pc := 108) C 2 rfl rfl dX1_toppleCell_108 ?_
            refine g_get (pc := 109) C (T := TX1) inX1 0 rfl rfl 1 (by decide) q_131 rfl rfl dX1_toppleCell_109 ?_
            refine g_isub (pc := 112) C dX1_toppleCell_112 ?_
            refine G.eqs (st' := [.int (nI 20), .int (nI c)]) (congrArg (β := List Value) (fun z9 => [.int z9, .int (nI c)]) (show ((((nI 5) * (nI 5)) - (nI 5)) : Int32) = (nI 20) from by decide)) ?_
            refine g_icmp_ge (pc := 113) C 130 (by decide) dX1_toppleCell_113 (fun c_113 => ?_) (fun c_113 => ?_)
            · have k113 : 20 ≤ c := by rcases Nat.lt_or_ge (c) (20) with q | q; exact absurd (show nI (20) ≤ nI (c) from c_113) (nI_ge q (by omega)); exact q
              refine g_iload_n (pc := 130) C 1 rfl rfl dX1_toppleCell_130 ?_
              refine G.fn (fun j9 => nI (tpl 5 c (g c / 4) g j9)) 2 [(o1, .inr (5, [.ref d1, .int (nI 5)])), (d1, .inr (12, [.ref d2])), (d2, aI k 81 (fun j9 => nI (tpl 5 c (g c / 4) g j9)))] rfl (fun j hj => by exact congrArg nI (by simp only [ad, sb, tpl, nbr]; repeat' (first | omega | split))) rfl ?_
              exact g_iret (pc := 131) C hr hlk (by first | decide | omega) (by first | decide | omega) (by first | decide | omega) dX1_toppleCell_131 ⟨rfl, rfl⟩
            · have k113 : c < 20 := by rcases Nat.lt_or_ge (c) (20) with q | q; exact q; exact absurd (show nI (20) ≤ nI (c) from nI_le q (by omega)) c_113
              refine g_aload_n (pc := 116) C 2 rfl rfl dX1_toppleCell_116 ?_
              refine g_get (pc := 117) C (T := TX1) inX1 0 rfl rfl 0 (by decide) q_130 rfl rfl dX1_toppleCell_117 ?_
              refine g_iload_n (pc := 120) C 3 rfl rfl dX1_toppleCell_120 ?_
              refine g_aload_n (pc := 121) C 2 rfl rfl dX1_toppleCell_121 ?_
              refine g_get (pc := 122) C (T := TX1) inX1 0 rfl rfl 1 (by decide) q_131 rfl rfl dX1_toppleCell_122 ?_
              refine g_iadd (pc := 125) C dX1_toppleCell_125 ?_
              refine G.eqs (st' := [.int (nI (c + 5)), .ref d1]) (congrArg (β := List Value) (fun z9 => [.int z9, .ref d1]) (show (((nI c) + (nI 5)) : Int32) = (nI (c + 5)) from nI_add c 5)) ?_
              refine g_iload_n (pc := 126) C 1 rfl rfl dX1_toppleCell_126 ?_
              refine g_callV (pc := 127) (cells := 0) (slots := 0) (g := 0) (As := [.int (nI (c + 5)), .int (nI (g c / 4))]) (st := []) (T := TX8) (q0 := 1) C (nA := 2) rfl (c_X8_add_n d1 d2 81 (fun j9 => nI ((ad (sb g c (4 * (g c / 4))) (c + 1) (g c / 4)) j9)) (c + 5) (nI (g c / 4)) (by first | assumption | decide | omega) (by first | assumption | decide | omega)) q_433 q_59 q_57 q_6 q_56 (by decide +kernel) rfl rfl dX1_toppleCell_127 ⟨Nat.le_of_ble_eq_true rfl, Nat.le_of_ble_eq_true rfl⟩ [1, 2] [0] rfl (wr := [(o1, .inr (5, [.ref d1, .int (nI 5)]))]) rfl (by decide) (by decide) (by decide) (Nat.le_of_ble_eq_true rfl) ⟨Nat.le_of_ble_eq_true rfl, Nat.le_of_ble_eq_true rfl⟩ (fun rv w1 h1 => ?_)
              obtain ⟨rfl, rfl⟩ := h1
              refine G.aft [0, 1, 2] (ws' := [(o1, .inr (5, [.ref d1, .int (nI 5)])), (d1, .inr (12, [.ref d2])), (d2, aI k 81 (upd (fun j9 => nI ((ad (sb g c (4 * (g c / 4))) (c + 1) (g c / 4)) j9)) (c + 5) ((fun j9 => nI ((ad (sb g c (4 * (g c / 4))) (c + 1) (g c / 4)) j9)) (c + 5) + (nI (g c / 4)))))]) (st' := []) (cells' := 0) (slots' := 0) (g' := 0) (by decide) rfl rfl rfl rfl rfl ?_
              refine G.fn (fun j9 => nI ((ad (ad (sb g c (4 * (g c / 4))) (c + 1) (g c / 4)) (c + 5) (g c / 4)) j9)) 2 [(o1, .inr (5, [.ref d1, .int (nI 5)])), (d1, .inr (12, [.ref d2])), (d2, aI k 81 (fun j9 => nI ((ad (ad (sb g c (4 * (g c / 4))) (c + 1) (g c / 4)) (c + 5) (g c / 4)) j9)))] rfl (fun j hj => by exact ad_step _ _ _ j) rfl ?_
              refine g_iload_n (pc := 130) C 1 rfl rfl dX1_toppleCell_130 ?_
              refine G.fn (fun j9 => nI (tpl 5 c (g c / 4) g j9)) 2 [(o1, .inr (5, [.ref d1, .int (nI 5)])), (d1, .inr (12, [.ref d2])), (d2, aI k 81 (fun j9 => nI (tpl 5 c (g c / 4) g j9)))] rfl (fun j hj => by exact congrArg nI (by simp only [ad, sb, tpl, nbr]; repeat' (first | omega | split))) rfl ?_
              exact g_iret (pc := 131) C hr hlk (by first | decide | omega) (by first | decide | omega) (by first | decide | omega) dX1_toppleCell_131 ⟨rfl, rfl⟩
          · have k86 : 5 ≤ c := by rcases Nat.lt_or_ge (c) (5) with q | q; exact absurd (nI_lt q (by omega)) c_86; exact q
            refine g_aload_n (pc := 89) C 2 rfl rfl dX1_toppleCell_89 ?_
            refine g_get (pc := 90) C (T := TX1) inX1 0 rfl rfl 0 (by decide) q_130 rfl rfl dX1_toppleCell_90 ?_
            refine g_iload_n (pc := 93) C 3 rfl rfl dX1_toppleCell_93 ?_
            refine g_aload_n (pc := 94) C 2 rfl rfl dX1_toppleCell_94 ?_
            refine g_get (pc := 95) C (T := TX1) inX1 0 rfl rfl 1 (by decide) q_131 rfl rfl dX1_toppleCell_95 ?_
            refine g_isub (pc := 98) C dX1_toppleCell_98 ?_
            refine G.eqs (st' := [.int (nI (c - 5)), .ref d1]) (congrArg (β := List Value) (fun z9 => [.int z9, .ref d1]) (show (((nI c) - (nI 5)) : Int32) = (nI (c - 5)) from pk_sub (by omega))) ?_
            refine g_iload_n (pc := 99) C 1 rfl rfl dX1_toppleCell_99 ?_
            refine g_callV (pc := 100) (cells := 0) (slots := 0) (g := 0) (As := [.int (nI (c - 5)), .int (nI (g c / 4))]) (st := []) (T := TX8) (q0 := 1) C (nA := 2) rfl (c_X8_add_n d1 d2 81 (fun j9 => nI ((ad (sb g c (4 * (g c / 4))) (c + 1) (g c / 4)) j9)) (c - 5) (nI (g c / 4)) (by first | assumption | decide | omega) (by first | assumption | decide | omega)) q_433 q_59 q_57 q_6 q_56 (by decide +kernel) rfl rfl dX1_toppleCell_100 ⟨Nat.le_of_ble_eq_true rfl, Nat.le_of_ble_eq_true rfl⟩ [1, 2] [0] rfl (wr := [(o1, .inr (5, [.ref d1, .int (nI 5)]))]) rfl (by decide) (by decide) (by decide) (Nat.le_of_ble_eq_true rfl) ⟨Nat.le_of_ble_eq_true rfl, Nat.le_of_ble_eq_true rfl⟩ (fun rv w1 h1 => ?_)
            obtain ⟨rfl, rfl⟩ := h1
            refine G.aft [0, 1, 2] (ws' := [(o1, .inr (5, [.ref d1, .int (nI 5)])), (d1, .inr (12, [.ref d2])), (d2, aI k 81 (upd (fun j9 => nI ((ad (sb g c (4 * (g c / 4))) (c + 1) (g c / 4)) j9)) (c - 5) ((fun j9 => nI ((ad (sb g c (4 * (g c / 4))) (c + 1) (g c / 4)) j9)) (c - 5) + (nI (g c / 4)))))]) (st' := []) (cells' := 0) (slots' := 0) (g' := 0) (by decide) rfl rfl rfl rfl rfl ?_
            refine G.fn (fun j9 => nI ((ad (ad (sb g c (4 * (g c / 4))) (c + 1) (g c / 4)) (c - 5) (g c / 4)) j9)) 2 [(o1, .inr (5, [.ref d1, .int (nI 5)])), (d1, .inr (12, [.ref d2])), (d2, aI k 81 (fun j9 => nI ((ad (ad (sb g c (4 * (g c / 4))) (c + 1) (g c / 4)) (c - 5) (g c / 4)) j9)))] rfl (fun j hj => by exact ad_step _ _ _ j) rfl ?_
            refine g_iload_n (pc := 103) C 3 rfl rfl dX1_toppleCell_103 ?_
            refine g_aload_n (pc := 104) C 2 rfl rfl dX1_toppleCell_104 ?_
            refine g_callV (pc := 105) (cells := 0) (slots := 0) (g := 0) (As := []) (st := [.int (nI c)]) (T := TX1) (q0 := 0) C (nA := 0) rfl (c_X1_cellNumber o1 d1 (nI 5) ) q_434 q_235 q_233 q_182 q_232 (by decide +kernel) rfl rfl dX1_toppleCell_105 ⟨Nat.le_of_ble_eq_true rfl, Nat.le_of_ble_eq_true rfl⟩ [0] [1, 2] rfl (wr := [(d1, .inr (12, [.ref d2])), (d2, aI k 81 (fun j9 => nI ((ad (ad (sb g c (4 * (g c / 4))) (c + 1) (g c / 4)) (c - 5) (g c / 4)) j9)))]) rfl (by decide) (by decide) (by decide) (Nat.le_of_ble_eq_true rfl) ⟨Nat.le_of_ble_eq_true rfl, Nat.le_of_ble_eq_true rfl⟩ (fun rv w1 h1 => ?_)
            obtain ⟨rfl, rfl⟩ := h1
            refine G.aft [2, 0, 1] (ws' := [(o1, .inr (5, [.ref d1, .int (nI 5)])), (d1, .inr (12, [.ref d2])), (d2, aI k 81 (fun j9 => nI ((ad (ad (sb g c (4 * (g c / 4))) (c + 1) (g c / 4)) (c - 5) (g c / 4)) j9)))]) (st' := [.int ((nI 5) * (nI 5)), .int (nI c)]) (cells' := 0) (slots' := 0) (g' := 0) (by decide) rfl rfl rfl rfl rfl ?_
            refine g_aload_n (pc := 108) C 2 rfl rfl dX1_toppleCell_108 ?_
            refine g_get (pc := 109) C (T := TX1) inX1 0 rfl rfl 1 (by decide) q_131 rfl rfl dX1_toppleCell_109 ?_
            refine g_isub (pc := 112) C dX1_toppleCell_112 ?_
            refine G.eqs (st' := [.int (nI 20), .int (nI c)]) (congrArg (β := List Value) (fun z9 => [.int z9, .int (nI c)]) (show ((((nI 5) * (nI 5)) - (nI 5)) : Int32) = (nI 20) from by decide)) ?_
            refine g_icmp_ge (pc := 113) C 130 (by decide) dX1_toppleCell_113 (fun c_113 => ?_) (fun c_113 => ?_)
            · have k113 : 20 ≤ c := by rcases Nat.lt_or_ge (c) (20) with q | q; exact absurd (show nI (20) ≤ nI (c) from c_113) (nI_ge q (by omega)); exact q
              refine g_iload_n (pc := 130) C 1 rfl rfl dX1_toppleCell_130 ?_
              refine G.fn (fun j9 => nI (tpl 5 c (g c / 4) g j9)) 2 [(o1, .inr (5, [.ref d1, .int (nI 5)])), (d1, .inr (12, [.ref d2])), (d2, aI k 81 (fun j9 => nI (tpl 5 c (g c / 4) g j9)))] rfl (fun j hj => by exact congrArg nI (by simp only [ad, sb, tpl, nbr]; repeat' (first | omega | split))) rfl ?_
              exact g_iret (pc := 131) C hr hlk (by first | decide | omega) (by first | decide | omega) (by first | decide | omega) dX1_toppleCell_131 ⟨rfl, rfl⟩
            · have k113 : c < 20 := by rcases Nat.lt_or_ge (c) (20) with q | q; exact q; exact absurd (show nI (20) ≤ nI (c) from nI_le q (by omega)) c_113
              refine g_aload_n (pc := 116) C 2 rfl rfl dX1_toppleCell_116 ?_
              refine g_get (pc := 117) C (T := TX1) inX1 0 rfl rfl 0 (by decide) q_130 rfl rfl dX1_toppleCell_117 ?_
              refine g_iload_n (pc := 120) C 3 rfl rfl dX1_toppleCell_120 ?_
              refine g_aload_n (pc := 121) C 2 rfl rfl dX1_toppleCell_121 ?_
              refine g_get (pc := 122) C (T := TX1) inX1 0 rfl rfl 1 (by decide) q_131 rfl rfl dX1_toppleCell_122 ?_
              refine g_iadd (pc := 125) C dX1_toppleCell_125 ?_
              refine G.eqs (st' := [.int (nI (c + 5)), .ref d1]) (congrArg (β := List Value) (fun z9 => [.int z9, .ref d1]) (show (((nI c) + (nI 5)) : Int32) = (nI (c + 5)) from nI_add c 5)) ?_
              refine g_iload_n (pc := 126) C 1 rfl rfl dX1_toppleCell_126 ?_
              refine g_callV (pc := 127) (cells := 0) (slots := 0) (g := 0) (As := [.int (nI (c + 5)), .int (nI (g c / 4))]) (st := []) (T := TX8) (q0 := 1) C (nA := 2) rfl (c_X8_add_n d1 d2 81 (fun j9 => nI ((ad (ad (sb g c (4 * (g c / 4))) (c + 1) (g c / 4)) (c - 5) (g c / 4)) j9)) (c + 5) (nI (g c / 4)) (by first | assumption | decide | omega) (by first | assumption | decide | omega)) q_433 q_59 q_57 q_6 q_56 (by decide +kernel) rfl rfl dX1_toppleCell_127 ⟨Nat.le_of_ble_eq_true rfl, Nat.le_of_ble_eq_true rfl⟩ [1, 2] [0] rfl (wr := [(o1, .inr (5, [.ref d1, .int (nI 5)]))]) rfl (by decide) (by decide) (by decide) (Nat.le_of_ble_eq_true rfl) ⟨Nat.le_of_ble_eq_true rfl, Nat.le_of_ble_eq_true rfl⟩ (fun rv w1 h1 => ?_)
              obtain ⟨rfl, rfl⟩ := h1
              refine G.aft [0, 1, 2] (ws' := [(o1, .inr (5, [.ref d1, .int (nI 5)])), (d1, .inr (12, [.ref d2])), (d2, aI k 81 (upd (fun j9 => nI ((ad (ad (sb g c (4 * (g c / 4))) (c + 1) (g c / 4)) (c - 5) (g c / 4)) j9)) (c + 5) ((fun j9 => nI ((ad (ad (sb g c (4 * (g c / 4))) (c + 1) (g c / 4)) (c - 5) (g c / 4)) j9)) (c + 5) + (nI (g c / 4)))))]) (st' := []) (cells' := 0) (slots' := 0) (g' := 0) (by decide) rfl rfl rfl rfl rfl ?_
              refine G.fn (fun j9 => nI ((ad (ad (ad (sb g c (4 * (g c / 4))) (c + 1) (g c / 4)) (c - 5) (g c / 4)) (c + 5) (g c / 4)) j9)) 2 [(o1, .inr (5, [.ref d1, .int (nI 5)])), (d1, .inr (12, [.ref d2])), (d2, aI k 81 (fun j9 => nI ((ad (ad (ad (sb g c (4 * (g c / 4))) (c + 1) (g c / 4)) (c - 5) (g c / 4)) (c + 5) (g c / 4)) j9)))] rfl (fun j hj => by exact ad_step _ _ _ j) rfl ?_
              refine g_iload_n (pc := 130) C 1 rfl rfl dX1_toppleCell_130 ?_
              refine G.fn (fun j9 => nI (tpl 5 c (g c / 4) g j9)) 2 [(o1, .inr (5, [.ref d1, .int (nI 5)])), (d1, .inr (12, [.ref d2])), (d2, aI k 81 (fun j9 => nI (tpl 5 c (g c / 4) g j9)))] rfl (fun j hj => by exact congrArg nI (by simp only [ad, sb, tpl, nbr]; repeat' (first | omega | split))) rfl ?_
              exact g_iret (pc := 131) C hr hlk (by first | decide | omega) (by first | decide | omega) (by first | decide | omega) dX1_toppleCell_131 ⟨rfl, rfl⟩
      · have k46 : 0 < c % 5 := by rcases Nat.eq_zero_or_pos (c % 5) with q | q; rw [q] at c_46; exact absurd (show nI 0 ≤ 0 by decide) c_46; exact q
        refine g_aload_n (pc := 49) C 2 rfl rfl dX1_toppleCell_49 ?_
        refine g_get (pc := 50) C (T := TX1) inX1 0 rfl rfl 0 (by decide) q_130 rfl rfl dX1_toppleCell_50 ?_
        refine g_iload_n (pc := 53) C 3 rfl rfl dX1_toppleCell_53 ?_
        refine g_iconst (pc := 54) (v := 1) C (by decide) dX1_toppleCell_54 ?_
        refine g_isub (pc := 55) C dX1_toppleCell_55 ?_
        refine G.eqs (st' := [.int (nI (c - 1)), .ref d1]) (congrArg (β := List Value) (fun z9 => [.int z9, .ref d1]) (show (((nI c) - 1) : Int32) = (nI (c - 1)) from by rw [show (1 : Int32) = nI 1 from rfl]; exact pk_sub (by omega))) ?_
        refine g_iload_n (pc := 56) C 1 rfl rfl dX1_toppleCell_56 ?_
        refine g_callV (pc := 57) (cells := 0) (slots := 0) (g := 0) (As := [.int (nI (c - 1)), .int (nI (g c / 4))]) (st := []) (T := TX8) (q0 := 1) C (nA := 2) rfl (c_X8_add_n d1 d2 81 (fun j9 => nI ((sb g c (4 * (g c / 4))) j9)) (c - 1) (nI (g c / 4)) (by first | assumption | decide | omega) (by first | assumption | decide | omega)) q_433 q_59 q_57 q_6 q_56 (by decide +kernel) rfl rfl dX1_toppleCell_57 ⟨Nat.le_of_ble_eq_true rfl, Nat.le_of_ble_eq_true rfl⟩ [1, 2] [0] rfl (wr := [(o1, .inr (5, [.ref d1, .int (nI 5)]))]) rfl (by decide) (by decide) (by decide) (Nat.le_of_ble_eq_true rfl) ⟨Nat.le_of_ble_eq_true rfl, Nat.le_of_ble_eq_true rfl⟩ (fun rv w1 h1 => ?_)
        obtain ⟨rfl, rfl⟩ := h1
        refine G.aft [0, 1, 2] (ws' := [(o1, .inr (5, [.ref d1, .int (nI 5)])), (d1, .inr (12, [.ref d2])), (d2, aI k 81 (upd (fun j9 => nI ((sb g c (4 * (g c / 4))) j9)) (c - 1) ((fun j9 => nI ((sb g c (4 * (g c / 4))) j9)) (c - 1) + (nI (g c / 4)))))]) (st' := []) (cells' := 0) (slots' := 0) (g' := 0) (by decide) rfl rfl rfl rfl rfl ?_
        refine G.fn (fun j9 => nI ((ad (sb g c (4 * (g c / 4))) (c - 1) (g c / 4)) j9)) 2 [(o1, .inr (5, [.ref d1, .int (nI 5)])), (d1, .inr (12, [.ref d2])), (d2, aI k 81 (fun j9 => nI ((ad (sb g c (4 * (g c / 4))) (c - 1) (g c / 4)) j9)))] rfl (fun j hj => by exact ad_step _ _ _ j) rfl ?_
        refine g_iload_n (pc := 60) C 0 rfl rfl dX1_toppleCell_60 ?_
        refine g_aload_n (pc := 61) C 2 rfl rfl dX1_toppleCell_61 ?_
        refine g_get (pc := 62) C (T := TX1) inX1 0 rfl rfl 1 (by decide) q_131 rfl rfl dX1_toppleCell_62 ?_
        refine g_iconst (pc := 65) (v := 1) C (by decide) dX1_toppleCell_65 ?_
        refine g_isub (pc := 66) C dX1_toppleCell_66 ?_
        refine G.eqs (st' := [.int (nI 4), .int (nI (c % 5))]) (congrArg (β := List Value) (fun z9 => [.int z9, .int (nI (c % 5))]) (show (((nI 5) - 1) : Int32) = (nI 4) from by decide)) ?_
        refine g_icmp_ge (pc := 67) C 81 (by decide) dX1_toppleCell_67 (fun c_67 => ?_) (fun c_67 => ?_)
        · have k67 : 4 ≤ c % 5 := by rcases Nat.lt_or_ge (c % 5) (4) with q | q; exact absurd (show nI (4) ≤ nI (c % 5) from c_67) (nI_ge q (by omega)); exact q
          refine g_iload_n (pc := 81) C 3 rfl rfl dX1_toppleCell_81 ?_
          refine g_aload_n (pc := 82) C 2 rfl rfl dX1_toppleCell_82 ?_
          refine g_get (pc := 83) C (T := TX1) inX1 0 rfl rfl 1 (by decide) q_131 rfl rfl dX1_toppleCell_83 ?_
          refine g_icmp_lt (pc := 86) C 103 (by decide) dX1_toppleCell_86 (fun c_86 => ?_) (fun c_86 => ?_)
          · have k86 : c < 5 := by rcases Nat.lt_or_ge (c) (5) with q | q; exact q; exact absurd c_86 (nI_nlt q (by omega))
            refine g_iload_n (pc := 103) C 3 rfl rfl dX1_toppleCell_103 ?_
            refine g_aload_n (pc := 104) C 2 rfl rfl dX1_toppleCell_104 ?_
            refine g_callV (pc := 105) (cells := 0) (slots := 0) (g := 0) (As := []) (st := [.int (nI c)]) (T := TX1) (q0 := 0) C (nA := 0) rfl (c_X1_cellNumber o1 d1 (nI 5) ) q_434 q_235 q_233 q_182 q_232 (by decide +kernel) rfl rfl dX1_toppleCell_105 ⟨Nat.le_of_ble_eq_true rfl, Nat.le_of_ble_eq_true rfl⟩ [0] [1, 2] rfl (wr := [(d1, .inr (12, [.ref d2])), (d2, aI k 81 (fun j9 => nI ((ad (sb g c (4 * (g c / 4))) (c - 1) (g c / 4)) j9)))]) rfl (by decide) (by decide) (by decide) (Nat.le_of_ble_eq_true rfl) ⟨Nat.le_of_ble_eq_true rfl, Nat.le_of_ble_eq_true rfl⟩ (fun rv w1 h1 => ?_)
            obtain ⟨rfl, rfl⟩ := h1
            refine G.aft [2, 0, 1] (ws' := [(o1, .inr (5, [.ref d1, .int (nI 5)])), (d1, .inr (12, [.ref d2])), (d2, aI k 81 (fun j9 => nI ((ad (sb g c (4 * (g c / 4))) (c - 1) (g c / 4)) j9)))]) (st' := [.int ((nI 5) * (nI 5)), .int (nI c)]) (cells' := 0) (slots' := 0) (g' := 0) (by decide) rfl rfl rfl rfl rfl ?_
            refine g_aload_n (pc := 108) C 2 rfl rfl dX1_toppleCell_108 ?_
            refine g_get (pc := 109) C (T := TX1) inX1 0 rfl rfl 1 (by decide) q_131 rfl rfl dX1_toppleCell_109 ?_
            refine g_isub (pc := 112) C dX1_toppleCell_112 ?_
            refine G.eqs (st' := [.int (nI 20), .int (nI c)]) (congrArg (β := List Value) (fun z9 => [.int z9, .int (nI c)]) (show ((((nI 5) * (nI 5)) - (nI 5)) : Int32) = (nI 20) from by decide)) ?_
            refine g_icmp_ge (pc := 113) C 130 (by decide) dX1_toppleCell_113 (fun c_113 => ?_) (fun c_113 => ?_)
            · have k113 : 20 ≤ c := by rcases Nat.lt_or_ge (c) (20) with q | q; exact absurd (show nI (20) ≤ nI (c) from c_113) (nI_ge q (by omega)); exact q
              refine g_iload_n (pc := 130) C 1 rfl rfl dX1_toppleCell_130 ?_
              refine G.fn (fun j9 => nI (tpl 5 c (g c / 4) g j9)) 2 [(o1, .inr (5, [.ref d1, .int (nI 5)])), (d1, .inr (12, [.ref d2])), (d2, aI k 81 (fun j9 => nI (tpl 5 c (g c / 4) g j9)))] rfl (fun j hj => by exact congrArg nI (by simp only [ad, sb, tpl, nbr]; repeat' (first | omega | split))) rfl ?_
              exact g_iret (pc := 131) C hr hlk (by first | decide | omega) (by first | decide | omega) (by first | decide | omega) dX1_toppleCell_131 ⟨rfl, rfl⟩
            · have k113 : c < 20 := by rcases Nat.lt_or_ge (c) (20) with q | q; exact q; exact absurd (show nI (20) ≤ nI (c) from nI_le q (by omega)) c_113
              refine g_aload_n (pc := 116) C 2 rfl rfl dX1_toppleCell_116 ?_
              refine g_get (pc := 117) C (T := TX1) inX1 0 rfl rfl 0 (by decide) q_130 rfl rfl dX1_toppleCell_117 ?_
              refine g_iload_n (pc := 120) C 3 rfl rfl dX1_toppleCell_120 ?_
              refine g_aload_n (pc := 121) C 2 rfl rfl dX1_toppleCell_121 ?_
              refine g_get (pc := 122) C (T := TX1) inX1 0 rfl rfl 1 (by decide) q_131 rfl rfl dX1_toppleCell_122 ?_
              refine g_iadd (pc := 125) C dX1_toppleCell_125 ?_
              refine G.eqs (st' := [.int (nI (c + 5)), .ref d1]) (congrArg (β := List Value) (fun z9 => [.int z9, .ref d1]) (show (((nI c) + (nI 5)) : Int32) = (nI (c + 5)) from nI_add c 5)) ?_
              refine g_iload_n (pc := 126) C 1 rfl rfl dX1_toppleCell_126 ?_
              refine g_callV (pc := 127) (cells := 0) (slots := 0) (g := 0) (As := [.int (nI (c + 5)), .int (nI (g c / 4))]) (st := []) (T := TX8) (q0 := 1) C (nA := 2) rfl (c_X8_add_n d1 d2 81 (fun j9 => nI ((ad (sb g c (4 * (g c / 4))) (c - 1) (g c / 4)) j9)) (c + 5) (nI (g c / 4)) (by first | assumption | decide | omega) (by first | assumption | decide | omega)) q_433 q_59 q_57 q_6 q_56 (by decide +kernel) rfl rfl dX1_toppleCell_127 ⟨Nat.le_of_ble_eq_true rfl, Nat.le_of_ble_eq_true rfl⟩ [1, 2] [0] rfl (wr := [(o1, .inr (5, [.ref d1, .int (nI 5)]))]) rfl (by decide) (by decide) (by decide) (Nat.le_of_ble_eq_true rfl) ⟨Nat.le_of_ble_eq_true rfl, Nat.le_of_ble_eq_true rfl⟩ (fun rv w1 h1 => ?_)
              obtain ⟨rfl, rfl⟩ := h1
              refine G.aft [0, 1, 2] (ws' := [(o1, .inr (5, [.ref d1, .int (nI 5)])), (d1, .inr (12, [.ref d2])), (d2, aI k 81 (upd (fun j9 => nI ((ad (sb g c (4 * (g c / 4))) (c - 1) (g c / 4)) j9)) (c + 5) ((fun j9 => nI ((ad (sb g c (4 * (g c / 4))) (c - 1) (g c / 4)) j9)) (c + 5) + (nI (g c / 4)))))]) (st' := []) (cells' := 0) (slots' := 0) (g' := 0) (by decide) rfl rfl rfl rfl rfl ?_
              refine G.fn (fun j9 => nI ((ad (ad (sb g c (4 * (g c / 4))) (c - 1) (g c / 4)) (c + 5) (g c / 4)) j9)) 2 [(o1, .inr (5, [.ref d1, .int (nI 5)])), (d1, .inr (12, [.ref d2])), (d2, aI k 81 (fun j9 => nI ((ad (ad (sb g c (4 * (g c / 4))) (c - 1) (g c / 4)) (c + 5) (g c / 4)) j9)))] rfl (fun j hj => by exact ad_step _ _ _ j) rfl ?_
              refine g_iload_n (pc := 130) C 1 rfl rfl dX1_toppleCell_130 ?_
              refine G.fn (fun j9 => nI (tpl 5 c (g c / 4) g j9)) 2 [(o1, .inr (5, [.ref d1, .int (nI 5)])), (d1, .inr (12, [.ref d2])), (d2, aI k 81 (fun j9 => nI (tpl 5 c (g c / 4) g j9)))] rfl (fun j hj => by exact congrArg nI (by simp only [ad, sb, tpl, nbr]; repeat' (first | omega | split))) rfl ?_
              exact g_iret (pc := 131) C hr hlk (by first | decide | omega) (by first | decide | omega) (by first | decide | omega) dX1_toppleCell_131 ⟨rfl, rfl⟩
          · have k86 : 5 ≤ c := by rcases Nat.lt_or_ge (c) (5) with q | q; exact absurd (nI_lt q (by omega)) c_86; exact q
            refine g_aload_n (pc := 89) C 2 rfl rfl dX1_toppleCell_89 ?_
            refine g_get (pc := 90) C (T := TX1) inX1 0 rfl rfl 0 (by decide) q_130 rfl rfl dX1_toppleCell_90 ?_
            refine g_iload_n (pc := 93) C 3 rfl rfl dX1_toppleCell_93 ?_
            refine g_aload_n (pc := 94) C 2 rfl rfl dX1_toppleCell_94 ?_
            refine g_get (pc := 95) C (T := TX1) inX1 0 rfl rfl 1 (by decide) q_131 rfl rfl dX1_toppleCell_95 ?_
            refine g_isub (pc := 98) C dX1_toppleCell_98 ?_
            refine G.eqs (st' := [.int (nI (c - 5)), .ref d1]) (congrArg (β := List Value) (fun z9 => [.int z9, .ref d1]) (show (((nI c) - (nI 5)) : Int32) = (nI (c - 5)) from pk_sub (by omega))) ?_
            refine g_iload_n (pc := 99) C 1 rfl rfl dX1_toppleCell_99 ?_
            refine g_callV (pc := 100) (cells := 0) (slots := 0) (g := 0) (As := [.int (nI (c - 5)), .int (nI (g c / 4))]) (st := []) (T := TX8) (q0 := 1) C (nA := 2) rfl (c_X8_add_n d1 d2 81 (fun j9 => nI ((ad (sb g c (4 * (g c / 4))) (c - 1) (g c / 4)) j9)) (c - 5) (nI (g c / 4)) (by first | assumption | decide | omega) (by first | assumption | decide | omega)) q_433 q_59 q_57 q_6 q_56 (by decide +kernel) rfl rfl dX1_toppleCell_100 ⟨Nat.le_of_ble_eq_true rfl, Nat.le_of_ble_eq_true rfl⟩ [1, 2] [0] rfl (wr := [(o1, .inr (5, [.ref d1, .int (nI 5)]))]) rfl (by decide) (by decide) (by decide) (Nat.le_of_ble_eq_true rfl) ⟨Nat.le_of_ble_eq_true rfl, Nat.le_of_ble_eq_true rfl⟩ (fun rv w1 h1 => ?_)
            obtain ⟨rfl, rfl⟩ := h1
            refine G.aft [0, 1, 2] (ws' := [(o1, .inr (5, [.ref d1, .int (nI 5)])), (d1, .inr (12, [.ref d2])), (d2, aI k 81 (upd (fun j9 => nI ((ad (sb g c (4 * (g c / 4))) (c - 1) (g c / 4)) j9)) (c - 5) ((fun j9 => nI ((ad (sb g c (4 * (g c / 4))) (c - 1) (g c / 4)) j9)) (c - 5) + (nI (g c / 4)))))]) (st' := []) (cells' := 0) (slots' := 0) (g' := 0) (by decide) rfl rfl rfl rfl rfl ?_
            refine G.fn (fun j9 => nI ((ad (ad (sb g c (4 * (g c / 4))) (c - 1) (g c / 4)) (c - 5) (g c / 4)) j9)) 2 [(o1, .inr (5, [.ref d1, .int (nI 5)])), (d1, .inr (12, [.ref d2])), (d2, aI k 81 (fun j9 => nI ((ad (ad (sb g c (4 * (g c / 4))) (c - 1) (g c / 4)) (c - 5) (g c / 4)) j9)))] rfl (fun j hj => by exact ad_step _ _ _ j) rfl ?_
            refine g_iload_n (pc := 103) C 3 rfl rfl dX1_toppleCell_103 ?_
            refine g_aload_n (pc := 104) C 2 rfl rfl dX1_toppleCell_104 ?_
            refine g_callV (pc := 105) (cells := 0) (slots := 0) (g := 0) (As := []) (st := [.int (nI c)]) (T := TX1) (q0 := 0) C (nA := 0) rfl (c_X1_cellNumber o1 d1 (nI 5) ) q_434 q_235 q_233 q_182 q_232 (by decide +kernel) rfl rfl dX1_toppleCell_105 ⟨Nat.le_of_ble_eq_true rfl, Nat.le_of_ble_eq_true rfl⟩ [0] [1, 2] rfl (wr := [(d1, .inr (12, [.ref d2])), (d2, aI k 81 (fun j9 => nI ((ad (ad (sb g c (4 * (g c / 4))) (c - 1) (g c / 4)) (c - 5) (g c / 4)) j9)))]) rfl (by decide) (by decide) (by decide) (Nat.le_of_ble_eq_true rfl) ⟨Nat.le_of_ble_eq_true rfl, Nat.le_of_ble_eq_true rfl⟩ (fun rv w1 h1 => ?_)
            obtain ⟨rfl, rfl⟩ := h1
            refine G.aft [2, 0, 1] (ws' := [(o1, .inr (5, [.ref d1, .int (nI 5)])), (d1, .inr (12, [.ref d2])), (d2, aI k 81 (fun j9 => nI ((ad (ad (sb g c (4 * (g c / 4))) (c - 1) (g c / 4)) (c - 5) (g c / 4)) j9)))]) (st' := [.int ((nI 5) * (nI 5)), .int (nI c)]) (cells' := 0) (slots' := 0) (g' := 0) (by decide) rfl rfl rfl rfl rfl ?_
            refine g_aload_n (pc := 108) C 2 rfl rfl dX1_toppleCell_108 ?_
            refine g_get (pc := 109) C (T := TX1) inX1 0 rfl rfl 1 (by decide) q_131 rfl rfl dX1_toppleCell_109 ?_
            refine g_isub (pc := 112) C dX1_toppleCell_112 ?_
            refine G.eqs (st' := [.int (nI 20), .int (nI c)]) (congrArg (β := List Value) (fun z9 => [.int z9, .int (nI c)]) (show ((((nI 5) * (nI 5)) - (nI 5)) : Int32) = (nI 20) from by decide)) ?_
            refine g_icmp_ge (pc := 113) C 130 (by decide) dX1_toppleCell_113 (fun c_113 => ?_) (fun c_113 => ?_)
            · have k113 : 20 ≤ c := by rcases Nat.lt_or_ge (c) (20) with q | q; exact absurd (show nI (20) ≤ nI (c) from c_113) (nI_ge q (by omega)); exact q
              refine g_iload_n (pc := 130) C 1 rfl rfl dX1_toppleCell_130 ?_
              refine G.fn (fun j9 => nI (tpl 5 c (g c / 4) g j9)) 2 [(o1, .inr (5, [.ref d1, .int (nI 5)])), (d1, .inr (12, [.ref d2])), (d2, aI k 81 (fun j9 => nI (tpl 5 c (g c / 4) g j9)))] rfl (fun j hj => by exact congrArg nI (by simp only [ad, sb, tpl, nbr]; repeat' (first | omega | split))) rfl ?_
              exact g_iret (pc := 131) C hr hlk (by first | decide | omega) (by first | decide | omega) (by first | decide | omega) dX1_toppleCell_131 ⟨rfl, rfl⟩
            · have k113 : c < 20 := by rcases Nat.lt_or_ge (c) (20) with q | q; exact q; exact absurd (show nI (20) ≤ nI (c) from nI_le q (by omega)) c_113
              refine g_aload_n (pc := 116) C 2 rfl rfl dX1_toppleCell_116 ?_
              refine g_get (pc := 117) C (T := TX1) inX1 0 rfl rfl 0 (by decide) q_130 rfl rfl dX1_toppleCell_117 ?_
              refine g_iload_n (pc := 120) C 3 rfl rfl dX1_toppleCell_120 ?_
              refine g_aload_n (pc := 121) C 2 rfl rfl dX1_toppleCell_121 ?_
              refine g_get (pc := 122) C (T := TX1) inX1 0 rfl rfl 1 (by decide) q_131 rfl rfl dX1_toppleCell_122 ?_
              refine g_iadd (pc := 125) C dX1_toppleCell_125 ?_
              refine G.eqs (st' := [.int (nI (c + 5)), .ref d1]) (congrArg (β := List Value) (fun z9 => [.int z9, .ref d1]) (show (((nI c) + (nI 5)) : Int32) = (nI (c + 5)) from nI_add c 5)) ?_
              refine g_iload_n (pc := 126) C 1 rfl rfl dX1_toppleCell_126 ?_
              refine g_callV (pc := 127) (cells := 0) (slots := 0) (g := 0) (As := [.int (nI (c + 5)), .int (nI (g c / 4))]) (st := []) (T := TX8) (q0 := 1) C (nA := 2) rfl (c_X8_add_n d1 d2 81 (fun j9 => nI ((ad (ad (sb g c (4 * (g c / 4))) (c - 1) (g c / 4)) (c - 5) (g c / 4)) j9)) (c + 5) (nI (g c / 4)) (by first | assumption | decide | omega) (by first | assumption | decide | omega)) q_433 q_59 q_57 q_6 q_56 (by decide +kernel) rfl rfl dX1_toppleCell_127 ⟨Nat.le_of_ble_eq_true rfl, Nat.le_of_ble_eq_true rfl⟩ [1, 2] [0] rfl (wr := [(o1, .inr (5, [.ref d1, .int (nI 5)]))]) rfl (by decide) (by decide) (by decide) (Nat.le_of_ble_eq_true rfl) ⟨Nat.le_of_ble_eq_true rfl, Nat.le_of_ble_eq_true rfl⟩ (fun rv w1 h1 => ?_)
              obtain ⟨rfl, rfl⟩ := h1
              refine G.aft [0, 1, 2] (ws' := [(o1, .inr (5, [.ref d1, .int (nI 5)])), (d1, .inr (12, [.ref d2])), (d2, aI k 81 (upd (fun j9 => nI ((ad (ad (sb g c (4 * (g c / 4))) (c - 1) (g c / 4)) (c - 5) (g c / 4)) j9)) (c + 5) ((fun j9 => nI ((ad (ad (sb g c (4 * (g c / 4))) (c - 1) (g c / 4)) (c - 5) (g c / 4)) j9)) (c + 5) + (nI (g c / 4)))))]) (st' := []) (cells' := 0) (slots' := 0) (g' := 0) (by decide) rfl rfl rfl rfl rfl ?_
              refine G.fn (fun j9 => nI ((ad (ad (ad (sb g c (4 * (g c / 4))) (c - 1) (g c / 4)) (c - 5) (g c / 4)) (c + 5) (g c / 4)) j9)) 2 [(o1, .inr (5, [.ref d1, .int (nI 5)])), (d1, .inr (12, [.ref d2])), (d2, aI k 81 (fun j9 => nI ((ad (ad (ad (sb g c (4 * (g c / 4))) (c - 1) (g c / 4)) (c - 5) (g c / 4)) (c + 5) (g c / 4)) j9)))] rfl (fun j hj => by exact ad_step _ _ _ j) rfl ?_
              refine g_iload_n (pc := 130) C 1 rfl rfl dX1_toppleCell_130 ?_
              refine G.fn (fun j9 => nI (tpl 5 c (g c / 4) g j9)) 2 [(o1, .inr (5, [.ref d1, .int (nI 5)])), (d1, .inr (12, [.ref d2])), (d2, aI k 81 (fun j9 => nI (tpl 5 c (g c / 4) g j9)))] rfl (fun j hj => by exact congrArg nI (by simp only [ad, sb, tpl, nbr]; repeat' (first | omega | split))) rfl ?_
              exact g_iret (pc := 131) C hr hlk (by first | decide | omega) (by first | decide | omega) (by first | decide | omega) dX1_toppleCell_131 ⟨rfl, rfl⟩
        · have k67 : c % 5 < 4 := by rcases Nat.lt_or_ge (c % 5) (4) with q | q; exact q; exact absurd (show nI (4) ≤ nI (c % 5) from nI_le q (by omega)) c_67
          refine g_aload_n (pc := 70) C 2 rfl rfl dX1_toppleCell_70 ?_
          refine g_get (pc := 71) C (T := TX1) inX1 0 rfl rfl 0 (by decide) q_130 rfl rfl dX1_toppleCell_71 ?_
          refine g_iload_n (pc := 74) C 3 rfl rfl dX1_toppleCell_74 ?_
          refine g_iconst (pc := 75) (v := 1) C (by decide) dX1_toppleCell_75 ?_
          refine g_iadd (pc := 76) C dX1_toppleCell_76 ?_
          refine G.eqs (st' := [.int (nI (c + 1)), .ref d1]) (congrArg (β := List Value) (fun z9 => [.int z9, .ref d1]) (show (((nI c) + 1) : Int32) = (nI (c + 1)) from nI_1 c)) ?_
          refine g_iload_n (pc := 77) C 1 rfl rfl dX1_toppleCell_77 ?_
          refine g_callV (pc := 78) (cells := 0) (slots := 0) (g := 0) (As := [.int (nI (c + 1)), .int (nI (g c / 4))]) (st := []) (T := TX8) (q0 := 1) C (nA := 2) rfl (c_X8_add_n d1 d2 81 (fun j9 => nI ((ad (sb g c (4 * (g c / 4))) (c - 1) (g c / 4)) j9)) (c + 1) (nI (g c / 4)) (by first | assumption | decide | omega) (by first | assumption | decide | omega)) q_433 q_59 q_57 q_6 q_56 (by decide +kernel) rfl rfl dX1_toppleCell_78 ⟨Nat.le_of_ble_eq_true rfl, Nat.le_of_ble_eq_true rfl⟩ [1, 2] [0] rfl (wr := [(o1, .inr (5, [.ref d1, .int (nI 5)]))]) rfl (by decide) (by decide) (by decide) (Nat.le_of_ble_eq_true rfl) ⟨Nat.le_of_ble_eq_true rfl, Nat.le_of_ble_eq_true rfl⟩ (fun rv w1 h1 => ?_)
          obtain ⟨rfl, rfl⟩ := h1
          refine G.aft [0, 1, 2] (ws' := [(o1, .inr (5, [.ref d1, .int (nI 5)])), (d1, .inr (12, [.ref d2])), (d2, aI k 81 (upd (fun j9 => nI ((ad (sb g c (4 * (g c / 4))) (c - 1) (g c / 4)) j9)) (c + 1) ((fun j9 => nI ((ad (sb g c (4 * (g c / 4))) (c - 1) (g c / 4)) j9)) (c + 1) + (nI (g c / 4)))))]) (st' := []) (cells' := 0) (slots' := 0) (g' := 0) (by decide) rfl rfl rfl rfl rfl ?_
          refine G.fn (fun j9 => nI ((ad (ad (sb g c (4 * (g c / 4))) (c - 1) (g c / 4)) (c + 1) (g c / 4)) j9)) 2 [(o1, .inr (5, [.ref d1, .int (nI 5)])), (d1, .inr (12, [.ref d2])), (d2, aI k 81 (fun j9 => nI ((ad (ad (sb g c (4 * (g c / 4))) (c - 1) (g c / 4)) (c + 1) (g c / 4)) j9)))] rfl (fun j hj => by exact ad_step _ _ _ j) rfl ?_
          refine g_iload_n (pc := 81) C 3 rfl rfl dX1_toppleCell_81 ?_
          refine g_aload_n (pc := 82) C 2 rfl rfl dX1_toppleCell_82 ?_
          refine g_get (pc := 83) C (T := TX1) inX1 0 rfl rfl 1 (by decide) q_131 rfl rfl dX1_toppleCell_83 ?_
          refine g_icmp_lt (pc := 86) C 103 (by decide) dX1_toppleCell_86 (fun c_86 => ?_) (fun c_86 => ?_)
          · have k86 : c < 5 := by rcases Nat.lt_or_ge (c) (5) with q | q; exact q; exact absurd c_86 (nI_nlt q (by omega))
            refine g_iload_n (pc := 103) C 3 rfl rfl dX1_toppleCell_103 ?_
            refine g_aload_n (pc := 104) C 2 rfl rfl dX1_toppleCell_104 ?_
            refine g_callV (pc := 105) (cells := 0) (slots := 0) (g := 0) (As := []) (st := [.int (nI c)]) (T := TX1) (q0 := 0) C (nA := 0) rfl (c_X1_cellNumber o1 d1 (nI 5) ) q_434 q_235 q_233 q_182 q_232 (by decide +kernel) rfl rfl dX1_toppleCell_105 ⟨Nat.le_of_ble_eq_true rfl, Nat.le_of_ble_eq_true rfl⟩ [0] [1, 2] rfl (wr := [(d1, .inr (12, [.ref d2])), (d2, aI k 81 (fun j9 => nI ((ad (ad (sb g c (4 * (g c / 4))) (c - 1) (g c / 4)) (c + 1) (g c / 4)) j9)))]) rfl (by decide) (by decide) (by decide) (Nat.le_of_ble_eq_true rfl) ⟨Nat.le_of_ble_eq_true rfl, Nat.le_of_ble_eq_true rfl⟩ (fun rv w1 h1 => ?_)
            obtain ⟨rfl, rfl⟩ := h1
            refine G.aft [2, 0, 1] (ws' := [(o1, .inr (5, [.ref d1, .int (nI 5)])), (d1, .inr (12, [.ref d2])), (d2, aI k 81 (fun j9 => nI ((ad (ad (sb g c (4 * (g c / 4))) (c - 1) (g c / 4)) (c + 1) (g c / 4)) j9)))]) (st' := [.int ((nI 5) * (nI 5)), .int (nI c)]) (cells' := 0) (slots' := 0) (g' := 0) (by decide) rfl rfl rfl rfl rfl ?_
            refine g_aload_n (pc := 108) C 2 rfl rfl dX1_toppleCell_108 ?_
            refine g_get (pc := 109) C (T := TX1) inX1 0 rfl rfl 1 (by decide) q_131 rfl rfl dX1_toppleCell_109 ?_
            refine g_isub (pc := 112) C dX1_toppleCell_112 ?_
            refine G.eqs (st' := [.int (nI 20), .int (nI c)]) (congrArg (β := List Value) (fun z9 => [.int z9, .int (nI c)]) (show ((((nI 5) * (nI 5)) - (nI 5)) : Int32) = (nI 20) from by decide)) ?_
            refine g_icmp_ge (pc := 113) C 130 (by decide) dX1_toppleCell_113 (fun c_113 => ?_) (fun c_113 => ?_)
            · have k113 : 20 ≤ c := by rcases Nat.lt_or_ge (c) (20) with q | q; exact absurd (show nI (20) ≤ nI (c) from c_113) (nI_ge q (by omega)); exact q
              refine g_iload_n (pc := 130) C 1 rfl rfl dX1_toppleCell_130 ?_
              refine G.fn (fun j9 => nI (tpl 5 c (g c / 4) g j9)) 2 [(o1, .inr (5, [.ref d1, .int (nI 5)])), (d1, .inr (12, [.ref d2])), (d2, aI k 81 (fun j9 => nI (tpl 5 c (g c / 4) g j9)))] rfl (fun j hj => by exact congrArg nI (by simp only [ad, sb, tpl, nbr]; repeat' (first | omega | split))) rfl ?_
              exact g_iret (pc := 131) C hr hlk (by first | decide | omega) (by first | decide | omega) (by first | decide | omega) dX1_toppleCell_131 ⟨rfl, rfl⟩
            · have k113 : c < 20 := by rcases Nat.lt_or_ge (c) (20) with q | q; exact q; exact absurd (show nI (20) ≤ nI (c) from nI_le q (by omega)) c_113
              refine g_aload_n (pc := 116) C 2 rfl rfl dX1_toppleCell_116 ?_
              refine g_get (pc := 117) C (T := TX1) inX1 0 rfl rfl 0 (by decide) q_130 rfl rfl dX1_toppleCell_117 ?_
              refine g_iload_n (pc := 120) C 3 rfl rfl dX1_toppleCell_120 ?_
              refine g_aload_n (pc := 121) C 2 rfl rfl dX1_toppleCell_121 ?_
              refine g_get (pc := 122) C (T := TX1) inX1 0 rfl rfl 1 (by decide) q_131 rfl rfl dX1_toppleCell_122 ?_
              refine g_iadd (pc := 125) C dX1_toppleCell_125 ?_
              refine G.eqs (st' := [.int (nI (c + 5)), .ref d1]) (congrArg (β := List Value) (fun z9 => [.int z9, .ref d1]) (show (((nI c) + (nI 5)) : Int32) = (nI (c + 5)) from nI_add c 5)) ?_
              refine g_iload_n (pc := 126) C 1 rfl rfl dX1_toppleCell_126 ?_
              refine g_callV (pc := 127) (cells := 0) (slots := 0) (g := 0) (As := [.int (nI (c + 5)), .int (nI (g c / 4))]) (st := []) (T := TX8) (q0 := 1) C (nA := 2) rfl (c_X8_add_n d1 d2 81 (fun j9 => nI ((ad (ad (sb g c (4 * (g c / 4))) (c - 1) (g c / 4)) (c + 1) (g c / 4)) j9)) (c + 5) (nI (g c / 4)) (by first | assumption | decide | omega) (by first | assumption | decide | omega)) q_433 q_59 q_57 q_6 q_56 (by decide +kernel) rfl rfl dX1_toppleCell_127 ⟨Nat.le_of_ble_eq_true rfl, Nat.le_of_ble_eq_true rfl⟩ [1, 2] [0] rfl (wr := [(o1, .inr (5, [.ref d1, .int (nI 5)]))]) rfl (by decide) (by decide) (by decide) (Nat.le_of_ble_eq_true rfl) ⟨Nat.le_of_ble_eq_true rfl, Nat.le_of_ble_eq_true rfl⟩ (fun rv w1 h1 => ?_)
              obtain ⟨rfl, rfl⟩ := h1
              refine G.aft [0, 1, 2] (ws' := [(o1, .inr (5, [.ref d1, .int (nI 5)])), (d1, .inr (12, [.ref d2])), (d2, aI k 81 (upd (fun j9 => nI ((ad (ad (sb g c (4 * (g c / 4))) (c - 1) (g c / 4)) (c + 1) (g c / 4)) j9)) (c + 5) ((fun j9 => nI ((ad (ad (sb g c (4 * (g c / 4))) (c - 1) (g c / 4)) (c + 1) (g c / 4)) j9)) (c + 5) + (nI (g c / 4)))))]) (st' := []) (cells' := 0) (slots' := 0) (g' := 0) (by decide) rfl rfl rfl rfl rfl ?_
              refine G.fn (fun j9 => nI ((ad (ad (ad (sb g c (4 * (g c / 4))) (c - 1) (g c / 4)) (c + 1) (g c / 4)) (c + 5) (g c / 4)) j9)) 2 [(o1, .inr (5, [.ref d1, .int (nI 5)])), (d1, .inr (12, [.ref d2])), (d2, aI k 81 (fun j9 => nI ((ad (ad (ad (sb g c (4 * (g c / 4))) (c - 1) (g c / 4)) (c + 1) (g c / 4)) (c + 5) (g c / 4)) j9)))] rfl (fun j hj => by exact ad_step _ _ _ j) rfl ?_
              refine g_iload_n (pc := 130) C 1 rfl rfl dX1_toppleCell_130 ?_
              refine G.fn (fun j9 => nI (tpl 5 c (g c / 4) g j9)) 2 [(o1, .inr (5, [.ref d1, .int (nI 5)])), (d1, .inr (12, [.ref d2])), (d2, aI k 81 (fun j9 => nI (tpl 5 c (g c / 4) g j9)))] rfl (fun j hj => by exact congrArg nI (by simp only [ad, sb, tpl, nbr]; repeat' (first | omega | split))) rfl ?_
              exact g_iret (pc := 131) C hr hlk (by first | decide | omega) (by first | decide | omega) (by first | decide | omega) dX1_toppleCell_131 ⟨rfl, rfl⟩
          · have k86 : 5 ≤ c := by rcases Nat.lt_or_ge (c) (5) with q | q; exact absurd (nI_lt q (by omega)) c_86; exact q
            refine g_aload_n (pc := 89) C 2 rfl rfl dX1_toppleCell_89 ?_
            refine g_get (pc := 90) C (T := TX1) inX1 0 rfl rfl 0 (by decide) q_130 rfl rfl dX1_toppleCell_90 ?_
            refine g_iload_n (pc := 93) C 3 rfl rfl dX1_toppleCell_93 ?_
            refine g_aload_n (pc := 94) C 2 rfl rfl dX1_toppleCell_94 ?_
            refine g_get (pc := 95) C (T := TX1) inX1 0 rfl rfl 1 (by decide) q_131 rfl rfl dX1_toppleCell_95 ?_
            refine g_isub (pc := 98) C dX1_toppleCell_98 ?_
            refine G.eqs (st' := [.int (nI (c - 5)), .ref d1]) (congrArg (β := List Value) (fun z9 => [.int z9, .ref d1]) (show (((nI c) - (nI 5)) : Int32) = (nI (c - 5)) from pk_sub (by omega))) ?_
            refine g_iload_n (pc := 99) C 1 rfl rfl dX1_toppleCell_99 ?_
            refine g_callV (pc := 100) (cells := 0) (slots := 0) (g := 0) (As := [.int (nI (c - 5)), .int (nI (g c / 4))]) (st := []) (T := TX8) (q0 := 1) C (nA := 2) rfl (c_X8_add_n d1 d2 81 (fun j9 => nI ((ad (ad (sb g c (4 * (g c / 4))) (c - 1) (g c / 4)) (c + 1) (g c / 4)) j9)) (c - 5) (nI (g c / 4)) (by first | assumption | decide | omega) (by first | assumption | decide | omega)) q_433 q_59 q_57 q_6 q_56 (by decide +kernel) rfl rfl dX1_toppleCell_100 ⟨Nat.le_of_ble_eq_true rfl, Nat.le_of_ble_eq_true rfl⟩ [1, 2] [0] rfl (wr := [(o1, .inr (5, [.ref d1, .int (nI 5)]))]) rfl (by decide) (by decide) (by decide) (Nat.le_of_ble_eq_true rfl) ⟨Nat.le_of_ble_eq_true rfl, Nat.le_of_ble_eq_true rfl⟩ (fun rv w1 h1 => ?_)
            obtain ⟨rfl, rfl⟩ := h1
            refine G.aft [0, 1, 2] (ws' := [(o1, .inr (5, [.ref d1, .int (nI 5)])), (d1, .inr (12, [.ref d2])), (d2, aI k 81 (upd (fun j9 => nI ((ad (ad (sb g c (4 * (g c / 4))) (c - 1) (g c / 4)) (c + 1) (g c / 4)) j9)) (c - 5) ((fun j9 => nI ((ad (ad (sb g c (4 * (g c / 4))) (c - 1) (g c / 4)) (c + 1) (g c / 4)) j9)) (c - 5) + (nI (g c / 4)))))]) (st' := []) (cells' := 0) (slots' := 0) (g' := 0) (by decide) rfl rfl rfl rfl rfl ?_
            refine G.fn (fun j9 => nI ((ad (ad (ad (sb g c (4 * (g c / 4))) (c - 1) (g c / 4)) (c + 1) (g c / 4)) (c - 5) (g c / 4)) j9)) 2 [(o1, .inr (5, [.ref d1, .int (nI 5)])), (d1, .inr (12, [.ref d2])), (d2, aI k 81 (fun j9 => nI ((ad (ad (ad (sb g c (4 * (g c / 4))) (c - 1) (g c / 4)) (c + 1) (g c / 4)) (c - 5) (g c / 4)) j9)))] rfl (fun j hj => by exact ad_step _ _ _ j) rfl ?_
            refine g_iload_n (pc := 103) C 3 rfl rfl dX1_toppleCell_103 ?_
            refine g_aload_n (pc := 104) C 2 rfl rfl dX1_toppleCell_104 ?_
            refine g_callV (pc := 105) (cells := 0) (slots := 0) (g := 0) (As := []) (st := [.int (nI c)]) (T := TX1) (q0 := 0) C (nA := 0) rfl (c_X1_cellNumber o1 d1 (nI 5) ) q_434 q_235 q_233 q_182 q_232 (by decide +kernel) rfl rfl dX1_toppleCell_105 ⟨Nat.le_of_ble_eq_true rfl, Nat.le_of_ble_eq_true rfl⟩ [0] [1, 2] rfl (wr := [(d1, .inr (12, [.ref d2])), (d2, aI k 81 (fun j9 => nI ((ad (ad (ad (sb g c (4 * (g c / 4))) (c - 1) (g c / 4)) (c + 1) (g c / 4)) (c - 5) (g c / 4)) j9)))]) rfl (by decide) (by decide) (by decide) (Nat.le_of_ble_eq_true rfl) ⟨Nat.le_of_ble_eq_true rfl, Nat.le_of_ble_eq_true rfl⟩ (fun rv w1 h1 => ?_)
            obtain ⟨rfl, rfl⟩ := h1
            refine G.aft [2, 0, 1] (ws' := [(o1, .inr (5, [.ref d1, .int (nI 5)])), (d1, .inr (12, [.ref d2])), (d2, aI k 81 (fun j9 => nI ((ad (ad (ad (sb g c (4 * (g c / 4))) (c - 1) (g c / 4)) (c + 1) (g c / 4)) (c - 5) (g c / 4)) j9)))]) (st' := [.int ((nI 5) * (nI 5)), .int (nI c)]) (cells' := 0) (slots' := 0) (g' := 0) (by decide) rfl rfl rfl rfl rfl ?_
            refine g_aload_n (pc := 108) C 2 rfl rfl dX1_toppleCell_108 ?_
            refine g_get (pc := 109) C (T := TX1) inX1 0 rfl rfl 1 (by decide) q_131 rfl rfl dX1_toppleCell_109 ?_
            refine g_isub (pc := 112) C dX1_toppleCell_112 ?_
            refine G.eqs (st' := [.int (nI 20), .int (nI c)]) (congrArg (β := List Value) (fun z9 => [.int z9, .int (nI c)]) (show ((((nI 5) * (nI 5)) - (nI 5)) : Int32) = (nI 20) from by decide)) ?_
            refine g_icmp_ge (pc := 113) C 130 (by decide) dX1_toppleCell_113 (fun c_113 => ?_) (fun c_113 => ?_)
            · have k113 : 20 ≤ c := by rcases Nat.lt_or_ge (c) (20) with q | q; exact absurd (show nI (20) ≤ nI (c) from c_113) (nI_ge q (by omega)); exact q
              refine g_iload_n (pc := 130) C 1 rfl rfl dX1_toppleCell_130 ?_
              refine G.fn (fun j9 => nI (tpl 5 c (g c / 4) g j9)) 2 [(o1, .inr (5, [.ref d1, .int (nI 5)])), (d1, .inr (12, [.ref d2])), (d2, aI k 81 (fun j9 => nI (tpl 5 c (g c / 4) g j9)))] rfl (fun j hj => by exact congrArg nI (by simp only [ad, sb, tpl, nbr]; repeat' (first | omega | split))) rfl ?_
              exact g_iret (pc := 131) C hr hlk (by first | decide | omega) (by first | decide | omega) (by first | decide | omega) dX1_toppleCell_131 ⟨rfl, rfl⟩
            · have k113 : c < 20 := by rcases Nat.lt_or_ge (c) (20) with q | q; exact q; exact absurd (show nI (20) ≤ nI (c) from nI_le q (by omega)) c_113
              refine g_aload_n (pc := 116) C 2 rfl rfl dX1_toppleCell_116 ?_
              refine g_get (pc := 117) C (T := TX1) inX1 0 rfl rfl 0 (by decide) q_130 rfl rfl dX1_toppleCell_117 ?_
              refine g_iload_n (pc := 120) C 3 rfl rfl dX1_toppleCell_120 ?_
              refine g_aload_n (pc := 121) C 2 rfl rfl dX1_toppleCell_121 ?_
              refine g_get (pc := 122) C (T := TX1) inX1 0 rfl rfl 1 (by decide) q_131 rfl rfl dX1_toppleCell_122 ?_
              refine g_iadd (pc := 125) C dX1_toppleCell_125 ?_
              refine G.eqs (st' := [.int (nI (c + 5)), .ref d1]) (congrArg (β := List Value) (fun z9 => [.int z9, .ref d1]) (show (((nI c) + (nI 5)) : Int32) = (nI (c + 5)) from nI_add c 5)) ?_
              refine g_iload_n (pc := 126) C 1 rfl rfl dX1_toppleCell_126 ?_
              refine g_callV (pc := 127) (cells := 0) (slots := 0) (g := 0) (As := [.int (nI (c + 5)), .int (nI (g c / 4))]) (st := []) (T := TX8) (q0 := 1) C (nA := 2) rfl (c_X8_add_n d1 d2 81 (fun j9 => nI ((ad (ad (ad (sb g c (4 * (g c / 4))) (c - 1) (g c / 4)) (c + 1) (g c / 4)) (c - 5) (g c / 4)) j9)) (c + 5) (nI (g c / 4)) (by first | assumption | decide | omega) (by first | assumption | decide | omega)) q_433 q_59 q_57 q_6 q_56 (by decide +kernel) rfl rfl dX1_toppleCell_127 ⟨Nat.le_of_ble_eq_true rfl, Nat.le_of_ble_eq_true rfl⟩ [1, 2] [0] rfl (wr := [(o1, .inr (5, [.ref d1, .int (nI 5)]))]) rfl (by decide) (by decide) (by decide) (Nat.le_of_ble_eq_true rfl) ⟨Nat.le_of_ble_eq_true rfl, Nat.le_of_ble_eq_true rfl⟩ (fun rv w1 h1 => ?_)
              obtain ⟨rfl, rfl⟩ := h1
              refine G.aft [0, 1, 2] (ws' := [(o1, .inr (5, [.ref d1, .int (nI 5)])), (d1, .inr (12, [.ref d2])), (d2, aI k 81 (upd (fun j9 => nI ((ad (ad (ad (sb g c (4 * (g c / 4))) (c - 1) (g c / 4)) (c + 1) (g c / 4)) (c - 5) (g c / 4)) j9)) (c + 5) ((fun j9 => nI ((ad (ad (ad (sb g c (4 * (g c / 4))) (c - 1) (g c / 4)) (c + 1) (g c / 4)) (c - 5) (g c / 4)) j9)) (c + 5) + (nI (g c / 4)))))]) (st' := []) (cells' := 0) (slots' := 0) (g' := 0) (by decide) rfl rfl rfl rfl rfl ?_
              refine G.fn (fun j9 => nI ((ad (ad (ad (ad (sb g c (4 * (g c / 4))) (c - 1) (g c / 4)) (c + 1) (g c / 4)) (c - 5) (g c / 4)) (c + 5) (g c / 4)) j9)) 2 [(o1, .inr (5, [.ref d1, .int (nI 5)])), (d1, .inr (12, [.ref d2])), (d2, aI k 81 (fun j9 => nI ((ad (ad (ad (ad (sb g c (4 * (g c / 4))) (c - 1) (g c / 4)) (c + 1) (g c / 4)) (c - 5) (g c / 4)) (c + 5) (g c / 4)) j9)))] rfl (fun j hj => by exact ad_step _ _ _ j) rfl ?_
              refine g_iload_n (pc := 130) C 1 rfl rfl dX1_toppleCell_130 ?_
              refine G.fn (fun j9 => nI (tpl 5 c (g c / 4) g j9)) 2 [(o1, .inr (5, [.ref d1, .int (nI 5)])), (d1, .inr (12, [.ref d2])), (d2, aI k 81 (fun j9 => nI (tpl 5 c (g c / 4) g j9)))] rfl (fun j hj => by exact congrArg nI (by simp only [ad, sb, tpl, nbr]; repeat' (first | omega | split))) rfl ?_
              exact g_iret (pc := 131) C hr hlk (by first | decide | omega) (by first | decide | omega) (by first | decide | omega) dX1_toppleCell_131 ⟨rfl, rfl⟩
    · exact absurd c_21 (by decide)
set_option maxRecDepth 100000 in
set_option maxHeartbeats 400000 in
theorem c_X1_draw_s5 {l : Launch} {D : va_G} {k : Nat → ClassId} (o1 : Nat) (d1 : Nat) (d2 : Nat) (wd : Int32) (f0 : Nat → Int32) (m : Nat) (hmm : m ≤ 300) : CM l D k yX1_draw cX1_draw 7 (some .int)  2 45 [.ref o1, .int (nI 5), .int (nI m)] [(o1, .inr (5, [.ref d1, .int wd])), (d1, .inr (12, [.ref d2])), (d2, aI k 81 f0)] (fun rv9 w9 => rv9 = (some (.int (nI (picN 5 (fm 5 m))))) ∧ ∃ (gg : Nat → Int32), w9 = [(o1, .inr (5, [.ref d1, .int (nI 5)])), (d1, .inr (12, [.ref d2])), (d2, aI k 81 gg)]) 0 0 0 := by
  refine CM.of (lv0 := [(0, .ref o1), (1, .int (nI 5)), (2, .int (nI m))]) (by decide +kernel) (Nat.le_of_ble_eq_true rfl) rfl ?_
  intro p9 e9 s9 m9 bl9 me9 co9 C hr hlk hin had
  refine g_aload_n (pc := 0) C 0 rfl rfl dX1_draw_0 ?_
  refine g_iload_n (pc := 1) C 1 rfl rfl dX1_draw_1 ?_
  refine g_put (pc := 2) C (T := TX1) inX1 0 rfl rfl 1 (by decide) q_131 rfl tyX1 tyX1_ok nmX1 rfl [(o1, .inr (5, [.ref d1, .int (nI 5)])), (d1, .inr (12, [.ref d2])), (d2, aI k 81 f0)] (tyX1_ok 1 (by decide)) rfl (by rfl) (Nat.le_of_ble_eq_true rfl) rfl dX1_draw_2 ?_
  refine g_aload_n (pc := 5) C 0 rfl rfl dX1_draw_5 ?_
  refine g_get (pc := 6) C (T := TX1) inX1 0 rfl rfl 0 (by decide) q_130 rfl rfl dX1_draw_6 ?_
  refine g_iconst (pc := 9) (v := 0) C (by decide) dX1_draw_9 ?_
  refine g_callV (pc := 10) (cells := 0) (slots := 0) (g := 0) (As := [.int 0]) (st := []) (T := TX8) (q0 := 1) C (nA := 1) rfl (c_X8_fill d1 d2 81 f0 0 (by first | assumption | decide | omega)) q_435 q_41 q_39 q_6 q_38 (by decide +kernel) rfl rfl dX1_draw_10 ⟨Nat.le_of_ble_eq_true rfl, Nat.le_of_ble_eq_true rfl⟩ [1, 2] [0] rfl (wr := [(o1, .inr (5, [.ref d1, .int (nI 5)]))]) rfl (by decide) (by decide) (by decide) (Nat.le_of_ble_eq_true rfl) ⟨Nat.le_of_ble_eq_true rfl, Nat.le_of_ble_eq_true rfl⟩ (fun rv w1 h1 => ?_)
  obtain ⟨rfl, rfl⟩ := h1
  refine G.aft [0, 1, 2] (ws' := [(o1, .inr (5, [.ref d1, .int (nI 5)])), (d1, .inr (12, [.ref d2])), (d2, aI k 81 (fun _ => 0))]) (st' := []) (cells' := 0) (slots' := 0) (g' := 0) (by decide) rfl rfl rfl rfl rfl ?_
  refine g_aload_n (pc := 13) C 0 rfl rfl dX1_draw_13 ?_
  refine g_get (pc := 14) C (T := TX1) inX1 0 rfl rfl 0 (by decide) q_130 rfl rfl dX1_draw_14 ?_
  refine g_aload_n (pc := 17) C 0 rfl rfl dX1_draw_17 ?_
  refine g_callV (pc := 18) (cells := 0) (slots := 0) (g := 0) (As := []) (st := [.ref d1]) (T := TX1) (q0 := 0) C (nA := 0) rfl (c_X1_cellNumber o1 d1 (nI 5) ) q_434 q_235 q_233 q_182 q_232 (by decide +kernel) rfl rfl dX1_draw_18 ⟨Nat.le_of_ble_eq_true rfl, Nat.le_of_ble_eq_true rfl⟩ [0] [1, 2] rfl (wr := [(d1, .inr (12, [.ref d2])), (d2, aI k 81 (fun _ => 0))]) rfl (by decide) (by decide) (by decide) (Nat.le_of_ble_eq_true rfl) ⟨Nat.le_of_ble_eq_true rfl, Nat.le_of_ble_eq_true rfl⟩ (fun rv w1 h1 => ?_)
  obtain ⟨rfl, rfl⟩ := h1
  refine G.aft [2, 0, 1] (ws' := [(o1, .inr (5, [.ref d1, .int (nI 5)])), (d1, .inr (12, [.ref d2])), (d2, aI k 81 (fun _ => 0))]) (st' := [.int ((nI 5) * (nI 5)), .ref d1]) (cells' := 0) (slots' := 0) (g' := 0) (by decide) rfl rfl rfl rfl rfl ?_
  refine g_iconst (pc := 21) (v := 2) C (by decide) dX1_draw_21 ?_
  refine g_idiv (pc := 22) C (by first | assumption | decide) dX1_draw_22 ?_
  refine G.eqs (st' := [.int (nI 12), .ref d1]) (congrArg (β := List Value) (fun z9 => [.int z9, .ref d1]) (show ((((nI 5) * (nI 5)) / 2) : Int32) = (nI 12) from by decide)) ?_
  refine g_iload_n (pc := 23) C 2 rfl rfl dX1_draw_23 ?_
  refine g_callV (pc := 24) (cells := 0) (slots := 0) (g := 0) (As := [.int (nI 12), .int (nI m)]) (st := []) (T := TX8) (q0 := 1) C (nA := 2) rfl (c_X8_write_n d1 d2 81 (fun _ => 0) 12 (nI m) (by first | assumption | decide | omega) (by first | assumption | decide | omega)) q_438 q_439 q_437 q_6 q_436 (by decide +kernel) rfl rfl dX1_draw_24 ⟨Nat.le_of_ble_eq_true rfl, Nat.le_of_ble_eq_true rfl⟩ [1, 2] [0] rfl (wr := [(o1, .inr (5, [.ref d1, .int (nI 5)]))]) rfl (by decide) (by decide) (by decide) (Nat.le_of_ble_eq_true rfl) ⟨Nat.le_of_ble_eq_true rfl, Nat.le_of_ble_eq_true rfl⟩ (fun rv w1 h1 => ?_)
  obtain ⟨rfl, rfl⟩ := h1
  refine G.aft [0, 1, 2] (ws' := [(o1, .inr (5, [.ref d1, .int (nI 5)])), (d1, .inr (12, [.ref d2])), (d2, aI k 81 (upd (fun _ => 0) 12 (nI m)))]) (st' := []) (cells' := 0) (slots' := 0) (g' := 0) (by decide) rfl rfl rfl rfl rfl ?_
  refine G.fn (fun j9 => nI ((fm 5 m) j9)) 2 [(o1, .inr (5, [.ref d1, .int (nI 5)])), (d1, .inr (12, [.ref d2])), (d2, aI k 81 (fun j9 => nI ((fm 5 m) j9)))] rfl (fun j hj => by { show upd (fun _ => 0) 12 (nI m) j = nI (if j = 12 then m else 0); unfold upd; by_cases h : j = 12 <;> simp [h, nI_0] }) rfl ?_
  refine g_iconst (pc := 27) (v := 0) C (by decide) dX1_draw_27 ?_
  refine g_istore_n (pc := 28) C [(3, .int 0), (0, .ref o1), (1, .int (nI 5)), (2, .int (nI m))] rfl dX1_draw_28 (by decide) rfl ?_
  refine g_iconst (pc := 29) (v := 0) C (by decide) dX1_draw_29 ?_
  refine g_istore (pc := 30) C [(4, .int 0), (3, .int 0), (0, .ref o1), (1, .int (nI 5)), (2, .int (nI m))] dX1_draw_30 (by decide) rfl ?_
  have key_32 : ∀ (fuel : Nat) (r : Nat) (g : Nat → Nat) (v : Nat → Nat), Went 5 (fm 5 m) g v → r ≤ sumN v (5 * 5) → 714 - sumN v (5 * 5) < fuel → G p9 l e9 { frames := 2, cells := 0, slots := 0, locals := 45 } s9 m9 ([.ref o1, .int (nI 5), .int (nI m)] : List Value).toArray bl9 me9 co9 D 7 (va_A [(o1, .inr (5, [.ref d1, .int wd])), (d1, .inr (12, [.ref d2])), (d2, aI k 81 f0)] s9.heap.size) (QM bl9 D ([.ref o1, .int (nI 5), .int (nI m)] : List Value).toArray s9 [(o1, .inr (5, [.ref d1, .int wd])), (d1, .inr (12, [.ref d2])), (d2, aI k 81 f0)] (fun rv9 w9 => rv9 = (some (.int (nI (picN 5 (fm 5 m))))) ∧ ∃ (gg : Nat → Int32), w9 = [(o1, .inr (5, [.ref d1, .int (nI 5)])), (d1, .inr (12, [.ref d2])), (d2, aI k 81 gg)]) 0 0 0) [(o1, .inr (5, [.ref d1, .int (nI 5)])), (d1, .inr (12, [.ref d2])), (d2, aI k 81 (fun j9 => nI (g j9)))] [(0, .ref o1), (1, .int (nI 5)), (2, .int (nI m)), (3, .int (nI (sumN v (5 * 5)))), (4, .int (nI r))] 0 0 0 32 [] := by
    intro fuel
    induction fuel with
    | zero => intro r g v hW hrr hm; exact absurd hm (Nat.not_lt_zero _)
    | succ fuel ih =>
      intro r g v hW hrr hm
      have ih_32 := ih
      have hsum := went_sum hmm hW pw5_s
      rw [pw5_n] at hsum
      refine g_iload (pc := 32) C 4 rfl dX1_draw_32 ?_
      refine g_ldc (pc := 34) C (v := 1000000) q_440 dX1_draw_34 ?_
      refine g_icmp_ge (pc := 36) C 83 (by decide) dX1_draw_36 (fun c_36 => ?_) (fun c_36 => ?_)
      · exact absurd (show nI 1000000 ≤ nI r from c_36) (nI_ge (by omega) (by decide))
      · refine g_iload_n (pc := 39) C 3 rfl rfl dX1_draw_39 ?_
        refine g_istore (pc := 40) C [(5, .int (nI (sumN v (5 * 5)))), (0, .ref o1), (1, .int (nI 5)), (2, .int (nI m)), (3, .int (nI (sumN v (5 * 5)))), (4, .int (nI r))] dX1_draw_40 (by decide) rfl ?_
        refine g_iconst (pc := 42) (v := 0) C (by decide) dX1_draw_42 ?_
        refine g_istore (pc := 43) C [(6, .int 0), (5, .int (nI (sumN v (5 * 5)))), (0, .ref o1), (1, .int (nI 5)), (2, .int (nI m)), (3, .int (nI (sumN v (5 * 5)))), (4, .int (nI r))] dX1_draw_43 (by decide) rfl ?_
        have key_45 : ∀ (fuel : Nat) (c : Nat) (g2 : Nat → Nat) (v2 : Nat → Nat), Went 5 (fm 5 m) g2 v2 → c ≤ 25 → sumN v (5 * 5) ≤ sumN v2 (5 * 5) → (sumN v2 (5 * 5) = sumN v (5 * 5) → ∀ j, j < c → g2 j < 4) → 25 - c < fuel → G p9 l e9 { frames := 2, cells := 0, slots := 0, locals := 45 } s9 m9 ([.ref o1, .int (nI 5), .int (nI m)] : List Value).toArray bl9 me9 co9 D 7 (va_A [(o1, .inr (5, [.ref d1, .int wd])), (d1, .inr (12, [.ref d2])), (d2, aI k 81 f0)] s9.heap.size) (QM bl9 D ([.ref o1, .int (nI 5), .int (nI m)] : List Value).toArray s9 [(o1, .inr (5, [.ref d1, .int wd])), (d1, .inr (12, [.ref d2])), (d2, aI k 81 f0)] (fun rv9 w9 => rv9 = (some (.int (nI (picN 5 (fm 5 m))))) ∧ ∃ (gg : Nat → Int32), w9 = [(o1, .inr (5, [.ref d1, .int (nI 5)])), (d1, .inr (12, [.ref d2])), (d2, aI k 81 gg)]) 0 0 0) [(o1, .inr (5, [.ref d1, .int (nI 5)])), (d1, .inr (12, [.ref d2])), (d2, aI k 81 (fun j9 => nI (g2 j9)))] [(0, .ref o1), (1, .int (nI 5)), (2, .int (nI m)), (3, .int (nI (sumN v2 (5 * 5)))), (4, .int (nI r)), (5, .int (nI (sumN v (5 * 5)))), (6, .int (nI c))] 0 0 0 45 [] := by
          intro fuel
          induction fuel with
          | zero => intro c g2 v2 hW2 hc hs hq hm; exact absurd hm (Nat.not_lt_zero _)
          | succ fuel ih =>
            intro c g2 v2 hW2 hc hs hq hm
            have ih_45 := ih
            have hsum2 := went_sum hmm hW2 pw5_s
            rw [pw5_n] at hsum2
            refine g_iload (pc := 45) C 6 rfl dX1_draw_45 ?_
            refine g_aload_n (pc := 47) C 0 rfl rfl dX1_draw_47 ?_
            refine g_callV (pc := 48) (cells := 0) (slots := 0) (g := 0) (As := []) (st := [.int (nI c)]) (T := TX1) (q0 := 0) C (nA := 0) rfl (c_X1_cellNumber o1 d1 (nI 5) ) q_434 q_235 q_233 q_182 q_232 (by decide +kernel) rfl rfl dX1_draw_48 ⟨Nat.le_of_ble_eq_true rfl, Nat.le_of_ble_eq_true rfl⟩ [0] [1, 2] rfl (wr := [(d1, .inr (12, [.ref d2])), (d2, aI k 81 (fun j9 => nI (g2 j9)))]) rfl (by decide) (by decide) (by decide) (Nat.le_of_ble_eq_true rfl) ⟨Nat.le_of_ble_eq_true rfl, Nat.le_of_ble_eq_true rfl⟩ (fun rv w1 h1 => ?_)
            obtain ⟨rfl, rfl⟩ := h1
            refine G.aft [2, 0, 1] (ws' := [(o1, .inr (5, [.ref d1, .int (nI 5)])), (d1, .inr (12, [.ref d2])), (d2, aI k 81 (fun j9 => nI (g2 j9)))]) (st' := [.int ((nI 5) * (nI 5)), .int (nI c)]) (cells' := 0) (slots' := 0) (g' := 0) (by decide) rfl rfl rfl rfl rfl ?_
            refine G.eqs (st' := [.int (nI 25), .int (nI c)]) (congrArg (β := List Value) (fun z9 => [.int z9, .int (nI c)]) (show (((nI 5) * (nI 5)) : Int32) = (nI 25) from by decide)) ?_
            refine g_icmp_ge (pc := 51) C 69 (by decide) dX1_draw_51 (fun c_51 => ?_) (fun c_51 => ?_)
            · have k51 : 25 ≤ c := by rcases Nat.lt_or_ge (c) (25) with q | q; exact absurd (show nI (25) ≤ nI (c) from c_51) (nI_ge q (by omega)); exact q
              refine g_iload_n (pc := 69) C 3 rfl rfl dX1_draw_69 ?_
              refine g_iload (pc := 70) C 5 rfl dX1_draw_70 ?_
              refine g_icmp_ne (pc := 72) C 77 (by decide) dX1_draw_72 (fun c_72 => ?_) (fun c_72 => ?_)
              · have k72 : sumN v2 (5 * 5) ≠ sumN v (5 * 5) := fun h => c_72 (by rw [h])
                refine g_iinc (pc := 77) (n := 1) (v := (nI (r + 1))) C 4 [(4, .int (nI (r + 1))), (0, .ref o1), (1, .int (nI 5)), (2, .int (nI m)), (3, .int (nI (sumN v2 (5 * 5)))), (5, .int (nI (sumN v (5 * 5)))), (6, .int (nI c))] rfl (nI_1 r) dX1_draw_77 (by decide) rfl ?_
                refine g_goto (pc := 80) C 32 (by decide) dX1_draw_80 ?_
                refine G.loc [1, 2, 3, 4, 0] (lv' := [(0, .ref o1), (1, .int (nI 5)), (2, .int (nI m)), (3, .int (nI (sumN v2 (5 * 5)))), (4, .int (nI (r + 1)))]) rfl ?_
                exact ih_32 (r + 1) g2 v2 hW2 (by omega) (by omega)
              · have k72 : sumN v2 (5 * 5) = sumN v (5 * 5) := (nI_eq (by omega) (by omega)).mp c_72
                refine g_iload_n (pc := 75) C 3 rfl rfl dX1_draw_75 ?_
                refine G.eqs (st' := [.int (nI (picN 5 (fm 5 m)))]) (congrArg (fun z9 => [Value.int z9]) (show ((nI (sumN v2 (5 * 5))) : Int32) = (nI (picN 5 (fm 5 m))) from by first | rfl | (rw [picN_eq hW2 (fun j hj => hq k72 j (by omega))]))) ?_
                exact g_iret (pc := 76) C hr hlk (by first | decide | omega) (by first | decide | omega) (by first | decide | omega) dX1_draw_76 ⟨rfl, (fun j9 => nI (g2 j9)), rfl⟩
            · have k51 : c < 25 := by rcases Nat.lt_or_ge (c) (25) with q | q; exact q; exact absurd (show nI (25) ≤ nI (c) from nI_le q (by omega)) c_51
              refine g_iload_n (pc := 54) C 3 rfl rfl dX1_draw_54 ?_
              refine g_aload_n (pc := 55) C 0 rfl rfl dX1_draw_55 ?_
              refine g_iload (pc := 56) C 6 rfl dX1_draw_56 ?_
              refine g_callV (pc := 58) (cells := 0) (slots := 0) (g := 0) (As := [.int (nI c)]) (st := [.int (nI (sumN v2 (5 * 5)))]) (T := TX1) (q0 := 0) C (nA := 1) rfl (c_X1_toppleCell_s5 o1 d1 d2 g2 c (by first | assumption | decide | omega) (went_bnd hmm hW2 pw5_s pw5_b c (by omega))) q_443 q_444 q_442 q_182 q_441 (by decide +kernel) rfl rfl dX1_draw_58 ⟨Nat.le_of_ble_eq_true rfl, Nat.le_of_ble_eq_true rfl⟩ [0, 1, 2] [] rfl (wr := []) rfl (by decide) (by decide) (by decide) (Nat.le_of_ble_eq_true rfl) ⟨Nat.le_of_ble_eq_true rfl, Nat.le_of_ble_eq_true rfl⟩ (fun rv w1 h1 => ?_)
              obtain ⟨rfl, rfl⟩ := h1
              refine G.aft [0, 1, 2] (ws' := [(o1, .inr (5, [.ref d1, .int (nI 5)])), (d1, .inr (12, [.ref d2])), (d2, aI k 81 (fun j9 => nI (tpl 5 c (g2 c / 4) g2 j9)))]) (st' := [.int (nI (g2 c / 4)), .int (nI (sumN v2 (5 * 5)))]) (cells' := 0) (slots' := 0) (g' := 0) (by decide) rfl rfl rfl rfl rfl ?_
              refine g_iadd (pc := 61) C dX1_draw_61 ?_
              refine G.eqs (st' := [.int (nI (sumN (adv v2 c (g2 c / 4)) (5 * 5)))]) (congrArg (β := List Value) (fun z9 => [.int z9]) (show (((nI (sumN v2 (5 * 5))) + (nI (g2 c / 4))) : Int32) = (nI (sumN (adv v2 c (g2 c / 4)) (5 * 5))) from by rw [nI_add, sumN_adv1 _ _ _ _ (show c < (5 * 5) by omega)])) ?_
              refine g_istore_n (pc := 62) C [(3, .int (nI (sumN (adv v2 c (g2 c / 4)) (5 * 5)))), (0, .ref o1), (1, .int (nI 5)), (2, .int (nI m)), (4, .int (nI r)), (5, .int (nI (sumN v (5 * 5)))), (6, .int (nI c))] rfl dX1_draw_62 (by decide) rfl ?_
              refine g_iinc (pc := 63) (n := 1) (v := (nI (c + 1))) C 6 [(6, .int (nI (c + 1))), (3, .int (nI (sumN (adv v2 c (g2 c / 4)) (5 * 5)))), (0, .ref o1), (1, .int (nI 5)), (2, .int (nI m)), (4, .int (nI r)), (5, .int (nI (sumN v (5 * 5))))] rfl (nI_1 c) dX1_draw_63 (by decide) rfl ?_
              refine g_goto (pc := 66) C 45 (by decide) dX1_draw_66 ?_
              refine G.loc [2, 3, 4, 1, 5, 6, 0] (lv' := [(0, .ref o1), (1, .int (nI 5)), (2, .int (nI m)), (3, .int (nI (sumN (adv v2 c (g2 c / 4)) (5 * 5)))), (4, .int (nI r)), (5, .int (nI (sumN v (5 * 5)))), (6, .int (nI (c + 1)))]) rfl ?_
              exact ih_45 (c + 1) (tpl 5 c (g2 c / 4) g2) (adv v2 c (g2 c / 4)) (went_step (by decide) hW2 (show c < (5 * 5) by omega) (by omega)) (by omega) (by rw [sumN_adv1 _ _ _ _ (show c < (5 * 5) by omega)]; omega) (pic_q (m := m) (show c < (5 * 5) by omega) hs hq) (by omega)
        refine G.loc [2, 3, 4, 5, 6, 1, 0] (lv' := [(0, .ref o1), (1, .int (nI 5)), (2, .int (nI m)), (3, .int (nI (sumN v (5 * 5)))), (4, .int (nI r)), (5, .int (nI (sumN v (5 * 5)))), (6, .int 0)]) rfl ?_
        refine G.eql (lv' := [(0, .ref o1), (1, .int (nI 5)), (2, .int (nI m)), (3, .int (nI (sumN v (5 * 5)))), (4, .int (nI r)), (5, .int (nI (sumN v (5 * 5)))), (6, .int (nI 0))]) (congrArg (β := List (Nat × Value)) (fun z9 => [(0, .ref o1), (1, .int (nI 5)), (2, .int (nI m)), (3, .int (nI (sumN v (5 * 5)))), (4, .int (nI r)), (5, .int (nI (sumN v (5 * 5)))), (6, .int z9)]) (show (0 : Int32) = (nI 0) from by first | rfl | exact nI_0.symm)) ?_
        exact key_45 (25 - 0 + 1) 0 g v hW (by omega) (Nat.le_refl _) (fun _ j hj => absurd hj (Nat.not_lt_zero j)) (Nat.lt_succ_self _)
  refine G.loc [2, 3, 4, 1, 0] (lv' := [(0, .ref o1), (1, .int (nI 5)), (2, .int (nI m)), (3, .int 0), (4, .int 0)]) rfl ?_
  refine G.eql (lv' := [(0, .ref o1), (1, .int (nI 5)), (2, .int (nI m)), (3, .int (nI (sumN (fun _ => 0) (5 * 5)))), (4, .int (nI 0))]) ((congrArg (β := List (Nat × Value)) (fun z9 => [(0, .ref o1), (1, .int (nI 5)), (2, .int (nI m)), (3, .int z9), (4, .int 0)]) (show (0 : Int32) = (nI (sumN (fun _ => 0) (5 * 5))) from by first | rfl | exact nI_0.symm | (rw [sumN_0]; exact nI_0.symm))).trans (congrArg (β := List (Nat × Value)) (fun z9 => [(0, .ref o1), (1, .int (nI 5)), (2, .int (nI m)), (3, .int (nI (sumN (fun _ => 0) (5 * 5)))), (4, .int z9)]) (show (0 : Int32) = (nI 0) from by first | rfl | exact nI_0.symm | (rw [sumN_0]; exact nI_0.symm)))) ?_
  exact key_32 (714 - sumN (fun _ => 0) (5 * 5) + 1) 0 (fm 5 m) (fun _ => 0) (went_0 5 _) (Nat.zero_le _) (Nat.lt_succ_self _)
set_option maxRecDepth 100000 in
set_option maxHeartbeats 400000 in
theorem c_X10_picture_s5 {l : Launch} {D : va_G} {k : Nat → ClassId} (o : Nat) (h : Nat) (pp : Nat) (x2 : Nat) (x3 : Nat) (x4 : Nat) (o2 : Nat) (o4 : Nat) (o9 : Nat) (o7 : Nat) (o0 : Nat) (o1 : Nat) (d1 : Nat) (d2 : Nat) (wd : Int32) (f0 : Nat → Int32) (m : Nat) (hmm : m ≤ 300) : CM l D k yX10_picture cX10_picture 3 (some .int)  3 71 [.ref o, .int (nI 5), .int (nI m)] [(o, .inr (14, [.ref h, .ref pp, .ref x2, .ref x3, .ref x4, .ref o2, .ref o4, .ref o9, .ref o7, .ref o0, .ref o1])), (o1, .inr (5, [.ref d1, .int wd])), (d1, .inr (12, [.ref d2])), (d2, aI k 81 f0)] (fun rv9 w9 => rv9 = (some (.int (nI (picN 5 (fm 5 m))))) ∧ ∃ (gg : Nat → Int32), w9 = [(o, .inr (14, [.ref h, .ref pp, .ref x2, .ref x3, .ref x4, .ref o2, .ref o4, .ref o9, .ref o7, .ref o0, .ref o1])), (o1, .inr (5, [.ref d1, .int (nI 5)])), (d1, .inr (12, [.ref d2])), (d2, aI k 81 gg)]) 0 0 0 := by
  refine CM.of (lv0 := [(0, .ref o), (1, .int (nI 5)), (2, .int (nI m))]) (by decide +kernel) (Nat.le_of_ble_eq_true rfl) rfl ?_
  intro p9 e9 s9 m9 bl9 me9 co9 C hr hlk hin had
  refine g_iload_n (pc := 0) C 1 rfl rfl dX10_picture_0 ?_
  refine g_iconst (pc := 1) (v := 3) C (by decide) dX10_picture_1 ?_
  refine g_icmp_lt (pc := 2) C 17 (by decide) dX10_picture_2 (fun c_2 => ?_) (fun c_2 => ?_)
  · exact absurd c_2 (by decide)
  · refine g_iload_n (pc := 5) C 1 rfl rfl dX10_picture_5 ?_
    refine g_bipush (pc := 6) (v := 9) C (by decide) dX10_picture_6 ?_
    refine g_icmp_gt (pc := 8) C 17 (by decide) dX10_picture_8 (fun c_8 => ?_) (fun c_8 => ?_)
    · exact absurd c_8 (by decide)
    · refine g_iload_n (pc := 11) C 1 rfl rfl dX10_picture_11 ?_
      refine g_iconst (pc := 12) (v := 1) C (by decide) dX10_picture_12 ?_
      refine g_iand (pc := 13) C dX10_picture_13 ?_
      refine G.eqs (st' := [.int 1]) (congrArg (β := List Value) (fun z9 => [.int z9]) (show (((nI 5) &&& 1) : Int32) = 1 from by decide)) ?_
      refine g_if_ne (pc := 14) C 27 (by decide) dX10_picture_14 (fun c_14 => ?_) (fun c_14 => ?_)
      · refine g_iload_n (pc := 27) C 2 rfl rfl dX10_picture_27 ?_
        refine g_if_lt (pc := 28) C 38 (by decide) dX10_picture_28 (fun c_28 => ?_) (fun c_28 => ?_)
        · exact absurd c_28 (nI_pos (by omega))
        · refine g_iload_n (pc := 31) C 2 rfl rfl dX10_picture_31 ?_
          refine g_sipush (pc := 32) (v := 300) C (by decide) dX10_picture_32 ?_
          refine g_icmp_le (pc := 35) C 48 (by decide) dX10_picture_35 (fun c_35 => ?_) (fun c_35 => ?_)
          · refine g_aload_n (pc := 48) C 0 rfl rfl dX10_picture_48 ?_
            refine g_get (pc := 49) C (T := TX10) inX10 0 rfl rfl 10 (by decide) q_185 rfl rfl dX10_picture_49 ?_
            refine g_iload_n (pc := 52) C 1 rfl rfl dX10_picture_52 ?_
            refine g_iload_n (pc := 53) C 2 rfl rfl dX10_picture_53 ?_
            refine g_callV (pc := 54) (cells := 0) (slots := 0) (g := 0) (As := [.int (nI 5), .int (nI m)]) (st := []) (T := TX1) (q0 := 1) C (nA := 2) rfl (c_X1_draw_s5 o1 d1 d2 wd f0 m (by first | assumption | decide | omega)) q_447 q_448 q_446 q_182 q_445 (by decide +kernel) rfl rfl dX10_picture_54 ⟨Nat.le_of_ble_eq_true rfl, Nat.le_of_ble_eq_true rfl⟩ [1, 2, 3] [0] rfl (wr := [(o, .inr (14, [.ref h, .ref pp, .ref x2, .ref x3, .ref x4, .ref o2, .ref o4, .ref o9, .ref o7, .ref o0, .ref o1]))]) rfl (by decide) (by decide) (by decide) (Nat.le_of_ble_eq_true rfl) ⟨Nat.le_of_ble_eq_true rfl, Nat.le_of_ble_eq_true rfl⟩ (fun rv w1 h1 => ?_)
            obtain ⟨rfl, q1, rfl⟩ := h1
            refine G.aft [0, 1, 2, 3] (ws' := [(o, .inr (14, [.ref h, .ref pp, .ref x2, .ref x3, .ref x4, .ref o2, .ref o4, .ref o9, .ref o7, .ref o0, .ref o1])), (o1, .inr (5, [.ref d1, .int (nI 5)])), (d1, .inr (12, [.ref d2])), (d2, aI k 81 q1)]) (st' := [.int (nI (picN 5 (fm 5 m)))]) (cells' := 0) (slots' := 0) (g' := 0) (by decide) rfl rfl rfl rfl rfl ?_
            exact g_iret (pc := 57) C hr hlk (by first | decide | omega) (by first | decide | omega) (by first | decide | omega) dX10_picture_57 ⟨rfl, q1, rfl⟩
          · exact absurd (show nI m ≤ nI 300 from nI_le hmm (by omega)) c_35
      · exact absurd c_14 (by decide)
set_option maxRecDepth 100000 in
set_option maxHeartbeats 400000 in
theorem c_L_picture_s5 {l : Launch} {D : va_G} {k : Nat → ClassId} (o : Nat) (h : Nat) (pp : Nat) (x2 : Nat) (x3 : Nat) (x4 : Nat) (o2 : Nat) (o4 : Nat) (o9 : Nat) (o7 : Nat) (o0 : Nat) (o1 : Nat) (d1 : Nat) (d2 : Nat) (oo : Nat) (wd : Int32) (f0 : Nat → Int32) (fl : Nat → Int64) (m : Nat) (hmm : m ≤ 300) : CMW l D k yL_picture cL_picture 5 (some .int) [((0 : Nat), (10 : Nat), (13 : Nat), (21 : Nat))] 4 93 [.ref o, .int (nI 5), .int (nI m), .ref oo] [(o, .inr (14, [.ref h, .ref pp, .ref x2, .ref x3, .ref x4, .ref o2, .ref o4, .ref o9, .ref o7, .ref o0, .ref o1])), (o1, .inr (5, [.ref d1, .int wd])), (d1, .inr (12, [.ref d2])), (d2, aI k 81 f0), (oo, aJ k 1 fl)] (fun rv9 w9 => rv9 = (some (.int 0)) ∧ ∃ (gg : Nat → Int32), w9 = [(o, .inr (14, [.ref h, .ref pp, .ref x2, .ref x3, .ref x4, .ref o2, .ref o4, .ref o9, .ref o7, .ref o0, .ref o1])), (o1, .inr (5, [.ref d1, .int (nI 5)])), (d1, .inr (12, [.ref d2])), (d2, aI k 81 gg), (oo, aJ k 1 (fun _ => (nI (picN 5 (fm 5 m))).toInt64))]) 0 0 0 := by
  refine CMW.of (lv0 := [(0, .ref o), (1, .int (nI 5)), (2, .int (nI m)), (3, .ref oo)]) (by decide +kernel) (Nat.le_of_ble_eq_true rfl) rfl ?_
  intro p9 e9 s9 m9 bl9 me9 co9 C hr hlk hin had htab
  refine g_aload_n (pc := 0) C 3 rfl rfl dL_picture_0 ?_
  refine g_iconst (pc := 1) (v := 0) C (by decide) dL_picture_1 ?_
  refine g_aload_n (pc := 2) C 0 rfl rfl dL_picture_2 ?_
  refine g_iload_n (pc := 3) C 1 rfl rfl dL_picture_3 ?_
  refine g_iload_n (pc := 4) C 2 rfl rfl dL_picture_4 ?_
  refine g_callV (pc := 5) (cells := 0) (slots := 0) (g := 0) (As := [.int (nI 5), .int (nI m)]) (st := [.int 0, .ref oo]) (T := TX10) (q0 := 0) C (nA := 2) rfl (c_X10_picture_s5 o h pp x2 x3 x4 o2 o4 o9 o7 o0 o1 d1 d2 wd f0 m (by first | assumption | decide | omega)) q_451 q_452 q_450 q_203 q_449 (by decide +kernel) rfl rfl dL_picture_5 ⟨Nat.le_of_ble_eq_true rfl, Nat.le_of_ble_eq_true rfl⟩ [0, 1, 2, 3] [4] rfl (wr := [(oo, aJ k 1 fl)]) rfl (by decide) (by decide) (by decide) (Nat.le_of_ble_eq_true rfl) ⟨Nat.le_of_ble_eq_true rfl, Nat.le_of_ble_eq_true rfl⟩ (fun rv w1 h1 => ?_)
  obtain ⟨rfl, q1, rfl⟩ := h1
  refine G.aft [1, 2, 3, 4, 0] (ws' := [(o, .inr (14, [.ref h, .ref pp, .ref x2, .ref x3, .ref x4, .ref o2, .ref o4, .ref o9, .ref o7, .ref o0, .ref o1])), (o1, .inr (5, [.ref d1, .int (nI 5)])), (d1, .inr (12, [.ref d2])), (d2, aI k 81 q1), (oo, aJ k 1 fl)]) (st' := [.int (nI (picN 5 (fm 5 m))), .int 0, .ref oo]) (cells' := 0) (slots' := 0) (g' := 0) (by decide) rfl rfl rfl rfl rfl ?_
  refine g_i2l (pc := 8) C dL_picture_8 ?_
  refine g_last_n (pc := 9) C (j := 0) 4 [(o, .inr (14, [.ref h, .ref pp, .ref x2, .ref x3, .ref x4, .ref o2, .ref o4, .ref o9, .ref o7, .ref o0, .ref o1])), (o1, .inr (5, [.ref d1, .int (nI 5)])), (d1, .inr (12, [.ref d2])), (d2, aI k 81 q1), (oo, aJ k 1 (vp_updL fl 0 ((nI (picN 5 (fm 5 m))).toInt64)))] rfl (by omega) (by first | decide | omega) rfl rfl dL_picture_9 ?_
  refine g_goto (pc := 10) C 17 (by decide) dL_picture_10 ?_
  refine g_iconst (pc := 17) (v := 0) C (by decide) dL_picture_17 ?_
  refine G.fnJ (fun _ => (nI (picN 5 (fm 5 m))).toInt64) 4 [(o, .inr (14, [.ref h, .ref pp, .ref x2, .ref x3, .ref x4, .ref o2, .ref o4, .ref o9, .ref o7, .ref o0, .ref o1])), (o1, .inr (5, [.ref d1, .int (nI 5)])), (d1, .inr (12, [.ref d2])), (d2, aI k 81 q1), (oo, aJ k 1 (fun _ => (nI (picN 5 (fm 5 m))).toInt64))] rfl (fun j hj => by first | rfl | simp [vp_updL, show j = 0 by omega]) rfl ?_
  exact g_iret (pc := 18) C hr hlk (by first | decide | omega) (by first | decide | omega) (by first | decide | omega) dL_picture_18 ⟨rfl, q1, rfl⟩
set_option maxRecDepth 100000 in
set_option maxHeartbeats 4000000 in
theorem c_X1_toppleCell_s7 {l : Launch} {D : va_G} {k : Nat → ClassId} (o1 : Nat) (d1 : Nat) (d2 : Nat) (g : Nat → Nat) (c : Nat) (hc : c < 49) (hg : g c < 100000) : CM l D k yX1_toppleCell cX1_toppleCell 4 (some .int)  1 22 [.ref o1, .int (nI c)] [(o1, .inr (5, [.ref d1, .int (nI 7)])), (d1, .inr (12, [.ref d2])), (d2, aI k 81 (fun j9 => nI (g j9)))] (is1 (some (.int (nI (g c / 4)))) [(o1, .inr (5, [.ref d1, .int (nI 7)])), (d1, .inr (12, [.ref d2])), (d2, aI k 81 (fun j9 => nI (tpl 7 c (g c / 4) g j9)))]) 0 0 0 := by
  refine CM.of (lv0 := [(0, .ref o1), (1, .int (nI c))]) (by decide +kernel) (Nat.le_of_ble_eq_true rfl) rfl ?_
  intro p9 e9 s9 m9 bl9 me9 co9 C hr hlk hin had
  refine g_aload_n (pc := 0) C 0 rfl rfl dX1_toppleCell_0 ?_
  refine g_get (pc := 1) C (T := TX1) inX1 0 rfl rfl 0 (by decide) q_130 rfl rfl dX1_toppleCell_1 ?_
  refine g_iload_n (pc := 4) C 1 rfl rfl dX1_toppleCell_4 ?_
  refine g_callV (pc := 5) (cells := 0) (slots := 0) (g := 0) (As := [.int (nI c)]) (st := []) (T := TX8) (q0 := 1) C (nA := 1) rfl (c_X8_at_n d1 d2 81 (fun j9 => nI (g j9)) c (by first | assumption | decide | omega) (by first | assumption | decide | omega)) q_432 q_9 q_7 q_6 q_5 (by decide +kernel) rfl rfl dX1_toppleCell_5 ⟨Nat.le_of_ble_eq_true rfl, Nat.le_of_ble_eq_true rfl⟩ [1, 2] [0] rfl (wr := [(o1, .inr (5, [.ref d1, .int (nI 7)]))]) rfl (by decide) (by decide) (by decide) (Nat.le_of_ble_eq_true rfl) ⟨Nat.le_of_ble_eq_true rfl, Nat.le_of_ble_eq_true rfl⟩ (fun rv w1 h1 => ?_)
  obtain ⟨rfl, rfl⟩ := h1
  refine G.aft [0, 1, 2] (ws' := [(o1, .inr (5, [.ref d1, .int (nI 7)])), (d1, .inr (12, [.ref d2])), (d2, aI k 81 (fun j9 => nI (g j9)))]) (st' := [.int ((fun j9 => nI (g j9)) c)]) (cells' := 0) (slots' := 0) (g' := 0) (by decide) rfl rfl rfl rfl rfl ?_
  refine G.eqs (st' := [.int (nI (g c))]) (congrArg (β := List Value) (fun z9 => [.int z9]) (show (((fun j9 => nI (g j9)) c) : Int32) = (nI (g c)) from rfl)) ?_
  refine g_iconst (pc := 8) (v := 4) C (by decide) dX1_toppleCell_8 ?_
  refine g_idiv (pc := 9) C (by first | assumption | decide) dX1_toppleCell_9 ?_
  refine G.eqs (st' := [.int (nI (g c / 4))]) (congrArg (β := List Value) (fun z9 => [.int z9]) (show (((nI (g c)) / 4) : Int32) = (nI (g c / 4)) from by rw [show (4 : Int32) = nI 4 from rfl]; exact pk_div (by omega) (by decide) (by decide))) ?_
  refine g_istore_n (pc := 10) C [(2, .int (nI (g c / 4))), (0, .ref o1), (1, .int (nI c))] rfl dX1_toppleCell_10 (by decide) rfl ?_
  refine g_iload_n (pc := 11) C 0 rfl rfl dX1_toppleCell_11 ?_
  refine g_iconst (pc := 12) (v := 1) C (by decide) dX1_toppleCell_12 ?_
  refine g_icmp_lt (pc := 13) C 24 (by decide) dX1_toppleCell_13 (fun c_13 => ?_) (fun c_13 => ?_)
  · have k13 : (g c / 4) < 1 := by rcases Nat.lt_or_ge ((g c / 4)) (1) with q | q; exact q; exact absurd c_13 (nI_nlt q (by omega))
    refine g_iconst (pc := 24) (v := 0) C (by decide) dX1_toppleCell_24 ?_
    refine G.fn (fun j9 => nI (tpl 7 c (g c / 4) g j9)) 2 [(o1, .inr (5, [.ref d1, .int (nI 7)])), (d1, .inr (12, [.ref d2])), (d2, aI k 81 (fun j9 => nI (tpl 7 c (g c / 4) g j9)))] rfl (fun j hj => by first | (rw [show g c / 4 = 0 by omega]; rfl) | (exact congrArg nI (by rw [show g c / 4 = 0 by omega]; simp only [tpl]; split <;> simp_all))) rfl ?_
    refine G.eqs (st' := [.int (nI (g c / 4))]) (congrArg (fun z9 => [Value.int z9]) (show (0 : Int32) = (nI (g c / 4)) from by first | (rw [show g c / 4 = 0 by omega]; rfl) | (exact congrArg nI (by rw [show g c / 4 = 0 by omega]; simp only [tpl]; split <;> simp_all)))) ?_
    exact g_iret (pc := 25) C hr hlk (by first | decide | omega) (by first | decide | omega) (by first | decide | omega) dX1_toppleCell_25 ⟨rfl, rfl⟩
  · have k13 : 1 ≤ (g c / 4) := by rcases Nat.lt_or_ge ((g c / 4)) (1) with q | q; exact absurd (nI_lt q (by omega)) c_13; exact q
    refine g_aload_n (pc := 16) C 1 rfl rfl dX1_toppleCell_16 ?_
    refine g_get (pc := 17) C (T := TX1) inX1 0 rfl rfl 1 (by decide) q_131 rfl rfl dX1_toppleCell_17 ?_
    refine g_iconst (pc := 20) (v := 1) C (by decide) dX1_toppleCell_20 ?_
    refine g_icmp_ge (pc := 21) C 26 (by decide) dX1_toppleCell_21 (fun c_21 => ?_) (fun c_21 => ?_)
    · refine g_aload_n (pc := 26) C 1 rfl rfl dX1_toppleCell_26 ?_
      refine g_get (pc := 27) C (T := TX1) inX1 0 rfl rfl 0 (by decide) q_130 rfl rfl dX1_toppleCell_27 ?_
      refine g_iload_n (pc := 30) C 2 rfl rfl dX1_toppleCell_30 ?_
      refine g_iload_n (pc := 31) C 0 rfl rfl dX1_toppleCell_31 ?_
      refine g_ineg (pc := 32) C dX1_toppleCell_32 ?_
      refine g_iconst (pc := 33) (v := 4) C (by decide) dX1_toppleCell_33 ?_
      refine g_imul (pc := 34) C dX1_toppleCell_34 ?_
      refine g_callV (pc := 35) (cells := 0) (slots := 0) (g := 0) (As := [.int (nI c), .int ((-(nI (g c / 4))) * 4)]) (st := []) (T := TX8) (q0 := 1) C (nA := 2) rfl (c_X8_add_n d1 d2 81 (fun j9 => nI (g j9)) c ((-(nI (g c / 4))) * 4) (by first | assumption | decide | omega) (by first | assumption | decide | omega)) q_433 q_59 q_57 q_6 q_56 (by decide +kernel) rfl rfl dX1_toppleCell_35 ⟨Nat.le_of_ble_eq_true rfl, Nat.le_of_ble_eq_true rfl⟩ [1, 2] [0] rfl (wr := [(o1, .inr (5, [.ref d1, .int (nI 7)]))]) rfl (by decide) (by decide) (by decide) (Nat.le_of_ble_eq_true rfl) ⟨Nat.le_of_ble_eq_true rfl, Nat.le_of_ble_eq_true rfl⟩ (fun rv w1 h1 => ?_)
      obtain ⟨rfl, rfl⟩ := h1
      refine G.aft [0, 1, 2] (ws' := [(o1, .inr (5, [.ref d1, .int (nI 7)])), (d1, .inr (12, [.ref d2])), (d2, aI k 81 (upd (fun j9 => nI (g j9)) c ((fun j9 => nI (g j9)) c + ((-(nI (g c / 4))) * 4))))]) (st' := []) (cells' := 0) (slots' := 0) (g' := 0) (by decide) rfl rfl rfl rfl rfl ?_
      refine G.fn (fun j9 => nI ((sb g c (4 * (g c / 4))) j9)) 2 [(o1, .inr (5, [.ref d1, .int (nI 7)])), (d1, .inr (12, [.ref d2])), (d2, aI k 81 (fun j9 => nI ((sb g c (4 * (g c / 4))) j9)))] rfl (fun j hj => by exact sb_step (by omega) j) rfl ?_
      refine g_iload_n (pc := 38) C 2 rfl rfl dX1_toppleCell_38 ?_
      refine g_aload_n (pc := 39) C 1 rfl rfl dX1_toppleCell_39 ?_
      refine g_get (pc := 40) C (T := TX1) inX1 0 rfl rfl 1 (by decide) q_131 rfl rfl dX1_toppleCell_40 ?_
      refine g_irem (pc := 43) C (by first | assumption | decide) dX1_toppleCell_43 ?_
      refine G.eqs (st' := [.int (nI (c % 7))]) (congrArg (β := List Value) (fun z9 => [.int z9]) (show (((nI c) - (nI c) / (nI 7) * (nI 7)) : Int32) = (nI (c % 7)) from pk_rem (by omega) (by decide) (by decide))) ?_
      refine g_istore_n (pc := 44) C [(3, .int (nI (c % 7))), (2, .int (nI (g c / 4))), (0, .ref o1), (1, .int (nI c))] rfl dX1_toppleCell_44 (by decide) rfl ?_
      refine g_iload_n (pc := 45) C 0 rfl rfl dX1_toppleCell_45 ?_
      refine g_if_le (pc := 46) C 60 (by decide) dX1_toppleCell_46 (fun c_46 => ?_) (fun c_46 => ?_)
      · have k46 : c % 7 = 0 := by rcases Nat.eq_zero_or_pos (c % 7) with q | q; exact q; exact absurd c_46 (nI_nle q (by omega))
        refine g_iload_n (pc := 60) C 0 rfl rfl dX1_toppleCell_60 ?_
        refine g_aload_n (pc := 61) C 2 rfl rfl dX1_toppleCell_61 ?_
        refine g_get (pc := 62) C (T := TX1) inX1 0 rfl rfl 1 (by decide) q_131 rfl rfl dX1_toppleCell_62 ?_
        refine g_iconst (pc := 65) (v := 1) C (by decide) dX1_toppleCell_65 ?_
        refine g_isub (pc := 66) C dX1_toppleCell_66 ?_
        refine G.eqs (st' := [.int (nI 6), .int (nI (c % 7))]) (congrArg (β := List Value) (fun z9 => [.int z9, .int (nI (c % 7))]) (show (((nI 7) - 1) : Int32) = (nI 6) from by decide)) ?_
        refine g_icmp_ge (pc := 67) C 81 (by decide) dX1_toppleCell_67 (fun c_67 => ?_) (fun c_67 => ?_)
        · have k67 : 6 ≤ c % 7 := by rcases Nat.lt_or_ge (c % 7) (6) with q | q; exact absurd (show nI (6) ≤ nI (c % 7) from c_67) (nI_ge q (by omega)); exact q
          refine g_iload_n (pc := 81) C 3 rfl rfl dX1_toppleCell_81 ?_
          refine g_aload_n (pc := 82) C 2 rfl rfl dX1_toppleCell_82 ?_
          refine g_get (pc := 83) C (T := TX1) inX1 0 rfl rfl 1 (by decide) q_131 rfl rfl dX1_toppleCell_83 ?_
          refine g_icmp_lt (pc := 86) C 103 (by decide) dX1_toppleCell_86 (fun c_86 => ?_) (fun c_86 => ?_)
          · have k86 : c < 7 := by rcases Nat.lt_or_ge (c) (7) with q | q; exact q; exact absurd c_86 (nI_nlt q (by omega))
            refine g_iload_n (pc := 103) C 3 rfl rfl dX1_toppleCell_103 ?_
            refine g_aload_n (pc := 104) C 2 rfl rfl dX1_toppleCell_104 ?_
            refine g_callV (pc := 105) (cells := 0) (slots := 0) (g := 0) (As := []) (st := [.int (nI c)]) (T := TX1) (q0 := 0) C (nA := 0) rfl (c_X1_cellNumber o1 d1 (nI 7) ) q_434 q_235 q_233 q_182 q_232 (by decide +kernel) rfl rfl dX1_toppleCell_105 ⟨Nat.le_of_ble_eq_true rfl, Nat.le_of_ble_eq_true rfl⟩ [0] [1, 2] rfl (wr := [(d1, .inr (12, [.ref d2])), (d2, aI k 81 (fun j9 => nI ((sb g c (4 * (g c / 4))) j9)))]) rfl (by decide) (by decide) (by decide) (Nat.le_of_ble_eq_true rfl) ⟨Nat.le_of_ble_eq_true rfl, Nat.le_of_ble_eq_true rfl⟩ (fun rv w1 h1 => ?_)
            obtain ⟨rfl, rfl⟩ := h1
            refine G.aft [2, 0, 1] (ws' := [(o1, .inr (5, [.ref d1, .int (nI 7)])), (d1, .inr (12, [.ref d2])), (d2, aI k 81 (fun j9 => nI ((sb g c (4 * (g c / 4))) j9)))]) (st' := [.int ((nI 7) * (nI 7)), .int (nI c)]) (cells' := 0) (slots' := 0) (g' := 0) (by decide) rfl rfl rfl rfl rfl ?_
            refine g_aload_n (pc := 108) C 2 rfl rfl dX1_toppleCell_108 ?_
            refine g_get (pc := 109) C (T := TX1) inX1 0 rfl rfl 1 (by decide) q_131 rfl rfl dX1_toppleCell_109 ?_
            refine g_isub (pc := 112) C dX1_toppleCell_112 ?_
            refine G.eqs (st' := [.int (nI 42), .int (nI c)]) (congrArg (β := List Value) (fun z9 => [.int z9, .int (nI c)]) (show ((((nI 7) * (nI 7)) - (nI 7)) : Int32) = (nI 42) from by decide)) ?_
            refine g_icmp_ge (pc := 113) C 130 (by decide) dX1_toppleCell_113 (fun c_113 => ?_) (fun c_113 => ?_)
            · have k113 : 42 ≤ c := by rcases Nat.lt_or_ge (c) (42) with q | q; exact absurd (show nI (42) ≤ nI (c) from c_113) (nI_ge q (by omega)); exact q
              refine g_iload_n (pc := 130) C 1 rfl rfl dX1_toppleCell_130 ?_
              refine G.fn (fun j9 => nI (tpl 7 c (g c / 4) g j9)) 2 [(o1, .inr (5, [.ref d1, .int (nI 7)])), (d1, .inr (12, [.ref d2])), (d2, aI k 81 (fun j9 => nI (tpl 7 c (g c / 4) g j9)))] rfl (fun j hj => by exact congrArg nI (by simp only [ad, sb, tpl, nbr]; repeat' (first | omega | split))) rfl ?_
              exact g_iret (pc := 131) C hr hlk (by first | decide | omega) (by first | decide | omega) (by first | decide | omega) dX1_toppleCell_131 ⟨rfl, rfl⟩
            · have k113 : c < 42 := by rcases Nat.lt_or_ge (c) (42) with q | q; exact q; exact absurd (show nI (42) ≤ nI (c) from nI_le q (by omega)) c_113
              refine g_aload_n (pc := 116) C 2 rfl rfl dX1_toppleCell_116 ?_
              refine g_get (pc := 117) C (T := TX1) inX1 0 rfl rfl 0 (by decide) q_130 rfl rfl dX1_toppleCell_117 ?_
              refine g_iload_n (pc := 120) C 3 rfl rfl dX1_toppleCell_120 ?_
              refine g_aload_n (pc := 121) C 2 rfl rfl dX1_toppleCell_121 ?_
              refine g_get (pc := 122) C (T := TX1) inX1 0 rfl rfl 1 (by decide) q_131 rfl rfl dX1_toppleCell_122 ?_
              refine g_iadd (pc := 125) C dX1_toppleCell_125 ?_
              refine G.eqs (st' := [.int (nI (c + 7)), .ref d1]) (congrArg (β := List Value) (fun z9 => [.int z9, .ref d1]) (show (((nI c) + (nI 7)) : Int32) = (nI (c + 7)) from nI_add c 7)) ?_
              refine g_iload_n (pc := 126) C 1 rfl rfl dX1_toppleCell_126 ?_
              refine g_callV (pc := 127) (cells := 0) (slots := 0) (g := 0) (As := [.int (nI (c + 7)), .int (nI (g c / 4))]) (st := []) (T := TX8) (q0 := 1) C (nA := 2) rfl (c_X8_add_n d1 d2 81 (fun j9 => nI ((sb g c (4 * (g c / 4))) j9)) (c + 7) (nI (g c / 4)) (by first | assumption | decide | omega) (by first | assumption | decide | omega)) q_433 q_59 q_57 q_6 q_56 (by decide +kernel) rfl rfl dX1_toppleCell_127 ⟨Nat.le_of_ble_eq_true rfl, Nat.le_of_ble_eq_true rfl⟩ [1, 2] [0] rfl (wr := [(o1, .inr (5, [.ref d1, .int (nI 7)]))]) rfl (by decide) (by decide) (by decide) (Nat.le_of_ble_eq_true rfl) ⟨Nat.le_of_ble_eq_true rfl, Nat.le_of_ble_eq_true rfl⟩ (fun rv w1 h1 => ?_)
              obtain ⟨rfl, rfl⟩ := h1
              refine G.aft [0, 1, 2] (ws' := [(o1, .inr (5, [.ref d1, .int (nI 7)])), (d1, .inr (12, [.ref d2])), (d2, aI k 81 (upd (fun j9 => nI ((sb g c (4 * (g c / 4))) j9)) (c + 7) ((fun j9 => nI ((sb g c (4 * (g c / 4))) j9)) (c + 7) + (nI (g c / 4)))))]) (st' := []) (cells' := 0) (slots' := 0) (g' := 0) (by decide) rfl rfl rfl rfl rfl ?_
              refine G.fn (fun j9 => nI ((ad (sb g c (4 * (g c / 4))) (c + 7) (g c / 4)) j9)) 2 [(o1, .inr (5, [.ref d1, .int (nI 7)])), (d1, .inr (12, [.ref d2])), (d2, aI k 81 (fun j9 => nI ((ad (sb g c (4 * (g c / 4))) (c + 7) (g c / 4)) j9)))] rfl (fun j hj => by exact ad_step _ _ _ j) rfl ?_
              refine g_iload_n (pc := 130) C 1 rfl rfl dX1_toppleCell_130 ?_
              refine G.fn (fun j9 => nI (tpl 7 c (g c / 4) g j9)) 2 [(o1, .inr (5, [.ref d1, .int (nI 7)])), (d1, .inr (12, [.ref d2])), (d2, aI k 81 (fun j9 => nI (tpl 7 c (g c / 4) g j9)))] rfl (fun j hj => by exact congrArg nI (by simp only [ad, sb, tpl, nbr]; repeat' (first | omega | split))) rfl ?_
              exact g_iret (pc := 131) C hr hlk (by first | decide | omega) (by first | decide | omega) (by first | decide | omega) dX1_toppleCell_131 ⟨rfl, rfl⟩
          · have k86 : 7 ≤ c := by rcases Nat.lt_or_ge (c) (7) with q | q; exact absurd (nI_lt q (by omega)) c_86; exact q
            refine g_aload_n (pc := 89) C 2 rfl rfl dX1_toppleCell_89 ?_
            refine g_get (pc := 90) C (T := TX1) inX1 0 rfl rfl 0 (by decide) q_130 rfl rfl dX1_toppleCell_90 ?_
            refine g_iload_n (pc := 93) C 3 rfl rfl dX1_toppleCell_93 ?_
            refine g_aload_n (pc := 94) C 2 rfl rfl dX1_toppleCell_94 ?_
            refine g_get (pc := 95) C (T := TX1) inX1 0 rfl rfl 1 (by decide) q_131 rfl rfl dX1_toppleCell_95 ?_
            refine g_isub (pc := 98) C dX1_toppleCell_98 ?_
            refine G.eqs (st' := [.int (nI (c - 7)), .ref d1]) (congrArg (β := List Value) (fun z9 => [.int z9, .ref d1]) (show (((nI c) - (nI 7)) : Int32) = (nI (c - 7)) from pk_sub (by omega))) ?_
            refine g_iload_n (pc := 99) C 1 rfl rfl dX1_toppleCell_99 ?_
            refine g_callV (pc := 100) (cells := 0) (slots := 0) (g := 0) (As := [.int (nI (c - 7)), .int (nI (g c / 4))]) (st := []) (T := TX8) (q0 := 1) C (nA := 2) rfl (c_X8_add_n d1 d2 81 (fun j9 => nI ((sb g c (4 * (g c / 4))) j9)) (c - 7) (nI (g c / 4)) (by first | assumption | decide | omega) (by first | assumption | decide | omega)) q_433 q_59 q_57 q_6 q_56 (by decide +kernel) rfl rfl dX1_toppleCell_100 ⟨Nat.le_of_ble_eq_true rfl, Nat.le_of_ble_eq_true rfl⟩ [1, 2] [0] rfl (wr := [(o1, .inr (5, [.ref d1, .int (nI 7)]))]) rfl (by decide) (by decide) (by decide) (Nat.le_of_ble_eq_true rfl) ⟨Nat.le_of_ble_eq_true rfl, Nat.le_of_ble_eq_true rfl⟩ (fun rv w1 h1 => ?_)
            obtain ⟨rfl, rfl⟩ := h1
            refine G.aft [0, 1, 2] (ws' := [(o1, .inr (5, [.ref d1, .int (nI 7)])), (d1, .inr (12, [.ref d2])), (d2, aI k 81 (upd (fun j9 => nI ((sb g c (4 * (g c / 4))) j9)) (c - 7) ((fun j9 => nI ((sb g c (4 * (g c / 4))) j9)) (c - 7) + (nI (g c / 4)))))]) (st' := []) (cells' := 0) (slots' := 0) (g' := 0) (by decide) rfl rfl rfl rfl rfl ?_
            refine G.fn (fun j9 => nI ((ad (sb g c (4 * (g c / 4))) (c - 7) (g c / 4)) j9)) 2 [(o1, .inr (5, [.ref d1, .int (nI 7)])), (d1, .inr (12, [.ref d2])), (d2, aI k 81 (fun j9 => nI ((ad (sb g c (4 * (g c / 4))) (c - 7) (g c / 4)) j9)))] rfl (fun j hj => by exact ad_step _ _ _ j) rfl ?_
            refine g_iload_n (pc := 103) C 3 rfl rfl dX1_toppleCell_103 ?_
            refine g_aload_n (pc := 104) C 2 rfl rfl dX1_toppleCell_104 ?_
            refine g_callV (pc := 105) (cells := 0) (slots := 0) (g := 0) (As := []) (st := [.int (nI c)]) (T := TX1) (q0 := 0) C (nA := 0) rfl (c_X1_cellNumber o1 d1 (nI 7) ) q_434 q_235 q_233 q_182 q_232 (by decide +kernel) rfl rfl dX1_toppleCell_105 ⟨Nat.le_of_ble_eq_true rfl, Nat.le_of_ble_eq_true rfl⟩ [0] [1, 2] rfl (wr := [(d1, .inr (12, [.ref d2])), (d2, aI k 81 (fun j9 => nI ((ad (sb g c (4 * (g c / 4))) (c - 7) (g c / 4)) j9)))]) rfl (by decide) (by decide) (by decide) (Nat.le_of_ble_eq_true rfl) ⟨Nat.le_of_ble_eq_true rfl, Nat.le_of_ble_eq_true rfl⟩ (fun rv w1 h1 => ?_)
            obtain ⟨rfl, rfl⟩ := h1
            refine G.aft [2, 0, 1] (ws' := [(o1, .inr (5, [.ref d1, .int (nI 7)])), (d1, .inr (12, [.ref d2])), (d2, aI k 81 (fun j9 => nI ((ad (sb g c (4 * (g c / 4))) (c - 7) (g c / 4)) j9)))]) (st' := [.int ((nI 7) * (nI 7)), .int (nI c)]) (cells' := 0) (slots' := 0) (g' := 0) (by decide) rfl rfl rfl rfl rfl ?_
            refine g_aload_n (pc := 108) C 2 rfl rfl dX1_toppleCell_108 ?_
            refine g_get (pc := 109) C (T := TX1) inX1 0 rfl rfl 1 (by decide) q_131 rfl rfl dX1_toppleCell_109 ?_
            refine g_isub (pc := 112) C dX1_toppleCell_112 ?_
            refine G.eqs (st' := [.int (nI 42), .int (nI c)]) (congrArg (β := List Value) (fun z9 => [.int z9, .int (nI c)]) (show ((((nI 7) * (nI 7)) - (nI 7)) : Int32) = (nI 42) from by decide)) ?_
            refine g_icmp_ge (pc := 113) C 130 (by decide) dX1_toppleCell_113 (fun c_113 => ?_) (fun c_113 => ?_)
            · have k113 : 42 ≤ c := by rcases Nat.lt_or_ge (c) (42) with q | q; exact absurd (show nI (42) ≤ nI (c) from c_113) (nI_ge q (by omega)); exact q
              refine g_iload_n (pc := 130) C 1 rfl rfl dX1_toppleCell_130 ?_
              refine G.fn (fun j9 => nI (tpl 7 c (g c / 4) g j9)) 2 [(o1, .inr (5, [.ref d1, .int (nI 7)])), (d1, .inr (12, [.ref d2])), (d2, aI k 81 (fun j9 => nI (tpl 7 c (g c / 4) g j9)))] rfl (fun j hj => by exact congrArg nI (by simp only [ad, sb, tpl, nbr]; repeat' (first | omega | split))) rfl ?_
              exact g_iret (pc := 131) C hr hlk (by first | decide | omega) (by first | decide | omega) (by first | decide | omega) dX1_toppleCell_131 ⟨rfl, rfl⟩
            · have k113 : c < 42 := by rcases Nat.lt_or_ge (c) (42) with q | q; exact q; exact absurd (show nI (42) ≤ nI (c) from nI_le q (by omega)) c_113
              refine g_aload_n (pc := 116) C 2 rfl rfl dX1_toppleCell_116 ?_
              refine g_get (pc := 117) C (T := TX1) inX1 0 rfl rfl 0 (by decide) q_130 rfl rfl dX1_toppleCell_117 ?_
              refine g_iload_n (pc := 120) C 3 rfl rfl dX1_toppleCell_120 ?_
              refine g_aload_n (pc := 121) C 2 rfl rfl dX1_toppleCell_121 ?_
              refine g_get (pc := 122) C (T := TX1) inX1 0 rfl rfl 1 (by decide) q_131 rfl rfl dX1_toppleCell_122 ?_
              refine g_iadd (pc := 125) C dX1_toppleCell_125 ?_
              refine G.eqs (st' := [.int (nI (c + 7)), .ref d1]) (congrArg (β := List Value) (fun z9 => [.int z9, .ref d1]) (show (((nI c) + (nI 7)) : Int32) = (nI (c + 7)) from nI_add c 7)) ?_
              refine g_iload_n (pc := 126) C 1 rfl rfl dX1_toppleCell_126 ?_
              refine g_callV (pc := 127) (cells := 0) (slots := 0) (g := 0) (As := [.int (nI (c + 7)), .int (nI (g c / 4))]) (st := []) (T := TX8) (q0 := 1) C (nA := 2) rfl (c_X8_add_n d1 d2 81 (fun j9 => nI ((ad (sb g c (4 * (g c / 4))) (c - 7) (g c / 4)) j9)) (c + 7) (nI (g c / 4)) (by first | assumption | decide | omega) (by first | assumption | decide | omega)) q_433 q_59 q_57 q_6 q_56 (by decide +kernel) rfl rfl dX1_toppleCell_127 ⟨Nat.le_of_ble_eq_true rfl, Nat.le_of_ble_eq_true rfl⟩ [1, 2] [0] rfl (wr := [(o1, .inr (5, [.ref d1, .int (nI 7)]))]) rfl (by decide) (by decide) (by decide) (Nat.le_of_ble_eq_true rfl) ⟨Nat.le_of_ble_eq_true rfl, Nat.le_of_ble_eq_true rfl⟩ (fun rv w1 h1 => ?_)
              obtain ⟨rfl, rfl⟩ := h1
              refine G.aft [0, 1, 2] (ws' := [(o1, .inr (5, [.ref d1, .int (nI 7)])), (d1, .inr (12, [.ref d2])), (d2, aI k 81 (upd (fun j9 => nI ((ad (sb g c (4 * (g c / 4))) (c - 7) (g c / 4)) j9)) (c + 7) ((fun j9 => nI ((ad (sb g c (4 * (g c / 4))) (c - 7) (g c / 4)) j9)) (c + 7) + (nI (g c / 4)))))]) (st' := []) (cells' := 0) (slots' := 0) (g' := 0) (by decide) rfl rfl rfl rfl rfl ?_
              refine G.fn (fun j9 => nI ((ad (ad (sb g c (4 * (g c / 4))) (c - 7) (g c / 4)) (c + 7) (g c / 4)) j9)) 2 [(o1, .inr (5, [.ref d1, .int (nI 7)])), (d1, .inr (12, [.ref d2])), (d2, aI k 81 (fun j9 => nI ((ad (ad (sb g c (4 * (g c / 4))) (c - 7) (g c / 4)) (c + 7) (g c / 4)) j9)))] rfl (fun j hj => by exact ad_step _ _ _ j) rfl ?_
              refine g_iload_n (pc := 130) C 1 rfl rfl dX1_toppleCell_130 ?_
              refine G.fn (fun j9 => nI (tpl 7 c (g c / 4) g j9)) 2 [(o1, .inr (5, [.ref d1, .int (nI 7)])), (d1, .inr (12, [.ref d2])), (d2, aI k 81 (fun j9 => nI (tpl 7 c (g c / 4) g j9)))] rfl (fun j hj => by exact congrArg nI (by simp only [ad, sb, tpl, nbr]; repeat' (first | omega | split))) rfl ?_
              exact g_iret (pc := 131) C hr hlk (by first | decide | omega) (by first | decide | omega) (by first | decide | omega) dX1_toppleCell_131 ⟨rfl, rfl⟩
        · have k67 : c % 7 < 6 := by rcases Nat.lt_or_ge (c % 7) (6) with q | q; exact q; exact absurd (show nI (6) ≤ nI (c % 7) from nI_le q (by omega)) c_67
          refine g_aload_n (pc := 70) C 2 rfl rfl dX1_toppleCell_70 ?_
          refine g_get (pc := 71) C (T := TX1) inX1 0 rfl rfl 0 (by decide) q_130 rfl rfl dX1_toppleCell_71 ?_
          refine g_iload_n (pc := 74) C 3 rfl rfl dX1_toppleCell_74 ?_
          refine g_iconst (pc := 75) (v := 1) C (by decide) dX1_toppleCell_75 ?_
          refine g_iadd (pc := 76) C dX1_toppleCell_76 ?_
          refine G.eqs (st' := [.int (nI (c + 1)), .ref d1]) (congrArg (β := List Value) (fun z9 => [.int z9, .ref d1]) (show (((nI c) + 1) : Int32) = (nI (c + 1)) from nI_1 c)) ?_
          refine g_iload_n (pc := 77) C 1 rfl rfl dX1_toppleCell_77 ?_
          refine g_callV (pc := 78) (cells := 0) (slots := 0) (g := 0) (As := [.int (nI (c + 1)), .int (nI (g c / 4))]) (st := []) (T := TX8) (q0 := 1) C (nA := 2) rfl (c_X8_add_n d1 d2 81 (fun j9 => nI ((sb g c (4 * (g c / 4))) j9)) (c + 1) (nI (g c / 4)) (by first | assumption | decide | omega) (by first | assumption | decide | omega)) q_433 q_59 q_57 q_6 q_56 (by decide +kernel) rfl rfl dX1_toppleCell_78 ⟨Nat.le_of_ble_eq_true rfl, Nat.le_of_ble_eq_true rfl⟩ [1, 2] [0] rfl (wr := [(o1, .inr (5, [.ref d1, .int (nI 7)]))]) rfl (by decide) (by decide) (by decide) (Nat.le_of_ble_eq_true rfl) ⟨Nat.le_of_ble_eq_true rfl, Nat.le_of_ble_eq_true rfl⟩ (fun rv w1 h1 => ?_)
          obtain ⟨rfl, rfl⟩ := h1
          refine G.aft [0, 1, 2] (ws' := [(o1, .inr (5, [.ref d1, .int (nI 7)])), (d1, .inr (12, [.ref d2])), (d2, aI k 81 (upd (fun j9 => nI ((sb g c (4 * (g c / 4))) j9)) (c + 1) ((fun j9 => nI ((sb g c (4 * (g c / 4))) j9)) (c + 1) + (nI (g c / 4)))))]) (st' := []) (cells' := 0) (slots' := 0) (g' := 0) (by decide) rfl rfl rfl rfl rfl ?_
          refine G.fn (fun j9 => nI ((ad (sb g c (4 * (g c / 4))) (c + 1) (g c / 4)) j9)) 2 [(o1, .inr (5, [.ref d1, .int (nI 7)])), (d1, .inr (12, [.ref d2])), (d2, aI k 81 (fun j9 => nI ((ad (sb g c (4 * (g c / 4))) (c + 1) (g c / 4)) j9)))] rfl (fun j hj => by exact ad_step _ _ _ j) rfl ?_
          refine g_iload_n (pc := 81) C 3 rfl rfl dX1_toppleCell_81 ?_
          refine g_aload_n (pc := 82) C 2 rfl rfl dX1_toppleCell_82 ?_
          refine g_get (pc := 83) C (T := TX1) inX1 0 rfl rfl 1 (by decide) q_131 rfl rfl dX1_toppleCell_83 ?_
          refine g_icmp_lt (pc := 86) C 103 (by decide) dX1_toppleCell_86 (fun c_86 => ?_) (fun c_86 => ?_)
          · have k86 : c < 7 := by rcases Nat.lt_or_ge (c) (7) with q | q; exact q; exact absurd c_86 (nI_nlt q (by omega))
            refine g_iload_n (pc := 103) C 3 rfl rfl dX1_toppleCell_103 ?_
            refine g_aload_n (pc := 104) C 2 rfl rfl dX1_toppleCell_104 ?_
            refine g_callV (pc := 105) (cells := 0) (slots := 0) (g := 0) (As := []) (st := [.int (nI c)]) (T := TX1) (q0 := 0) C (nA := 0) rfl (c_X1_cellNumber o1 d1 (nI 7) ) q_434 q_235 q_233 q_182 q_232 (by decide +kernel) rfl rfl dX1_toppleCell_105 ⟨Nat.le_of_ble_eq_true rfl, Nat.le_of_ble_eq_true rfl⟩ [0] [1, 2] rfl (wr := [(d1, .inr (12, [.ref d2])), (d2, aI k 81 (fun j9 => nI ((ad (sb g c (4 * (g c / 4))) (c + 1) (g c / 4)) j9)))]) rfl (by decide) (by decide) (by decide) (Nat.le_of_ble_eq_true rfl) ⟨Nat.le_of_ble_eq_true rfl, Nat.le_of_ble_eq_true rfl⟩ (fun rv w1 h1 => ?_)
            obtain ⟨rfl, rfl⟩ := h1
            refine G.aft [2, 0, 1] (ws' := [(o1, .inr (5, [.ref d1, .int (nI 7)])), (d1, .inr (12, [.ref d2])), (d2, aI k 81 (fun j9 => nI ((ad (sb g c (4 * (g c / 4))) (c + 1) (g c / 4)) j9)))]) (st' := [.int ((nI 7) * (nI 7)), .int (nI c)]) (cells' := 0) (slots' := 0) (g' := 0) (by decide) rfl rfl rfl rfl rfl ?_
            refine g_aload_n (pc := 108) C 2 rfl rfl dX1_toppleCell_108 ?_
            refine g_get (pc := 109) C (T := TX1) inX1 0 rfl rfl 1 (by decide) q_131 rfl rfl dX1_toppleCell_109 ?_
            refine g_isub (pc := 112) C dX1_toppleCell_112 ?_
            refine G.eqs (st' := [.int (nI 42), .int (nI c)]) (congrArg (β := List Value) (fun z9 => [.int z9, .int (nI c)]) (show ((((nI 7) * (nI 7)) - (nI 7)) : Int32) = (nI 42) from by decide)) ?_
            refine g_icmp_ge (pc := 113) C 130 (by decide) dX1_toppleCell_113 (fun c_113 => ?_) (fun c_113 => ?_)
            · have k113 : 42 ≤ c := by rcases Nat.lt_or_ge (c) (42) with q | q; exact absurd (show nI (42) ≤ nI (c) from c_113) (nI_ge q (by omega)); exact q
              refine g_iload_n (pc := 130) C 1 rfl rfl dX1_toppleCell_130 ?_
              refine G.fn (fun j9 => nI (tpl 7 c (g c / 4) g j9)) 2 [(o1, .inr (5, [.ref d1, .int (nI 7)])), (d1, .inr (12, [.ref d2])), (d2, aI k 81 (fun j9 => nI (tpl 7 c (g c / 4) g j9)))] rfl (fun j hj => by exact congrArg nI (by simp only [ad, sb, tpl, nbr]; repeat' (first | omega | split))) rfl ?_
              exact g_iret (pc := 131) C hr hlk (by first | decide | omega) (by first | decide | omega) (by first | decide | omega) dX1_toppleCell_131 ⟨rfl, rfl⟩
            · have k113 : c < 42 := by rcases Nat.lt_or_ge (c) (42) with q | q; exact q; exact absurd (show nI (42) ≤ nI (c) from nI_le q (by omega)) c_113
              refine g_aload_n (pc := 116) C 2 rfl rfl dX1_toppleCell_116 ?_
              refine g_get (pc := 117) C (T := TX1) inX1 0 rfl rfl 0 (by decide) q_130 rfl rfl dX1_toppleCell_117 ?_
              refine g_iload_n (pc := 120) C 3 rfl rfl dX1_toppleCell_120 ?_
              refine g_aload_n (pc := 121) C 2 rfl rfl dX1_toppleCell_121 ?_
              refine g_get (pc := 122) C (T := TX1) inX1 0 rfl rfl 1 (by decide) q_131 rfl rfl dX1_toppleCell_122 ?_
              refine g_iadd (pc := 125) C dX1_toppleCell_125 ?_
              refine G.eqs (st' := [.int (nI (c + 7)), .ref d1]) (congrArg (β := List Value) (fun z9 => [.int z9, .ref d1]) (show (((nI c) + (nI 7)) : Int32) = (nI (c + 7)) from nI_add c 7)) ?_
              refine g_iload_n (pc := 126) C 1 rfl rfl dX1_toppleCell_126 ?_
              refine g_callV (pc := 127) (cells := 0) (slots := 0) (g := 0) (As := [.int (nI (c + 7)), .int (nI (g c / 4))]) (st := []) (T := TX8) (q0 := 1) C (nA := 2) rfl (c_X8_add_n d1 d2 81 (fun j9 => nI ((ad (sb g c (4 * (g c / 4))) (c + 1) (g c / 4)) j9)) (c + 7) (nI (g c / 4)) (by first | assumption | decide | omega) (by first | assumption | decide | omega)) q_433 q_59 q_57 q_6 q_56 (by decide +kernel) rfl rfl dX1_toppleCell_127 ⟨Nat.le_of_ble_eq_true rfl, Nat.le_of_ble_eq_true rfl⟩ [1, 2] [0] rfl (wr := [(o1, .inr (5, [.ref d1, .int (nI 7)]))]) rfl (by decide) (by decide) (by decide) (Nat.le_of_ble_eq_true rfl) ⟨Nat.le_of_ble_eq_true rfl, Nat.le_of_ble_eq_true rfl⟩ (fun rv w1 h1 => ?_)
              obtain ⟨rfl, rfl⟩ := h1
              refine G.aft [0, 1, 2] (ws' := [(o1, .inr (5, [.ref d1, .int (nI 7)])), (d1, .inr (12, [.ref d2])), (d2, aI k 81 (upd (fun j9 => nI ((ad (sb g c (4 * (g c / 4))) (c + 1) (g c / 4)) j9)) (c + 7) ((fun j9 => nI ((ad (sb g c (4 * (g c / 4))) (c + 1) (g c / 4)) j9)) (c + 7) + (nI (g c / 4)))))]) (st' := []) (cells' := 0) (slots' := 0) (g' := 0) (by decide) rfl rfl rfl rfl rfl ?_
              refine G.fn (fun j9 => nI ((ad (ad (sb g c (4 * (g c / 4))) (c + 1) (g c / 4)) (c + 7) (g c / 4)) j9)) 2 [(o1, .inr (5, [.ref d1, .int (nI 7)])), (d1, .inr (12, [.ref d2])), (d2, aI k 81 (fun j9 => nI ((ad (ad (sb g c (4 * (g c / 4))) (c + 1) (g c / 4)) (c + 7) (g c / 4)) j9)))] rfl (fun j hj => by exact ad_step _ _ _ j) rfl ?_
              refine g_iload_n (pc := 130) C 1 rfl rfl dX1_toppleCell_130 ?_
              refine G.fn (fun j9 => nI (tpl 7 c (g c / 4) g j9)) 2 [(o1, .inr (5, [.ref d1, .int (nI 7)])), (d1, .inr (12, [.ref d2])), (d2, aI k 81 (fun j9 => nI (tpl 7 c (g c / 4) g j9)))] rfl (fun j hj => by exact congrArg nI (by simp only [ad, sb, tpl, nbr]; repeat' (first | omega | split))) rfl ?_
              exact g_iret (pc := 131) C hr hlk (by first | decide | omega) (by first | decide | omega) (by first | decide | omega) dX1_toppleCell_131 ⟨rfl, rfl⟩
          · have k86 : 7 ≤ c := by rcases Nat.lt_or_ge (c) (7) with q | q; exact absurd (nI_lt q (by omega)) c_86; exact q
            refine g_aload_n (pc := 89) C 2 rfl rfl dX1_toppleCell_89 ?_
            refine g_get (pc := 90) C (T := TX1) inX1 0 rfl rfl 0 (by decide) q_130 rfl rfl dX1_toppleCell_90 ?_
            refine g_iload_n (pc := 93) C 3 rfl rfl dX1_toppleCell_93 ?_
            refine g_aload_n (pc := 94) C 2 rfl rfl dX1_toppleCell_94 ?_
            refine g_get (pc := 95) C (T := TX1) inX1 0 rfl rfl 1 (by decide) q_131 rfl rfl dX1_toppleCell_95 ?_
            refine g_isub (pc := 98) C dX1_toppleCell_98 ?_
            refine G.eqs (st' := [.int (nI (c - 7)), .ref d1]) (congrArg (β := List Value) (fun z9 => [.int z9, .ref d1]) (show (((nI c) - (nI 7)) : Int32) = (nI (c - 7)) from pk_sub (by omega))) ?_
            refine g_iload_n (pc := 99) C 1 rfl rfl dX1_toppleCell_99 ?_
            refine g_callV (pc := 100) (cells := 0) (slots := 0) (g := 0) (As := [.int (nI (c - 7)), .int (nI (g c / 4))]) (st := []) (T := TX8) (q0 := 1) C (nA := 2) rfl (c_X8_add_n d1 d2 81 (fun j9 => nI ((ad (sb g c (4 * (g c / 4))) (c + 1) (g c / 4)) j9)) (c - 7) (nI (g c / 4)) (by first | assumption | decide | omega) (by first | assumption | decide | omega)) q_433 q_59 q_57 q_6 q_56 (by decide +kernel) rfl rfl dX1_toppleCell_100 ⟨Nat.le_of_ble_eq_true rfl, Nat.le_of_ble_eq_true rfl⟩ [1, 2] [0] rfl (wr := [(o1, .inr (5, [.ref d1, .int (nI 7)]))]) rfl (by decide) (by decide) (by decide) (Nat.le_of_ble_eq_true rfl) ⟨Nat.le_of_ble_eq_true rfl, Nat.le_of_ble_eq_true rfl⟩ (fun rv w1 h1 => ?_)
            obtain ⟨rfl, rfl⟩ := h1
            refine G.aft [0, 1, 2] (ws' := [(o1, .inr (5, [.ref d1, .int (nI 7)])), (d1, .inr (12, [.ref d2])), (d2, aI k 81 (upd (fun j9 => nI ((ad (sb g c (4 * (g c / 4))) (c + 1) (g c / 4)) j9)) (c - 7) ((fun j9 => nI ((ad (sb g c (4 * (g c / 4))) (c + 1) (g c / 4)) j9)) (c - 7) + (nI (g c / 4)))))]) (st' := []) (cells' := 0) (slots' := 0) (g' := 0) (by decide) rfl rfl rfl rfl rfl ?_
            refine G.fn (fun j9 => nI ((ad (ad (sb g c (4 * (g c / 4))) (c + 1) (g c / 4)) (c - 7) (g c / 4)) j9)) 2 [(o1, .inr (5, [.ref d1, .int (nI 7)])), (d1, .inr (12, [.ref d2])), (d2, aI k 81 (fun j9 => nI ((ad (ad (sb g c (4 * (g c / 4))) (c + 1) (g c / 4)) (c - 7) (g c / 4)) j9)))] rfl (fun j hj => by exact ad_step _ _ _ j) rfl ?_
            refine g_iload_n (pc := 103) C 3 rfl rfl dX1_toppleCell_103 ?_
            refine g_aload_n (pc := 104) C 2 rfl rfl dX1_toppleCell_104 ?_
            refine g_callV (pc := 105) (cells := 0) (slots := 0) (g := 0) (As := []) (st := [.int (nI c)]) (T := TX1) (q0 := 0) C (nA := 0) rfl (c_X1_cellNumber o1 d1 (nI 7) ) q_434 q_235 q_233 q_182 q_232 (by decide +kernel) rfl rfl dX1_toppleCell_105 ⟨Nat.le_of_ble_eq_true rfl, Nat.le_of_ble_eq_true rfl⟩ [0] [1, 2] rfl (wr := [(d1, .inr (12, [.ref d2])), (d2, aI k 81 (fun j9 => nI ((ad (ad (sb g c (4 * (g c / 4))) (c + 1) (g c / 4)) (c - 7) (g c / 4)) j9)))]) rfl (by decide) (by decide) (by decide) (Nat.le_of_ble_eq_true rfl) ⟨Nat.le_of_ble_eq_true rfl, Nat.le_of_ble_eq_true rfl⟩ (fun rv w1 h1 => ?_)
            obtain ⟨rfl, rfl⟩ := h1
            refine G.aft [2, 0, 1] (ws' := [(o1, .inr (5, [.ref d1, .int (nI 7)])), (d1, .inr (12, [.ref d2])), (d2, aI k 81 (fun j9 => nI ((ad (ad (sb g c (4 * (g c / 4))) (c + 1) (g c / 4)) (c - 7) (g c / 4)) j9)))]) (st' := [.int ((nI 7) * (nI 7)), .int (nI c)]) (cells' := 0) (slots' := 0) (g' := 0) (by decide) rfl rfl rfl rfl rfl ?_
            refine g_aload_n (pc := 108) C 2 rfl rfl dX1_toppleCell_108 ?_
            refine g_get (pc := 109) C (T := TX1) inX1 0 rfl rfl 1 (by decide) q_131 rfl rfl dX1_toppleCell_109 ?_
            refine g_isub (pc := 112) C dX1_toppleCell_112 ?_
            refine G.eqs (st' := [.int (nI 42), .int (nI c)]) (congrArg (β := List Value) (fun z9 => [.int z9, .int (nI c)]) (show ((((nI 7) * (nI 7)) - (nI 7)) : Int32) = (nI 42) from by decide)) ?_
            refine g_icmp_ge (pc := 113) C 130 (by decide) dX1_toppleCell_113 (fun c_113 => ?_) (fun c_113 => ?_)
            · have k113 : 42 ≤ c := by rcases Nat.lt_or_ge (c) (42) with q | q; exact absurd (show nI (42) ≤ nI (c) from c_113) (nI_ge q (by omega)); exact q
              refine g_iload_n (pc := 130) C 1 rfl rfl dX1_toppleCell_130 ?_
              refine G.fn (fun j9 => nI (tpl 7 c (g c / 4) g j9)) 2 [(o1, .inr (5, [.ref d1, .int (nI 7)])), (d1, .inr (12, [.ref d2])), (d2, aI k 81 (fun j9 => nI (tpl 7 c (g c / 4) g j9)))] rfl (fun j hj => by exact congrArg nI (by simp only [ad, sb, tpl, nbr]; repeat' (first | omega | split))) rfl ?_
              exact g_iret (pc := 131) C hr hlk (by first | decide | omega) (by first | decide | omega) (by first | decide | omega) dX1_toppleCell_131 ⟨rfl, rfl⟩
            · have k113 : c < 42 := by rcases Nat.lt_or_ge (c) (42) with q | q; exact q; exact absurd (show nI (42) ≤ nI (c) from nI_le q (by omega)) c_113
              refine g_aload_n (pc := 116) C 2 rfl rfl dX1_toppleCell_116 ?_
              refine g_get (pc := 117) C (T := TX1) inX1 0 rfl rfl 0 (by decide) q_130 rfl rfl dX1_toppleCell_117 ?_
              refine g_iload_n (pc := 120) C 3 rfl rfl dX1_toppleCell_120 ?_
              refine g_aload_n (pc := 121) C 2 rfl rfl dX1_toppleCell_121 ?_
              refine g_get (pc := 122) C (T := TX1) inX1 0 rfl rfl 1 (by decide) q_131 rfl rfl dX1_toppleCell_122 ?_
              refine g_iadd (pc := 125) C dX1_toppleCell_125 ?_
              refine G.eqs (st' := [.int (nI (c + 7)), .ref d1]) (congrArg (β := List Value) (fun z9 => [.int z9, .ref d1]) (show (((nI c) + (nI 7)) : Int32) = (nI (c + 7)) from nI_add c 7)) ?_
              refine g_iload_n (pc := 126) C 1 rfl rfl dX1_toppleCell_126 ?_
              refine g_callV (pc := 127) (cells := 0) (slots := 0) (g := 0) (As := [.int (nI (c + 7)), .int (nI (g c / 4))]) (st := []) (T := TX8) (q0 := 1) C (nA := 2) rfl (c_X8_add_n d1 d2 81 (fun j9 => nI ((ad (ad (sb g c (4 * (g c / 4))) (c + 1) (g c / 4)) (c - 7) (g c / 4)) j9)) (c + 7) (nI (g c / 4)) (by first | assumption | decide | omega) (by first | assumption | decide | omega)) q_433 q_59 q_57 q_6 q_56 (by decide +kernel) rfl rfl dX1_toppleCell_127 ⟨Nat.le_of_ble_eq_true rfl, Nat.le_of_ble_eq_true rfl⟩ [1, 2] [0] rfl (wr := [(o1, .inr (5, [.ref d1, .int (nI 7)]))]) rfl (by decide) (by decide) (by decide) (Nat.le_of_ble_eq_true rfl) ⟨Nat.le_of_ble_eq_true rfl, Nat.le_of_ble_eq_true rfl⟩ (fun rv w1 h1 => ?_)
              obtain ⟨rfl, rfl⟩ := h1
              refine G.aft [0, 1, 2] (ws' := [(o1, .inr (5, [.ref d1, .int (nI 7)])), (d1, .inr (12, [.ref d2])), (d2, aI k 81 (upd (fun j9 => nI ((ad (ad (sb g c (4 * (g c / 4))) (c + 1) (g c / 4)) (c - 7) (g c / 4)) j9)) (c + 7) ((fun j9 => nI ((ad (ad (sb g c (4 * (g c / 4))) (c + 1) (g c / 4)) (c - 7) (g c / 4)) j9)) (c + 7) + (nI (g c / 4)))))]) (st' := []) (cells' := 0) (slots' := 0) (g' := 0) (by decide) rfl rfl rfl rfl rfl ?_
              refine G.fn (fun j9 => nI ((ad (ad (ad (sb g c (4 * (g c / 4))) (c + 1) (g c / 4)) (c - 7) (g c / 4)) (c + 7) (g c / 4)) j9)) 2 [(o1, .inr (5, [.ref d1, .int (nI 7)])), (d1, .inr (12, [.ref d2])), (d2, aI k 81 (fun j9 => nI ((ad (ad (ad (sb g c (4 * (g c / 4))) (c + 1) (g c / 4)) (c - 7) (g c / 4)) (c + 7) (g c / 4)) j9)))] rfl (fun j hj => by exact ad_step _ _ _ j) rfl ?_
              refine g_iload_n (pc := 130) C 1 rfl rfl dX1_toppleCell_130 ?_
              refine G.fn (fun j9 => nI (tpl 7 c (g c / 4) g j9)) 2 [(o1, .inr (5, [.ref d1, .int (nI 7)])), (d1, .inr (12, [.ref d2])), (d2, aI k 81 (fun j9 => nI (tpl 7 c (g c / 4) g j9)))] rfl (fun j hj => by exact congrArg nI (by simp only [ad, sb, tpl, nbr]; repeat' (first | omega | split))) rfl ?_
              exact g_iret (pc := 131) C hr hlk (by first | decide | omega) (by first | decide | omega) (by first | decide | omega) dX1_toppleCell_131 ⟨rfl, rfl⟩
      · have k46 : 0 < c % 7 := by rcases Nat.eq_zero_or_pos (c % 7) with q | q; rw [q] at c_46; exact absurd (show nI 0 ≤ 0 by decide) c_46; exact q
        refine g_aload_n (pc := 49) C 2 rfl rfl dX1_toppleCell_49 ?_
        refine g_get (pc := 50) C (T := TX1) inX1 0 rfl rfl 0 (by decide) q_130 rfl rfl dX1_toppleCell_50 ?_
        refine g_iload_n (pc := 53) C 3 rfl rfl dX1_toppleCell_53 ?_
        refine g_iconst (pc := 54) (v := 1) C (by decide) dX1_toppleCell_54 ?_
        refine g_isub (pc := 55) C dX1_toppleCell_55 ?_
        refine G.eqs (st' := [.int (nI (c - 1)), .ref d1]) (congrArg (β := List Value) (fun z9 => [.int z9, .ref d1]) (show (((nI c) - 1) : Int32) = (nI (c - 1)) from by rw [show (1 : Int32) = nI 1 from rfl]; exact pk_sub (by omega))) ?_
        refine g_iload_n (pc := 56) C 1 rfl rfl dX1_toppleCell_56 ?_
        refine g_callV (pc := 57) (cells := 0) (slots := 0) (g := 0) (As := [.int (nI (c - 1)), .int (nI (g c / 4))]) (st := []) (T := TX8) (q0 := 1) C (nA := 2) rfl (c_X8_add_n d1 d2 81 (fun j9 => nI ((sb g c (4 * (g c / 4))) j9)) (c - 1) (nI (g c / 4)) (by first | assumption | decide | omega) (by first | assumption | decide | omega)) q_433 q_59 q_57 q_6 q_56 (by decide +kernel) rfl rfl dX1_toppleCell_57 ⟨Nat.le_of_ble_eq_true rfl, Nat.le_of_ble_eq_true rfl⟩ [1, 2] [0] rfl (wr := [(o1, .inr (5, [.ref d1, .int (nI 7)]))]) rfl (by decide) (by decide) (by decide) (Nat.le_of_ble_eq_true rfl) ⟨Nat.le_of_ble_eq_true rfl, Nat.le_of_ble_eq_true rfl⟩ (fun rv w1 h1 => ?_)
        obtain ⟨rfl, rfl⟩ := h1
        refine G.aft [0, 1, 2] (ws' := [(o1, .inr (5, [.ref d1, .int (nI 7)])), (d1, .inr (12, [.ref d2])), (d2, aI k 81 (upd (fun j9 => nI ((sb g c (4 * (g c / 4))) j9)) (c - 1) ((fun j9 => nI ((sb g c (4 * (g c / 4))) j9)) (c - 1) + (nI (g c / 4)))))]) (st' := []) (cells' := 0) (slots' := 0) (g' := 0) (by decide) rfl rfl rfl rfl rfl ?_
        refine G.fn (fun j9 => nI ((ad (sb g c (4 * (g c / 4))) (c - 1) (g c / 4)) j9)) 2 [(o1, .inr (5, [.ref d1, .int (nI 7)])), (d1, .inr (12, [.ref d2])), (d2, aI k 81 (fun j9 => nI ((ad (sb g c (4 * (g c / 4))) (c - 1) (g c / 4)) j9)))] rfl (fun j hj => by exact ad_step _ _ _ j) rfl ?_
        refine g_iload_n (pc := 60) C 0 rfl rfl dX1_toppleCell_60 ?_
        refine g_aload_n (pc := 61) C 2 rfl rfl dX1_toppleCell_61 ?_
        refine g_get (pc := 62) C (T := TX1) inX1 0 rfl rfl 1 (by decide) q_131 rfl rfl dX1_toppleCell_62 ?_
        refine g_iconst (pc := 65) (v := 1) C (by decide) dX1_toppleCell_65 ?_
        refine g_isub (pc := 66) C dX1_toppleCell_66 ?_
        refine G.eqs (st' := [.int (nI 6), .int (nI (c % 7))]) (congrArg (β := List Value) (fun z9 => [.int z9, .int (nI (c % 7))]) (show (((nI 7) - 1) : Int32) = (nI 6) from by decide)) ?_
        refine g_icmp_ge (pc := 67) C 81 (by decide) dX1_toppleCell_67 (fun c_67 => ?_) (fun c_67 => ?_)
        · have k67 : 6 ≤ c % 7 := by rcases Nat.lt_or_ge (c % 7) (6) with q | q; exact absurd (show nI (6) ≤ nI (c % 7) from c_67) (nI_ge q (by omega)); exact q
          refine g_iload_n (pc := 81) C 3 rfl rfl dX1_toppleCell_81 ?_
          refine g_aload_n (pc := 82) C 2 rfl rfl dX1_toppleCell_82 ?_
          refine g_get (pc := 83) C (T := TX1) inX1 0 rfl rfl 1 (by decide) q_131 rfl rfl dX1_toppleCell_83 ?_
          refine g_icmp_lt (pc := 86) C 103 (by decide) dX1_toppleCell_86 (fun c_86 => ?_) (fun c_86 => ?_)
          · have k86 : c < 7 := by rcases Nat.lt_or_ge (c) (7) with q | q; exact q; exact absurd c_86 (nI_nlt q (by omega))
            refine g_iload_n (pc := 103) C 3 rfl rfl dX1_toppleCell_103 ?_
            refine g_aload_n (pc := 104) C 2 rfl rfl dX1_toppleCell_104 ?_
            refine g_callV (pc := 105) (cells := 0) (slots := 0) (g := 0) (As := []) (st := [.int (nI c)]) (T := TX1) (q0 := 0) C (nA := 0) rfl (c_X1_cellNumber o1 d1 (nI 7) ) q_434 q_235 q_233 q_182 q_232 (by decide +kernel) rfl rfl dX1_toppleCell_105 ⟨Nat.le_of_ble_eq_true rfl, Nat.le_of_ble_eq_true rfl⟩ [0] [1, 2] rfl (wr := [(d1, .inr (12, [.ref d2])), (d2, aI k 81 (fun j9 => nI ((ad (sb g c (4 * (g c / 4))) (c - 1) (g c / 4)) j9)))]) rfl (by decide) (by decide) (by decide) (Nat.le_of_ble_eq_true rfl) ⟨Nat.le_of_ble_eq_true rfl, Nat.le_of_ble_eq_true rfl⟩ (fun rv w1 h1 => ?_)
            obtain ⟨rfl, rfl⟩ := h1
            refine G.aft [2, 0, 1] (ws' := [(o1, .inr (5, [.ref d1, .int (nI 7)])), (d1, .inr (12, [.ref d2])), (d2, aI k 81 (fun j9 => nI ((ad (sb g c (4 * (g c / 4))) (c - 1) (g c / 4)) j9)))]) (st' := [.int ((nI 7) * (nI 7)), .int (nI c)]) (cells' := 0) (slots' := 0) (g' := 0) (by decide) rfl rfl rfl rfl rfl ?_
            refine g_aload_n (pc := 108) C 2 rfl rfl dX1_toppleCell_108 ?_
            refine g_get (pc := 109) C (T := TX1) inX1 0 rfl rfl 1 (by decide) q_131 rfl rfl dX1_toppleCell_109 ?_
            refine g_isub (pc := 112) C dX1_toppleCell_112 ?_
            refine G.eqs (st' := [.int (nI 42), .int (nI c)]) (congrArg (β := List Value) (fun z9 => [.int z9, .int (nI c)]) (show ((((nI 7) * (nI 7)) - (nI 7)) : Int32) = (nI 42) from by decide)) ?_
            refine g_icmp_ge (pc := 113) C 130 (by decide) dX1_toppleCell_113 (fun c_113 => ?_) (fun c_113 => ?_)
            · have k113 : 42 ≤ c := by rcases Nat.lt_or_ge (c) (42) with q | q; exact absurd (show nI (42) ≤ nI (c) from c_113) (nI_ge q (by omega)); exact q
              refine g_iload_n (pc := 130) C 1 rfl rfl dX1_toppleCell_130 ?_
              refine G.fn (fun j9 => nI (tpl 7 c (g c / 4) g j9)) 2 [(o1, .inr (5, [.ref d1, .int (nI 7)])), (d1, .inr (12, [.ref d2])), (d2, aI k 81 (fun j9 => nI (tpl 7 c (g c / 4) g j9)))] rfl (fun j hj => by exact congrArg nI (by simp only [ad, sb, tpl, nbr]; repeat' (first | omega | split))) rfl ?_
              exact g_iret (pc := 131) C hr hlk (by first | decide | omega) (by first | decide | omega) (by first | decide | omega) dX1_toppleCell_131 ⟨rfl, rfl⟩
            · have k113 : c < 42 := by rcases Nat.lt_or_ge (c) (42) with q | q; exact q; exact absurd (show nI (42) ≤ nI (c) from nI_le q (by omega)) c_113
              refine g_aload_n (pc := 116) C 2 rfl rfl dX1_toppleCell_116 ?_
              refine g_get (pc := 117) C (T := TX1) inX1 0 rfl rfl 0 (by decide) q_130 rfl rfl dX1_toppleCell_117 ?_
              refine g_iload_n (pc := 120) C 3 rfl rfl dX1_toppleCell_120 ?_
              refine g_aload_n (pc := 121) C 2 rfl rfl dX1_toppleCell_121 ?_
              refine g_get (pc := 122) C (T := TX1) inX1 0 rfl rfl 1 (by decide) q_131 rfl rfl dX1_toppleCell_122 ?_
              refine g_iadd (pc := 125) C dX1_toppleCell_125 ?_
              refine G.eqs (st' := [.int (nI (c + 7)), .ref d1]) (congrArg (β := List Value) (fun z9 => [.int z9, .ref d1]) (show (((nI c) + (nI 7)) : Int32) = (nI (c + 7)) from nI_add c 7)) ?_
              refine g_iload_n (pc := 126) C 1 rfl rfl dX1_toppleCell_126 ?_
              refine g_callV (pc := 127) (cells := 0) (slots := 0) (g := 0) (As := [.int (nI (c + 7)), .int (nI (g c / 4))]) (st := []) (T := TX8) (q0 := 1) C (nA := 2) rfl (c_X8_add_n d1 d2 81 (fun j9 => nI ((ad (sb g c (4 * (g c / 4))) (c - 1) (g c / 4)) j9)) (c + 7) (nI (g c / 4)) (by first | assumption | decide | omega) (by first | assumption | decide | omega)) q_433 q_59 q_57 q_6 q_56 (by decide +kernel) rfl rfl dX1_toppleCell_127 ⟨Nat.le_of_ble_eq_true rfl, Nat.le_of_ble_eq_true rfl⟩ [1, 2] [0] rfl (wr := [(o1, .inr (5, [.ref d1, .int (nI 7)]))]) rfl (by decide) (by decide) (by decide) (Nat.le_of_ble_eq_true rfl) ⟨Nat.le_of_ble_eq_true rfl, Nat.le_of_ble_eq_true rfl⟩ (fun rv w1 h1 => ?_)
              obtain ⟨rfl, rfl⟩ := h1
              refine G.aft [0, 1, 2] (ws' := [(o1, .inr (5, [.ref d1, .int (nI 7)])), (d1, .inr (12, [.ref d2])), (d2, aI k 81 (upd (fun j9 => nI ((ad (sb g c (4 * (g c / 4))) (c - 1) (g c / 4)) j9)) (c + 7) ((fun j9 => nI ((ad (sb g c (4 * (g c / 4))) (c - 1) (g c / 4)) j9)) (c + 7) + (nI (g c / 4)))))]) (st' := []) (cells' := 0) (slots' := 0) (g' := 0) (by decide) rfl rfl rfl rfl rfl ?_
              refine G.fn (fun j9 => nI ((ad (ad (sb g c (4 * (g c / 4))) (c - 1) (g c / 4)) (c + 7) (g c / 4)) j9)) 2 [(o1, .inr (5, [.ref d1, .int (nI 7)])), (d1, .inr (12, [.ref d2])), (d2, aI k 81 (fun j9 => nI ((ad (ad (sb g c (4 * (g c / 4))) (c - 1) (g c / 4)) (c + 7) (g c / 4)) j9)))] rfl (fun j hj => by exact ad_step _ _ _ j) rfl ?_
              refine g_iload_n (pc := 130) C 1 rfl rfl dX1_toppleCell_130 ?_
              refine G.fn (fun j9 => nI (tpl 7 c (g c / 4) g j9)) 2 [(o1, .inr (5, [.ref d1, .int (nI 7)])), (d1, .inr (12, [.ref d2])), (d2, aI k 81 (fun j9 => nI (tpl 7 c (g c / 4) g j9)))] rfl (fun j hj => by exact congrArg nI (by simp only [ad, sb, tpl, nbr]; repeat' (first | omega | split))) rfl ?_
              exact g_iret (pc := 131) C hr hlk (by first | decide | omega) (by first | decide | omega) (by first | decide | omega) dX1_toppleCell_131 ⟨rfl, rfl⟩
          · have k86 : 7 ≤ c := by rcases Nat.lt_or_ge (c) (7) with q | q; exact absurd (nI_lt q (by omega)) c_86; exact q
            refine g_aload_n (pc := 89) C 2 rfl rfl dX1_toppleCell_89 ?_
            refine g_get (pc := 90) C (T := TX1) inX1 0 rfl rfl 0 (by decide) q_130 rfl rfl dX1_toppleCell_90 ?_
            refine g_iload_n (pc := 93) C 3 rfl rfl dX1_toppleCell_93 ?_
            refine g_aload_n (pc := 94) C 2 rfl rfl dX1_toppleCell_94 ?_
            refine g_get (pc := 95) C (T := TX1) inX1 0 rfl rfl 1 (by decide) q_131 rfl rfl dX1_toppleCell_95 ?_
            refine g_isub (pc := 98) C dX1_toppleCell_98 ?_
            refine G.eqs (st' := [.int (nI (c - 7)), .ref d1]) (congrArg (β := List Value) (fun z9 => [.int z9, .ref d1]) (show (((nI c) - (nI 7)) : Int32) = (nI (c - 7)) from pk_sub (by omega))) ?_
            refine g_iload_n (pc := 99) C 1 rfl rfl dX1_toppleCell_99 ?_
            refine g_callV (pc := 100) (cells := 0) (slots := 0) (g := 0) (As := [.int (nI (c - 7)), .int (nI (g c / 4))]) (st := []) (T := TX8) (q0 := 1) C (nA := 2) rfl (c_X8_add_n d1 d2 81 (fun j9 => nI ((ad (sb g c (4 * (g c / 4))) (c - 1) (g c / 4)) j9)) (c - 7) (nI (g c / 4)) (by first | assumption | decide | omega) (by first | assumption | decide | omega)) q_433 q_59 q_57 q_6 q_56 (by decide +kernel) rfl rfl dX1_toppleCell_100 ⟨Nat.le_of_ble_eq_true rfl, Nat.le_of_ble_eq_true rfl⟩ [1, 2] [0] rfl (wr := [(o1, .inr (5, [.ref d1, .int (nI 7)]))]) rfl (by decide) (by decide) (by decide) (Nat.le_of_ble_eq_true rfl) ⟨Nat.le_of_ble_eq_true rfl, Nat.le_of_ble_eq_true rfl⟩ (fun rv w1 h1 => ?_)
            obtain ⟨rfl, rfl⟩ := h1
            refine G.aft [0, 1, 2] (ws' := [(o1, .inr (5, [.ref d1, .int (nI 7)])), (d1, .inr (12, [.ref d2])), (d2, aI k 81 (upd (fun j9 => nI ((ad (sb g c (4 * (g c / 4))) (c - 1) (g c / 4)) j9)) (c - 7) ((fun j9 => nI ((ad (sb g c (4 * (g c / 4))) (c - 1) (g c / 4)) j9)) (c - 7) + (nI (g c / 4)))))]) (st' := []) (cells' := 0) (slots' := 0) (g' := 0) (by decide) rfl rfl rfl rfl rfl ?_
            refine G.fn (fun j9 => nI ((ad (ad (sb g c (4 * (g c / 4))) (c - 1) (g c / 4)) (c - 7) (g c / 4)) j9)) 2 [(o1, .inr (5, [.ref d1, .int (nI 7)])), (d1, .inr (12, [.ref d2])), (d2, aI k 81 (fun j9 => nI ((ad (ad (sb g c (4 * (g c / 4))) (c - 1) (g c / 4)) (c - 7) (g c / 4)) j9)))] rfl (fun j hj => by exact ad_step _ _ _ j) rfl ?_
            refine g_iload_n (pc := 103) C 3 rfl rfl dX1_toppleCell_103 ?_
            refine g_aload_n (pc := 104) C 2 rfl rfl dX1_toppleCell_104 ?_
            refine g_callV (pc := 105) (cells := 0) (slots := 0) (g := 0) (As := []) (st := [.int (nI c)]) (T := TX1) (q0 := 0) C (nA := 0) rfl (c_X1_cellNumber o1 d1 (nI 7) ) q_434 q_235 q_233 q_182 q_232 (by decide +kernel) rfl rfl dX1_toppleCell_105 ⟨Nat.le_of_ble_eq_true rfl, Nat.le_of_ble_eq_true rfl⟩ [0] [1, 2] rfl (wr := [(d1, .inr (12, [.ref d2])), (d2, aI k 81 (fun j9 => nI ((ad (ad (sb g c (4 * (g c / 4))) (c - 1) (g c / 4)) (c - 7) (g c / 4)) j9)))]) rfl (by decide) (by decide) (by decide) (Nat.le_of_ble_eq_true rfl) ⟨Nat.le_of_ble_eq_true rfl, Nat.le_of_ble_eq_true rfl⟩ (fun rv w1 h1 => ?_)
            obtain ⟨rfl, rfl⟩ := h1
            refine G.aft [2, 0, 1] (ws' := [(o1, .inr (5, [.ref d1, .int (nI 7)])), (d1, .inr (12, [.ref d2])), (d2, aI k 81 (fun j9 => nI ((ad (ad (sb g c (4 * (g c / 4))) (c - 1) (g c / 4)) (c - 7) (g c / 4)) j9)))]) (st' := [.int ((nI 7) * (nI 7)), .int (nI c)]) (cells' := 0) (slots' := 0) (g' := 0) (by decide) rfl rfl rfl rfl rfl ?_
            refine g_aload_n (pc := 108) C 2 rfl rfl dX1_toppleCell_108 ?_
            refine g_get (pc := 109) C (T := TX1) inX1 0 rfl rfl 1 (by decide) q_131 rfl rfl dX1_toppleCell_109 ?_
            refine g_isub (pc := 112) C dX1_toppleCell_112 ?_
            refine G.eqs (st' := [.int (nI 42), .int (nI c)]) (congrArg (β := List Value) (fun z9 => [.int z9, .int (nI c)]) (show ((((nI 7) * (nI 7)) - (nI 7)) : Int32) = (nI 42) from by decide)) ?_
            refine g_icmp_ge (pc := 113) C 130 (by decide) dX1_toppleCell_113 (fun c_113 => ?_) (fun c_113 => ?_)
            · have k113 : 42 ≤ c := by rcases Nat.lt_or_ge (c) (42) with q | q; exact absurd (show nI (42) ≤ nI (c) from c_113) (nI_ge q (by omega)); exact q
              refine g_iload_n (pc := 130) C 1 rfl rfl dX1_toppleCell_130 ?_
              refine G.fn (fun j9 => nI (tpl 7 c (g c / 4) g j9)) 2 [(o1, .inr (5, [.ref d1, .int (nI 7)])), (d1, .inr (12, [.ref d2])), (d2, aI k 81 (fun j9 => nI (tpl 7 c (g c / 4) g j9)))] rfl (fun j hj => by exact congrArg nI (by simp only [ad, sb, tpl, nbr]; repeat' (first | omega | split))) rfl ?_
              exact g_iret (pc := 131) C hr hlk (by first | decide | omega) (by first | decide | omega) (by first | decide | omega) dX1_toppleCell_131 ⟨rfl, rfl⟩
            · have k113 : c < 42 := by rcases Nat.lt_or_ge (c) (42) with q | q; exact q; exact absurd (show nI (42) ≤ nI (c) from nI_le q (by omega)) c_113
              refine g_aload_n (pc := 116) C 2 rfl rfl dX1_toppleCell_116 ?_
              refine g_get (pc := 117) C (T := TX1) inX1 0 rfl rfl 0 (by decide) q_130 rfl rfl dX1_toppleCell_117 ?_
              refine g_iload_n (pc := 120) C 3 rfl rfl dX1_toppleCell_120 ?_
              refine g_aload_n (pc := 121) C 2 rfl rfl dX1_toppleCell_121 ?_
              refine g_get (pc := 122) C (T := TX1) inX1 0 rfl rfl 1 (by decide) q_131 rfl rfl dX1_toppleCell_122 ?_
              refine g_iadd (pc := 125) C dX1_toppleCell_125 ?_
              refine G.eqs (st' := [.int (nI (c + 7)), .ref d1]) (congrArg (β := List Value) (fun z9 => [.int z9, .ref d1]) (show (((nI c) + (nI 7)) : Int32) = (nI (c + 7)) from nI_add c 7)) ?_
              refine g_iload_n (pc := 126) C 1 rfl rfl dX1_toppleCell_126 ?_
              refine g_callV (pc := 127) (cells := 0) (slots := 0) (g := 0) (As := [.int (nI (c + 7)), .int (nI (g c / 4))]) (st := []) (T := TX8) (q0 := 1) C (nA := 2) rfl (c_X8_add_n d1 d2 81 (fun j9 => nI ((ad (ad (sb g c (4 * (g c / 4))) (c - 1) (g c / 4)) (c - 7) (g c / 4)) j9)) (c + 7) (nI (g c / 4)) (by first | assumption | decide | omega) (by first | assumption | decide | omega)) q_433 q_59 q_57 q_6 q_56 (by decide +kernel) rfl rfl dX1_toppleCell_127 ⟨Nat.le_of_ble_eq_true rfl, Nat.le_of_ble_eq_true rfl⟩ [1, 2] [0] rfl (wr := [(o1, .inr (5, [.ref d1, .int (nI 7)]))]) rfl (by decide) (by decide) (by decide) (Nat.le_of_ble_eq_true rfl) ⟨Nat.le_of_ble_eq_true rfl, Nat.le_of_ble_eq_true rfl⟩ (fun rv w1 h1 => ?_)
              obtain ⟨rfl, rfl⟩ := h1
              refine G.aft [0, 1, 2] (ws' := [(o1, .inr (5, [.ref d1, .int (nI 7)])), (d1, .inr (12, [.ref d2])), (d2, aI k 81 (upd (fun j9 => nI ((ad (ad (sb g c (4 * (g c / 4))) (c - 1) (g c / 4)) (c - 7) (g c / 4)) j9)) (c + 7) ((fun j9 => nI ((ad (ad (sb g c (4 * (g c / 4))) (c - 1) (g c / 4)) (c - 7) (g c / 4)) j9)) (c + 7) + (nI (g c / 4)))))]) (st' := []) (cells' := 0) (slots' := 0) (g' := 0) (by decide) rfl rfl rfl rfl rfl ?_
              refine G.fn (fun j9 => nI ((ad (ad (ad (sb g c (4 * (g c / 4))) (c - 1) (g c / 4)) (c - 7) (g c / 4)) (c + 7) (g c / 4)) j9)) 2 [(o1, .inr (5, [.ref d1, .int (nI 7)])), (d1, .inr (12, [.ref d2])), (d2, aI k 81 (fun j9 => nI ((ad (ad (ad (sb g c (4 * (g c / 4))) (c - 1) (g c / 4)) (c - 7) (g c / 4)) (c + 7) (g c / 4)) j9)))] rfl (fun j hj => by exact ad_step _ _ _ j) rfl ?_
              refine g_iload_n (pc := 130) C 1 rfl rfl dX1_toppleCell_130 ?_
              refine G.fn (fun j9 => nI (tpl 7 c (g c / 4) g j9)) 2 [(o1, .inr (5, [.ref d1, .int (nI 7)])), (d1, .inr (12, [.ref d2])), (d2, aI k 81 (fun j9 => nI (tpl 7 c (g c / 4) g j9)))] rfl (fun j hj => by exact congrArg nI (by simp only [ad, sb, tpl, nbr]; repeat' (first | omega | split))) rfl ?_
              exact g_iret (pc := 131) C hr hlk (by first | decide | omega) (by first | decide | omega) (by first | decide | omega) dX1_toppleCell_131 ⟨rfl, rfl⟩
        · have k67 : c % 7 < 6 := by rcases Nat.lt_or_ge (c % 7) (6) with q | q; exact q; exact absurd (show nI (6) ≤ nI (c % 7) from nI_le q (by omega)) c_67
          refine g_aload_n (pc := 70) C 2 rfl rfl dX1_toppleCell_70 ?_
          refine g_get (pc := 71) C (T := TX1) inX1 0 rfl rfl 0 (by decide) q_130 rfl rfl dX1_toppleCell_71 ?_
          refine g_iload_n (pc := 74) C 3 rfl rfl dX1_toppleCell_74 ?_
          refine g_iconst (pc := 75) (v := 1) C (by decide) dX1_toppleCell_75 ?_
          refine g_iadd (pc := 76) C dX1_toppleCell_76 ?_
          refine G.eqs (st' := [.int (nI (c + 1)), .ref d1]) (congrArg (β := List Value) (fun z9 => [.int z9, .ref d1]) (show (((nI c) + 1) : Int32) = (nI (c + 1)) from nI_1 c)) ?_
          refine g_iload_n (pc := 77) C 1 rfl rfl dX1_toppleCell_77 ?_
          refine g_callV (pc := 78) (cells := 0) (slots := 0) (g := 0) (As := [.int (nI (c + 1)), .int (nI (g c / 4))]) (st := []) (T := TX8) (q0 := 1) C (nA := 2) rfl (c_X8_add_n d1 d2 81 (fun j9 => nI ((ad (sb g c (4 * (g c / 4))) (c - 1) (g c / 4)) j9)) (c + 1) (nI (g c / 4)) (by first | assumption | decide | omega) (by first | assumption | decide | omega)) q_433 q_59 q_57 q_6 q_56 (by decide +kernel) rfl rfl dX1_toppleCell_78 ⟨Nat.le_of_ble_eq_true rfl, Nat.le_of_ble_eq_true rfl⟩ [1, 2] [0] rfl (wr := [(o1, .inr (5, [.ref d1, .int (nI 7)]))]) rfl (by decide) (by decide) (by decide) (Nat.le_of_ble_eq_true rfl) ⟨Nat.le_of_ble_eq_true rfl, Nat.le_of_ble_eq_true rfl⟩ (fun rv w1 h1 => ?_)
          obtain ⟨rfl, rfl⟩ := h1
          refine G.aft [0, 1, 2] (ws' := [(o1, .inr (5, [.ref d1, .int (nI 7)])), (d1, .inr (12, [.ref d2])), (d2, aI k 81 (upd (fun j9 => nI ((ad (sb g c (4 * (g c / 4))) (c - 1) (g c / 4)) j9)) (c + 1) ((fun j9 => nI ((ad (sb g c (4 * (g c / 4))) (c - 1) (g c / 4)) j9)) (c + 1) + (nI (g c / 4)))))]) (st' := []) (cells' := 0) (slots' := 0) (g' := 0) (by decide) rfl rfl rfl rfl rfl ?_
          refine G.fn (fun j9 => nI ((ad (ad (sb g c (4 * (g c / 4))) (c - 1) (g c / 4)) (c + 1) (g c / 4)) j9)) 2 [(o1, .inr (5, [.ref d1, .int (nI 7)])), (d1, .inr (12, [.ref d2])), (d2, aI k 81 (fun j9 => nI ((ad (ad (sb g c (4 * (g c / 4))) (c - 1) (g c / 4)) (c + 1) (g c / 4)) j9)))] rfl (fun j hj => by exact ad_step _ _ _ j) rfl ?_
          refine g_iload_n (pc := 81) C 3 rfl rfl dX1_toppleCell_81 ?_
          refine g_aload_n (pc := 82) C 2 rfl rfl dX1_toppleCell_82 ?_
          refine g_get (pc := 83) C (T := TX1) inX1 0 rfl rfl 1 (by decide) q_131 rfl rfl dX1_toppleCell_83 ?_
          refine g_icmp_lt (pc := 86) C 103 (by decide) dX1_toppleCell_86 (fun c_86 => ?_) (fun c_86 => ?_)
          · have k86 : c < 7 := by rcases Nat.lt_or_ge (c) (7) with q | q; exact q; exact absurd c_86 (nI_nlt q (by omega))
            refine g_iload_n (pc := 103) C 3 rfl rfl dX1_toppleCell_103 ?_
            refine g_aload_n (pc := 104) C 2 rfl rfl dX1_toppleCell_104 ?_
            refine g_callV (pc := 105) (cells := 0) (slots := 0) (g := 0) (As := []) (st := [.int (nI c)]) (T := TX1) (q0 := 0) C (nA := 0) rfl (c_X1_cellNumber o1 d1 (nI 7) ) q_434 q_235 q_233 q_182 q_232 (by decide +kernel) rfl rfl dX1_toppleCell_105 ⟨Nat.le_of_ble_eq_true rfl, Nat.le_of_ble_eq_true rfl⟩ [0] [1, 2] rfl (wr := [(d1, .inr (12, [.ref d2])), (d2, aI k 81 (fun j9 => nI ((ad (ad (sb g c (4 * (g c / 4))) (c - 1) (g c / 4)) (c + 1) (g c / 4)) j9)))]) rfl (by decide) (by decide) (by decide) (Nat.le_of_ble_eq_true rfl) ⟨Nat.le_of_ble_eq_true rfl, Nat.le_of_ble_eq_true rfl⟩ (fun rv w1 h1 => ?_)
            obtain ⟨rfl, rfl⟩ := h1
            refine G.aft [2, 0, 1] (ws' := [(o1, .inr (5, [.ref d1, .int (nI 7)])), (d1, .inr (12, [.ref d2])), (d2, aI k 81 (fun j9 => nI ((ad (ad (sb g c (4 * (g c / 4))) (c - 1) (g c / 4)) (c + 1) (g c / 4)) j9)))]) (st' := [.int ((nI 7) * (nI 7)), .int (nI c)]) (cells' := 0) (slots' := 0) (g' := 0) (by decide) rfl rfl rfl rfl rfl ?_
            refine g_aload_n (pc := 108) C 2 rfl rfl dX1_toppleCell_108 ?_
            refine g_get (pc := 109) C (T := TX1) inX1 0 rfl rfl 1 (by decide) q_131 rfl rfl dX1_toppleCell_109 ?_
            refine g_isub (pc := 112) C dX1_toppleCell_112 ?_
            refine G.eqs (st' := [.int (nI 42), .int (nI c)]) (congrArg (β := List Value) (fun z9 => [.int z9, .int (nI c)]) (show ((((nI 7) * (nI 7)) - (nI 7)) : Int32) = (nI 42) from by decide)) ?_
            refine g_icmp_ge (pc := 113) C 130 (by decide) dX1_toppleCell_113 (fun c_113 => ?_) (fun c_113 => ?_)
            · have k113 : 42 ≤ c := by rcases Nat.lt_or_ge (c) (42) with q | q; exact absurd (show nI (42) ≤ nI (c) from c_113) (nI_ge q (by omega)); exact q
              refine g_iload_n (pc := 130) C 1 rfl rfl dX1_toppleCell_130 ?_
              refine G.fn (fun j9 => nI (tpl 7 c (g c / 4) g j9)) 2 [(o1, .inr (5, [.ref d1, .int (nI 7)])), (d1, .inr (12, [.ref d2])), (d2, aI k 81 (fun j9 => nI (tpl 7 c (g c / 4) g j9)))] rfl (fun j hj => by exact congrArg nI (by simp only [ad, sb, tpl, nbr]; repeat' (first | omega | split))) rfl ?_
              exact g_iret (pc := 131) C hr hlk (by first | decide | omega) (by first | decide | omega) (by first | decide | omega) dX1_toppleCell_131 ⟨rfl, rfl⟩
            · have k113 : c < 42 := by rcases Nat.lt_or_ge (c) (42) with q | q; exact q; exact absurd (show nI (42) ≤ nI (c) from nI_le q (by omega)) c_113
              refine g_aload_n (pc := 116) C 2 rfl rfl dX1_toppleCell_116 ?_
              refine g_get (pc := 117) C (T := TX1) inX1 0 rfl rfl 0 (by decide) q_130 rfl rfl dX1_toppleCell_117 ?_
              refine g_iload_n (pc := 120) C 3 rfl rfl dX1_toppleCell_120 ?_
              refine g_aload_n (pc := 121) C 2 rfl rfl dX1_toppleCell_121 ?_
              refine g_get (pc := 122) C (T := TX1) inX1 0 rfl rfl 1 (by decide) q_131 rfl rfl dX1_toppleCell_122 ?_
              refine g_iadd (pc := 125) C dX1_toppleCell_125 ?_
              refine G.eqs (st' := [.int (nI (c + 7)), .ref d1]) (congrArg (β := List Value) (fun z9 => [.int z9, .ref d1]) (show (((nI c) + (nI 7)) : Int32) = (nI (c + 7)) from nI_add c 7)) ?_
              refine g_iload_n (pc := 126) C 1 rfl rfl dX1_toppleCell_126 ?_
              refine g_callV (pc := 127) (cells := 0) (slots := 0) (g := 0) (As := [.int (nI (c + 7)), .int (nI (g c / 4))]) (st := []) (T := TX8) (q0 := 1) C (nA := 2) rfl (c_X8_add_n d1 d2 81 (fun j9 => nI ((ad (ad (sb g c (4 * (g c / 4))) (c - 1) (g c / 4)) (c + 1) (g c / 4)) j9)) (c + 7) (nI (g c / 4)) (by first | assumption | decide | omega) (by first | assumption | decide | omega)) q_433 q_59 q_57 q_6 q_56 (by decide +kernel) rfl rfl dX1_toppleCell_127 ⟨Nat.le_of_ble_eq_true rfl, Nat.le_of_ble_eq_true rfl⟩ [1, 2] [0] rfl (wr := [(o1, .inr (5, [.ref d1, .int (nI 7)]))]) rfl (by decide) (by decide) (by decide) (Nat.le_of_ble_eq_true rfl) ⟨Nat.le_of_ble_eq_true rfl, Nat.le_of_ble_eq_true rfl⟩ (fun rv w1 h1 => ?_)
              obtain ⟨rfl, rfl⟩ := h1
              refine G.aft [0, 1, 2] (ws' := [(o1, .inr (5, [.ref d1, .int (nI 7)])), (d1, .inr (12, [.ref d2])), (d2, aI k 81 (upd (fun j9 => nI ((ad (ad (sb g c (4 * (g c / 4))) (c - 1) (g c / 4)) (c + 1) (g c / 4)) j9)) (c + 7) ((fun j9 => nI ((ad (ad (sb g c (4 * (g c / 4))) (c - 1) (g c / 4)) (c + 1) (g c / 4)) j9)) (c + 7) + (nI (g c / 4)))))]) (st' := []) (cells' := 0) (slots' := 0) (g' := 0) (by decide) rfl rfl rfl rfl rfl ?_
              refine G.fn (fun j9 => nI ((ad (ad (ad (sb g c (4 * (g c / 4))) (c - 1) (g c / 4)) (c + 1) (g c / 4)) (c + 7) (g c / 4)) j9)) 2 [(o1, .inr (5, [.ref d1, .int (nI 7)])), (d1, .inr (12, [.ref d2])), (d2, aI k 81 (fun j9 => nI ((ad (ad (ad (sb g c (4 * (g c / 4))) (c - 1) (g c / 4)) (c + 1) (g c / 4)) (c + 7) (g c / 4)) j9)))] rfl (fun j hj => by exact ad_step _ _ _ j) rfl ?_
              refine g_iload_n (pc := 130) C 1 rfl rfl dX1_toppleCell_130 ?_
              refine G.fn (fun j9 => nI (tpl 7 c (g c / 4) g j9)) 2 [(o1, .inr (5, [.ref d1, .int (nI 7)])), (d1, .inr (12, [.ref d2])), (d2, aI k 81 (fun j9 => nI (tpl 7 c (g c / 4) g j9)))] rfl (fun j hj => by exact congrArg nI (by simp only [ad, sb, tpl, nbr]; repeat' (first | omega | split))) rfl ?_
              exact g_iret (pc := 131) C hr hlk (by first | decide | omega) (by first | decide | omega) (by first | decide | omega) dX1_toppleCell_131 ⟨rfl, rfl⟩
          · have k86 : 7 ≤ c := by rcases Nat.lt_or_ge (c) (7) with q | q; exact absurd (nI_lt q (by omega)) c_86; exact q
            refine g_aload_n (pc := 89) C 2 rfl rfl dX1_toppleCell_89 ?_
            refine g_get (pc := 90) C (T := TX1) inX1 0 rfl rfl 0 (by decide) q_130 rfl rfl dX1_toppleCell_90 ?_
            refine g_iload_n (pc := 93) C 3 rfl rfl dX1_toppleCell_93 ?_
            refine g_aload_n (pc := 94) C 2 rfl rfl dX1_toppleCell_94 ?_
            refine g_get (pc := 95) C (T := TX1) inX1 0 rfl rfl 1 (by decide) q_131 rfl rfl dX1_toppleCell_95 ?_
            refine g_isub (pc := 98) C dX1_toppleCell_98 ?_
            refine G.eqs (st' := [.int (nI (c - 7)), .ref d1]) (congrArg (β := List Value) (fun z9 => [.int z9, .ref d1]) (show (((nI c) - (nI 7)) : Int32) = (nI (c - 7)) from pk_sub (by omega))) ?_
            refine g_iload_n (pc := 99) C 1 rfl rfl dX1_toppleCell_99 ?_
            refine g_callV (pc := 100) (cells := 0) (slots := 0) (g := 0) (As := [.int (nI (c - 7)), .int (nI (g c / 4))]) (st := []) (T := TX8) (q0 := 1) C (nA := 2) rfl (c_X8_add_n d1 d2 81 (fun j9 => nI ((ad (ad (sb g c (4 * (g c / 4))) (c - 1) (g c / 4)) (c + 1) (g c / 4)) j9)) (c - 7) (nI (g c / 4)) (by first | assumption | decide | omega) (by first | assumption | decide | omega)) q_433 q_59 q_57 q_6 q_56 (by decide +kernel) rfl rfl dX1_toppleCell_100 ⟨Nat.le_of_ble_eq_true rfl, Nat.le_of_ble_eq_true rfl⟩ [1, 2] [0] rfl (wr := [(o1, .inr (5, [.ref d1, .int (nI 7)]))]) rfl (by decide) (by decide) (by decide) (Nat.le_of_ble_eq_true rfl) ⟨Nat.le_of_ble_eq_true rfl, Nat.le_of_ble_eq_true rfl⟩ (fun rv w1 h1 => ?_)
            obtain ⟨rfl, rfl⟩ := h1
            refine G.aft [0, 1, 2] (ws' := [(o1, .inr (5, [.ref d1, .int (nI 7)])), (d1, .inr (12, [.ref d2])), (d2, aI k 81 (upd (fun j9 => nI ((ad (ad (sb g c (4 * (g c / 4))) (c - 1) (g c / 4)) (c + 1) (g c / 4)) j9)) (c - 7) ((fun j9 => nI ((ad (ad (sb g c (4 * (g c / 4))) (c - 1) (g c / 4)) (c + 1) (g c / 4)) j9)) (c - 7) + (nI (g c / 4)))))]) (st' := []) (cells' := 0) (slots' := 0) (g' := 0) (by decide) rfl rfl rfl rfl rfl ?_
            refine G.fn (fun j9 => nI ((ad (ad (ad (sb g c (4 * (g c / 4))) (c - 1) (g c / 4)) (c + 1) (g c / 4)) (c - 7) (g c / 4)) j9)) 2 [(o1, .inr (5, [.ref d1, .int (nI 7)])), (d1, .inr (12, [.ref d2])), (d2, aI k 81 (fun j9 => nI ((ad (ad (ad (sb g c (4 * (g c / 4))) (c - 1) (g c / 4)) (c + 1) (g c / 4)) (c - 7) (g c / 4)) j9)))] rfl (fun j hj => by exact ad_step _ _ _ j) rfl ?_
            refine g_iload_n (pc := 103) C 3 rfl rfl dX1_toppleCell_103 ?_
            refine g_aload_n (pc := 104) C 2 rfl rfl dX1_toppleCell_104 ?_
            refine g_callV (pc := 105) (cells := 0) (slots := 0) (g := 0) (As := []) (st := [.int (nI c)]) (T := TX1) (q0 := 0) C (nA := 0) rfl (c_X1_cellNumber o1 d1 (nI 7) ) q_434 q_235 q_233 q_182 q_232 (by decide +kernel) rfl rfl dX1_toppleCell_105 ⟨Nat.le_of_ble_eq_true rfl, Nat.le_of_ble_eq_true rfl⟩ [0] [1, 2] rfl (wr := [(d1, .inr (12, [.ref d2])), (d2, aI k 81 (fun j9 => nI ((ad (ad (ad (sb g c (4 * (g c / 4))) (c - 1) (g c / 4)) (c + 1) (g c / 4)) (c - 7) (g c / 4)) j9)))]) rfl (by decide) (by decide) (by decide) (Nat.le_of_ble_eq_true rfl) ⟨Nat.le_of_ble_eq_true rfl, Nat.le_of_ble_eq_true rfl⟩ (fun rv w1 h1 => ?_)
            obtain ⟨rfl, rfl⟩ := h1
            refine G.aft [2, 0, 1] (ws' := [(o1, .inr (5, [.ref d1, .int (nI 7)])), (d1, .inr (12, [.ref d2])), (d2, aI k 81 (fun j9 => nI ((ad (ad (ad (sb g c (4 * (g c / 4))) (c - 1) (g c / 4)) (c + 1) (g c / 4)) (c - 7) (g c / 4)) j9)))]) (st' := [.int ((nI 7) * (nI 7)), .int (nI c)]) (cells' := 0) (slots' := 0) (g' := 0) (by decide) rfl rfl rfl rfl rfl ?_
            refine g_aload_n (pc := 108) C 2 rfl rfl dX1_toppleCell_108 ?_
            refine g_get (pc := 109) C (T := TX1) inX1 0 rfl rfl 1 (by decide) q_131 rfl rfl dX1_toppleCell_109 ?_
            refine g_isub (pc := 112) C dX1_toppleCell_112 ?_
            refine G.eqs (st' := [.int (nI 42), .int (nI c)]) (congrArg (β := List Value) (fun z9 => [.int z9, .int (nI c)]) (show ((((nI 7) * (nI 7)) - (nI 7)) : Int32) = (nI 42) from by decide)) ?_
            refine g_icmp_ge (pc := 113) C 130 (by decide) dX1_toppleCell_113 (fun c_113 => ?_) (fun c_113 => ?_)
            · have k113 : 42 ≤ c := by rcases Nat.lt_or_ge (c) (42) with q | q; exact absurd (show nI (42) ≤ nI (c) from c_113) (nI_ge q (by omega)); exact q
              refine g_iload_n (pc := 130) C 1 rfl rfl dX1_toppleCell_130 ?_
              refine G.fn (fun j9 => nI (tpl 7 c (g c / 4) g j9)) 2 [(o1, .inr (5, [.ref d1, .int (nI 7)])), (d1, .inr (12, [.ref d2])), (d2, aI k 81 (fun j9 => nI (tpl 7 c (g c / 4) g j9)))] rfl (fun j hj => by exact congrArg nI (by simp only [ad, sb, tpl, nbr]; repeat' (first | omega | split))) rfl ?_
              exact g_iret (pc := 131) C hr hlk (by first | decide | omega) (by first | decide | omega) (by first | decide | omega) dX1_toppleCell_131 ⟨rfl, rfl⟩
            · have k113 : c < 42 := by rcases Nat.lt_or_ge (c) (42) with q | q; exact q; exact absurd (show nI (42) ≤ nI (c) from nI_le q (by omega)) c_113
              refine g_aload_n (pc := 116) C 2 rfl rfl dX1_toppleCell_116 ?_
              refine g_get (pc := 117) C (T := TX1) inX1 0 rfl rfl 0 (by decide) q_130 rfl rfl dX1_toppleCell_117 ?_
              refine g_iload_n (pc := 120) C 3 rfl rfl dX1_toppleCell_120 ?_
              refine g_aload_n (pc := 121) C 2 rfl rfl dX1_toppleCell_121 ?_
              refine g_get (pc := 122) C (T := TX1) inX1 0 rfl rfl 1 (by decide) q_131 rfl rfl dX1_toppleCell_122 ?_
              refine g_iadd (pc := 125) C dX1_toppleCell_125 ?_
              refine G.eqs (st' := [.int (nI (c + 7)), .ref d1]) (congrArg (β := List Value) (fun z9 => [.int z9, .ref d1]) (show (((nI c) + (nI 7)) : Int32) = (nI (c + 7)) from nI_add c 7)) ?_
              refine g_iload_n (pc := 126) C 1 rfl rfl dX1_toppleCell_126 ?_
              refine g_callV (pc := 127) (cells := 0) (slots := 0) (g := 0) (As := [.int (nI (c + 7)), .int (nI (g c / 4))]) (st := []) (T := TX8) (q0 := 1) C (nA := 2) rfl (c_X8_add_n d1 d2 81 (fun j9 => nI ((ad (ad (ad (sb g c (4 * (g c / 4))) (c - 1) (g c / 4)) (c + 1) (g c / 4)) (c - 7) (g c / 4)) j9)) (c + 7) (nI (g c / 4)) (by first | assumption | decide | omega) (by first | assumption | decide | omega)) q_433 q_59 q_57 q_6 q_56 (by decide +kernel) rfl rfl dX1_toppleCell_127 ⟨Nat.le_of_ble_eq_true rfl, Nat.le_of_ble_eq_true rfl⟩ [1, 2] [0] rfl (wr := [(o1, .inr (5, [.ref d1, .int (nI 7)]))]) rfl (by decide) (by decide) (by decide) (Nat.le_of_ble_eq_true rfl) ⟨Nat.le_of_ble_eq_true rfl, Nat.le_of_ble_eq_true rfl⟩ (fun rv w1 h1 => ?_)
              obtain ⟨rfl, rfl⟩ := h1
              refine G.aft [0, 1, 2] (ws' := [(o1, .inr (5, [.ref d1, .int (nI 7)])), (d1, .inr (12, [.ref d2])), (d2, aI k 81 (upd (fun j9 => nI ((ad (ad (ad (sb g c (4 * (g c / 4))) (c - 1) (g c / 4)) (c + 1) (g c / 4)) (c - 7) (g c / 4)) j9)) (c + 7) ((fun j9 => nI ((ad (ad (ad (sb g c (4 * (g c / 4))) (c - 1) (g c / 4)) (c + 1) (g c / 4)) (c - 7) (g c / 4)) j9)) (c + 7) + (nI (g c / 4)))))]) (st' := []) (cells' := 0) (slots' := 0) (g' := 0) (by decide) rfl rfl rfl rfl rfl ?_
              refine G.fn (fun j9 => nI ((ad (ad (ad (ad (sb g c (4 * (g c / 4))) (c - 1) (g c / 4)) (c + 1) (g c / 4)) (c - 7) (g c / 4)) (c + 7) (g c / 4)) j9)) 2 [(o1, .inr (5, [.ref d1, .int (nI 7)])), (d1, .inr (12, [.ref d2])), (d2, aI k 81 (fun j9 => nI ((ad (ad (ad (ad (sb g c (4 * (g c / 4))) (c - 1) (g c / 4)) (c + 1) (g c / 4)) (c - 7) (g c / 4)) (c + 7) (g c / 4)) j9)))] rfl (fun j hj => by exact ad_step _ _ _ j) rfl ?_
              refine g_iload_n (pc := 130) C 1 rfl rfl dX1_toppleCell_130 ?_
              refine G.fn (fun j9 => nI (tpl 7 c (g c / 4) g j9)) 2 [(o1, .inr (5, [.ref d1, .int (nI 7)])), (d1, .inr (12, [.ref d2])), (d2, aI k 81 (fun j9 => nI (tpl 7 c (g c / 4) g j9)))] rfl (fun j hj => by exact congrArg nI (by simp only [ad, sb, tpl, nbr]; repeat' (first | omega | split))) rfl ?_
              exact g_iret (pc := 131) C hr hlk (by first | decide | omega) (by first | decide | omega) (by first | decide | omega) dX1_toppleCell_131 ⟨rfl, rfl⟩
    · exact absurd c_21 (by decide)
set_option maxRecDepth 100000 in
set_option maxHeartbeats 400000 in
theorem c_X1_draw_s7 {l : Launch} {D : va_G} {k : Nat → ClassId} (o1 : Nat) (d1 : Nat) (d2 : Nat) (wd : Int32) (f0 : Nat → Int32) (m : Nat) (hmm : m ≤ 300) : CM l D k yX1_draw cX1_draw 7 (some .int)  2 45 [.ref o1, .int (nI 7), .int (nI m)] [(o1, .inr (5, [.ref d1, .int wd])), (d1, .inr (12, [.ref d2])), (d2, aI k 81 f0)] (fun rv9 w9 => rv9 = (some (.int (nI (picN 7 (fm 7 m))))) ∧ ∃ (gg : Nat → Int32), w9 = [(o1, .inr (5, [.ref d1, .int (nI 7)])), (d1, .inr (12, [.ref d2])), (d2, aI k 81 gg)]) 0 0 0 := by
  refine CM.of (lv0 := [(0, .ref o1), (1, .int (nI 7)), (2, .int (nI m))]) (by decide +kernel) (Nat.le_of_ble_eq_true rfl) rfl ?_
  intro p9 e9 s9 m9 bl9 me9 co9 C hr hlk hin had
  refine g_aload_n (pc := 0) C 0 rfl rfl dX1_draw_0 ?_
  refine g_iload_n (pc := 1) C 1 rfl rfl dX1_draw_1 ?_
  refine g_put (pc := 2) C (T := TX1) inX1 0 rfl rfl 1 (by decide) q_131 rfl tyX1 tyX1_ok nmX1 rfl [(o1, .inr (5, [.ref d1, .int (nI 7)])), (d1, .inr (12, [.ref d2])), (d2, aI k 81 f0)] (tyX1_ok 1 (by decide)) rfl (by rfl) (Nat.le_of_ble_eq_true rfl) rfl dX1_draw_2 ?_
  refine g_aload_n (pc := 5) C 0 rfl rfl dX1_draw_5 ?_
  refine g_get (pc := 6) C (T := TX1) inX1 0 rfl rfl 0 (by decide) q_130 rfl rfl dX1_draw_6 ?_
  refine g_iconst (pc := 9) (v := 0) C (by decide) dX1_draw_9 ?_
  refine g_callV (pc := 10) (cells := 0) (slots := 0) (g := 0) (As := [.int 0]) (st := []) (T := TX8) (q0 := 1) C (nA := 1) rfl (c_X8_fill d1 d2 81 f0 0 (by first | assumption | decide | omega)) q_435 q_41 q_39 q_6 q_38 (by decide +kernel) rfl rfl dX1_draw_10 ⟨Nat.le_of_ble_eq_true rfl, Nat.le_of_ble_eq_true rfl⟩ [1, 2] [0] rfl (wr := [(o1, .inr (5, [.ref d1, .int (nI 7)]))]) rfl (by decide) (by decide) (by decide) (Nat.le_of_ble_eq_true rfl) ⟨Nat.le_of_ble_eq_true rfl, Nat.le_of_ble_eq_true rfl⟩ (fun rv w1 h1 => ?_)
  obtain ⟨rfl, rfl⟩ := h1
  refine G.aft [0, 1, 2] (ws' := [(o1, .inr (5, [.ref d1, .int (nI 7)])), (d1, .inr (12, [.ref d2])), (d2, aI k 81 (fun _ => 0))]) (st' := []) (cells' := 0) (slots' := 0) (g' := 0) (by decide) rfl rfl rfl rfl rfl ?_
  refine g_aload_n (pc := 13) C 0 rfl rfl dX1_draw_13 ?_
  refine g_get (pc := 14) C (T := TX1) inX1 0 rfl rfl 0 (by decide) q_130 rfl rfl dX1_draw_14 ?_
  refine g_aload_n (pc := 17) C 0 rfl rfl dX1_draw_17 ?_
  refine g_callV (pc := 18) (cells := 0) (slots := 0) (g := 0) (As := []) (st := [.ref d1]) (T := TX1) (q0 := 0) C (nA := 0) rfl (c_X1_cellNumber o1 d1 (nI 7) ) q_434 q_235 q_233 q_182 q_232 (by decide +kernel) rfl rfl dX1_draw_18 ⟨Nat.le_of_ble_eq_true rfl, Nat.le_of_ble_eq_true rfl⟩ [0] [1, 2] rfl (wr := [(d1, .inr (12, [.ref d2])), (d2, aI k 81 (fun _ => 0))]) rfl (by decide) (by decide) (by decide) (Nat.le_of_ble_eq_true rfl) ⟨Nat.le_of_ble_eq_true rfl, Nat.le_of_ble_eq_true rfl⟩ (fun rv w1 h1 => ?_)
  obtain ⟨rfl, rfl⟩ := h1
  refine G.aft [2, 0, 1] (ws' := [(o1, .inr (5, [.ref d1, .int (nI 7)])), (d1, .inr (12, [.ref d2])), (d2, aI k 81 (fun _ => 0))]) (st' := [.int ((nI 7) * (nI 7)), .ref d1]) (cells' := 0) (slots' := 0) (g' := 0) (by decide) rfl rfl rfl rfl rfl ?_
  refine g_iconst (pc := 21) (v := 2) C (by decide) dX1_draw_21 ?_
  refine g_idiv (pc := 22) C (by first | assumption | decide) dX1_draw_22 ?_
  refine G.eqs (st' := [.int (nI 24), .ref d1]) (congrArg (β := List Value) (fun z9 => [.int z9, .ref d1]) (show ((((nI 7) * (nI 7)) / 2) : Int32) = (nI 24) from by decide)) ?_
  refine g_iload_n (pc := 23) C 2 rfl rfl dX1_draw_23 ?_
  refine g_callV (pc := 24) (cells := 0) (slots := 0) (g := 0) (As := [.int (nI 24), .int (nI m)]) (st := []) (T := TX8) (q0 := 1) C (nA := 2) rfl (c_X8_write_n d1 d2 81 (fun _ => 0) 24 (nI m) (by first | assumption | decide | omega) (by first | assumption | decide | omega)) q_438 q_439 q_437 q_6 q_436 (by decide +kernel) rfl rfl dX1_draw_24 ⟨Nat.le_of_ble_eq_true rfl, Nat.le_of_ble_eq_true rfl⟩ [1, 2] [0] rfl (wr := [(o1, .inr (5, [.ref d1, .int (nI 7)]))]) rfl (by decide) (by decide) (by decide) (Nat.le_of_ble_eq_true rfl) ⟨Nat.le_of_ble_eq_true rfl, Nat.le_of_ble_eq_true rfl⟩ (fun rv w1 h1 => ?_)
  obtain ⟨rfl, rfl⟩ := h1
  refine G.aft [0, 1, 2] (ws' := [(o1, .inr (5, [.ref d1, .int (nI 7)])), (d1, .inr (12, [.ref d2])), (d2, aI k 81 (upd (fun _ => 0) 24 (nI m)))]) (st' := []) (cells' := 0) (slots' := 0) (g' := 0) (by decide) rfl rfl rfl rfl rfl ?_
  refine G.fn (fun j9 => nI ((fm 7 m) j9)) 2 [(o1, .inr (5, [.ref d1, .int (nI 7)])), (d1, .inr (12, [.ref d2])), (d2, aI k 81 (fun j9 => nI ((fm 7 m) j9)))] rfl (fun j hj => by { show upd (fun _ => 0) 24 (nI m) j = nI (if j = 24 then m else 0); unfold upd; by_cases h : j = 24 <;> simp [h, nI_0] }) rfl ?_
  refine g_iconst (pc := 27) (v := 0) C (by decide) dX1_draw_27 ?_
  refine g_istore_n (pc := 28) C [(3, .int 0), (0, .ref o1), (1, .int (nI 7)), (2, .int (nI m))] rfl dX1_draw_28 (by decide) rfl ?_
  refine g_iconst (pc := 29) (v := 0) C (by decide) dX1_draw_29 ?_
  refine g_istore (pc := 30) C [(4, .int 0), (3, .int 0), (0, .ref o1), (1, .int (nI 7)), (2, .int (nI m))] dX1_draw_30 (by decide) rfl ?_
  have key_32 : ∀ (fuel : Nat) (r : Nat) (g : Nat → Nat) (v : Nat → Nat), Went 7 (fm 7 m) g v → r ≤ sumN v (7 * 7) → 1131 - sumN v (7 * 7) < fuel → G p9 l e9 { frames := 2, cells := 0, slots := 0, locals := 45 } s9 m9 ([.ref o1, .int (nI 7), .int (nI m)] : List Value).toArray bl9 me9 co9 D 7 (va_A [(o1, .inr (5, [.ref d1, .int wd])), (d1, .inr (12, [.ref d2])), (d2, aI k 81 f0)] s9.heap.size) (QM bl9 D ([.ref o1, .int (nI 7), .int (nI m)] : List Value).toArray s9 [(o1, .inr (5, [.ref d1, .int wd])), (d1, .inr (12, [.ref d2])), (d2, aI k 81 f0)] (fun rv9 w9 => rv9 = (some (.int (nI (picN 7 (fm 7 m))))) ∧ ∃ (gg : Nat → Int32), w9 = [(o1, .inr (5, [.ref d1, .int (nI 7)])), (d1, .inr (12, [.ref d2])), (d2, aI k 81 gg)]) 0 0 0) [(o1, .inr (5, [.ref d1, .int (nI 7)])), (d1, .inr (12, [.ref d2])), (d2, aI k 81 (fun j9 => nI (g j9)))] [(0, .ref o1), (1, .int (nI 7)), (2, .int (nI m)), (3, .int (nI (sumN v (7 * 7)))), (4, .int (nI r))] 0 0 0 32 [] := by
    intro fuel
    induction fuel with
    | zero => intro r g v hW hrr hm; exact absurd hm (Nat.not_lt_zero _)
    | succ fuel ih =>
      intro r g v hW hrr hm
      have ih_32 := ih
      have hsum := went_sum hmm hW pw7_s
      rw [pw7_n] at hsum
      refine g_iload (pc := 32) C 4 rfl dX1_draw_32 ?_
      refine g_ldc (pc := 34) C (v := 1000000) q_440 dX1_draw_34 ?_
      refine g_icmp_ge (pc := 36) C 83 (by decide) dX1_draw_36 (fun c_36 => ?_) (fun c_36 => ?_)
      · exact absurd (show nI 1000000 ≤ nI r from c_36) (nI_ge (by omega) (by decide))
      · refine g_iload_n (pc := 39) C 3 rfl rfl dX1_draw_39 ?_
        refine g_istore (pc := 40) C [(5, .int (nI (sumN v (7 * 7)))), (0, .ref o1), (1, .int (nI 7)), (2, .int (nI m)), (3, .int (nI (sumN v (7 * 7)))), (4, .int (nI r))] dX1_draw_40 (by decide) rfl ?_
        refine g_iconst (pc := 42) (v := 0) C (by decide) dX1_draw_42 ?_
        refine g_istore (pc := 43) C [(6, .int 0), (5, .int (nI (sumN v (7 * 7)))), (0, .ref o1), (1, .int (nI 7)), (2, .int (nI m)), (3, .int (nI (sumN v (7 * 7)))), (4, .int (nI r))] dX1_draw_43 (by decide) rfl ?_
        have key_45 : ∀ (fuel : Nat) (c : Nat) (g2 : Nat → Nat) (v2 : Nat → Nat), Went 7 (fm 7 m) g2 v2 → c ≤ 49 → sumN v (7 * 7) ≤ sumN v2 (7 * 7) → (sumN v2 (7 * 7) = sumN v (7 * 7) → ∀ j, j < c → g2 j < 4) → 49 - c < fuel → G p9 l e9 { frames := 2, cells := 0, slots := 0, locals := 45 } s9 m9 ([.ref o1, .int (nI 7), .int (nI m)] : List Value).toArray bl9 me9 co9 D 7 (va_A [(o1, .inr (5, [.ref d1, .int wd])), (d1, .inr (12, [.ref d2])), (d2, aI k 81 f0)] s9.heap.size) (QM bl9 D ([.ref o1, .int (nI 7), .int (nI m)] : List Value).toArray s9 [(o1, .inr (5, [.ref d1, .int wd])), (d1, .inr (12, [.ref d2])), (d2, aI k 81 f0)] (fun rv9 w9 => rv9 = (some (.int (nI (picN 7 (fm 7 m))))) ∧ ∃ (gg : Nat → Int32), w9 = [(o1, .inr (5, [.ref d1, .int (nI 7)])), (d1, .inr (12, [.ref d2])), (d2, aI k 81 gg)]) 0 0 0) [(o1, .inr (5, [.ref d1, .int (nI 7)])), (d1, .inr (12, [.ref d2])), (d2, aI k 81 (fun j9 => nI (g2 j9)))] [(0, .ref o1), (1, .int (nI 7)), (2, .int (nI m)), (3, .int (nI (sumN v2 (7 * 7)))), (4, .int (nI r)), (5, .int (nI (sumN v (7 * 7)))), (6, .int (nI c))] 0 0 0 45 [] := by
          intro fuel
          induction fuel with
          | zero => intro c g2 v2 hW2 hc hs hq hm; exact absurd hm (Nat.not_lt_zero _)
          | succ fuel ih =>
            intro c g2 v2 hW2 hc hs hq hm
            have ih_45 := ih
            have hsum2 := went_sum hmm hW2 pw7_s
            rw [pw7_n] at hsum2
            refine g_iload (pc := 45) C 6 rfl dX1_draw_45 ?_
            refine g_aload_n (pc := 47) C 0 rfl rfl dX1_draw_47 ?_
            refine g_callV (pc := 48) (cells := 0) (slots := 0) (g := 0) (As := []) (st := [.int (nI c)]) (T := TX1) (q0 := 0) C (nA := 0) rfl (c_X1_cellNumber o1 d1 (nI 7) ) q_434 q_235 q_233 q_182 q_232 (by decide +kernel) rfl rfl dX1_draw_48 ⟨Nat.le_of_ble_eq_true rfl, Nat.le_of_ble_eq_true rfl⟩ [0] [1, 2] rfl (wr := [(d1, .inr (12, [.ref d2])), (d2, aI k 81 (fun j9 => nI (g2 j9)))]) rfl (by decide) (by decide) (by decide) (Nat.le_of_ble_eq_true rfl) ⟨Nat.le_of_ble_eq_true rfl, Nat.le_of_ble_eq_true rfl⟩ (fun rv w1 h1 => ?_)
            obtain ⟨rfl, rfl⟩ := h1
            refine G.aft [2, 0, 1] (ws' := [(o1, .inr (5, [.ref d1, .int (nI 7)])), (d1, .inr (12, [.ref d2])), (d2, aI k 81 (fun j9 => nI (g2 j9)))]) (st' := [.int ((nI 7) * (nI 7)), .int (nI c)]) (cells' := 0) (slots' := 0) (g' := 0) (by decide) rfl rfl rfl rfl rfl ?_
            refine G.eqs (st' := [.int (nI 49), .int (nI c)]) (congrArg (β := List Value) (fun z9 => [.int z9, .int (nI c)]) (show (((nI 7) * (nI 7)) : Int32) = (nI 49) from by decide)) ?_
            refine g_icmp_ge (pc := 51) C 69 (by decide) dX1_draw_51 (fun c_51 => ?_) (fun c_51 => ?_)
            · have k51 : 49 ≤ c := by rcases Nat.lt_or_ge (c) (49) with q | q; exact absurd (show nI (49) ≤ nI (c) from c_51) (nI_ge q (by omega)); exact q
              refine g_iload_n (pc := 69) C 3 rfl rfl dX1_draw_69 ?_
              refine g_iload (pc := 70) C 5 rfl dX1_draw_70 ?_
              refine g_icmp_ne (pc := 72) C 77 (by decide) dX1_draw_72 (fun c_72 => ?_) (fun c_72 => ?_)
              · have k72 : sumN v2 (7 * 7) ≠ sumN v (7 * 7) := fun h => c_72 (by rw [h])
                refine g_iinc (pc := 77) (n := 1) (v := (nI (r + 1))) C 4 [(4, .int (nI (r + 1))), (0, .ref o1), (1, .int (nI 7)), (2, .int (nI m)), (3, .int (nI (sumN v2 (7 * 7)))), (5, .int (nI (sumN v (7 * 7)))), (6, .int (nI c))] rfl (nI_1 r) dX1_draw_77 (by decide) rfl ?_
                refine g_goto (pc := 80) C 32 (by decide) dX1_draw_80 ?_
                refine G.loc [1, 2, 3, 4, 0] (lv' := [(0, .ref o1), (1, .int (nI 7)), (2, .int (nI m)), (3, .int (nI (sumN v2 (7 * 7)))), (4, .int (nI (r + 1)))]) rfl ?_
                exact ih_32 (r + 1) g2 v2 hW2 (by omega) (by omega)
              · have k72 : sumN v2 (7 * 7) = sumN v (7 * 7) := (nI_eq (by omega) (by omega)).mp c_72
                refine g_iload_n (pc := 75) C 3 rfl rfl dX1_draw_75 ?_
                refine G.eqs (st' := [.int (nI (picN 7 (fm 7 m)))]) (congrArg (fun z9 => [Value.int z9]) (show ((nI (sumN v2 (7 * 7))) : Int32) = (nI (picN 7 (fm 7 m))) from by first | rfl | (rw [picN_eq hW2 (fun j hj => hq k72 j (by omega))]))) ?_
                exact g_iret (pc := 76) C hr hlk (by first | decide | omega) (by first | decide | omega) (by first | decide | omega) dX1_draw_76 ⟨rfl, (fun j9 => nI (g2 j9)), rfl⟩
            · have k51 : c < 49 := by rcases Nat.lt_or_ge (c) (49) with q | q; exact q; exact absurd (show nI (49) ≤ nI (c) from nI_le q (by omega)) c_51
              refine g_iload_n (pc := 54) C 3 rfl rfl dX1_draw_54 ?_
              refine g_aload_n (pc := 55) C 0 rfl rfl dX1_draw_55 ?_
              refine g_iload (pc := 56) C 6 rfl dX1_draw_56 ?_
              refine g_callV (pc := 58) (cells := 0) (slots := 0) (g := 0) (As := [.int (nI c)]) (st := [.int (nI (sumN v2 (7 * 7)))]) (T := TX1) (q0 := 0) C (nA := 1) rfl (c_X1_toppleCell_s7 o1 d1 d2 g2 c (by first | assumption | decide | omega) (went_bnd hmm hW2 pw7_s pw7_b c (by omega))) q_443 q_444 q_442 q_182 q_441 (by decide +kernel) rfl rfl dX1_draw_58 ⟨Nat.le_of_ble_eq_true rfl, Nat.le_of_ble_eq_true rfl⟩ [0, 1, 2] [] rfl (wr := []) rfl (by decide) (by decide) (by decide) (Nat.le_of_ble_eq_true rfl) ⟨Nat.le_of_ble_eq_true rfl, Nat.le_of_ble_eq_true rfl⟩ (fun rv w1 h1 => ?_)
              obtain ⟨rfl, rfl⟩ := h1
              refine G.aft [0, 1, 2] (ws' := [(o1, .inr (5, [.ref d1, .int (nI 7)])), (d1, .inr (12, [.ref d2])), (d2, aI k 81 (fun j9 => nI (tpl 7 c (g2 c / 4) g2 j9)))]) (st' := [.int (nI (g2 c / 4)), .int (nI (sumN v2 (7 * 7)))]) (cells' := 0) (slots' := 0) (g' := 0) (by decide) rfl rfl rfl rfl rfl ?_
              refine g_iadd (pc := 61) C dX1_draw_61 ?_
              refine G.eqs (st' := [.int (nI (sumN (adv v2 c (g2 c / 4)) (7 * 7)))]) (congrArg (β := List Value) (fun z9 => [.int z9]) (show (((nI (sumN v2 (7 * 7))) + (nI (g2 c / 4))) : Int32) = (nI (sumN (adv v2 c (g2 c / 4)) (7 * 7))) from by rw [nI_add, sumN_adv1 _ _ _ _ (show c < (7 * 7) by omega)])) ?_
              refine g_istore_n (pc := 62) C [(3, .int (nI (sumN (adv v2 c (g2 c / 4)) (7 * 7)))), (0, .ref o1), (1, .int (nI 7)), (2, .int (nI m)), (4, .int (nI r)), (5, .int (nI (sumN v (7 * 7)))), (6, .int (nI c))] rfl dX1_draw_62 (by decide) rfl ?_
              refine g_iinc (pc := 63) (n := 1) (v := (nI (c + 1))) C 6 [(6, .int (nI (c + 1))), (3, .int (nI (sumN (adv v2 c (g2 c / 4)) (7 * 7)))), (0, .ref o1), (1, .int (nI 7)), (2, .int (nI m)), (4, .int (nI r)), (5, .int (nI (sumN v (7 * 7))))] rfl (nI_1 c) dX1_draw_63 (by decide) rfl ?_
              refine g_goto (pc := 66) C 45 (by decide) dX1_draw_66 ?_
              refine G.loc [2, 3, 4, 1, 5, 6, 0] (lv' := [(0, .ref o1), (1, .int (nI 7)), (2, .int (nI m)), (3, .int (nI (sumN (adv v2 c (g2 c / 4)) (7 * 7)))), (4, .int (nI r)), (5, .int (nI (sumN v (7 * 7)))), (6, .int (nI (c + 1)))]) rfl ?_
              exact ih_45 (c + 1) (tpl 7 c (g2 c / 4) g2) (adv v2 c (g2 c / 4)) (went_step (by decide) hW2 (show c < (7 * 7) by omega) (by omega)) (by omega) (by rw [sumN_adv1 _ _ _ _ (show c < (7 * 7) by omega)]; omega) (pic_q (m := m) (show c < (7 * 7) by omega) hs hq) (by omega)
        refine G.loc [2, 3, 4, 5, 6, 1, 0] (lv' := [(0, .ref o1), (1, .int (nI 7)), (2, .int (nI m)), (3, .int (nI (sumN v (7 * 7)))), (4, .int (nI r)), (5, .int (nI (sumN v (7 * 7)))), (6, .int 0)]) rfl ?_
        refine G.eql (lv' := [(0, .ref o1), (1, .int (nI 7)), (2, .int (nI m)), (3, .int (nI (sumN v (7 * 7)))), (4, .int (nI r)), (5, .int (nI (sumN v (7 * 7)))), (6, .int (nI 0))]) (congrArg (β := List (Nat × Value)) (fun z9 => [(0, .ref o1), (1, .int (nI 7)), (2, .int (nI m)), (3, .int (nI (sumN v (7 * 7)))), (4, .int (nI r)), (5, .int (nI (sumN v (7 * 7)))), (6, .int z9)]) (show (0 : Int32) = (nI 0) from by first | rfl | exact nI_0.symm)) ?_
        exact key_45 (49 - 0 + 1) 0 g v hW (by omega) (Nat.le_refl _) (fun _ j hj => absurd hj (Nat.not_lt_zero j)) (Nat.lt_succ_self _)
  refine G.loc [2, 3, 4, 1, 0] (lv' := [(0, .ref o1), (1, .int (nI 7)), (2, .int (nI m)), (3, .int 0), (4, .int 0)]) rfl ?_
  refine G.eql (lv' := [(0, .ref o1), (1, .int (nI 7)), (2, .int (nI m)), (3, .int (nI (sumN (fun _ => 0) (7 * 7)))), (4, .int (nI 0))]) ((congrArg (β := List (Nat × Value)) (fun z9 => [(0, .ref o1), (1, .int (nI 7)), (2, .int (nI m)), (3, .int z9), (4, .int 0)]) (show (0 : Int32) = (nI (sumN (fun _ => 0) (7 * 7))) from by first | rfl | exact nI_0.symm | (rw [sumN_0]; exact nI_0.symm))).trans (congrArg (β := List (Nat × Value)) (fun z9 => [(0, .ref o1), (1, .int (nI 7)), (2, .int (nI m)), (3, .int (nI (sumN (fun _ => 0) (7 * 7)))), (4, .int z9)]) (show (0 : Int32) = (nI 0) from by first | rfl | exact nI_0.symm | (rw [sumN_0]; exact nI_0.symm)))) ?_
  exact key_32 (1131 - sumN (fun _ => 0) (7 * 7) + 1) 0 (fm 7 m) (fun _ => 0) (went_0 7 _) (Nat.zero_le _) (Nat.lt_succ_self _)
set_option maxRecDepth 100000 in
set_option maxHeartbeats 400000 in
theorem c_X10_picture_s7 {l : Launch} {D : va_G} {k : Nat → ClassId} (o : Nat) (h : Nat) (pp : Nat) (x2 : Nat) (x3 : Nat) (x4 : Nat) (o2 : Nat) (o4 : Nat) (o9 : Nat) (o7 : Nat) (o0 : Nat) (o1 : Nat) (d1 : Nat) (d2 : Nat) (wd : Int32) (f0 : Nat → Int32) (m : Nat) (hmm : m ≤ 300) : CM l D k yX10_picture cX10_picture 3 (some .int)  3 71 [.ref o, .int (nI 7), .int (nI m)] [(o, .inr (14, [.ref h, .ref pp, .ref x2, .ref x3, .ref x4, .ref o2, .ref o4, .ref o9, .ref o7, .ref o0, .ref o1])), (o1, .inr (5, [.ref d1, .int wd])), (d1, .inr (12, [.ref d2])), (d2, aI k 81 f0)] (fun rv9 w9 => rv9 = (some (.int (nI (picN 7 (fm 7 m))))) ∧ ∃ (gg : Nat → Int32), w9 = [(o, .inr (14, [.ref h, .ref pp, .ref x2, .ref x3, .ref x4, .ref o2, .ref o4, .ref o9, .ref o7, .ref o0, .ref o1])), (o1, .inr (5, [.ref d1, .int (nI 7)])), (d1, .inr (12, [.ref d2])), (d2, aI k 81 gg)]) 0 0 0 := by
  refine CM.of (lv0 := [(0, .ref o), (1, .int (nI 7)), (2, .int (nI m))]) (by decide +kernel) (Nat.le_of_ble_eq_true rfl) rfl ?_
  intro p9 e9 s9 m9 bl9 me9 co9 C hr hlk hin had
  refine g_iload_n (pc := 0) C 1 rfl rfl dX10_picture_0 ?_
  refine g_iconst (pc := 1) (v := 3) C (by decide) dX10_picture_1 ?_
  refine g_icmp_lt (pc := 2) C 17 (by decide) dX10_picture_2 (fun c_2 => ?_) (fun c_2 => ?_)
  · exact absurd c_2 (by decide)
  · refine g_iload_n (pc := 5) C 1 rfl rfl dX10_picture_5 ?_
    refine g_bipush (pc := 6) (v := 9) C (by decide) dX10_picture_6 ?_
    refine g_icmp_gt (pc := 8) C 17 (by decide) dX10_picture_8 (fun c_8 => ?_) (fun c_8 => ?_)
    · exact absurd c_8 (by decide)
    · refine g_iload_n (pc := 11) C 1 rfl rfl dX10_picture_11 ?_
      refine g_iconst (pc := 12) (v := 1) C (by decide) dX10_picture_12 ?_
      refine g_iand (pc := 13) C dX10_picture_13 ?_
      refine G.eqs (st' := [.int 1]) (congrArg (β := List Value) (fun z9 => [.int z9]) (show (((nI 7) &&& 1) : Int32) = 1 from by decide)) ?_
      refine g_if_ne (pc := 14) C 27 (by decide) dX10_picture_14 (fun c_14 => ?_) (fun c_14 => ?_)
      · refine g_iload_n (pc := 27) C 2 rfl rfl dX10_picture_27 ?_
        refine g_if_lt (pc := 28) C 38 (by decide) dX10_picture_28 (fun c_28 => ?_) (fun c_28 => ?_)
        · exact absurd c_28 (nI_pos (by omega))
        · refine g_iload_n (pc := 31) C 2 rfl rfl dX10_picture_31 ?_
          refine g_sipush (pc := 32) (v := 300) C (by decide) dX10_picture_32 ?_
          refine g_icmp_le (pc := 35) C 48 (by decide) dX10_picture_35 (fun c_35 => ?_) (fun c_35 => ?_)
          · refine g_aload_n (pc := 48) C 0 rfl rfl dX10_picture_48 ?_
            refine g_get (pc := 49) C (T := TX10) inX10 0 rfl rfl 10 (by decide) q_185 rfl rfl dX10_picture_49 ?_
            refine g_iload_n (pc := 52) C 1 rfl rfl dX10_picture_52 ?_
            refine g_iload_n (pc := 53) C 2 rfl rfl dX10_picture_53 ?_
            refine g_callV (pc := 54) (cells := 0) (slots := 0) (g := 0) (As := [.int (nI 7), .int (nI m)]) (st := []) (T := TX1) (q0 := 1) C (nA := 2) rfl (c_X1_draw_s7 o1 d1 d2 wd f0 m (by first | assumption | decide | omega)) q_447 q_448 q_446 q_182 q_445 (by decide +kernel) rfl rfl dX10_picture_54 ⟨Nat.le_of_ble_eq_true rfl, Nat.le_of_ble_eq_true rfl⟩ [1, 2, 3] [0] rfl (wr := [(o, .inr (14, [.ref h, .ref pp, .ref x2, .ref x3, .ref x4, .ref o2, .ref o4, .ref o9, .ref o7, .ref o0, .ref o1]))]) rfl (by decide) (by decide) (by decide) (Nat.le_of_ble_eq_true rfl) ⟨Nat.le_of_ble_eq_true rfl, Nat.le_of_ble_eq_true rfl⟩ (fun rv w1 h1 => ?_)
            obtain ⟨rfl, q1, rfl⟩ := h1
            refine G.aft [0, 1, 2, 3] (ws' := [(o, .inr (14, [.ref h, .ref pp, .ref x2, .ref x3, .ref x4, .ref o2, .ref o4, .ref o9, .ref o7, .ref o0, .ref o1])), (o1, .inr (5, [.ref d1, .int (nI 7)])), (d1, .inr (12, [.ref d2])), (d2, aI k 81 q1)]) (st' := [.int (nI (picN 7 (fm 7 m)))]) (cells' := 0) (slots' := 0) (g' := 0) (by decide) rfl rfl rfl rfl rfl ?_
            exact g_iret (pc := 57) C hr hlk (by first | decide | omega) (by first | decide | omega) (by first | decide | omega) dX10_picture_57 ⟨rfl, q1, rfl⟩
          · exact absurd (show nI m ≤ nI 300 from nI_le hmm (by omega)) c_35
      · exact absurd c_14 (by decide)
set_option maxRecDepth 100000 in
set_option maxHeartbeats 400000 in
theorem c_L_picture_s7 {l : Launch} {D : va_G} {k : Nat → ClassId} (o : Nat) (h : Nat) (pp : Nat) (x2 : Nat) (x3 : Nat) (x4 : Nat) (o2 : Nat) (o4 : Nat) (o9 : Nat) (o7 : Nat) (o0 : Nat) (o1 : Nat) (d1 : Nat) (d2 : Nat) (oo : Nat) (wd : Int32) (f0 : Nat → Int32) (fl : Nat → Int64) (m : Nat) (hmm : m ≤ 300) : CMW l D k yL_picture cL_picture 5 (some .int) [((0 : Nat), (10 : Nat), (13 : Nat), (21 : Nat))] 4 93 [.ref o, .int (nI 7), .int (nI m), .ref oo] [(o, .inr (14, [.ref h, .ref pp, .ref x2, .ref x3, .ref x4, .ref o2, .ref o4, .ref o9, .ref o7, .ref o0, .ref o1])), (o1, .inr (5, [.ref d1, .int wd])), (d1, .inr (12, [.ref d2])), (d2, aI k 81 f0), (oo, aJ k 1 fl)] (fun rv9 w9 => rv9 = (some (.int 0)) ∧ ∃ (gg : Nat → Int32), w9 = [(o, .inr (14, [.ref h, .ref pp, .ref x2, .ref x3, .ref x4, .ref o2, .ref o4, .ref o9, .ref o7, .ref o0, .ref o1])), (o1, .inr (5, [.ref d1, .int (nI 7)])), (d1, .inr (12, [.ref d2])), (d2, aI k 81 gg), (oo, aJ k 1 (fun _ => (nI (picN 7 (fm 7 m))).toInt64))]) 0 0 0 := by
  refine CMW.of (lv0 := [(0, .ref o), (1, .int (nI 7)), (2, .int (nI m)), (3, .ref oo)]) (by decide +kernel) (Nat.le_of_ble_eq_true rfl) rfl ?_
  intro p9 e9 s9 m9 bl9 me9 co9 C hr hlk hin had htab
  refine g_aload_n (pc := 0) C 3 rfl rfl dL_picture_0 ?_
  refine g_iconst (pc := 1) (v := 0) C (by decide) dL_picture_1 ?_
  refine g_aload_n (pc := 2) C 0 rfl rfl dL_picture_2 ?_
  refine g_iload_n (pc := 3) C 1 rfl rfl dL_picture_3 ?_
  refine g_iload_n (pc := 4) C 2 rfl rfl dL_picture_4 ?_
  refine g_callV (pc := 5) (cells := 0) (slots := 0) (g := 0) (As := [.int (nI 7), .int (nI m)]) (st := [.int 0, .ref oo]) (T := TX10) (q0 := 0) C (nA := 2) rfl (c_X10_picture_s7 o h pp x2 x3 x4 o2 o4 o9 o7 o0 o1 d1 d2 wd f0 m (by first | assumption | decide | omega)) q_451 q_452 q_450 q_203 q_449 (by decide +kernel) rfl rfl dL_picture_5 ⟨Nat.le_of_ble_eq_true rfl, Nat.le_of_ble_eq_true rfl⟩ [0, 1, 2, 3] [4] rfl (wr := [(oo, aJ k 1 fl)]) rfl (by decide) (by decide) (by decide) (Nat.le_of_ble_eq_true rfl) ⟨Nat.le_of_ble_eq_true rfl, Nat.le_of_ble_eq_true rfl⟩ (fun rv w1 h1 => ?_)
  obtain ⟨rfl, q1, rfl⟩ := h1
  refine G.aft [1, 2, 3, 4, 0] (ws' := [(o, .inr (14, [.ref h, .ref pp, .ref x2, .ref x3, .ref x4, .ref o2, .ref o4, .ref o9, .ref o7, .ref o0, .ref o1])), (o1, .inr (5, [.ref d1, .int (nI 7)])), (d1, .inr (12, [.ref d2])), (d2, aI k 81 q1), (oo, aJ k 1 fl)]) (st' := [.int (nI (picN 7 (fm 7 m))), .int 0, .ref oo]) (cells' := 0) (slots' := 0) (g' := 0) (by decide) rfl rfl rfl rfl rfl ?_
  refine g_i2l (pc := 8) C dL_picture_8 ?_
  refine g_last_n (pc := 9) C (j := 0) 4 [(o, .inr (14, [.ref h, .ref pp, .ref x2, .ref x3, .ref x4, .ref o2, .ref o4, .ref o9, .ref o7, .ref o0, .ref o1])), (o1, .inr (5, [.ref d1, .int (nI 7)])), (d1, .inr (12, [.ref d2])), (d2, aI k 81 q1), (oo, aJ k 1 (vp_updL fl 0 ((nI (picN 7 (fm 7 m))).toInt64)))] rfl (by omega) (by first | decide | omega) rfl rfl dL_picture_9 ?_
  refine g_goto (pc := 10) C 17 (by decide) dL_picture_10 ?_
  refine g_iconst (pc := 17) (v := 0) C (by decide) dL_picture_17 ?_
  refine G.fnJ (fun _ => (nI (picN 7 (fm 7 m))).toInt64) 4 [(o, .inr (14, [.ref h, .ref pp, .ref x2, .ref x3, .ref x4, .ref o2, .ref o4, .ref o9, .ref o7, .ref o0, .ref o1])), (o1, .inr (5, [.ref d1, .int (nI 7)])), (d1, .inr (12, [.ref d2])), (d2, aI k 81 q1), (oo, aJ k 1 (fun _ => (nI (picN 7 (fm 7 m))).toInt64))] rfl (fun j hj => by first | rfl | simp [vp_updL, show j = 0 by omega]) rfl ?_
  exact g_iret (pc := 18) C hr hlk (by first | decide | omega) (by first | decide | omega) (by first | decide | omega) dL_picture_18 ⟨rfl, q1, rfl⟩
set_option maxRecDepth 100000 in
set_option maxHeartbeats 4000000 in
theorem c_X1_toppleCell_s9 {l : Launch} {D : va_G} {k : Nat → ClassId} (o1 : Nat) (d1 : Nat) (d2 : Nat) (g : Nat → Nat) (c : Nat) (hc : c < 81) (hg : g c < 100000) : CM l D k yX1_toppleCell cX1_toppleCell 4 (some .int)  1 22 [.ref o1, .int (nI c)] [(o1, .inr (5, [.ref d1, .int (nI 9)])), (d1, .inr (12, [.ref d2])), (d2, aI k 81 (fun j9 => nI (g j9)))] (is1 (some (.int (nI (g c / 4)))) [(o1, .inr (5, [.ref d1, .int (nI 9)])), (d1, .inr (12, [.ref d2])), (d2, aI k 81 (fun j9 => nI (tpl 9 c (g c / 4) g j9)))]) 0 0 0 := by
  refine CM.of (lv0 := [(0, .ref o1), (1, .int (nI c))]) (by decide +kernel) (Nat.le_of_ble_eq_true rfl) rfl ?_
  intro p9 e9 s9 m9 bl9 me9 co9 C hr hlk hin had
  refine g_aload_n (pc := 0) C 0 rfl rfl dX1_toppleCell_0 ?_
  refine g_get (pc := 1) C (T := TX1) inX1 0 rfl rfl 0 (by decide) q_130 rfl rfl dX1_toppleCell_1 ?_
  refine g_iload_n (pc := 4) C 1 rfl rfl dX1_toppleCell_4 ?_
  refine g_callV (pc := 5) (cells := 0) (slots := 0) (g := 0) (As := [.int (nI c)]) (st := []) (T := TX8) (q0 := 1) C (nA := 1) rfl (c_X8_at_n d1 d2 81 (fun j9 => nI (g j9)) c (by first | assumption | decide | omega) (by first | assumption | decide | omega)) q_432 q_9 q_7 q_6 q_5 (by decide +kernel) rfl rfl dX1_toppleCell_5 ⟨Nat.le_of_ble_eq_true rfl, Nat.le_of_ble_eq_true rfl⟩ [1, 2] [0] rfl (wr := [(o1, .inr (5, [.ref d1, .int (nI 9)]))]) rfl (by decide) (by decide) (by decide) (Nat.le_of_ble_eq_true rfl) ⟨Nat.le_of_ble_eq_true rfl, Nat.le_of_ble_eq_true rfl⟩ (fun rv w1 h1 => ?_)
  obtain ⟨rfl, rfl⟩ := h1
  refine G.aft [0, 1, 2] (ws' := [(o1, .inr (5, [.ref d1, .int (nI 9)])), (d1, .inr (12, [.ref d2])), (d2, aI k 81 (fun j9 => nI (g j9)))]) (st' := [.int ((fun j9 => nI (g j9)) c)]) (cells' := 0) (slots' := 0) (g' := 0) (by decide) rfl rfl rfl rfl rfl ?_
  refine G.eqs (st' := [.int (nI (g c))]) (congrArg (β := List Value) (fun z9 => [.int z9]) (show (((fun j9 => nI (g j9)) c) : Int32) = (nI (g c)) from rfl)) ?_
  refine g_iconst (pc := 8) (v := 4) C (by decide) dX1_toppleCell_8 ?_
  refine g_idiv (pc := 9) C (by first | assumption | decide) dX1_toppleCell_9 ?_
  refine G.eqs (st' := [.int (nI (g c / 4))]) (congrArg (β := List Value) (fun z9 => [.int z9]) (show (((nI (g c)) / 4) : Int32) = (nI (g c / 4)) from by rw [show (4 : Int32) = nI 4 from rfl]; exact pk_div (by omega) (by decide) (by decide))) ?_
  refine g_istore_n (pc := 10) C [(2, .int (nI (g c / 4))), (0, .ref o1), (1, .int (nI c))] rfl dX1_toppleCell_10 (by decide) rfl ?_
  refine g_iload_n (pc := 11) C 0 rfl rfl dX1_toppleCell_11 ?_
  refine g_iconst (pc := 12) (v := 1) C (by decide) dX1_toppleCell_12 ?_
  refine g_icmp_lt (pc := 13) C 24 (by decide) dX1_toppleCell_13 (fun c_13 => ?_) (fun c_13 => ?_)
  · have k13 : (g c / 4) < 1 := by rcases Nat.lt_or_ge ((g c / 4)) (1) with q | q; exact q; exact absurd c_13 (nI_nlt q (by omega))
    refine g_iconst (pc := 24) (v := 0) C (by decide) dX1_toppleCell_24 ?_
    refine G.fn (fun j9 => nI (tpl 9 c (g c / 4) g j9)) 2 [(o1, .inr (5, [.ref d1, .int (nI 9)])), (d1, .inr (12, [.ref d2])), (d2, aI k 81 (fun j9 => nI (tpl 9 c (g c / 4) g j9)))] rfl (fun j hj => by first | (rw [show g c / 4 = 0 by omega]; rfl) | (exact congrArg nI (by rw [show g c / 4 = 0 by omega]; simp only [tpl]; split <;> simp_all))) rfl ?_
    refine G.eqs (st' := [.int (nI (g c / 4))]) (congrArg (fun z9 => [Value.int z9]) (show (0 : Int32) = (nI (g c / 4)) from by first | (rw [show g c / 4 = 0 by omega]; rfl) | (exact congrArg nI (by rw [show g c / 4 = 0 by omega]; simp only [tpl]; split <;> simp_all)))) ?_
    exact g_iret (pc := 25) C hr hlk (by first | decide | omega) (by first | decide | omega) (by first | decide | omega) dX1_toppleCell_25 ⟨rfl, rfl⟩
  · have k13 : 1 ≤ (g c / 4) := by rcases Nat.lt_or_ge ((g c / 4)) (1) with q | q; exact absurd (nI_lt q (by omega)) c_13; exact q
    refine g_aload_n (pc := 16) C 1 rfl rfl dX1_toppleCell_16 ?_
    refine g_get (pc := 17) C (T := TX1) inX1 0 rfl rfl 1 (by decide) q_131 rfl rfl dX1_toppleCell_17 ?_
    refine g_iconst (pc := 20) (v := 1) C (by decide) dX1_toppleCell_20 ?_
    refine g_icmp_ge (pc := 21) C 26 (by decide) dX1_toppleCell_21 (fun c_21 => ?_) (fun c_21 => ?_)
    · refine g_aload_n (pc := 26) C 1 rfl rfl dX1_toppleCell_26 ?_
      refine g_get (pc := 27) C (T := TX1) inX1 0 rfl rfl 0 (by decide) q_130 rfl rfl dX1_toppleCell_27 ?_
      refine g_iload_n (pc := 30) C 2 rfl rfl dX1_toppleCell_30 ?_
      refine g_iload_n (pc := 31) C 0 rfl rfl dX1_toppleCell_31 ?_
      refine g_ineg (pc := 32) C dX1_toppleCell_32 ?_
      refine g_iconst (pc := 33) (v := 4) C (by decide) dX1_toppleCell_33 ?_
      refine g_imul (pc := 34) C dX1_toppleCell_34 ?_
      refine g_callV (pc := 35) (cells := 0) (slots := 0) (g := 0) (As := [.int (nI c), .int ((-(nI (g c / 4))) * 4)]) (st := []) (T := TX8) (q0 := 1) C (nA := 2) rfl (c_X8_add_n d1 d2 81 (fun j9 => nI (g j9)) c ((-(nI (g c / 4))) * 4) (by first | assumption | decide | omega) (by first | assumption | decide | omega)) q_433 q_59 q_57 q_6 q_56 (by decide +kernel) rfl rfl dX1_toppleCell_35 ⟨Nat.le_of_ble_eq_true rfl, Nat.le_of_ble_eq_true rfl⟩ [1, 2] [0] rfl (wr := [(o1, .inr (5, [.ref d1, .int (nI 9)]))]) rfl (by decide) (by decide) (by decide) (Nat.le_of_ble_eq_true rfl) ⟨Nat.le_of_ble_eq_true rfl, Nat.le_of_ble_eq_true rfl⟩ (fun rv w1 h1 => ?_)
      obtain ⟨rfl, rfl⟩ := h1
      refine G.aft [0, 1, 2] (ws' := [(o1, .inr (5, [.ref d1, .int (nI 9)])), (d1, .inr (12, [.ref d2])), (d2, aI k 81 (upd (fun j9 => nI (g j9)) c ((fun j9 => nI (g j9)) c + ((-(nI (g c / 4))) * 4))))]) (st' := []) (cells' := 0) (slots' := 0) (g' := 0) (by decide) rfl rfl rfl rfl rfl ?_
      refine G.fn (fun j9 => nI ((sb g c (4 * (g c / 4))) j9)) 2 [(o1, .inr (5, [.ref d1, .int (nI 9)])), (d1, .inr (12, [.ref d2])), (d2, aI k 81 (fun j9 => nI ((sb g c (4 * (g c / 4))) j9)))] rfl (fun j hj => by exact sb_step (by omega) j) rfl ?_
      refine g_iload_n (pc := 38) C 2 rfl rfl dX1_toppleCell_38 ?_
      refine g_aload_n (pc := 39) C 1 rfl rfl dX1_toppleCell_39 ?_
      refine g_get (pc := 40) C (T := TX1) inX1 0 rfl rfl 1 (by decide) q_131 rfl rfl dX1_toppleCell_40 ?_
      refine g_irem (pc := 43) C (by first | assumption | decide) dX1_toppleCell_43 ?_
      refine G.eqs (st' := [.int (nI (c % 9))]) (congrArg (β := List Value) (fun z9 => [.int z9]) (show (((nI c) - (nI c) / (nI 9) * (nI 9)) : Int32) = (nI (c % 9)) from pk_rem (by omega) (by decide) (by decide))) ?_
      refine g_istore_n (pc := 44) C [(3, .int (nI (c % 9))), (2, .int (nI (g c / 4))), (0, .ref o1), (1, .int (nI c))] rfl dX1_toppleCell_44 (by decide) rfl ?_
      refine g_iload_n (pc := 45) C 0 rfl rfl dX1_toppleCell_45 ?_
      refine g_if_le (pc := 46) C 60 (by decide) dX1_toppleCell_46 (fun c_46 => ?_) (fun c_46 => ?_)
      · have k46 : c % 9 = 0 := by rcases Nat.eq_zero_or_pos (c % 9) with q | q; exact q; exact absurd c_46 (nI_nle q (by omega))
        refine g_iload_n (pc := 60) C 0 rfl rfl dX1_toppleCell_60 ?_
        refine g_aload_n (pc := 61) C 2 rfl rfl dX1_toppleCell_61 ?_
        refine g_get (pc := 62) C (T := TX1) inX1 0 rfl rfl 1 (by decide) q_131 rfl rfl dX1_toppleCell_62 ?_
        refine g_iconst (pc := 65) (v := 1) C (by decide) dX1_toppleCell_65 ?_
        refine g_isub (pc := 66) C dX1_toppleCell_66 ?_
        refine G.eqs (st' := [.int (nI 8), .int (nI (c % 9))]) (congrArg (β := List Value) (fun z9 => [.int z9, .int (nI (c % 9))]) (show (((nI 9) - 1) : Int32) = (nI 8) from by decide)) ?_
        refine g_icmp_ge (pc := 67) C 81 (by decide) dX1_toppleCell_67 (fun c_67 => ?_) (fun c_67 => ?_)
        · have k67 : 8 ≤ c % 9 := by rcases Nat.lt_or_ge (c % 9) (8) with q | q; exact absurd (show nI (8) ≤ nI (c % 9) from c_67) (nI_ge q (by omega)); exact q
          refine g_iload_n (pc := 81) C 3 rfl rfl dX1_toppleCell_81 ?_
          refine g_aload_n (pc := 82) C 2 rfl rfl dX1_toppleCell_82 ?_
          refine g_get (pc := 83) C (T := TX1) inX1 0 rfl rfl 1 (by decide) q_131 rfl rfl dX1_toppleCell_83 ?_
          refine g_icmp_lt (pc := 86) C 103 (by decide) dX1_toppleCell_86 (fun c_86 => ?_) (fun c_86 => ?_)
          · have k86 : c < 9 := by rcases Nat.lt_or_ge (c) (9) with q | q; exact q; exact absurd c_86 (nI_nlt q (by omega))
            refine g_iload_n (pc := 103) C 3 rfl rfl dX1_toppleCell_103 ?_
            refine g_aload_n (pc := 104) C 2 rfl rfl dX1_toppleCell_104 ?_
            refine g_callV (pc := 105) (cells := 0) (slots := 0) (g := 0) (As := []) (st := [.int (nI c)]) (T := TX1) (q0 := 0) C (nA := 0) rfl (c_X1_cellNumber o1 d1 (nI 9) ) q_434 q_235 q_233 q_182 q_232 (by decide +kernel) rfl rfl dX1_toppleCell_105 ⟨Nat.le_of_ble_eq_true rfl, Nat.le_of_ble_eq_true rfl⟩ [0] [1, 2] rfl (wr := [(d1, .inr (12, [.ref d2])), (d2, aI k 81 (fun j9 => nI ((sb g c (4 * (g c / 4))) j9)))]) rfl (by decide) (by decide) (by decide) (Nat.le_of_ble_eq_true rfl) ⟨Nat.le_of_ble_eq_true rfl, Nat.le_of_ble_eq_true rfl⟩ (fun rv w1 h1 => ?_)
            obtain ⟨rfl, rfl⟩ := h1
            refine G.aft [2, 0, 1] (ws' := [(o1, .inr (5, [.ref d1, .int (nI 9)])), (d1, .inr (12, [.ref d2])), (d2, aI k 81 (fun j9 => nI ((sb g c (4 * (g c / 4))) j9)))]) (st' := [.int ((nI 9) * (nI 9)), .int (nI c)]) (cells' := 0) (slots' := 0) (g' := 0) (by decide) rfl rfl rfl rfl rfl ?_
            refine g_aload_n (pc := 108) C 2 rfl rfl dX1_toppleCell_108 ?_
            refine g_get (pc := 109) C (T := TX1) inX1 0 rfl rfl 1 (by decide) q_131 rfl rfl dX1_toppleCell_109 ?_
            refine g_isub (pc := 112) C dX1_toppleCell_112 ?_
            refine G.eqs (st' := [.int (nI 72), .int (nI c)]) (congrArg (β := List Value) (fun z9 => [.int z9, .int (nI c)]) (show ((((nI 9) * (nI 9)) - (nI 9)) : Int32) = (nI 72) from by decide)) ?_
            refine g_icmp_ge (pc := 113) C 130 (by decide) dX1_toppleCell_113 (fun c_113 => ?_) (fun c_113 => ?_)
            · have k113 : 72 ≤ c := by rcases Nat.lt_or_ge (c) (72) with q | q; exact absurd (show nI (72) ≤ nI (c) from c_113) (nI_ge q (by omega)); exact q
              refine g_iload_n (pc := 130) C 1 rfl rfl dX1_toppleCell_130 ?_
              refine G.fn (fun j9 => nI (tpl 9 c (g c / 4) g j9)) 2 [(o1, .inr (5, [.ref d1, .int (nI 9)])), (d1, .inr (12, [.ref d2])), (d2, aI k 81 (fun j9 => nI (tpl 9 c (g c / 4) g j9)))] rfl (fun j hj => by exact congrArg nI (by simp only [ad, sb, tpl, nbr]; repeat' (first | omega | split))) rfl ?_
              exact g_iret (pc := 131) C hr hlk (by first | decide | omega) (by first | decide | omega) (by first | decide | omega) dX1_toppleCell_131 ⟨rfl, rfl⟩
            · have k113 : c < 72 := by rcases Nat.lt_or_ge (c) (72) with q | q; exact q; exact absurd (show nI (72) ≤ nI (c) from nI_le q (by omega)) c_113
              refine g_aload_n (pc := 116) C 2 rfl rfl dX1_toppleCell_116 ?_
              refine g_get (pc := 117) C (T := TX1) inX1 0 rfl rfl 0 (by decide) q_130 rfl rfl dX1_toppleCell_117 ?_
              refine g_iload_n (pc := 120) C 3 rfl rfl dX1_toppleCell_120 ?_
              refine g_aload_n (pc := 121) C 2 rfl rfl dX1_toppleCell_121 ?_
              refine g_get (pc := 122) C (T := TX1) inX1 0 rfl rfl 1 (by decide) q_131 rfl rfl dX1_toppleCell_122 ?_
              refine g_iadd (pc := 125) C dX1_toppleCell_125 ?_
              refine G.eqs (st' := [.int (nI (c + 9)), .ref d1]) (congrArg (β := List Value) (fun z9 => [.int z9, .ref d1]) (show (((nI c) + (nI 9)) : Int32) = (nI (c + 9)) from nI_add c 9)) ?_
              refine g_iload_n (pc := 126) C 1 rfl rfl dX1_toppleCell_126 ?_
              refine g_callV (pc := 127) (cells := 0) (slots := 0) (g := 0) (As := [.int (nI (c + 9)), .int (nI (g c / 4))]) (st := []) (T := TX8) (q0 := 1) C (nA := 2) rfl (c_X8_add_n d1 d2 81 (fun j9 => nI ((sb g c (4 * (g c / 4))) j9)) (c + 9) (nI (g c / 4)) (by first | assumption | decide | omega) (by first | assumption | decide | omega)) q_433 q_59 q_57 q_6 q_56 (by decide +kernel) rfl rfl dX1_toppleCell_127 ⟨Nat.le_of_ble_eq_true rfl, Nat.le_of_ble_eq_true rfl⟩ [1, 2] [0] rfl (wr := [(o1, .inr (5, [.ref d1, .int (nI 9)]))]) rfl (by decide) (by decide) (by decide) (Nat.le_of_ble_eq_true rfl) ⟨Nat.le_of_ble_eq_true rfl, Nat.le_of_ble_eq_true rfl⟩ (fun rv w1 h1 => ?_)
              obtain ⟨rfl, rfl⟩ := h1
              refine G.aft [0, 1, 2] (ws' := [(o1, .inr (5, [.ref d1, .int (nI 9)])), (d1, .inr (12, [.ref d2])), (d2, aI k 81 (upd (fun j9 => nI ((sb g c (4 * (g c / 4))) j9)) (c + 9) ((fun j9 => nI ((sb g c (4 * (g c / 4))) j9)) (c + 9) + (nI (g c / 4)))))]) (st' := []) (cells' := 0) (slots' := 0) (g' := 0) (by decide) rfl rfl rfl rfl rfl ?_
              refine G.fn (fun j9 => nI ((ad (sb g c (4 * (g c / 4))) (c + 9) (g c / 4)) j9)) 2 [(o1, .inr (5, [.ref d1, .int (nI 9)])), (d1, .inr (12, [.ref d2])), (d2, aI k 81 (fun j9 => nI ((ad (sb g c (4 * (g c / 4))) (c + 9) (g c / 4)) j9)))] rfl (fun j hj => by exact ad_step _ _ _ j) rfl ?_
              refine g_iload_n (pc := 130) C 1 rfl rfl dX1_toppleCell_130 ?_
              refine G.fn (fun j9 => nI (tpl 9 c (g c / 4) g j9)) 2 [(o1, .inr (5, [.ref d1, .int (nI 9)])), (d1, .inr (12, [.ref d2])), (d2, aI k 81 (fun j9 => nI (tpl 9 c (g c / 4) g j9)))] rfl (fun j hj => by exact congrArg nI (by simp only [ad, sb, tpl, nbr]; repeat' (first | omega | split))) rfl ?_
              exact g_iret (pc := 131) C hr hlk (by first | decide | omega) (by first | decide | omega) (by first | decide | omega) dX1_toppleCell_131 ⟨rfl, rfl⟩
          · have k86 : 9 ≤ c := by rcases Nat.lt_or_ge (c) (9) with q | q; exact absurd (nI_lt q (by omega)) c_86; exact q
            refine g_aload_n (pc := 89) C 2 rfl rfl dX1_toppleCell_89 ?_
            refine g_get (pc := 90) C (T := TX1) inX1 0 rfl rfl 0 (by decide) q_130 rfl rfl dX1_toppleCell_90 ?_
            refine g_iload_n (pc := 93) C 3 rfl rfl dX1_toppleCell_93 ?_
            refine g_aload_n (pc := 94) C 2 rfl rfl dX1_toppleCell_94 ?_
            refine g_get (pc := 95) C (T := TX1) inX1 0 rfl rfl 1 (by decide) q_131 rfl rfl dX1_toppleCell_95 ?_
            refine g_isub (pc := 98) C dX1_toppleCell_98 ?_
            refine G.eqs (st' := [.int (nI (c - 9)), .ref d1]) (congrArg (β := List Value) (fun z9 => [.int z9, .ref d1]) (show (((nI c) - (nI 9)) : Int32) = (nI (c - 9)) from pk_sub (by omega))) ?_
            refine g_iload_n (pc := 99) C 1 rfl rfl dX1_toppleCell_99 ?_
            refine g_callV (pc := 100) (cells := 0) (slots := 0) (g := 0) (As := [.int (nI (c - 9)), .int (nI (g c / 4))]) (st := []) (T := TX8) (q0 := 1) C (nA := 2) rfl (c_X8_add_n d1 d2 81 (fun j9 => nI ((sb g c (4 * (g c / 4))) j9)) (c - 9) (nI (g c / 4)) (by first | assumption | decide | omega) (by first | assumption | decide | omega)) q_433 q_59 q_57 q_6 q_56 (by decide +kernel) rfl rfl dX1_toppleCell_100 ⟨Nat.le_of_ble_eq_true rfl, Nat.le_of_ble_eq_true rfl⟩ [1, 2] [0] rfl (wr := [(o1, .inr (5, [.ref d1, .int (nI 9)]))]) rfl (by decide) (by decide) (by decide) (Nat.le_of_ble_eq_true rfl) ⟨Nat.le_of_ble_eq_true rfl, Nat.le_of_ble_eq_true rfl⟩ (fun rv w1 h1 => ?_)
            obtain ⟨rfl, rfl⟩ := h1
            refine G.aft [0, 1, 2] (ws' := [(o1, .inr (5, [.ref d1, .int (nI 9)])), (d1, .inr (12, [.ref d2])), (d2, aI k 81 (upd (fun j9 => nI ((sb g c (4 * (g c / 4))) j9)) (c - 9) ((fun j9 => nI ((sb g c (4 * (g c / 4))) j9)) (c - 9) + (nI (g c / 4)))))]) (st' := []) (cells' := 0) (slots' := 0) (g' := 0) (by decide) rfl rfl rfl rfl rfl ?_
            refine G.fn (fun j9 => nI ((ad (sb g c (4 * (g c / 4))) (c - 9) (g c / 4)) j9)) 2 [(o1, .inr (5, [.ref d1, .int (nI 9)])), (d1, .inr (12, [.ref d2])), (d2, aI k 81 (fun j9 => nI ((ad (sb g c (4 * (g c / 4))) (c - 9) (g c / 4)) j9)))] rfl (fun j hj => by exact ad_step _ _ _ j) rfl ?_
            refine g_iload_n (pc := 103) C 3 rfl rfl dX1_toppleCell_103 ?_
            refine g_aload_n (pc := 104) C 2 rfl rfl dX1_toppleCell_104 ?_
            refine g_callV (pc := 105) (cells := 0) (slots := 0) (g := 0) (As := []) (st := [.int (nI c)]) (T := TX1) (q0 := 0) C (nA := 0) rfl (c_X1_cellNumber o1 d1 (nI 9) ) q_434 q_235 q_233 q_182 q_232 (by decide +kernel) rfl rfl dX1_toppleCell_105 ⟨Nat.le_of_ble_eq_true rfl, Nat.le_of_ble_eq_true rfl⟩ [0] [1, 2] rfl (wr := [(d1, .inr (12, [.ref d2])), (d2, aI k 81 (fun j9 => nI ((ad (sb g c (4 * (g c / 4))) (c - 9) (g c / 4)) j9)))]) rfl (by decide) (by decide) (by decide) (Nat.le_of_ble_eq_true rfl) ⟨Nat.le_of_ble_eq_true rfl, Nat.le_of_ble_eq_true rfl⟩ (fun rv w1 h1 => ?_)
            obtain ⟨rfl, rfl⟩ := h1
            refine G.aft [2, 0, 1] (ws' := [(o1, .inr (5, [.ref d1, .int (nI 9)])), (d1, .inr (12, [.ref d2])), (d2, aI k 81 (fun j9 => nI ((ad (sb g c (4 * (g c / 4))) (c - 9) (g c / 4)) j9)))]) (st' := [.int ((nI 9) * (nI 9)), .int (nI c)]) (cells' := 0) (slots' := 0) (g' := 0) (by decide) rfl rfl rfl rfl rfl ?_
            refine g_aload_n (pc := 108) C 2 rfl rfl dX1_toppleCell_108 ?_
            refine g_get (pc := 109) C (T := TX1) inX1 0 rfl rfl 1 (by decide) q_131 rfl rfl dX1_toppleCell_109 ?_
            refine g_isub (pc := 112) C dX1_toppleCell_112 ?_
            refine G.eqs (st' := [.int (nI 72), .int (nI c)]) (congrArg (β := List Value) (fun z9 => [.int z9, .int (nI c)]) (show ((((nI 9) * (nI 9)) - (nI 9)) : Int32) = (nI 72) from by decide)) ?_
            refine g_icmp_ge (pc := 113) C 130 (by decide) dX1_toppleCell_113 (fun c_113 => ?_) (fun c_113 => ?_)
            · have k113 : 72 ≤ c := by rcases Nat.lt_or_ge (c) (72) with q | q; exact absurd (show nI (72) ≤ nI (c) from c_113) (nI_ge q (by omega)); exact q
              refine g_iload_n (pc := 130) C 1 rfl rfl dX1_toppleCell_130 ?_
              refine G.fn (fun j9 => nI (tpl 9 c (g c / 4) g j9)) 2 [(o1, .inr (5, [.ref d1, .int (nI 9)])), (d1, .inr (12, [.ref d2])), (d2, aI k 81 (fun j9 => nI (tpl 9 c (g c / 4) g j9)))] rfl (fun j hj => by exact congrArg nI (by simp only [ad, sb, tpl, nbr]; repeat' (first | omega | split))) rfl ?_
              exact g_iret (pc := 131) C hr hlk (by first | decide | omega) (by first | decide | omega) (by first | decide | omega) dX1_toppleCell_131 ⟨rfl, rfl⟩
            · have k113 : c < 72 := by rcases Nat.lt_or_ge (c) (72) with q | q; exact q; exact absurd (show nI (72) ≤ nI (c) from nI_le q (by omega)) c_113
              refine g_aload_n (pc := 116) C 2 rfl rfl dX1_toppleCell_116 ?_
              refine g_get (pc := 117) C (T := TX1) inX1 0 rfl rfl 0 (by decide) q_130 rfl rfl dX1_toppleCell_117 ?_
              refine g_iload_n (pc := 120) C 3 rfl rfl dX1_toppleCell_120 ?_
              refine g_aload_n (pc := 121) C 2 rfl rfl dX1_toppleCell_121 ?_
              refine g_get (pc := 122) C (T := TX1) inX1 0 rfl rfl 1 (by decide) q_131 rfl rfl dX1_toppleCell_122 ?_
              refine g_iadd (pc := 125) C dX1_toppleCell_125 ?_
              refine G.eqs (st' := [.int (nI (c + 9)), .ref d1]) (congrArg (β := List Value) (fun z9 => [.int z9, .ref d1]) (show (((nI c) + (nI 9)) : Int32) = (nI (c + 9)) from nI_add c 9)) ?_
              refine g_iload_n (pc := 126) C 1 rfl rfl dX1_toppleCell_126 ?_
              refine g_callV (pc := 127) (cells := 0) (slots := 0) (g := 0) (As := [.int (nI (c + 9)), .int (nI (g c / 4))]) (st := []) (T := TX8) (q0 := 1) C (nA := 2) rfl (c_X8_add_n d1 d2 81 (fun j9 => nI ((ad (sb g c (4 * (g c / 4))) (c - 9) (g c / 4)) j9)) (c + 9) (nI (g c / 4)) (by first | assumption | decide | omega) (by first | assumption | decide | omega)) q_433 q_59 q_57 q_6 q_56 (by decide +kernel) rfl rfl dX1_toppleCell_127 ⟨Nat.le_of_ble_eq_true rfl, Nat.le_of_ble_eq_true rfl⟩ [1, 2] [0] rfl (wr := [(o1, .inr (5, [.ref d1, .int (nI 9)]))]) rfl (by decide) (by decide) (by decide) (Nat.le_of_ble_eq_true rfl) ⟨Nat.le_of_ble_eq_true rfl, Nat.le_of_ble_eq_true rfl⟩ (fun rv w1 h1 => ?_)
              obtain ⟨rfl, rfl⟩ := h1
              refine G.aft [0, 1, 2] (ws' := [(o1, .inr (5, [.ref d1, .int (nI 9)])), (d1, .inr (12, [.ref d2])), (d2, aI k 81 (upd (fun j9 => nI ((ad (sb g c (4 * (g c / 4))) (c - 9) (g c / 4)) j9)) (c + 9) ((fun j9 => nI ((ad (sb g c (4 * (g c / 4))) (c - 9) (g c / 4)) j9)) (c + 9) + (nI (g c / 4)))))]) (st' := []) (cells' := 0) (slots' := 0) (g' := 0) (by decide) rfl rfl rfl rfl rfl ?_
              refine G.fn (fun j9 => nI ((ad (ad (sb g c (4 * (g c / 4))) (c - 9) (g c / 4)) (c + 9) (g c / 4)) j9)) 2 [(o1, .inr (5, [.ref d1, .int (nI 9)])), (d1, .inr (12, [.ref d2])), (d2, aI k 81 (fun j9 => nI ((ad (ad (sb g c (4 * (g c / 4))) (c - 9) (g c / 4)) (c + 9) (g c / 4)) j9)))] rfl (fun j hj => by exact ad_step _ _ _ j) rfl ?_
              refine g_iload_n (pc := 130) C 1 rfl rfl dX1_toppleCell_130 ?_
              refine G.fn (fun j9 => nI (tpl 9 c (g c / 4) g j9)) 2 [(o1, .inr (5, [.ref d1, .int (nI 9)])), (d1, .inr (12, [.ref d2])), (d2, aI k 81 (fun j9 => nI (tpl 9 c (g c / 4) g j9)))] rfl (fun j hj => by exact congrArg nI (by simp only [ad, sb, tpl, nbr]; repeat' (first | omega | split))) rfl ?_
              exact g_iret (pc := 131) C hr hlk (by first | decide | omega) (by first | decide | omega) (by first | decide | omega) dX1_toppleCell_131 ⟨rfl, rfl⟩
        · have k67 : c % 9 < 8 := by rcases Nat.lt_or_ge (c % 9) (8) with q | q; exact q; exact absurd (show nI (8) ≤ nI (c % 9) from nI_le q (by omega)) c_67
          refine g_aload_n (pc := 70) C 2 rfl rfl dX1_toppleCell_70 ?_
          refine g_get (pc := 71) C (T := TX1) inX1 0 rfl rfl 0 (by decide) q_130 rfl rfl dX1_toppleCell_71 ?_
          refine g_iload_n (pc := 74) C 3 rfl rfl dX1_toppleCell_74 ?_
          refine g_iconst (pc := 75) (v := 1) C (by decide) dX1_toppleCell_75 ?_
          refine g_iadd (pc := 76) C dX1_toppleCell_76 ?_
          refine G.eqs (st' := [.int (nI (c + 1)), .ref d1]) (congrArg (β := List Value) (fun z9 => [.int z9, .ref d1]) (show (((nI c) + 1) : Int32) = (nI (c + 1)) from nI_1 c)) ?_
          refine g_iload_n (pc := 77) C 1 rfl rfl dX1_toppleCell_77 ?_
          refine g_callV (pc := 78) (cells := 0) (slots := 0) (g := 0) (As := [.int (nI (c + 1)), .int (nI (g c / 4))]) (st := []) (T := TX8) (q0 := 1) C (nA := 2) rfl (c_X8_add_n d1 d2 81 (fun j9 => nI ((sb g c (4 * (g c / 4))) j9)) (c + 1) (nI (g c / 4)) (by first | assumption | decide | omega) (by first | assumption | decide | omega)) q_433 q_59 q_57 q_6 q_56 (by decide +kernel) rfl rfl dX1_toppleCell_78 ⟨Nat.le_of_ble_eq_true rfl, Nat.le_of_ble_eq_true rfl⟩ [1, 2] [0] rfl (wr := [(o1, .inr (5, [.ref d1, .int (nI 9)]))]) rfl (by decide) (by decide) (by decide) (Nat.le_of_ble_eq_true rfl) ⟨Nat.le_of_ble_eq_true rfl, Nat.le_of_ble_eq_true rfl⟩ (fun rv w1 h1 => ?_)
          obtain ⟨rfl, rfl⟩ := h1
          refine G.aft [0, 1, 2] (ws' := [(o1, .inr (5, [.ref d1, .int (nI 9)])), (d1, .inr (12, [.ref d2])), (d2, aI k 81 (upd (fun j9 => nI ((sb g c (4 * (g c / 4))) j9)) (c + 1) ((fun j9 => nI ((sb g c (4 * (g c / 4))) j9)) (c + 1) + (nI (g c / 4)))))]) (st' := []) (cells' := 0) (slots' := 0) (g' := 0) (by decide) rfl rfl rfl rfl rfl ?_
          refine G.fn (fun j9 => nI ((ad (sb g c (4 * (g c / 4))) (c + 1) (g c / 4)) j9)) 2 [(o1, .inr (5, [.ref d1, .int (nI 9)])), (d1, .inr (12, [.ref d2])), (d2, aI k 81 (fun j9 => nI ((ad (sb g c (4 * (g c / 4))) (c + 1) (g c / 4)) j9)))] rfl (fun j hj => by exact ad_step _ _ _ j) rfl ?_
          refine g_iload_n (pc := 81) C 3 rfl rfl dX1_toppleCell_81 ?_
          refine g_aload_n (pc := 82) C 2 rfl rfl dX1_toppleCell_82 ?_
          refine g_get (pc := 83) C (T := TX1) inX1 0 rfl rfl 1 (by decide) q_131 rfl rfl dX1_toppleCell_83 ?_
          refine g_icmp_lt (pc := 86) C 103 (by decide) dX1_toppleCell_86 (fun c_86 => ?_) (fun c_86 => ?_)
          · have k86 : c < 9 := by rcases Nat.lt_or_ge (c) (9) with q | q; exact q; exact absurd c_86 (nI_nlt q (by omega))
            refine g_iload_n (pc := 103) C 3 rfl rfl dX1_toppleCell_103 ?_
            refine g_aload_n (pc := 104) C 2 rfl rfl dX1_toppleCell_104 ?_
            refine g_callV (pc := 105) (cells := 0) (slots := 0) (g := 0) (As := []) (st := [.int (nI c)]) (T := TX1) (q0 := 0) C (nA := 0) rfl (c_X1_cellNumber o1 d1 (nI 9) ) q_434 q_235 q_233 q_182 q_232 (by decide +kernel) rfl rfl dX1_toppleCell_105 ⟨Nat.le_of_ble_eq_true rfl, Nat.le_of_ble_eq_true rfl⟩ [0] [1, 2] rfl (wr := [(d1, .inr (12, [.ref d2])), (d2, aI k 81 (fun j9 => nI ((ad (sb g c (4 * (g c / 4))) (c + 1) (g c / 4)) j9)))]) rfl (by decide) (by decide) (by decide) (Nat.le_of_ble_eq_true rfl) ⟨Nat.le_of_ble_eq_true rfl, Nat.le_of_ble_eq_true rfl⟩ (fun rv w1 h1 => ?_)
            obtain ⟨rfl, rfl⟩ := h1
            refine G.aft [2, 0, 1] (ws' := [(o1, .inr (5, [.ref d1, .int (nI 9)])), (d1, .inr (12, [.ref d2])), (d2, aI k 81 (fun j9 => nI ((ad (sb g c (4 * (g c / 4))) (c + 1) (g c / 4)) j9)))]) (st' := [.int ((nI 9) * (nI 9)), .int (nI c)]) (cells' := 0) (slots' := 0) (g' := 0) (by decide) rfl rfl rfl rfl rfl ?_
            refine g_aload_n (pc := 108) C 2 rfl rfl dX1_toppleCell_108 ?_
            refine g_get (pc := 109) C (T := TX1) inX1 0 rfl rfl 1 (by decide) q_131 rfl rfl dX1_toppleCell_109 ?_
            refine g_isub (pc := 112) C dX1_toppleCell_112 ?_
            refine G.eqs (st' := [.int (nI 72), .int (nI c)]) (congrArg (β := List Value) (fun z9 => [.int z9, .int (nI c)]) (show ((((nI 9) * (nI 9)) - (nI 9)) : Int32) = (nI 72) from by decide)) ?_
            refine g_icmp_ge (pc := 113) C 130 (by decide) dX1_toppleCell_113 (fun c_113 => ?_) (fun c_113 => ?_)
            · have k113 : 72 ≤ c := by rcases Nat.lt_or_ge (c) (72) with q | q; exact absurd (show nI (72) ≤ nI (c) from c_113) (nI_ge q (by omega)); exact q
              refine g_iload_n (pc := 130) C 1 rfl rfl dX1_toppleCell_130 ?_
              refine G.fn (fun j9 => nI (tpl 9 c (g c / 4) g j9)) 2 [(o1, .inr (5, [.ref d1, .int (nI 9)])), (d1, .inr (12, [.ref d2])), (d2, aI k 81 (fun j9 => nI (tpl 9 c (g c / 4) g j9)))] rfl (fun j hj => by exact congrArg nI (by simp only [ad, sb, tpl, nbr]; repeat' (first | omega | split))) rfl ?_
              exact g_iret (pc := 131) C hr hlk (by first | decide | omega) (by first | decide | omega) (by first | decide | omega) dX1_toppleCell_131 ⟨rfl, rfl⟩
            · have k113 : c < 72 := by rcases Nat.lt_or_ge (c) (72) with q | q; exact q; exact absurd (show nI (72) ≤ nI (c) from nI_le q (by omega)) c_113
              refine g_aload_n (pc := 116) C 2 rfl rfl dX1_toppleCell_116 ?_
              refine g_get (pc := 117) C (T := TX1) inX1 0 rfl rfl 0 (by decide) q_130 rfl rfl dX1_toppleCell_117 ?_
              refine g_iload_n (pc := 120) C 3 rfl rfl dX1_toppleCell_120 ?_
              refine g_aload_n (pc := 121) C 2 rfl rfl dX1_toppleCell_121 ?_
              refine g_get (pc := 122) C (T := TX1) inX1 0 rfl rfl 1 (by decide) q_131 rfl rfl dX1_toppleCell_122 ?_
              refine g_iadd (pc := 125) C dX1_toppleCell_125 ?_
              refine G.eqs (st' := [.int (nI (c + 9)), .ref d1]) (congrArg (β := List Value) (fun z9 => [.int z9, .ref d1]) (show (((nI c) + (nI 9)) : Int32) = (nI (c + 9)) from nI_add c 9)) ?_
              refine g_iload_n (pc := 126) C 1 rfl rfl dX1_toppleCell_126 ?_
              refine g_callV (pc := 127) (cells := 0) (slots := 0) (g := 0) (As := [.int (nI (c + 9)), .int (nI (g c / 4))]) (st := []) (T := TX8) (q0 := 1) C (nA := 2) rfl (c_X8_add_n d1 d2 81 (fun j9 => nI ((ad (sb g c (4 * (g c / 4))) (c + 1) (g c / 4)) j9)) (c + 9) (nI (g c / 4)) (by first | assumption | decide | omega) (by first | assumption | decide | omega)) q_433 q_59 q_57 q_6 q_56 (by decide +kernel) rfl rfl dX1_toppleCell_127 ⟨Nat.le_of_ble_eq_true rfl, Nat.le_of_ble_eq_true rfl⟩ [1, 2] [0] rfl (wr := [(o1, .inr (5, [.ref d1, .int (nI 9)]))]) rfl (by decide) (by decide) (by decide) (Nat.le_of_ble_eq_true rfl) ⟨Nat.le_of_ble_eq_true rfl, Nat.le_of_ble_eq_true rfl⟩ (fun rv w1 h1 => ?_)
              obtain ⟨rfl, rfl⟩ := h1
              refine G.aft [0, 1, 2] (ws' := [(o1, .inr (5, [.ref d1, .int (nI 9)])), (d1, .inr (12, [.ref d2])), (d2, aI k 81 (upd (fun j9 => nI ((ad (sb g c (4 * (g c / 4))) (c + 1) (g c / 4)) j9)) (c + 9) ((fun j9 => nI ((ad (sb g c (4 * (g c / 4))) (c + 1) (g c / 4)) j9)) (c + 9) + (nI (g c / 4)))))]) (st' := []) (cells' := 0) (slots' := 0) (g' := 0) (by decide) rfl rfl rfl rfl rfl ?_
              refine G.fn (fun j9 => nI ((ad (ad (sb g c (4 * (g c / 4))) (c + 1) (g c / 4)) (c + 9) (g c / 4)) j9)) 2 [(o1, .inr (5, [.ref d1, .int (nI 9)])), (d1, .inr (12, [.ref d2])), (d2, aI k 81 (fun j9 => nI ((ad (ad (sb g c (4 * (g c / 4))) (c + 1) (g c / 4)) (c + 9) (g c / 4)) j9)))] rfl (fun j hj => by exact ad_step _ _ _ j) rfl ?_
              refine g_iload_n (pc := 130) C 1 rfl rfl dX1_toppleCell_130 ?_
              refine G.fn (fun j9 => nI (tpl 9 c (g c / 4) g j9)) 2 [(o1, .inr (5, [.ref d1, .int (nI 9)])), (d1, .inr (12, [.ref d2])), (d2, aI k 81 (fun j9 => nI (tpl 9 c (g c / 4) g j9)))] rfl (fun j hj => by exact congrArg nI (by simp only [ad, sb, tpl, nbr]; repeat' (first | omega | split))) rfl ?_
              exact g_iret (pc := 131) C hr hlk (by first | decide | omega) (by first | decide | omega) (by first | decide | omega) dX1_toppleCell_131 ⟨rfl, rfl⟩
          · have k86 : 9 ≤ c := by rcases Nat.lt_or_ge (c) (9) with q | q; exact absurd (nI_lt q (by omega)) c_86; exact q
            refine g_aload_n (pc := 89) C 2 rfl rfl dX1_toppleCell_89 ?_
            refine g_get (pc := 90) C (T := TX1) inX1 0 rfl rfl 0 (by decide) q_130 rfl rfl dX1_toppleCell_90 ?_
            refine g_iload_n (pc := 93) C 3 rfl rfl dX1_toppleCell_93 ?_
            refine g_aload_n (pc := 94) C 2 rfl rfl dX1_toppleCell_94 ?_
            refine g_get (pc := 95) C (T := TX1) inX1 0 rfl rfl 1 (by decide) q_131 rfl rfl dX1_toppleCell_95 ?_
            refine g_isub (pc := 98) C dX1_toppleCell_98 ?_
            refine G.eqs (st' := [.int (nI (c - 9)), .ref d1]) (congrArg (β := List Value) (fun z9 => [.int z9, .ref d1]) (show (((nI c) - (nI 9)) : Int32) = (nI (c - 9)) from pk_sub (by omega))) ?_
            refine g_iload_n (pc := 99) C 1 rfl rfl dX1_toppleCell_99 ?_
            refine g_callV (pc := 100) (cells := 0) (slots := 0) (g := 0) (As := [.int (nI (c - 9)), .int (nI (g c / 4))]) (st := []) (T := TX8) (q0 := 1) C (nA := 2) rfl (c_X8_add_n d1 d2 81 (fun j9 => nI ((ad (sb g c (4 * (g c / 4))) (c + 1) (g c / 4)) j9)) (c - 9) (nI (g c / 4)) (by first | assumption | decide | omega) (by first | assumption | decide | omega)) q_433 q_59 q_57 q_6 q_56 (by decide +kernel) rfl rfl dX1_toppleCell_100 ⟨Nat.le_of_ble_eq_true rfl, Nat.le_of_ble_eq_true rfl⟩ [1, 2] [0] rfl (wr := [(o1, .inr (5, [.ref d1, .int (nI 9)]))]) rfl (by decide) (by decide) (by decide) (Nat.le_of_ble_eq_true rfl) ⟨Nat.le_of_ble_eq_true rfl, Nat.le_of_ble_eq_true rfl⟩ (fun rv w1 h1 => ?_)
            obtain ⟨rfl, rfl⟩ := h1
            refine G.aft [0, 1, 2] (ws' := [(o1, .inr (5, [.ref d1, .int (nI 9)])), (d1, .inr (12, [.ref d2])), (d2, aI k 81 (upd (fun j9 => nI ((ad (sb g c (4 * (g c / 4))) (c + 1) (g c / 4)) j9)) (c - 9) ((fun j9 => nI ((ad (sb g c (4 * (g c / 4))) (c + 1) (g c / 4)) j9)) (c - 9) + (nI (g c / 4)))))]) (st' := []) (cells' := 0) (slots' := 0) (g' := 0) (by decide) rfl rfl rfl rfl rfl ?_
            refine G.fn (fun j9 => nI ((ad (ad (sb g c (4 * (g c / 4))) (c + 1) (g c / 4)) (c - 9) (g c / 4)) j9)) 2 [(o1, .inr (5, [.ref d1, .int (nI 9)])), (d1, .inr (12, [.ref d2])), (d2, aI k 81 (fun j9 => nI ((ad (ad (sb g c (4 * (g c / 4))) (c + 1) (g c / 4)) (c - 9) (g c / 4)) j9)))] rfl (fun j hj => by exact ad_step _ _ _ j) rfl ?_
            refine g_iload_n (pc := 103) C 3 rfl rfl dX1_toppleCell_103 ?_
            refine g_aload_n (pc := 104) C 2 rfl rfl dX1_toppleCell_104 ?_
            refine g_callV (pc := 105) (cells := 0) (slots := 0) (g := 0) (As := []) (st := [.int (nI c)]) (T := TX1) (q0 := 0) C (nA := 0) rfl (c_X1_cellNumber o1 d1 (nI 9) ) q_434 q_235 q_233 q_182 q_232 (by decide +kernel) rfl rfl dX1_toppleCell_105 ⟨Nat.le_of_ble_eq_true rfl, Nat.le_of_ble_eq_true rfl⟩ [0] [1, 2] rfl (wr := [(d1, .inr (12, [.ref d2])), (d2, aI k 81 (fun j9 => nI ((ad (ad (sb g c (4 * (g c / 4))) (c + 1) (g c / 4)) (c - 9) (g c / 4)) j9)))]) rfl (by decide) (by decide) (by decide) (Nat.le_of_ble_eq_true rfl) ⟨Nat.le_of_ble_eq_true rfl, Nat.le_of_ble_eq_true rfl⟩ (fun rv w1 h1 => ?_)
            obtain ⟨rfl, rfl⟩ := h1
            refine G.aft [2, 0, 1] (ws' := [(o1, .inr (5, [.ref d1, .int (nI 9)])), (d1, .inr (12, [.ref d2])), (d2, aI k 81 (fun j9 => nI ((ad (ad (sb g c (4 * (g c / 4))) (c + 1) (g c / 4)) (c - 9) (g c / 4)) j9)))]) (st' := [.int ((nI 9) * (nI 9)), .int (nI c)]) (cells' := 0) (slots' := 0) (g' := 0) (by decide) rfl rfl rfl rfl rfl ?_
            refine g_aload_n (pc := 108) C 2 rfl rfl dX1_toppleCell_108 ?_
            refine g_get (pc := 109) C (T := TX1) inX1 0 rfl rfl 1 (by decide) q_131 rfl rfl dX1_toppleCell_109 ?_
            refine g_isub (pc := 112) C dX1_toppleCell_112 ?_
            refine G.eqs (st' := [.int (nI 72), .int (nI c)]) (congrArg (β := List Value) (fun z9 => [.int z9, .int (nI c)]) (show ((((nI 9) * (nI 9)) - (nI 9)) : Int32) = (nI 72) from by decide)) ?_
            refine g_icmp_ge (pc := 113) C 130 (by decide) dX1_toppleCell_113 (fun c_113 => ?_) (fun c_113 => ?_)
            · have k113 : 72 ≤ c := by rcases Nat.lt_or_ge (c) (72) with q | q; exact absurd (show nI (72) ≤ nI (c) from c_113) (nI_ge q (by omega)); exact q
              refine g_iload_n (pc := 130) C 1 rfl rfl dX1_toppleCell_130 ?_
              refine G.fn (fun j9 => nI (tpl 9 c (g c / 4) g j9)) 2 [(o1, .inr (5, [.ref d1, .int (nI 9)])), (d1, .inr (12, [.ref d2])), (d2, aI k 81 (fun j9 => nI (tpl 9 c (g c / 4) g j9)))] rfl (fun j hj => by exact congrArg nI (by simp only [ad, sb, tpl, nbr]; repeat' (first | omega | split))) rfl ?_
              exact g_iret (pc := 131) C hr hlk (by first | decide | omega) (by first | decide | omega) (by first | decide | omega) dX1_toppleCell_131 ⟨rfl, rfl⟩
            · have k113 : c < 72 := by rcases Nat.lt_or_ge (c) (72) with q | q; exact q; exact absurd (show nI (72) ≤ nI (c) from nI_le q (by omega)) c_113
              refine g_aload_n (pc := 116) C 2 rfl rfl dX1_toppleCell_116 ?_
              refine g_get (pc := 117) C (T := TX1) inX1 0 rfl rfl 0 (by decide) q_130 rfl rfl dX1_toppleCell_117 ?_
              refine g_iload_n (pc := 120) C 3 rfl rfl dX1_toppleCell_120 ?_
              refine g_aload_n (pc := 121) C 2 rfl rfl dX1_toppleCell_121 ?_
              refine g_get (pc := 122) C (T := TX1) inX1 0 rfl rfl 1 (by decide) q_131 rfl rfl dX1_toppleCell_122 ?_
              refine g_iadd (pc := 125) C dX1_toppleCell_125 ?_
              refine G.eqs (st' := [.int (nI (c + 9)), .ref d1]) (congrArg (β := List Value) (fun z9 => [.int z9, .ref d1]) (show (((nI c) + (nI 9)) : Int32) = (nI (c + 9)) from nI_add c 9)) ?_
              refine g_iload_n (pc := 126) C 1 rfl rfl dX1_toppleCell_126 ?_
              refine g_callV (pc := 127) (cells := 0) (slots := 0) (g := 0) (As := [.int (nI (c + 9)), .int (nI (g c / 4))]) (st := []) (T := TX8) (q0 := 1) C (nA := 2) rfl (c_X8_add_n d1 d2 81 (fun j9 => nI ((ad (ad (sb g c (4 * (g c / 4))) (c + 1) (g c / 4)) (c - 9) (g c / 4)) j9)) (c + 9) (nI (g c / 4)) (by first | assumption | decide | omega) (by first | assumption | decide | omega)) q_433 q_59 q_57 q_6 q_56 (by decide +kernel) rfl rfl dX1_toppleCell_127 ⟨Nat.le_of_ble_eq_true rfl, Nat.le_of_ble_eq_true rfl⟩ [1, 2] [0] rfl (wr := [(o1, .inr (5, [.ref d1, .int (nI 9)]))]) rfl (by decide) (by decide) (by decide) (Nat.le_of_ble_eq_true rfl) ⟨Nat.le_of_ble_eq_true rfl, Nat.le_of_ble_eq_true rfl⟩ (fun rv w1 h1 => ?_)
              obtain ⟨rfl, rfl⟩ := h1
              refine G.aft [0, 1, 2] (ws' := [(o1, .inr (5, [.ref d1, .int (nI 9)])), (d1, .inr (12, [.ref d2])), (d2, aI k 81 (upd (fun j9 => nI ((ad (ad (sb g c (4 * (g c / 4))) (c + 1) (g c / 4)) (c - 9) (g c / 4)) j9)) (c + 9) ((fun j9 => nI ((ad (ad (sb g c (4 * (g c / 4))) (c + 1) (g c / 4)) (c - 9) (g c / 4)) j9)) (c + 9) + (nI (g c / 4)))))]) (st' := []) (cells' := 0) (slots' := 0) (g' := 0) (by decide) rfl rfl rfl rfl rfl ?_
              refine G.fn (fun j9 => nI ((ad (ad (ad (sb g c (4 * (g c / 4))) (c + 1) (g c / 4)) (c - 9) (g c / 4)) (c + 9) (g c / 4)) j9)) 2 [(o1, .inr (5, [.ref d1, .int (nI 9)])), (d1, .inr (12, [.ref d2])), (d2, aI k 81 (fun j9 => nI ((ad (ad (ad (sb g c (4 * (g c / 4))) (c + 1) (g c / 4)) (c - 9) (g c / 4)) (c + 9) (g c / 4)) j9)))] rfl (fun j hj => by exact ad_step _ _ _ j) rfl ?_
              refine g_iload_n (pc := 130) C 1 rfl rfl dX1_toppleCell_130 ?_
              refine G.fn (fun j9 => nI (tpl 9 c (g c / 4) g j9)) 2 [(o1, .inr (5, [.ref d1, .int (nI 9)])), (d1, .inr (12, [.ref d2])), (d2, aI k 81 (fun j9 => nI (tpl 9 c (g c / 4) g j9)))] rfl (fun j hj => by exact congrArg nI (by simp only [ad, sb, tpl, nbr]; repeat' (first | omega | split))) rfl ?_
              exact g_iret (pc := 131) C hr hlk (by first | decide | omega) (by first | decide | omega) (by first | decide | omega) dX1_toppleCell_131 ⟨rfl, rfl⟩
      · have k46 : 0 < c % 9 := by rcases Nat.eq_zero_or_pos (c % 9) with q | q; rw [q] at c_46; exact absurd (show nI 0 ≤ 0 by decide) c_46; exact q
        refine g_aload_n (pc := 49) C 2 rfl rfl dX1_toppleCell_49 ?_
        refine g_get (pc := 50) C (T := TX1) inX1 0 rfl rfl 0 (by decide) q_130 rfl rfl dX1_toppleCell_50 ?_
        refine g_iload_n (pc := 53) C 3 rfl rfl dX1_toppleCell_53 ?_
        refine g_iconst (pc := 54) (v := 1) C (by decide) dX1_toppleCell_54 ?_
        refine g_isub (pc := 55) C dX1_toppleCell_55 ?_
        refine G.eqs (st' := [.int (nI (c - 1)), .ref d1]) (congrArg (β := List Value) (fun z9 => [.int z9, .ref d1]) (show (((nI c) - 1) : Int32) = (nI (c - 1)) from by rw [show (1 : Int32) = nI 1 from rfl]; exact pk_sub (by omega))) ?_
        refine g_iload_n (pc := 56) C 1 rfl rfl dX1_toppleCell_56 ?_
        refine g_callV (pc := 57) (cells := 0) (slots := 0) (g := 0) (As := [.int (nI (c - 1)), .int (nI (g c / 4))]) (st := []) (T := TX8) (q0 := 1) C (nA := 2) rfl (c_X8_add_n d1 d2 81 (fun j9 => nI ((sb g c (4 * (g c / 4))) j9)) (c - 1) (nI (g c / 4)) (by first | assumption | decide | omega) (by first | assumption | decide | omega)) q_433 q_59 q_57 q_6 q_56 (by decide +kernel) rfl rfl dX1_toppleCell_57 ⟨Nat.le_of_ble_eq_true rfl, Nat.le_of_ble_eq_true rfl⟩ [1, 2] [0] rfl (wr := [(o1, .inr (5, [.ref d1, .int (nI 9)]))]) rfl (by decide) (by decide) (by decide) (Nat.le_of_ble_eq_true rfl) ⟨Nat.le_of_ble_eq_true rfl, Nat.le_of_ble_eq_true rfl⟩ (fun rv w1 h1 => ?_)
        obtain ⟨rfl, rfl⟩ := h1
        refine G.aft [0, 1, 2] (ws' := [(o1, .inr (5, [.ref d1, .int (nI 9)])), (d1, .inr (12, [.ref d2])), (d2, aI k 81 (upd (fun j9 => nI ((sb g c (4 * (g c / 4))) j9)) (c - 1) ((fun j9 => nI ((sb g c (4 * (g c / 4))) j9)) (c - 1) + (nI (g c / 4)))))]) (st' := []) (cells' := 0) (slots' := 0) (g' := 0) (by decide) rfl rfl rfl rfl rfl ?_
        refine G.fn (fun j9 => nI ((ad (sb g c (4 * (g c / 4))) (c - 1) (g c / 4)) j9)) 2 [(o1, .inr (5, [.ref d1, .int (nI 9)])), (d1, .inr (12, [.ref d2])), (d2, aI k 81 (fun j9 => nI ((ad (sb g c (4 * (g c / 4))) (c - 1) (g c / 4)) j9)))] rfl (fun j hj => by exact ad_step _ _ _ j) rfl ?_
        refine g_iload_n (pc := 60) C 0 rfl rfl dX1_toppleCell_60 ?_
        refine g_aload_n (pc := 61) C 2 rfl rfl dX1_toppleCell_61 ?_
        refine g_get (pc := 62) C (T := TX1) inX1 0 rfl rfl 1 (by decide) q_131 rfl rfl dX1_toppleCell_62 ?_
        refine g_iconst (pc := 65) (v := 1) C (by decide) dX1_toppleCell_65 ?_
        refine g_isub (pc := 66) C dX1_toppleCell_66 ?_
        refine G.eqs (st' := [.int (nI 8), .int (nI (c % 9))]) (congrArg (β := List Value) (fun z9 => [.int z9, .int (nI (c % 9))]) (show (((nI 9) - 1) : Int32) = (nI 8) from by decide)) ?_
        refine g_icmp_ge (pc := 67) C 81 (by decide) dX1_toppleCell_67 (fun c_67 => ?_) (fun c_67 => ?_)
        · have k67 : 8 ≤ c % 9 := by rcases Nat.lt_or_ge (c % 9) (8) with q | q; exact absurd (show nI (8) ≤ nI (c % 9) from c_67) (nI_ge q (by omega)); exact q
          refine g_iload_n (pc := 81) C 3 rfl rfl dX1_toppleCell_81 ?_
          refine g_aload_n (pc := 82) C 2 rfl rfl dX1_toppleCell_82 ?_
          refine g_get (pc := 83) C (T := TX1) inX1 0 rfl rfl 1 (by decide) q_131 rfl rfl dX1_toppleCell_83 ?_
          refine g_icmp_lt (pc := 86) C 103 (by decide) dX1_toppleCell_86 (fun c_86 => ?_) (fun c_86 => ?_)
          · have k86 : c < 9 := by rcases Nat.lt_or_ge (c) (9) with q | q; exact q; exact absurd c_86 (nI_nlt q (by omega))
            refine g_iload_n (pc := 103) C 3 rfl rfl dX1_toppleCell_103 ?_
            refine g_aload_n (pc := 104) C 2 rfl rfl dX1_toppleCell_104 ?_
            refine g_callV (pc := 105) (cells := 0) (slots := 0) (g := 0) (As := []) (st := [.int (nI c)]) (T := TX1) (q0 := 0) C (nA := 0) rfl (c_X1_cellNumber o1 d1 (nI 9) ) q_434 q_235 q_233 q_182 q_232 (by decide +kernel) rfl rfl dX1_toppleCell_105 ⟨Nat.le_of_ble_eq_true rfl, Nat.le_of_ble_eq_true rfl⟩ [0] [1, 2] rfl (wr := [(d1, .inr (12, [.ref d2])), (d2, aI k 81 (fun j9 => nI ((ad (sb g c (4 * (g c / 4))) (c - 1) (g c / 4)) j9)))]) rfl (by decide) (by decide) (by decide) (Nat.le_of_ble_eq_true rfl) ⟨Nat.le_of_ble_eq_true rfl, Nat.le_of_ble_eq_true rfl⟩ (fun rv w1 h1 => ?_)
            obtain ⟨rfl, rfl⟩ := h1
            refine G.aft [2, 0, 1] (ws' := [(o1, .inr (5, [.ref d1, .int (nI 9)])), (d1, .inr (12, [.ref d2])), (d2, aI k 81 (fun j9 => nI ((ad (sb g c (4 * (g c / 4))) (c - 1) (g c / 4)) j9)))]) (st' := [.int ((nI 9) * (nI 9)), .int (nI c)]) (cells' := 0) (slots' := 0) (g' := 0) (by decide) rfl rfl rfl rfl rfl ?_
            refine g_aload_n (pc := 108) C 2 rfl rfl dX1_toppleCell_108 ?_
            refine g_get (pc := 109) C (T := TX1) inX1 0 rfl rfl 1 (by decide) q_131 rfl rfl dX1_toppleCell_109 ?_
            refine g_isub (pc := 112) C dX1_toppleCell_112 ?_
            refine G.eqs (st' := [.int (nI 72), .int (nI c)]) (congrArg (β := List Value) (fun z9 => [.int z9, .int (nI c)]) (show ((((nI 9) * (nI 9)) - (nI 9)) : Int32) = (nI 72) from by decide)) ?_
            refine g_icmp_ge (pc := 113) C 130 (by decide) dX1_toppleCell_113 (fun c_113 => ?_) (fun c_113 => ?_)
            · have k113 : 72 ≤ c := by rcases Nat.lt_or_ge (c) (72) with q | q; exact absurd (show nI (72) ≤ nI (c) from c_113) (nI_ge q (by omega)); exact q
              refine g_iload_n (pc := 130) C 1 rfl rfl dX1_toppleCell_130 ?_
              refine G.fn (fun j9 => nI (tpl 9 c (g c / 4) g j9)) 2 [(o1, .inr (5, [.ref d1, .int (nI 9)])), (d1, .inr (12, [.ref d2])), (d2, aI k 81 (fun j9 => nI (tpl 9 c (g c / 4) g j9)))] rfl (fun j hj => by exact congrArg nI (by simp only [ad, sb, tpl, nbr]; repeat' (first | omega | split))) rfl ?_
              exact g_iret (pc := 131) C hr hlk (by first | decide | omega) (by first | decide | omega) (by first | decide | omega) dX1_toppleCell_131 ⟨rfl, rfl⟩
            · have k113 : c < 72 := by rcases Nat.lt_or_ge (c) (72) with q | q; exact q; exact absurd (show nI (72) ≤ nI (c) from nI_le q (by omega)) c_113
              refine g_aload_n (pc := 116) C 2 rfl rfl dX1_toppleCell_116 ?_
              refine g_get (pc := 117) C (T := TX1) inX1 0 rfl rfl 0 (by decide) q_130 rfl rfl dX1_toppleCell_117 ?_
              refine g_iload_n (pc := 120) C 3 rfl rfl dX1_toppleCell_120 ?_
              refine g_aload_n (pc := 121) C 2 rfl rfl dX1_toppleCell_121 ?_
              refine g_get (pc := 122) C (T := TX1) inX1 0 rfl rfl 1 (by decide) q_131 rfl rfl dX1_toppleCell_122 ?_
              refine g_iadd (pc := 125) C dX1_toppleCell_125 ?_
              refine G.eqs (st' := [.int (nI (c + 9)), .ref d1]) (congrArg (β := List Value) (fun z9 => [.int z9, .ref d1]) (show (((nI c) + (nI 9)) : Int32) = (nI (c + 9)) from nI_add c 9)) ?_
              refine g_iload_n (pc := 126) C 1 rfl rfl dX1_toppleCell_126 ?_
              refine g_callV (pc := 127) (cells := 0) (slots := 0) (g := 0) (As := [.int (nI (c + 9)), .int (nI (g c / 4))]) (st := []) (T := TX8) (q0 := 1) C (nA := 2) rfl (c_X8_add_n d1 d2 81 (fun j9 => nI ((ad (sb g c (4 * (g c / 4))) (c - 1) (g c / 4)) j9)) (c + 9) (nI (g c / 4)) (by first | assumption | decide | omega) (by first | assumption | decide | omega)) q_433 q_59 q_57 q_6 q_56 (by decide +kernel) rfl rfl dX1_toppleCell_127 ⟨Nat.le_of_ble_eq_true rfl, Nat.le_of_ble_eq_true rfl⟩ [1, 2] [0] rfl (wr := [(o1, .inr (5, [.ref d1, .int (nI 9)]))]) rfl (by decide) (by decide) (by decide) (Nat.le_of_ble_eq_true rfl) ⟨Nat.le_of_ble_eq_true rfl, Nat.le_of_ble_eq_true rfl⟩ (fun rv w1 h1 => ?_)
              obtain ⟨rfl, rfl⟩ := h1
              refine G.aft [0, 1, 2] (ws' := [(o1, .inr (5, [.ref d1, .int (nI 9)])), (d1, .inr (12, [.ref d2])), (d2, aI k 81 (upd (fun j9 => nI ((ad (sb g c (4 * (g c / 4))) (c - 1) (g c / 4)) j9)) (c + 9) ((fun j9 => nI ((ad (sb g c (4 * (g c / 4))) (c - 1) (g c / 4)) j9)) (c + 9) + (nI (g c / 4)))))]) (st' := []) (cells' := 0) (slots' := 0) (g' := 0) (by decide) rfl rfl rfl rfl rfl ?_
              refine G.fn (fun j9 => nI ((ad (ad (sb g c (4 * (g c / 4))) (c - 1) (g c / 4)) (c + 9) (g c / 4)) j9)) 2 [(o1, .inr (5, [.ref d1, .int (nI 9)])), (d1, .inr (12, [.ref d2])), (d2, aI k 81 (fun j9 => nI ((ad (ad (sb g c (4 * (g c / 4))) (c - 1) (g c / 4)) (c + 9) (g c / 4)) j9)))] rfl (fun j hj => by exact ad_step _ _ _ j) rfl ?_
              refine g_iload_n (pc := 130) C 1 rfl rfl dX1_toppleCell_130 ?_
              refine G.fn (fun j9 => nI (tpl 9 c (g c / 4) g j9)) 2 [(o1, .inr (5, [.ref d1, .int (nI 9)])), (d1, .inr (12, [.ref d2])), (d2, aI k 81 (fun j9 => nI (tpl 9 c (g c / 4) g j9)))] rfl (fun j hj => by exact congrArg nI (by simp only [ad, sb, tpl, nbr]; repeat' (first | omega | split))) rfl ?_
              exact g_iret (pc := 131) C hr hlk (by first | decide | omega) (by first | decide | omega) (by first | decide | omega) dX1_toppleCell_131 ⟨rfl, rfl⟩
          · have k86 : 9 ≤ c := by rcases Nat.lt_or_ge (c) (9) with q | q; exact absurd (nI_lt q (by omega)) c_86; exact q
            refine g_aload_n (pc := 89) C 2 rfl rfl dX1_toppleCell_89 ?_
            refine g_get (pc := 90) C (T := TX1) inX1 0 rfl rfl 0 (by decide) q_130 rfl rfl dX1_toppleCell_90 ?_
            refine g_iload_n (pc := 93) C 3 rfl rfl dX1_toppleCell_93 ?_
            refine g_aload_n (pc := 94) C 2 rfl rfl dX1_toppleCell_94 ?_
            refine g_get (pc := 95) C (T := TX1) inX1 0 rfl rfl 1 (by decide) q_131 rfl rfl dX1_toppleCell_95 ?_
            refine g_isub (pc := 98) C dX1_toppleCell_98 ?_
            refine G.eqs (st' := [.int (nI (c - 9)), .ref d1]) (congrArg (β := List Value) (fun z9 => [.int z9, .ref d1]) (show (((nI c) - (nI 9)) : Int32) = (nI (c - 9)) from pk_sub (by omega))) ?_
            refine g_iload_n (pc := 99) C 1 rfl rfl dX1_toppleCell_99 ?_
            refine g_callV (pc := 100) (cells := 0) (slots := 0) (g := 0) (As := [.int (nI (c - 9)), .int (nI (g c / 4))]) (st := []) (T := TX8) (q0 := 1) C (nA := 2) rfl (c_X8_add_n d1 d2 81 (fun j9 => nI ((ad (sb g c (4 * (g c / 4))) (c - 1) (g c / 4)) j9)) (c - 9) (nI (g c / 4)) (by first | assumption | decide | omega) (by first | assumption | decide | omega)) q_433 q_59 q_57 q_6 q_56 (by decide +kernel) rfl rfl dX1_toppleCell_100 ⟨Nat.le_of_ble_eq_true rfl, Nat.le_of_ble_eq_true rfl⟩ [1, 2] [0] rfl (wr := [(o1, .inr (5, [.ref d1, .int (nI 9)]))]) rfl (by decide) (by decide) (by decide) (Nat.le_of_ble_eq_true rfl) ⟨Nat.le_of_ble_eq_true rfl, Nat.le_of_ble_eq_true rfl⟩ (fun rv w1 h1 => ?_)
            obtain ⟨rfl, rfl⟩ := h1
            refine G.aft [0, 1, 2] (ws' := [(o1, .inr (5, [.ref d1, .int (nI 9)])), (d1, .inr (12, [.ref d2])), (d2, aI k 81 (upd (fun j9 => nI ((ad (sb g c (4 * (g c / 4))) (c - 1) (g c / 4)) j9)) (c - 9) ((fun j9 => nI ((ad (sb g c (4 * (g c / 4))) (c - 1) (g c / 4)) j9)) (c - 9) + (nI (g c / 4)))))]) (st' := []) (cells' := 0) (slots' := 0) (g' := 0) (by decide) rfl rfl rfl rfl rfl ?_
            refine G.fn (fun j9 => nI ((ad (ad (sb g c (4 * (g c / 4))) (c - 1) (g c / 4)) (c - 9) (g c / 4)) j9)) 2 [(o1, .inr (5, [.ref d1, .int (nI 9)])), (d1, .inr (12, [.ref d2])), (d2, aI k 81 (fun j9 => nI ((ad (ad (sb g c (4 * (g c / 4))) (c - 1) (g c / 4)) (c - 9) (g c / 4)) j9)))] rfl (fun j hj => by exact ad_step _ _ _ j) rfl ?_
            refine g_iload_n (pc := 103) C 3 rfl rfl dX1_toppleCell_103 ?_
            refine g_aload_n (pc := 104) C 2 rfl rfl dX1_toppleCell_104 ?_
            refine g_callV (pc := 105) (cells := 0) (slots := 0) (g := 0) (As := []) (st := [.int (nI c)]) (T := TX1) (q0 := 0) C (nA := 0) rfl (c_X1_cellNumber o1 d1 (nI 9) ) q_434 q_235 q_233 q_182 q_232 (by decide +kernel) rfl rfl dX1_toppleCell_105 ⟨Nat.le_of_ble_eq_true rfl, Nat.le_of_ble_eq_true rfl⟩ [0] [1, 2] rfl (wr := [(d1, .inr (12, [.ref d2])), (d2, aI k 81 (fun j9 => nI ((ad (ad (sb g c (4 * (g c / 4))) (c - 1) (g c / 4)) (c - 9) (g c / 4)) j9)))]) rfl (by decide) (by decide) (by decide) (Nat.le_of_ble_eq_true rfl) ⟨Nat.le_of_ble_eq_true rfl, Nat.le_of_ble_eq_true rfl⟩ (fun rv w1 h1 => ?_)
            obtain ⟨rfl, rfl⟩ := h1
            refine G.aft [2, 0, 1] (ws' := [(o1, .inr (5, [.ref d1, .int (nI 9)])), (d1, .inr (12, [.ref d2])), (d2, aI k 81 (fun j9 => nI ((ad (ad (sb g c (4 * (g c / 4))) (c - 1) (g c / 4)) (c - 9) (g c / 4)) j9)))]) (st' := [.int ((nI 9) * (nI 9)), .int (nI c)]) (cells' := 0) (slots' := 0) (g' := 0) (by decide) rfl rfl rfl rfl rfl ?_
            refine g_aload_n (pc := 108) C 2 rfl rfl dX1_toppleCell_108 ?_
            refine g_get (pc := 109) C (T := TX1) inX1 0 rfl rfl 1 (by decide) q_131 rfl rfl dX1_toppleCell_109 ?_
            refine g_isub (pc := 112) C dX1_toppleCell_112 ?_
            refine G.eqs (st' := [.int (nI 72), .int (nI c)]) (congrArg (β := List Value) (fun z9 => [.int z9, .int (nI c)]) (show ((((nI 9) * (nI 9)) - (nI 9)) : Int32) = (nI 72) from by decide)) ?_
            refine g_icmp_ge (pc := 113) C 130 (by decide) dX1_toppleCell_113 (fun c_113 => ?_) (fun c_113 => ?_)
            · have k113 : 72 ≤ c := by rcases Nat.lt_or_ge (c) (72) with q | q; exact absurd (show nI (72) ≤ nI (c) from c_113) (nI_ge q (by omega)); exact q
              refine g_iload_n (pc := 130) C 1 rfl rfl dX1_toppleCell_130 ?_
              refine G.fn (fun j9 => nI (tpl 9 c (g c / 4) g j9)) 2 [(o1, .inr (5, [.ref d1, .int (nI 9)])), (d1, .inr (12, [.ref d2])), (d2, aI k 81 (fun j9 => nI (tpl 9 c (g c / 4) g j9)))] rfl (fun j hj => by exact congrArg nI (by simp only [ad, sb, tpl, nbr]; repeat' (first | omega | split))) rfl ?_
              exact g_iret (pc := 131) C hr hlk (by first | decide | omega) (by first | decide | omega) (by first | decide | omega) dX1_toppleCell_131 ⟨rfl, rfl⟩
            · have k113 : c < 72 := by rcases Nat.lt_or_ge (c) (72) with q | q; exact q; exact absurd (show nI (72) ≤ nI (c) from nI_le q (by omega)) c_113
              refine g_aload_n (pc := 116) C 2 rfl rfl dX1_toppleCell_116 ?_
              refine g_get (pc := 117) C (T := TX1) inX1 0 rfl rfl 0 (by decide) q_130 rfl rfl dX1_toppleCell_117 ?_
              refine g_iload_n (pc := 120) C 3 rfl rfl dX1_toppleCell_120 ?_
              refine g_aload_n (pc := 121) C 2 rfl rfl dX1_toppleCell_121 ?_
              refine g_get (pc := 122) C (T := TX1) inX1 0 rfl rfl 1 (by decide) q_131 rfl rfl dX1_toppleCell_122 ?_
              refine g_iadd (pc := 125) C dX1_toppleCell_125 ?_
              refine G.eqs (st' := [.int (nI (c + 9)), .ref d1]) (congrArg (β := List Value) (fun z9 => [.int z9, .ref d1]) (show (((nI c) + (nI 9)) : Int32) = (nI (c + 9)) from nI_add c 9)) ?_
              refine g_iload_n (pc := 126) C 1 rfl rfl dX1_toppleCell_126 ?_
              refine g_callV (pc := 127) (cells := 0) (slots := 0) (g := 0) (As := [.int (nI (c + 9)), .int (nI (g c / 4))]) (st := []) (T := TX8) (q0 := 1) C (nA := 2) rfl (c_X8_add_n d1 d2 81 (fun j9 => nI ((ad (ad (sb g c (4 * (g c / 4))) (c - 1) (g c / 4)) (c - 9) (g c / 4)) j9)) (c + 9) (nI (g c / 4)) (by first | assumption | decide | omega) (by first | assumption | decide | omega)) q_433 q_59 q_57 q_6 q_56 (by decide +kernel) rfl rfl dX1_toppleCell_127 ⟨Nat.le_of_ble_eq_true rfl, Nat.le_of_ble_eq_true rfl⟩ [1, 2] [0] rfl (wr := [(o1, .inr (5, [.ref d1, .int (nI 9)]))]) rfl (by decide) (by decide) (by decide) (Nat.le_of_ble_eq_true rfl) ⟨Nat.le_of_ble_eq_true rfl, Nat.le_of_ble_eq_true rfl⟩ (fun rv w1 h1 => ?_)
              obtain ⟨rfl, rfl⟩ := h1
              refine G.aft [0, 1, 2] (ws' := [(o1, .inr (5, [.ref d1, .int (nI 9)])), (d1, .inr (12, [.ref d2])), (d2, aI k 81 (upd (fun j9 => nI ((ad (ad (sb g c (4 * (g c / 4))) (c - 1) (g c / 4)) (c - 9) (g c / 4)) j9)) (c + 9) ((fun j9 => nI ((ad (ad (sb g c (4 * (g c / 4))) (c - 1) (g c / 4)) (c - 9) (g c / 4)) j9)) (c + 9) + (nI (g c / 4)))))]) (st' := []) (cells' := 0) (slots' := 0) (g' := 0) (by decide) rfl rfl rfl rfl rfl ?_
              refine G.fn (fun j9 => nI ((ad (ad (ad (sb g c (4 * (g c / 4))) (c - 1) (g c / 4)) (c - 9) (g c / 4)) (c + 9) (g c / 4)) j9)) 2 [(o1, .inr (5, [.ref d1, .int (nI 9)])), (d1, .inr (12, [.ref d2])), (d2, aI k 81 (fun j9 => nI ((ad (ad (ad (sb g c (4 * (g c / 4))) (c - 1) (g c / 4)) (c - 9) (g c / 4)) (c + 9) (g c / 4)) j9)))] rfl (fun j hj => by exact ad_step _ _ _ j) rfl ?_
              refine g_iload_n (pc := 130) C 1 rfl rfl dX1_toppleCell_130 ?_
              refine G.fn (fun j9 => nI (tpl 9 c (g c / 4) g j9)) 2 [(o1, .inr (5, [.ref d1, .int (nI 9)])), (d1, .inr (12, [.ref d2])), (d2, aI k 81 (fun j9 => nI (tpl 9 c (g c / 4) g j9)))] rfl (fun j hj => by exact congrArg nI (by simp only [ad, sb, tpl, nbr]; repeat' (first | omega | split))) rfl ?_
              exact g_iret (pc := 131) C hr hlk (by first | decide | omega) (by first | decide | omega) (by first | decide | omega) dX1_toppleCell_131 ⟨rfl, rfl⟩
        · have k67 : c % 9 < 8 := by rcases Nat.lt_or_ge (c % 9) (8) with q | q; exact q; exact absurd (show nI (8) ≤ nI (c % 9) from nI_le q (by omega)) c_67
          refine g_aload_n (pc := 70) C 2 rfl rfl dX1_toppleCell_70 ?_
          refine g_get (pc := 71) C (T := TX1) inX1 0 rfl rfl 0 (by decide) q_130 rfl rfl dX1_toppleCell_71 ?_
          refine g_iload_n (pc := 74) C 3 rfl rfl dX1_toppleCell_74 ?_
          refine g_iconst (pc := 75) (v := 1) C (by decide) dX1_toppleCell_75 ?_
          refine g_iadd (pc := 76) C dX1_toppleCell_76 ?_
          refine G.eqs (st' := [.int (nI (c + 1)), .ref d1]) (congrArg (β := List Value) (fun z9 => [.int z9, .ref d1]) (show (((nI c) + 1) : Int32) = (nI (c + 1)) from nI_1 c)) ?_
          refine g_iload_n (pc := 77) C 1 rfl rfl dX1_toppleCell_77 ?_
          refine g_callV (pc := 78) (cells := 0) (slots := 0) (g := 0) (As := [.int (nI (c + 1)), .int (nI (g c / 4))]) (st := []) (T := TX8) (q0 := 1) C (nA := 2) rfl (c_X8_add_n d1 d2 81 (fun j9 => nI ((ad (sb g c (4 * (g c / 4))) (c - 1) (g c / 4)) j9)) (c + 1) (nI (g c / 4)) (by first | assumption | decide | omega) (by first | assumption | decide | omega)) q_433 q_59 q_57 q_6 q_56 (by decide +kernel) rfl rfl dX1_toppleCell_78 ⟨Nat.le_of_ble_eq_true rfl, Nat.le_of_ble_eq_true rfl⟩ [1, 2] [0] rfl (wr := [(o1, .inr (5, [.ref d1, .int (nI 9)]))]) rfl (by decide) (by decide) (by decide) (Nat.le_of_ble_eq_true rfl) ⟨Nat.le_of_ble_eq_true rfl, Nat.le_of_ble_eq_true rfl⟩ (fun rv w1 h1 => ?_)
          obtain ⟨rfl, rfl⟩ := h1
          refine G.aft [0, 1, 2] (ws' := [(o1, .inr (5, [.ref d1, .int (nI 9)])), (d1, .inr (12, [.ref d2])), (d2, aI k 81 (upd (fun j9 => nI ((ad (sb g c (4 * (g c / 4))) (c - 1) (g c / 4)) j9)) (c + 1) ((fun j9 => nI ((ad (sb g c (4 * (g c / 4))) (c - 1) (g c / 4)) j9)) (c + 1) + (nI (g c / 4)))))]) (st' := []) (cells' := 0) (slots' := 0) (g' := 0) (by decide) rfl rfl rfl rfl rfl ?_
          refine G.fn (fun j9 => nI ((ad (ad (sb g c (4 * (g c / 4))) (c - 1) (g c / 4)) (c + 1) (g c / 4)) j9)) 2 [(o1, .inr (5, [.ref d1, .int (nI 9)])), (d1, .inr (12, [.ref d2])), (d2, aI k 81 (fun j9 => nI ((ad (ad (sb g c (4 * (g c / 4))) (c - 1) (g c / 4)) (c + 1) (g c / 4)) j9)))] rfl (fun j hj => by exact ad_step _ _ _ j) rfl ?_
          refine g_iload_n (pc := 81) C 3 rfl rfl dX1_toppleCell_81 ?_
          refine g_aload_n (pc := 82) C 2 rfl rfl dX1_toppleCell_82 ?_
          refine g_get (pc := 83) C (T := TX1) inX1 0 rfl rfl 1 (by decide) q_131 rfl rfl dX1_toppleCell_83 ?_
          refine g_icmp_lt (pc := 86) C 103 (by decide) dX1_toppleCell_86 (fun c_86 => ?_) (fun c_86 => ?_)
          · have k86 : c < 9 := by rcases Nat.lt_or_ge (c) (9) with q | q; exact q; exact absurd c_86 (nI_nlt q (by omega))
            refine g_iload_n (pc := 103) C 3 rfl rfl dX1_toppleCell_103 ?_
            refine g_aload_n (pc := 104) C 2 rfl rfl dX1_toppleCell_104 ?_
            refine g_callV (pc := 105) (cells := 0) (slots := 0) (g := 0) (As := []) (st := [.int (nI c)]) (T := TX1) (q0 := 0) C (nA := 0) rfl (c_X1_cellNumber o1 d1 (nI 9) ) q_434 q_235 q_233 q_182 q_232 (by decide +kernel) rfl rfl dX1_toppleCell_105 ⟨Nat.le_of_ble_eq_true rfl, Nat.le_of_ble_eq_true rfl⟩ [0] [1, 2] rfl (wr := [(d1, .inr (12, [.ref d2])), (d2, aI k 81 (fun j9 => nI ((ad (ad (sb g c (4 * (g c / 4))) (c - 1) (g c / 4)) (c + 1) (g c / 4)) j9)))]) rfl (by decide) (by decide) (by decide) (Nat.le_of_ble_eq_true rfl) ⟨Nat.le_of_ble_eq_true rfl, Nat.le_of_ble_eq_true rfl⟩ (fun rv w1 h1 => ?_)
            obtain ⟨rfl, rfl⟩ := h1
            refine G.aft [2, 0, 1] (ws' := [(o1, .inr (5, [.ref d1, .int (nI 9)])), (d1, .inr (12, [.ref d2])), (d2, aI k 81 (fun j9 => nI ((ad (ad (sb g c (4 * (g c / 4))) (c - 1) (g c / 4)) (c + 1) (g c / 4)) j9)))]) (st' := [.int ((nI 9) * (nI 9)), .int (nI c)]) (cells' := 0) (slots' := 0) (g' := 0) (by decide) rfl rfl rfl rfl rfl ?_
            refine g_aload_n (pc := 108) C 2 rfl rfl dX1_toppleCell_108 ?_
            refine g_get (pc := 109) C (T := TX1) inX1 0 rfl rfl 1 (by decide) q_131 rfl rfl dX1_toppleCell_109 ?_
            refine g_isub (pc := 112) C dX1_toppleCell_112 ?_
            refine G.eqs (st' := [.int (nI 72), .int (nI c)]) (congrArg (β := List Value) (fun z9 => [.int z9, .int (nI c)]) (show ((((nI 9) * (nI 9)) - (nI 9)) : Int32) = (nI 72) from by decide)) ?_
            refine g_icmp_ge (pc := 113) C 130 (by decide) dX1_toppleCell_113 (fun c_113 => ?_) (fun c_113 => ?_)
            · have k113 : 72 ≤ c := by rcases Nat.lt_or_ge (c) (72) with q | q; exact absurd (show nI (72) ≤ nI (c) from c_113) (nI_ge q (by omega)); exact q
              refine g_iload_n (pc := 130) C 1 rfl rfl dX1_toppleCell_130 ?_
              refine G.fn (fun j9 => nI (tpl 9 c (g c / 4) g j9)) 2 [(o1, .inr (5, [.ref d1, .int (nI 9)])), (d1, .inr (12, [.ref d2])), (d2, aI k 81 (fun j9 => nI (tpl 9 c (g c / 4) g j9)))] rfl (fun j hj => by exact congrArg nI (by simp only [ad, sb, tpl, nbr]; repeat' (first | omega | split))) rfl ?_
              exact g_iret (pc := 131) C hr hlk (by first | decide | omega) (by first | decide | omega) (by first | decide | omega) dX1_toppleCell_131 ⟨rfl, rfl⟩
            · have k113 : c < 72 := by rcases Nat.lt_or_ge (c) (72) with q | q; exact q; exact absurd (show nI (72) ≤ nI (c) from nI_le q (by omega)) c_113
              refine g_aload_n (pc := 116) C 2 rfl rfl dX1_toppleCell_116 ?_
              refine g_get (pc := 117) C (T := TX1) inX1 0 rfl rfl 0 (by decide) q_130 rfl rfl dX1_toppleCell_117 ?_
              refine g_iload_n (pc := 120) C 3 rfl rfl dX1_toppleCell_120 ?_
              refine g_aload_n (pc := 121) C 2 rfl rfl dX1_toppleCell_121 ?_
              refine g_get (pc := 122) C (T := TX1) inX1 0 rfl rfl 1 (by decide) q_131 rfl rfl dX1_toppleCell_122 ?_
              refine g_iadd (pc := 125) C dX1_toppleCell_125 ?_
              refine G.eqs (st' := [.int (nI (c + 9)), .ref d1]) (congrArg (β := List Value) (fun z9 => [.int z9, .ref d1]) (show (((nI c) + (nI 9)) : Int32) = (nI (c + 9)) from nI_add c 9)) ?_
              refine g_iload_n (pc := 126) C 1 rfl rfl dX1_toppleCell_126 ?_
              refine g_callV (pc := 127) (cells := 0) (slots := 0) (g := 0) (As := [.int (nI (c + 9)), .int (nI (g c / 4))]) (st := []) (T := TX8) (q0 := 1) C (nA := 2) rfl (c_X8_add_n d1 d2 81 (fun j9 => nI ((ad (ad (sb g c (4 * (g c / 4))) (c - 1) (g c / 4)) (c + 1) (g c / 4)) j9)) (c + 9) (nI (g c / 4)) (by first | assumption | decide | omega) (by first | assumption | decide | omega)) q_433 q_59 q_57 q_6 q_56 (by decide +kernel) rfl rfl dX1_toppleCell_127 ⟨Nat.le_of_ble_eq_true rfl, Nat.le_of_ble_eq_true rfl⟩ [1, 2] [0] rfl (wr := [(o1, .inr (5, [.ref d1, .int (nI 9)]))]) rfl (by decide) (by decide) (by decide) (Nat.le_of_ble_eq_true rfl) ⟨Nat.le_of_ble_eq_true rfl, Nat.le_of_ble_eq_true rfl⟩ (fun rv w1 h1 => ?_)
              obtain ⟨rfl, rfl⟩ := h1
              refine G.aft [0, 1, 2] (ws' := [(o1, .inr (5, [.ref d1, .int (nI 9)])), (d1, .inr (12, [.ref d2])), (d2, aI k 81 (upd (fun j9 => nI ((ad (ad (sb g c (4 * (g c / 4))) (c - 1) (g c / 4)) (c + 1) (g c / 4)) j9)) (c + 9) ((fun j9 => nI ((ad (ad (sb g c (4 * (g c / 4))) (c - 1) (g c / 4)) (c + 1) (g c / 4)) j9)) (c + 9) + (nI (g c / 4)))))]) (st' := []) (cells' := 0) (slots' := 0) (g' := 0) (by decide) rfl rfl rfl rfl rfl ?_
              refine G.fn (fun j9 => nI ((ad (ad (ad (sb g c (4 * (g c / 4))) (c - 1) (g c / 4)) (c + 1) (g c / 4)) (c + 9) (g c / 4)) j9)) 2 [(o1, .inr (5, [.ref d1, .int (nI 9)])), (d1, .inr (12, [.ref d2])), (d2, aI k 81 (fun j9 => nI ((ad (ad (ad (sb g c (4 * (g c / 4))) (c - 1) (g c / 4)) (c + 1) (g c / 4)) (c + 9) (g c / 4)) j9)))] rfl (fun j hj => by exact ad_step _ _ _ j) rfl ?_
              refine g_iload_n (pc := 130) C 1 rfl rfl dX1_toppleCell_130 ?_
              refine G.fn (fun j9 => nI (tpl 9 c (g c / 4) g j9)) 2 [(o1, .inr (5, [.ref d1, .int (nI 9)])), (d1, .inr (12, [.ref d2])), (d2, aI k 81 (fun j9 => nI (tpl 9 c (g c / 4) g j9)))] rfl (fun j hj => by exact congrArg nI (by simp only [ad, sb, tpl, nbr]; repeat' (first | omega | split))) rfl ?_
              exact g_iret (pc := 131) C hr hlk (by first | decide | omega) (by first | decide | omega) (by first | decide | omega) dX1_toppleCell_131 ⟨rfl, rfl⟩
          · have k86 : 9 ≤ c := by rcases Nat.lt_or_ge (c) (9) with q | q; exact absurd (nI_lt q (by omega)) c_86; exact q
            refine g_aload_n (pc := 89) C 2 rfl rfl dX1_toppleCell_89 ?_
            refine g_get (pc := 90) C (T := TX1) inX1 0 rfl rfl 0 (by decide) q_130 rfl rfl dX1_toppleCell_90 ?_
            refine g_iload_n (pc := 93) C 3 rfl rfl dX1_toppleCell_93 ?_
            refine g_aload_n (pc := 94) C 2 rfl rfl dX1_toppleCell_94 ?_
            refine g_get (pc := 95) C (T := TX1) inX1 0 rfl rfl 1 (by decide) q_131 rfl rfl dX1_toppleCell_95 ?_
            refine g_isub (pc := 98) C dX1_toppleCell_98 ?_
            refine G.eqs (st' := [.int (nI (c - 9)), .ref d1]) (congrArg (β := List Value) (fun z9 => [.int z9, .ref d1]) (show (((nI c) - (nI 9)) : Int32) = (nI (c - 9)) from pk_sub (by omega))) ?_
            refine g_iload_n (pc := 99) C 1 rfl rfl dX1_toppleCell_99 ?_
            refine g_callV (pc := 100) (cells := 0) (slots := 0) (g := 0) (As := [.int (nI (c - 9)), .int (nI (g c / 4))]) (st := []) (T := TX8) (q0 := 1) C (nA := 2) rfl (c_X8_add_n d1 d2 81 (fun j9 => nI ((ad (ad (sb g c (4 * (g c / 4))) (c - 1) (g c / 4)) (c + 1) (g c / 4)) j9)) (c - 9) (nI (g c / 4)) (by first | assumption | decide | omega) (by first | assumption | decide | omega)) q_433 q_59 q_57 q_6 q_56 (by decide +kernel) rfl rfl dX1_toppleCell_100 ⟨Nat.le_of_ble_eq_true rfl, Nat.le_of_ble_eq_true rfl⟩ [1, 2] [0] rfl (wr := [(o1, .inr (5, [.ref d1, .int (nI 9)]))]) rfl (by decide) (by decide) (by decide) (Nat.le_of_ble_eq_true rfl) ⟨Nat.le_of_ble_eq_true rfl, Nat.le_of_ble_eq_true rfl⟩ (fun rv w1 h1 => ?_)
            obtain ⟨rfl, rfl⟩ := h1
            refine G.aft [0, 1, 2] (ws' := [(o1, .inr (5, [.ref d1, .int (nI 9)])), (d1, .inr (12, [.ref d2])), (d2, aI k 81 (upd (fun j9 => nI ((ad (ad (sb g c (4 * (g c / 4))) (c - 1) (g c / 4)) (c + 1) (g c / 4)) j9)) (c - 9) ((fun j9 => nI ((ad (ad (sb g c (4 * (g c / 4))) (c - 1) (g c / 4)) (c + 1) (g c / 4)) j9)) (c - 9) + (nI (g c / 4)))))]) (st' := []) (cells' := 0) (slots' := 0) (g' := 0) (by decide) rfl rfl rfl rfl rfl ?_
            refine G.fn (fun j9 => nI ((ad (ad (ad (sb g c (4 * (g c / 4))) (c - 1) (g c / 4)) (c + 1) (g c / 4)) (c - 9) (g c / 4)) j9)) 2 [(o1, .inr (5, [.ref d1, .int (nI 9)])), (d1, .inr (12, [.ref d2])), (d2, aI k 81 (fun j9 => nI ((ad (ad (ad (sb g c (4 * (g c / 4))) (c - 1) (g c / 4)) (c + 1) (g c / 4)) (c - 9) (g c / 4)) j9)))] rfl (fun j hj => by exact ad_step _ _ _ j) rfl ?_
            refine g_iload_n (pc := 103) C 3 rfl rfl dX1_toppleCell_103 ?_
            refine g_aload_n (pc := 104) C 2 rfl rfl dX1_toppleCell_104 ?_
            refine g_callV (pc := 105) (cells := 0) (slots := 0) (g := 0) (As := []) (st := [.int (nI c)]) (T := TX1) (q0 := 0) C (nA := 0) rfl (c_X1_cellNumber o1 d1 (nI 9) ) q_434 q_235 q_233 q_182 q_232 (by decide +kernel) rfl rfl dX1_toppleCell_105 ⟨Nat.le_of_ble_eq_true rfl, Nat.le_of_ble_eq_true rfl⟩ [0] [1, 2] rfl (wr := [(d1, .inr (12, [.ref d2])), (d2, aI k 81 (fun j9 => nI ((ad (ad (ad (sb g c (4 * (g c / 4))) (c - 1) (g c / 4)) (c + 1) (g c / 4)) (c - 9) (g c / 4)) j9)))]) rfl (by decide) (by decide) (by decide) (Nat.le_of_ble_eq_true rfl) ⟨Nat.le_of_ble_eq_true rfl, Nat.le_of_ble_eq_true rfl⟩ (fun rv w1 h1 => ?_)
            obtain ⟨rfl, rfl⟩ := h1
            refine G.aft [2, 0, 1] (ws' := [(o1, .inr (5, [.ref d1, .int (nI 9)])), (d1, .inr (12, [.ref d2])), (d2, aI k 81 (fun j9 => nI ((ad (ad (ad (sb g c (4 * (g c / 4))) (c - 1) (g c / 4)) (c + 1) (g c / 4)) (c - 9) (g c / 4)) j9)))]) (st' := [.int ((nI 9) * (nI 9)), .int (nI c)]) (cells' := 0) (slots' := 0) (g' := 0) (by decide) rfl rfl rfl rfl rfl ?_
            refine g_aload_n (pc := 108) C 2 rfl rfl dX1_toppleCell_108 ?_
            refine g_get (pc := 109) C (T := TX1) inX1 0 rfl rfl 1 (by decide) q_131 rfl rfl dX1_toppleCell_109 ?_
            refine g_isub (pc := 112) C dX1_toppleCell_112 ?_
            refine G.eqs (st' := [.int (nI 72), .int (nI c)]) (congrArg (β := List Value) (fun z9 => [.int z9, .int (nI c)]) (show ((((nI 9) * (nI 9)) - (nI 9)) : Int32) = (nI 72) from by decide)) ?_
            refine g_icmp_ge (pc := 113) C 130 (by decide) dX1_toppleCell_113 (fun c_113 => ?_) (fun c_113 => ?_)
            · have k113 : 72 ≤ c := by rcases Nat.lt_or_ge (c) (72) with q | q; exact absurd (show nI (72) ≤ nI (c) from c_113) (nI_ge q (by omega)); exact q
              refine g_iload_n (pc := 130) C 1 rfl rfl dX1_toppleCell_130 ?_
              refine G.fn (fun j9 => nI (tpl 9 c (g c / 4) g j9)) 2 [(o1, .inr (5, [.ref d1, .int (nI 9)])), (d1, .inr (12, [.ref d2])), (d2, aI k 81 (fun j9 => nI (tpl 9 c (g c / 4) g j9)))] rfl (fun j hj => by exact congrArg nI (by simp only [ad, sb, tpl, nbr]; repeat' (first | omega | split))) rfl ?_
              exact g_iret (pc := 131) C hr hlk (by first | decide | omega) (by first | decide | omega) (by first | decide | omega) dX1_toppleCell_131 ⟨rfl, rfl⟩
            · have k113 : c < 72 := by rcases Nat.lt_or_ge (c) (72) with q | q; exact q; exact absurd (show nI (72) ≤ nI (c) from nI_le q (by omega)) c_113
              refine g_aload_n (pc := 116) C 2 rfl rfl dX1_toppleCell_116 ?_
              refine g_get (pc := 117) C (T := TX1) inX1 0 rfl rfl 0 (by decide) q_130 rfl rfl dX1_toppleCell_117 ?_
              refine g_iload_n (pc := 120) C 3 rfl rfl dX1_toppleCell_120 ?_
              refine g_aload_n (pc := 121) C 2 rfl rfl dX1_toppleCell_121 ?_
              refine g_get (pc := 122) C (T := TX1) inX1 0 rfl rfl 1 (by decide) q_131 rfl rfl dX1_toppleCell_122 ?_
              refine g_iadd (pc := 125) C dX1_toppleCell_125 ?_
              refine G.eqs (st' := [.int (nI (c + 9)), .ref d1]) (congrArg (β := List Value) (fun z9 => [.int z9, .ref d1]) (show (((nI c) + (nI 9)) : Int32) = (nI (c + 9)) from nI_add c 9)) ?_
              refine g_iload_n (pc := 126) C 1 rfl rfl dX1_toppleCell_126 ?_
              refine g_callV (pc := 127) (cells := 0) (slots := 0) (g := 0) (As := [.int (nI (c + 9)), .int (nI (g c / 4))]) (st := []) (T := TX8) (q0 := 1) C (nA := 2) rfl (c_X8_add_n d1 d2 81 (fun j9 => nI ((ad (ad (ad (sb g c (4 * (g c / 4))) (c - 1) (g c / 4)) (c + 1) (g c / 4)) (c - 9) (g c / 4)) j9)) (c + 9) (nI (g c / 4)) (by first | assumption | decide | omega) (by first | assumption | decide | omega)) q_433 q_59 q_57 q_6 q_56 (by decide +kernel) rfl rfl dX1_toppleCell_127 ⟨Nat.le_of_ble_eq_true rfl, Nat.le_of_ble_eq_true rfl⟩ [1, 2] [0] rfl (wr := [(o1, .inr (5, [.ref d1, .int (nI 9)]))]) rfl (by decide) (by decide) (by decide) (Nat.le_of_ble_eq_true rfl) ⟨Nat.le_of_ble_eq_true rfl, Nat.le_of_ble_eq_true rfl⟩ (fun rv w1 h1 => ?_)
              obtain ⟨rfl, rfl⟩ := h1
              refine G.aft [0, 1, 2] (ws' := [(o1, .inr (5, [.ref d1, .int (nI 9)])), (d1, .inr (12, [.ref d2])), (d2, aI k 81 (upd (fun j9 => nI ((ad (ad (ad (sb g c (4 * (g c / 4))) (c - 1) (g c / 4)) (c + 1) (g c / 4)) (c - 9) (g c / 4)) j9)) (c + 9) ((fun j9 => nI ((ad (ad (ad (sb g c (4 * (g c / 4))) (c - 1) (g c / 4)) (c + 1) (g c / 4)) (c - 9) (g c / 4)) j9)) (c + 9) + (nI (g c / 4)))))]) (st' := []) (cells' := 0) (slots' := 0) (g' := 0) (by decide) rfl rfl rfl rfl rfl ?_
              refine G.fn (fun j9 => nI ((ad (ad (ad (ad (sb g c (4 * (g c / 4))) (c - 1) (g c / 4)) (c + 1) (g c / 4)) (c - 9) (g c / 4)) (c + 9) (g c / 4)) j9)) 2 [(o1, .inr (5, [.ref d1, .int (nI 9)])), (d1, .inr (12, [.ref d2])), (d2, aI k 81 (fun j9 => nI ((ad (ad (ad (ad (sb g c (4 * (g c / 4))) (c - 1) (g c / 4)) (c + 1) (g c / 4)) (c - 9) (g c / 4)) (c + 9) (g c / 4)) j9)))] rfl (fun j hj => by exact ad_step _ _ _ j) rfl ?_
              refine g_iload_n (pc := 130) C 1 rfl rfl dX1_toppleCell_130 ?_
              refine G.fn (fun j9 => nI (tpl 9 c (g c / 4) g j9)) 2 [(o1, .inr (5, [.ref d1, .int (nI 9)])), (d1, .inr (12, [.ref d2])), (d2, aI k 81 (fun j9 => nI (tpl 9 c (g c / 4) g j9)))] rfl (fun j hj => by exact congrArg nI (by simp only [ad, sb, tpl, nbr]; repeat' (first | omega | split))) rfl ?_
              exact g_iret (pc := 131) C hr hlk (by first | decide | omega) (by first | decide | omega) (by first | decide | omega) dX1_toppleCell_131 ⟨rfl, rfl⟩
    · exact absurd c_21 (by decide)
set_option maxRecDepth 100000 in
set_option maxHeartbeats 400000 in
theorem c_X1_draw_s9 {l : Launch} {D : va_G} {k : Nat → ClassId} (o1 : Nat) (d1 : Nat) (d2 : Nat) (wd : Int32) (f0 : Nat → Int32) (m : Nat) (hmm : m ≤ 300) : CM l D k yX1_draw cX1_draw 7 (some .int)  2 45 [.ref o1, .int (nI 9), .int (nI m)] [(o1, .inr (5, [.ref d1, .int wd])), (d1, .inr (12, [.ref d2])), (d2, aI k 81 f0)] (fun rv9 w9 => rv9 = (some (.int (nI (picN 9 (fm 9 m))))) ∧ ∃ (gg : Nat → Int32), w9 = [(o1, .inr (5, [.ref d1, .int (nI 9)])), (d1, .inr (12, [.ref d2])), (d2, aI k 81 gg)]) 0 0 0 := by
  refine CM.of (lv0 := [(0, .ref o1), (1, .int (nI 9)), (2, .int (nI m))]) (by decide +kernel) (Nat.le_of_ble_eq_true rfl) rfl ?_
  intro p9 e9 s9 m9 bl9 me9 co9 C hr hlk hin had
  refine g_aload_n (pc := 0) C 0 rfl rfl dX1_draw_0 ?_
  refine g_iload_n (pc := 1) C 1 rfl rfl dX1_draw_1 ?_
  refine g_put (pc := 2) C (T := TX1) inX1 0 rfl rfl 1 (by decide) q_131 rfl tyX1 tyX1_ok nmX1 rfl [(o1, .inr (5, [.ref d1, .int (nI 9)])), (d1, .inr (12, [.ref d2])), (d2, aI k 81 f0)] (tyX1_ok 1 (by decide)) rfl (by rfl) (Nat.le_of_ble_eq_true rfl) rfl dX1_draw_2 ?_
  refine g_aload_n (pc := 5) C 0 rfl rfl dX1_draw_5 ?_
  refine g_get (pc := 6) C (T := TX1) inX1 0 rfl rfl 0 (by decide) q_130 rfl rfl dX1_draw_6 ?_
  refine g_iconst (pc := 9) (v := 0) C (by decide) dX1_draw_9 ?_
  refine g_callV (pc := 10) (cells := 0) (slots := 0) (g := 0) (As := [.int 0]) (st := []) (T := TX8) (q0 := 1) C (nA := 1) rfl (c_X8_fill d1 d2 81 f0 0 (by first | assumption | decide | omega)) q_435 q_41 q_39 q_6 q_38 (by decide +kernel) rfl rfl dX1_draw_10 ⟨Nat.le_of_ble_eq_true rfl, Nat.le_of_ble_eq_true rfl⟩ [1, 2] [0] rfl (wr := [(o1, .inr (5, [.ref d1, .int (nI 9)]))]) rfl (by decide) (by decide) (by decide) (Nat.le_of_ble_eq_true rfl) ⟨Nat.le_of_ble_eq_true rfl, Nat.le_of_ble_eq_true rfl⟩ (fun rv w1 h1 => ?_)
  obtain ⟨rfl, rfl⟩ := h1
  refine G.aft [0, 1, 2] (ws' := [(o1, .inr (5, [.ref d1, .int (nI 9)])), (d1, .inr (12, [.ref d2])), (d2, aI k 81 (fun _ => 0))]) (st' := []) (cells' := 0) (slots' := 0) (g' := 0) (by decide) rfl rfl rfl rfl rfl ?_
  refine g_aload_n (pc := 13) C 0 rfl rfl dX1_draw_13 ?_
  refine g_get (pc := 14) C (T := TX1) inX1 0 rfl rfl 0 (by decide) q_130 rfl rfl dX1_draw_14 ?_
  refine g_aload_n (pc := 17) C 0 rfl rfl dX1_draw_17 ?_
  refine g_callV (pc := 18) (cells := 0) (slots := 0) (g := 0) (As := []) (st := [.ref d1]) (T := TX1) (q0 := 0) C (nA := 0) rfl (c_X1_cellNumber o1 d1 (nI 9) ) q_434 q_235 q_233 q_182 q_232 (by decide +kernel) rfl rfl dX1_draw_18 ⟨Nat.le_of_ble_eq_true rfl, Nat.le_of_ble_eq_true rfl⟩ [0] [1, 2] rfl (wr := [(d1, .inr (12, [.ref d2])), (d2, aI k 81 (fun _ => 0))]) rfl (by decide) (by decide) (by decide) (Nat.le_of_ble_eq_true rfl) ⟨Nat.le_of_ble_eq_true rfl, Nat.le_of_ble_eq_true rfl⟩ (fun rv w1 h1 => ?_)
  obtain ⟨rfl, rfl⟩ := h1
  refine G.aft [2, 0, 1] (ws' := [(o1, .inr (5, [.ref d1, .int (nI 9)])), (d1, .inr (12, [.ref d2])), (d2, aI k 81 (fun _ => 0))]) (st' := [.int ((nI 9) * (nI 9)), .ref d1]) (cells' := 0) (slots' := 0) (g' := 0) (by decide) rfl rfl rfl rfl rfl ?_
  refine g_iconst (pc := 21) (v := 2) C (by decide) dX1_draw_21 ?_
  refine g_idiv (pc := 22) C (by first | assumption | decide) dX1_draw_22 ?_
  refine G.eqs (st' := [.int (nI 40), .ref d1]) (congrArg (β := List Value) (fun z9 => [.int z9, .ref d1]) (show ((((nI 9) * (nI 9)) / 2) : Int32) = (nI 40) from by decide)) ?_
  refine g_iload_n (pc := 23) C 2 rfl rfl dX1_draw_23 ?_
  refine g_callV (pc := 24) (cells := 0) (slots := 0) (g := 0) (As := [.int (nI 40), .int (nI m)]) (st := []) (T := TX8) (q0 := 1) C (nA := 2) rfl (c_X8_write_n d1 d2 81 (fun _ => 0) 40 (nI m) (by first | assumption | decide | omega) (by first | assumption | decide | omega)) q_438 q_439 q_437 q_6 q_436 (by decide +kernel) rfl rfl dX1_draw_24 ⟨Nat.le_of_ble_eq_true rfl, Nat.le_of_ble_eq_true rfl⟩ [1, 2] [0] rfl (wr := [(o1, .inr (5, [.ref d1, .int (nI 9)]))]) rfl (by decide) (by decide) (by decide) (Nat.le_of_ble_eq_true rfl) ⟨Nat.le_of_ble_eq_true rfl, Nat.le_of_ble_eq_true rfl⟩ (fun rv w1 h1 => ?_)
  obtain ⟨rfl, rfl⟩ := h1
  refine G.aft [0, 1, 2] (ws' := [(o1, .inr (5, [.ref d1, .int (nI 9)])), (d1, .inr (12, [.ref d2])), (d2, aI k 81 (upd (fun _ => 0) 40 (nI m)))]) (st' := []) (cells' := 0) (slots' := 0) (g' := 0) (by decide) rfl rfl rfl rfl rfl ?_
  refine G.fn (fun j9 => nI ((fm 9 m) j9)) 2 [(o1, .inr (5, [.ref d1, .int (nI 9)])), (d1, .inr (12, [.ref d2])), (d2, aI k 81 (fun j9 => nI ((fm 9 m) j9)))] rfl (fun j hj => by { show upd (fun _ => 0) 40 (nI m) j = nI (if j = 40 then m else 0); unfold upd; by_cases h : j = 40 <;> simp [h, nI_0] }) rfl ?_
  refine g_iconst (pc := 27) (v := 0) C (by decide) dX1_draw_27 ?_
  refine g_istore_n (pc := 28) C [(3, .int 0), (0, .ref o1), (1, .int (nI 9)), (2, .int (nI m))] rfl dX1_draw_28 (by decide) rfl ?_
  refine g_iconst (pc := 29) (v := 0) C (by decide) dX1_draw_29 ?_
  refine g_istore (pc := 30) C [(4, .int 0), (3, .int 0), (0, .ref o1), (1, .int (nI 9)), (2, .int (nI m))] dX1_draw_30 (by decide) rfl ?_
  have key_32 : ∀ (fuel : Nat) (r : Nat) (g : Nat → Nat) (v : Nat → Nat), Went 9 (fm 9 m) g v → r ≤ sumN v (9 * 9) → 1521 - sumN v (9 * 9) < fuel → G p9 l e9 { frames := 2, cells := 0, slots := 0, locals := 45 } s9 m9 ([.ref o1, .int (nI 9), .int (nI m)] : List Value).toArray bl9 me9 co9 D 7 (va_A [(o1, .inr (5, [.ref d1, .int wd])), (d1, .inr (12, [.ref d2])), (d2, aI k 81 f0)] s9.heap.size) (QM bl9 D ([.ref o1, .int (nI 9), .int (nI m)] : List Value).toArray s9 [(o1, .inr (5, [.ref d1, .int wd])), (d1, .inr (12, [.ref d2])), (d2, aI k 81 f0)] (fun rv9 w9 => rv9 = (some (.int (nI (picN 9 (fm 9 m))))) ∧ ∃ (gg : Nat → Int32), w9 = [(o1, .inr (5, [.ref d1, .int (nI 9)])), (d1, .inr (12, [.ref d2])), (d2, aI k 81 gg)]) 0 0 0) [(o1, .inr (5, [.ref d1, .int (nI 9)])), (d1, .inr (12, [.ref d2])), (d2, aI k 81 (fun j9 => nI (g j9)))] [(0, .ref o1), (1, .int (nI 9)), (2, .int (nI m)), (3, .int (nI (sumN v (9 * 9)))), (4, .int (nI r))] 0 0 0 32 [] := by
    intro fuel
    induction fuel with
    | zero => intro r g v hW hrr hm; exact absurd hm (Nat.not_lt_zero _)
    | succ fuel ih =>
      intro r g v hW hrr hm
      have ih_32 := ih
      have hsum := went_sum hmm hW pw9_s
      rw [pw9_n] at hsum
      refine g_iload (pc := 32) C 4 rfl dX1_draw_32 ?_
      refine g_ldc (pc := 34) C (v := 1000000) q_440 dX1_draw_34 ?_
      refine g_icmp_ge (pc := 36) C 83 (by decide) dX1_draw_36 (fun c_36 => ?_) (fun c_36 => ?_)
      · exact absurd (show nI 1000000 ≤ nI r from c_36) (nI_ge (by omega) (by decide))
      · refine g_iload_n (pc := 39) C 3 rfl rfl dX1_draw_39 ?_
        refine g_istore (pc := 40) C [(5, .int (nI (sumN v (9 * 9)))), (0, .ref o1), (1, .int (nI 9)), (2, .int (nI m)), (3, .int (nI (sumN v (9 * 9)))), (4, .int (nI r))] dX1_draw_40 (by decide) rfl ?_
        refine g_iconst (pc := 42) (v := 0) C (by decide) dX1_draw_42 ?_
        refine g_istore (pc := 43) C [(6, .int 0), (5, .int (nI (sumN v (9 * 9)))), (0, .ref o1), (1, .int (nI 9)), (2, .int (nI m)), (3, .int (nI (sumN v (9 * 9)))), (4, .int (nI r))] dX1_draw_43 (by decide) rfl ?_
        have key_45 : ∀ (fuel : Nat) (c : Nat) (g2 : Nat → Nat) (v2 : Nat → Nat), Went 9 (fm 9 m) g2 v2 → c ≤ 81 → sumN v (9 * 9) ≤ sumN v2 (9 * 9) → (sumN v2 (9 * 9) = sumN v (9 * 9) → ∀ j, j < c → g2 j < 4) → 81 - c < fuel → G p9 l e9 { frames := 2, cells := 0, slots := 0, locals := 45 } s9 m9 ([.ref o1, .int (nI 9), .int (nI m)] : List Value).toArray bl9 me9 co9 D 7 (va_A [(o1, .inr (5, [.ref d1, .int wd])), (d1, .inr (12, [.ref d2])), (d2, aI k 81 f0)] s9.heap.size) (QM bl9 D ([.ref o1, .int (nI 9), .int (nI m)] : List Value).toArray s9 [(o1, .inr (5, [.ref d1, .int wd])), (d1, .inr (12, [.ref d2])), (d2, aI k 81 f0)] (fun rv9 w9 => rv9 = (some (.int (nI (picN 9 (fm 9 m))))) ∧ ∃ (gg : Nat → Int32), w9 = [(o1, .inr (5, [.ref d1, .int (nI 9)])), (d1, .inr (12, [.ref d2])), (d2, aI k 81 gg)]) 0 0 0) [(o1, .inr (5, [.ref d1, .int (nI 9)])), (d1, .inr (12, [.ref d2])), (d2, aI k 81 (fun j9 => nI (g2 j9)))] [(0, .ref o1), (1, .int (nI 9)), (2, .int (nI m)), (3, .int (nI (sumN v2 (9 * 9)))), (4, .int (nI r)), (5, .int (nI (sumN v (9 * 9)))), (6, .int (nI c))] 0 0 0 45 [] := by
          intro fuel
          induction fuel with
          | zero => intro c g2 v2 hW2 hc hs hq hm; exact absurd hm (Nat.not_lt_zero _)
          | succ fuel ih =>
            intro c g2 v2 hW2 hc hs hq hm
            have ih_45 := ih
            have hsum2 := went_sum hmm hW2 pw9_s
            rw [pw9_n] at hsum2
            refine g_iload (pc := 45) C 6 rfl dX1_draw_45 ?_
            refine g_aload_n (pc := 47) C 0 rfl rfl dX1_draw_47 ?_
            refine g_callV (pc := 48) (cells := 0) (slots := 0) (g := 0) (As := []) (st := [.int (nI c)]) (T := TX1) (q0 := 0) C (nA := 0) rfl (c_X1_cellNumber o1 d1 (nI 9) ) q_434 q_235 q_233 q_182 q_232 (by decide +kernel) rfl rfl dX1_draw_48 ⟨Nat.le_of_ble_eq_true rfl, Nat.le_of_ble_eq_true rfl⟩ [0] [1, 2] rfl (wr := [(d1, .inr (12, [.ref d2])), (d2, aI k 81 (fun j9 => nI (g2 j9)))]) rfl (by decide) (by decide) (by decide) (Nat.le_of_ble_eq_true rfl) ⟨Nat.le_of_ble_eq_true rfl, Nat.le_of_ble_eq_true rfl⟩ (fun rv w1 h1 => ?_)
            obtain ⟨rfl, rfl⟩ := h1
            refine G.aft [2, 0, 1] (ws' := [(o1, .inr (5, [.ref d1, .int (nI 9)])), (d1, .inr (12, [.ref d2])), (d2, aI k 81 (fun j9 => nI (g2 j9)))]) (st' := [.int ((nI 9) * (nI 9)), .int (nI c)]) (cells' := 0) (slots' := 0) (g' := 0) (by decide) rfl rfl rfl rfl rfl ?_
            refine G.eqs (st' := [.int (nI 81), .int (nI c)]) (congrArg (β := List Value) (fun z9 => [.int z9, .int (nI c)]) (show (((nI 9) * (nI 9)) : Int32) = (nI 81) from by decide)) ?_
            refine g_icmp_ge (pc := 51) C 69 (by decide) dX1_draw_51 (fun c_51 => ?_) (fun c_51 => ?_)
            · have k51 : 81 ≤ c := by rcases Nat.lt_or_ge (c) (81) with q | q; exact absurd (show nI (81) ≤ nI (c) from c_51) (nI_ge q (by omega)); exact q
              refine g_iload_n (pc := 69) C 3 rfl rfl dX1_draw_69 ?_
              refine g_iload (pc := 70) C 5 rfl dX1_draw_70 ?_
              refine g_icmp_ne (pc := 72) C 77 (by decide) dX1_draw_72 (fun c_72 => ?_) (fun c_72 => ?_)
              · have k72 : sumN v2 (9 * 9) ≠ sumN v (9 * 9) := fun h => c_72 (by rw [h])
                refine g_iinc (pc := 77) (n := 1) (v := (nI (r + 1))) C 4 [(4, .int (nI (r + 1))), (0, .ref o1), (1, .int (nI 9)), (2, .int (nI m)), (3, .int (nI (sumN v2 (9 * 9)))), (5, .int (nI (sumN v (9 * 9)))), (6, .int (nI c))] rfl (nI_1 r) dX1_draw_77 (by decide) rfl ?_
                refine g_goto (pc := 80) C 32 (by decide) dX1_draw_80 ?_
                refine G.loc [1, 2, 3, 4, 0] (lv' := [(0, .ref o1), (1, .int (nI 9)), (2, .int (nI m)), (3, .int (nI (sumN v2 (9 * 9)))), (4, .int (nI (r + 1)))]) rfl ?_
                exact ih_32 (r + 1) g2 v2 hW2 (by omega) (by omega)
              · have k72 : sumN v2 (9 * 9) = sumN v (9 * 9) := (nI_eq (by omega) (by omega)).mp c_72
                refine g_iload_n (pc := 75) C 3 rfl rfl dX1_draw_75 ?_
                refine G.eqs (st' := [.int (nI (picN 9 (fm 9 m)))]) (congrArg (fun z9 => [Value.int z9]) (show ((nI (sumN v2 (9 * 9))) : Int32) = (nI (picN 9 (fm 9 m))) from by first | rfl | (rw [picN_eq hW2 (fun j hj => hq k72 j (by omega))]))) ?_
                exact g_iret (pc := 76) C hr hlk (by first | decide | omega) (by first | decide | omega) (by first | decide | omega) dX1_draw_76 ⟨rfl, (fun j9 => nI (g2 j9)), rfl⟩
            · have k51 : c < 81 := by rcases Nat.lt_or_ge (c) (81) with q | q; exact q; exact absurd (show nI (81) ≤ nI (c) from nI_le q (by omega)) c_51
              refine g_iload_n (pc := 54) C 3 rfl rfl dX1_draw_54 ?_
              refine g_aload_n (pc := 55) C 0 rfl rfl dX1_draw_55 ?_
              refine g_iload (pc := 56) C 6 rfl dX1_draw_56 ?_
              refine g_callV (pc := 58) (cells := 0) (slots := 0) (g := 0) (As := [.int (nI c)]) (st := [.int (nI (sumN v2 (9 * 9)))]) (T := TX1) (q0 := 0) C (nA := 1) rfl (c_X1_toppleCell_s9 o1 d1 d2 g2 c (by first | assumption | decide | omega) (went_bnd hmm hW2 pw9_s pw9_b c (by omega))) q_443 q_444 q_442 q_182 q_441 (by decide +kernel) rfl rfl dX1_draw_58 ⟨Nat.le_of_ble_eq_true rfl, Nat.le_of_ble_eq_true rfl⟩ [0, 1, 2] [] rfl (wr := []) rfl (by decide) (by decide) (by decide) (Nat.le_of_ble_eq_true rfl) ⟨Nat.le_of_ble_eq_true rfl, Nat.le_of_ble_eq_true rfl⟩ (fun rv w1 h1 => ?_)
              obtain ⟨rfl, rfl⟩ := h1
              refine G.aft [0, 1, 2] (ws' := [(o1, .inr (5, [.ref d1, .int (nI 9)])), (d1, .inr (12, [.ref d2])), (d2, aI k 81 (fun j9 => nI (tpl 9 c (g2 c / 4) g2 j9)))]) (st' := [.int (nI (g2 c / 4)), .int (nI (sumN v2 (9 * 9)))]) (cells' := 0) (slots' := 0) (g' := 0) (by decide) rfl rfl rfl rfl rfl ?_
              refine g_iadd (pc := 61) C dX1_draw_61 ?_
              refine G.eqs (st' := [.int (nI (sumN (adv v2 c (g2 c / 4)) (9 * 9)))]) (congrArg (β := List Value) (fun z9 => [.int z9]) (show (((nI (sumN v2 (9 * 9))) + (nI (g2 c / 4))) : Int32) = (nI (sumN (adv v2 c (g2 c / 4)) (9 * 9))) from by rw [nI_add, sumN_adv1 _ _ _ _ (show c < (9 * 9) by omega)])) ?_
              refine g_istore_n (pc := 62) C [(3, .int (nI (sumN (adv v2 c (g2 c / 4)) (9 * 9)))), (0, .ref o1), (1, .int (nI 9)), (2, .int (nI m)), (4, .int (nI r)), (5, .int (nI (sumN v (9 * 9)))), (6, .int (nI c))] rfl dX1_draw_62 (by decide) rfl ?_
              refine g_iinc (pc := 63) (n := 1) (v := (nI (c + 1))) C 6 [(6, .int (nI (c + 1))), (3, .int (nI (sumN (adv v2 c (g2 c / 4)) (9 * 9)))), (0, .ref o1), (1, .int (nI 9)), (2, .int (nI m)), (4, .int (nI r)), (5, .int (nI (sumN v (9 * 9))))] rfl (nI_1 c) dX1_draw_63 (by decide) rfl ?_
              refine g_goto (pc := 66) C 45 (by decide) dX1_draw_66 ?_
              refine G.loc [2, 3, 4, 1, 5, 6, 0] (lv' := [(0, .ref o1), (1, .int (nI 9)), (2, .int (nI m)), (3, .int (nI (sumN (adv v2 c (g2 c / 4)) (9 * 9)))), (4, .int (nI r)), (5, .int (nI (sumN v (9 * 9)))), (6, .int (nI (c + 1)))]) rfl ?_
              exact ih_45 (c + 1) (tpl 9 c (g2 c / 4) g2) (adv v2 c (g2 c / 4)) (went_step (by decide) hW2 (show c < (9 * 9) by omega) (by omega)) (by omega) (by rw [sumN_adv1 _ _ _ _ (show c < (9 * 9) by omega)]; omega) (pic_q (m := m) (show c < (9 * 9) by omega) hs hq) (by omega)
        refine G.loc [2, 3, 4, 5, 6, 1, 0] (lv' := [(0, .ref o1), (1, .int (nI 9)), (2, .int (nI m)), (3, .int (nI (sumN v (9 * 9)))), (4, .int (nI r)), (5, .int (nI (sumN v (9 * 9)))), (6, .int 0)]) rfl ?_
        refine G.eql (lv' := [(0, .ref o1), (1, .int (nI 9)), (2, .int (nI m)), (3, .int (nI (sumN v (9 * 9)))), (4, .int (nI r)), (5, .int (nI (sumN v (9 * 9)))), (6, .int (nI 0))]) (congrArg (β := List (Nat × Value)) (fun z9 => [(0, .ref o1), (1, .int (nI 9)), (2, .int (nI m)), (3, .int (nI (sumN v (9 * 9)))), (4, .int (nI r)), (5, .int (nI (sumN v (9 * 9)))), (6, .int z9)]) (show (0 : Int32) = (nI 0) from by first | rfl | exact nI_0.symm)) ?_
        exact key_45 (81 - 0 + 1) 0 g v hW (by omega) (Nat.le_refl _) (fun _ j hj => absurd hj (Nat.not_lt_zero j)) (Nat.lt_succ_self _)
  refine G.loc [2, 3, 4, 1, 0] (lv' := [(0, .ref o1), (1, .int (nI 9)), (2, .int (nI m)), (3, .int 0), (4, .int 0)]) rfl ?_
  refine G.eql (lv' := [(0, .ref o1), (1, .int (nI 9)), (2, .int (nI m)), (3, .int (nI (sumN (fun _ => 0) (9 * 9)))), (4, .int (nI 0))]) ((congrArg (β := List (Nat × Value)) (fun z9 => [(0, .ref o1), (1, .int (nI 9)), (2, .int (nI m)), (3, .int z9), (4, .int 0)]) (show (0 : Int32) = (nI (sumN (fun _ => 0) (9 * 9))) from by first | rfl | exact nI_0.symm | (rw [sumN_0]; exact nI_0.symm))).trans (congrArg (β := List (Nat × Value)) (fun z9 => [(0, .ref o1), (1, .int (nI 9)), (2, .int (nI m)), (3, .int (nI (sumN (fun _ => 0) (9 * 9)))), (4, .int z9)]) (show (0 : Int32) = (nI 0) from by first | rfl | exact nI_0.symm | (rw [sumN_0]; exact nI_0.symm)))) ?_
  exact key_32 (1521 - sumN (fun _ => 0) (9 * 9) + 1) 0 (fm 9 m) (fun _ => 0) (went_0 9 _) (Nat.zero_le _) (Nat.lt_succ_self _)
set_option maxRecDepth 100000 in
set_option maxHeartbeats 400000 in
theorem c_X10_picture_s9 {l : Launch} {D : va_G} {k : Nat → ClassId} (o : Nat) (h : Nat) (pp : Nat) (x2 : Nat) (x3 : Nat) (x4 : Nat) (o2 : Nat) (o4 : Nat) (o9 : Nat) (o7 : Nat) (o0 : Nat) (o1 : Nat) (d1 : Nat) (d2 : Nat) (wd : Int32) (f0 : Nat → Int32) (m : Nat) (hmm : m ≤ 300) : CM l D k yX10_picture cX10_picture 3 (some .int)  3 71 [.ref o, .int (nI 9), .int (nI m)] [(o, .inr (14, [.ref h, .ref pp, .ref x2, .ref x3, .ref x4, .ref o2, .ref o4, .ref o9, .ref o7, .ref o0, .ref o1])), (o1, .inr (5, [.ref d1, .int wd])), (d1, .inr (12, [.ref d2])), (d2, aI k 81 f0)] (fun rv9 w9 => rv9 = (some (.int (nI (picN 9 (fm 9 m))))) ∧ ∃ (gg : Nat → Int32), w9 = [(o, .inr (14, [.ref h, .ref pp, .ref x2, .ref x3, .ref x4, .ref o2, .ref o4, .ref o9, .ref o7, .ref o0, .ref o1])), (o1, .inr (5, [.ref d1, .int (nI 9)])), (d1, .inr (12, [.ref d2])), (d2, aI k 81 gg)]) 0 0 0 := by
  refine CM.of (lv0 := [(0, .ref o), (1, .int (nI 9)), (2, .int (nI m))]) (by decide +kernel) (Nat.le_of_ble_eq_true rfl) rfl ?_
  intro p9 e9 s9 m9 bl9 me9 co9 C hr hlk hin had
  refine g_iload_n (pc := 0) C 1 rfl rfl dX10_picture_0 ?_
  refine g_iconst (pc := 1) (v := 3) C (by decide) dX10_picture_1 ?_
  refine g_icmp_lt (pc := 2) C 17 (by decide) dX10_picture_2 (fun c_2 => ?_) (fun c_2 => ?_)
  · exact absurd c_2 (by decide)
  · refine g_iload_n (pc := 5) C 1 rfl rfl dX10_picture_5 ?_
    refine g_bipush (pc := 6) (v := 9) C (by decide) dX10_picture_6 ?_
    refine g_icmp_gt (pc := 8) C 17 (by decide) dX10_picture_8 (fun c_8 => ?_) (fun c_8 => ?_)
    · exact absurd c_8 (by decide)
    · refine g_iload_n (pc := 11) C 1 rfl rfl dX10_picture_11 ?_
      refine g_iconst (pc := 12) (v := 1) C (by decide) dX10_picture_12 ?_
      refine g_iand (pc := 13) C dX10_picture_13 ?_
      refine G.eqs (st' := [.int 1]) (congrArg (β := List Value) (fun z9 => [.int z9]) (show (((nI 9) &&& 1) : Int32) = 1 from by decide)) ?_
      refine g_if_ne (pc := 14) C 27 (by decide) dX10_picture_14 (fun c_14 => ?_) (fun c_14 => ?_)
      · refine g_iload_n (pc := 27) C 2 rfl rfl dX10_picture_27 ?_
        refine g_if_lt (pc := 28) C 38 (by decide) dX10_picture_28 (fun c_28 => ?_) (fun c_28 => ?_)
        · exact absurd c_28 (nI_pos (by omega))
        · refine g_iload_n (pc := 31) C 2 rfl rfl dX10_picture_31 ?_
          refine g_sipush (pc := 32) (v := 300) C (by decide) dX10_picture_32 ?_
          refine g_icmp_le (pc := 35) C 48 (by decide) dX10_picture_35 (fun c_35 => ?_) (fun c_35 => ?_)
          · refine g_aload_n (pc := 48) C 0 rfl rfl dX10_picture_48 ?_
            refine g_get (pc := 49) C (T := TX10) inX10 0 rfl rfl 10 (by decide) q_185 rfl rfl dX10_picture_49 ?_
            refine g_iload_n (pc := 52) C 1 rfl rfl dX10_picture_52 ?_
            refine g_iload_n (pc := 53) C 2 rfl rfl dX10_picture_53 ?_
            refine g_callV (pc := 54) (cells := 0) (slots := 0) (g := 0) (As := [.int (nI 9), .int (nI m)]) (st := []) (T := TX1) (q0 := 1) C (nA := 2) rfl (c_X1_draw_s9 o1 d1 d2 wd f0 m (by first | assumption | decide | omega)) q_447 q_448 q_446 q_182 q_445 (by decide +kernel) rfl rfl dX10_picture_54 ⟨Nat.le_of_ble_eq_true rfl, Nat.le_of_ble_eq_true rfl⟩ [1, 2, 3] [0] rfl (wr := [(o, .inr (14, [.ref h, .ref pp, .ref x2, .ref x3, .ref x4, .ref o2, .ref o4, .ref o9, .ref o7, .ref o0, .ref o1]))]) rfl (by decide) (by decide) (by decide) (Nat.le_of_ble_eq_true rfl) ⟨Nat.le_of_ble_eq_true rfl, Nat.le_of_ble_eq_true rfl⟩ (fun rv w1 h1 => ?_)
            obtain ⟨rfl, q1, rfl⟩ := h1
            refine G.aft [0, 1, 2, 3] (ws' := [(o, .inr (14, [.ref h, .ref pp, .ref x2, .ref x3, .ref x4, .ref o2, .ref o4, .ref o9, .ref o7, .ref o0, .ref o1])), (o1, .inr (5, [.ref d1, .int (nI 9)])), (d1, .inr (12, [.ref d2])), (d2, aI k 81 q1)]) (st' := [.int (nI (picN 9 (fm 9 m)))]) (cells' := 0) (slots' := 0) (g' := 0) (by decide) rfl rfl rfl rfl rfl ?_
            exact g_iret (pc := 57) C hr hlk (by first | decide | omega) (by first | decide | omega) (by first | decide | omega) dX10_picture_57 ⟨rfl, q1, rfl⟩
          · exact absurd (show nI m ≤ nI 300 from nI_le hmm (by omega)) c_35
      · exact absurd c_14 (by decide)
set_option maxRecDepth 100000 in
set_option maxHeartbeats 400000 in
theorem c_L_picture_s9 {l : Launch} {D : va_G} {k : Nat → ClassId} (o : Nat) (h : Nat) (pp : Nat) (x2 : Nat) (x3 : Nat) (x4 : Nat) (o2 : Nat) (o4 : Nat) (o9 : Nat) (o7 : Nat) (o0 : Nat) (o1 : Nat) (d1 : Nat) (d2 : Nat) (oo : Nat) (wd : Int32) (f0 : Nat → Int32) (fl : Nat → Int64) (m : Nat) (hmm : m ≤ 300) : CMW l D k yL_picture cL_picture 5 (some .int) [((0 : Nat), (10 : Nat), (13 : Nat), (21 : Nat))] 4 93 [.ref o, .int (nI 9), .int (nI m), .ref oo] [(o, .inr (14, [.ref h, .ref pp, .ref x2, .ref x3, .ref x4, .ref o2, .ref o4, .ref o9, .ref o7, .ref o0, .ref o1])), (o1, .inr (5, [.ref d1, .int wd])), (d1, .inr (12, [.ref d2])), (d2, aI k 81 f0), (oo, aJ k 1 fl)] (fun rv9 w9 => rv9 = (some (.int 0)) ∧ ∃ (gg : Nat → Int32), w9 = [(o, .inr (14, [.ref h, .ref pp, .ref x2, .ref x3, .ref x4, .ref o2, .ref o4, .ref o9, .ref o7, .ref o0, .ref o1])), (o1, .inr (5, [.ref d1, .int (nI 9)])), (d1, .inr (12, [.ref d2])), (d2, aI k 81 gg), (oo, aJ k 1 (fun _ => (nI (picN 9 (fm 9 m))).toInt64))]) 0 0 0 := by
  refine CMW.of (lv0 := [(0, .ref o), (1, .int (nI 9)), (2, .int (nI m)), (3, .ref oo)]) (by decide +kernel) (Nat.le_of_ble_eq_true rfl) rfl ?_
  intro p9 e9 s9 m9 bl9 me9 co9 C hr hlk hin had htab
  refine g_aload_n (pc := 0) C 3 rfl rfl dL_picture_0 ?_
  refine g_iconst (pc := 1) (v := 0) C (by decide) dL_picture_1 ?_
  refine g_aload_n (pc := 2) C 0 rfl rfl dL_picture_2 ?_
  refine g_iload_n (pc := 3) C 1 rfl rfl dL_picture_3 ?_
  refine g_iload_n (pc := 4) C 2 rfl rfl dL_picture_4 ?_
  refine g_callV (pc := 5) (cells := 0) (slots := 0) (g := 0) (As := [.int (nI 9), .int (nI m)]) (st := [.int 0, .ref oo]) (T := TX10) (q0 := 0) C (nA := 2) rfl (c_X10_picture_s9 o h pp x2 x3 x4 o2 o4 o9 o7 o0 o1 d1 d2 wd f0 m (by first | assumption | decide | omega)) q_451 q_452 q_450 q_203 q_449 (by decide +kernel) rfl rfl dL_picture_5 ⟨Nat.le_of_ble_eq_true rfl, Nat.le_of_ble_eq_true rfl⟩ [0, 1, 2, 3] [4] rfl (wr := [(oo, aJ k 1 fl)]) rfl (by decide) (by decide) (by decide) (Nat.le_of_ble_eq_true rfl) ⟨Nat.le_of_ble_eq_true rfl, Nat.le_of_ble_eq_true rfl⟩ (fun rv w1 h1 => ?_)
  obtain ⟨rfl, q1, rfl⟩ := h1
  refine G.aft [1, 2, 3, 4, 0] (ws' := [(o, .inr (14, [.ref h, .ref pp, .ref x2, .ref x3, .ref x4, .ref o2, .ref o4, .ref o9, .ref o7, .ref o0, .ref o1])), (o1, .inr (5, [.ref d1, .int (nI 9)])), (d1, .inr (12, [.ref d2])), (d2, aI k 81 q1), (oo, aJ k 1 fl)]) (st' := [.int (nI (picN 9 (fm 9 m))), .int 0, .ref oo]) (cells' := 0) (slots' := 0) (g' := 0) (by decide) rfl rfl rfl rfl rfl ?_
  refine g_i2l (pc := 8) C dL_picture_8 ?_
  refine g_last_n (pc := 9) C (j := 0) 4 [(o, .inr (14, [.ref h, .ref pp, .ref x2, .ref x3, .ref x4, .ref o2, .ref o4, .ref o9, .ref o7, .ref o0, .ref o1])), (o1, .inr (5, [.ref d1, .int (nI 9)])), (d1, .inr (12, [.ref d2])), (d2, aI k 81 q1), (oo, aJ k 1 (vp_updL fl 0 ((nI (picN 9 (fm 9 m))).toInt64)))] rfl (by omega) (by first | decide | omega) rfl rfl dL_picture_9 ?_
  refine g_goto (pc := 10) C 17 (by decide) dL_picture_10 ?_
  refine g_iconst (pc := 17) (v := 0) C (by decide) dL_picture_17 ?_
  refine G.fnJ (fun _ => (nI (picN 9 (fm 9 m))).toInt64) 4 [(o, .inr (14, [.ref h, .ref pp, .ref x2, .ref x3, .ref x4, .ref o2, .ref o4, .ref o9, .ref o7, .ref o0, .ref o1])), (o1, .inr (5, [.ref d1, .int (nI 9)])), (d1, .inr (12, [.ref d2])), (d2, aI k 81 q1), (oo, aJ k 1 (fun _ => (nI (picN 9 (fm 9 m))).toInt64))] rfl (fun j hj => by first | rfl | simp [vp_updL, show j = 0 by omega]) rfl ?_
  exact g_iret (pc := 18) C hr hlk (by first | decide | omega) (by first | decide | omega) (by first | decide | omega) dL_picture_18 ⟨rfl, q1, rfl⟩
set_option maxRecDepth 100000 in
set_option maxHeartbeats 400000 in
theorem c_X10_picture_x {l : Launch} {D : va_G} {k : Nat → ClassId} (o : Nat) (h : Nat) (pp : Nat) (x2 : Nat) (x3 : Nat) (x4 : Nat) (o2 : Nat) (o4 : Nat) (o9 : Nat) (o7 : Nat) (o0 : Nat) (o1 : Nat) (a : Int32) (y : Int32) (hbad : picOk a y = false) : CT l D k yX10_picture cX10_picture 3 (some .int) 6 82 [.ref o, .int a, .int y] [(o, .inr (14, [.ref h, .ref pp, .ref x2, .ref x3, .ref x4, .ref o2, .ref o4, .ref o9, .ref o7, .ref o0, .ref o1]))] "java/lang/IllegalArgumentException" [(o, .inr (14, [.ref h, .ref pp, .ref x2, .ref x3, .ref x4, .ref o2, .ref o4, .ref o9, .ref o7, .ref o0, .ref o1]))] 1 6 := by
  refine CT.of (lv0 := [(0, .ref o), (1, .int a), (2, .int y)]) (by decide +kernel) (Nat.le_of_ble_eq_true rfl) rfl ?_
  intro p9 e9 s9 m9 bl9 me9 co9 C hr hlk hin had hex
  refine g_iload_n (pc := 0) C 1 rfl rfl dX10_picture_0 ?_
  refine g_iconst (pc := 1) (v := 3) C (by decide) dX10_picture_1 ?_
  refine g_icmp_lt (pc := 2) C 17 (by decide) dX10_picture_2 (fun c_2 => ?_) (fun c_2 => ?_)
  · exact g_throwS (pc := 17) (text := "the side is out of range") C ["java/lang/RuntimeException", "java/lang/Exception"] (by decide) (by decide) q_455 q_456 ex_7_1 ex_7_2 exg_8 (by decide) (by decide) dX10_picture_17 dX10_picture_20 dX10_picture_21 dX10_picture_23 dX10_picture_26 hex (by decide) (by decide) (Nat.le_of_ble_eq_true rfl) (Nat.le_of_ble_eq_true rfl) hlk rfl (by first | decide | omega) (by first | decide | omega)
  · refine g_iload_n (pc := 5) C 1 rfl rfl dX10_picture_5 ?_
    refine g_bipush (pc := 6) (v := 9) C (by decide) dX10_picture_6 ?_
    refine g_icmp_gt (pc := 8) C 17 (by decide) dX10_picture_8 (fun c_8 => ?_) (fun c_8 => ?_)
    · exact g_throwS (pc := 17) (text := "the side is out of range") C ["java/lang/RuntimeException", "java/lang/Exception"] (by decide) (by decide) q_455 q_456 ex_7_1 ex_7_2 exg_8 (by decide) (by decide) dX10_picture_17 dX10_picture_20 dX10_picture_21 dX10_picture_23 dX10_picture_26 hex (by decide) (by decide) (Nat.le_of_ble_eq_true rfl) (Nat.le_of_ble_eq_true rfl) hlk rfl (by first | decide | omega) (by first | decide | omega)
    · refine g_iload_n (pc := 11) C 1 rfl rfl dX10_picture_11 ?_
      refine g_iconst (pc := 12) (v := 1) C (by decide) dX10_picture_12 ?_
      refine g_iand (pc := 13) C dX10_picture_13 ?_
      refine g_if_ne (pc := 14) C 27 (by decide) dX10_picture_14 (fun c_14 => ?_) (fun c_14 => ?_)
      · refine g_iload_n (pc := 27) C 2 rfl rfl dX10_picture_27 ?_
        refine g_if_lt (pc := 28) C 38 (by decide) dX10_picture_28 (fun c_28 => ?_) (fun c_28 => ?_)
        · exact g_throwS (pc := 38) (text := "the number of chips is out of range") C ["java/lang/RuntimeException", "java/lang/Exception"] (by decide) (by decide) q_455 q_456 ex_7_1 ex_7_2 exg_8 (by decide) (by decide) dX10_picture_38 dX10_picture_41 dX10_picture_42 dX10_picture_44 dX10_picture_47 hex (by decide) (by decide) (Nat.le_of_ble_eq_true rfl) (Nat.le_of_ble_eq_true rfl) hlk rfl (by first | decide | omega) (by first | decide | omega)
        · refine g_iload_n (pc := 31) C 2 rfl rfl dX10_picture_31 ?_
          refine g_sipush (pc := 32) (v := 300) C (by decide) dX10_picture_32 ?_
          refine g_icmp_le (pc := 35) C 48 (by decide) dX10_picture_35 (fun c_35 => ?_) (fun c_35 => ?_)
          · exact absurd hbad (by unfold picOk; rw [decide_eq_true (And.intro c_2 (And.intro c_8 (And.intro c_14 (And.intro c_28 c_35))))]; decide)
          · exact g_throwS (pc := 38) (text := "the number of chips is out of range") C ["java/lang/RuntimeException", "java/lang/Exception"] (by decide) (by decide) q_455 q_456 ex_7_1 ex_7_2 exg_8 (by decide) (by decide) dX10_picture_38 dX10_picture_41 dX10_picture_42 dX10_picture_44 dX10_picture_47 hex (by decide) (by decide) (Nat.le_of_ble_eq_true rfl) (Nat.le_of_ble_eq_true rfl) hlk rfl (by first | decide | omega) (by first | decide | omega)
      · exact g_throwS (pc := 17) (text := "the side is out of range") C ["java/lang/RuntimeException", "java/lang/Exception"] (by decide) (by decide) q_455 q_456 ex_7_1 ex_7_2 exg_8 (by decide) (by decide) dX10_picture_17 dX10_picture_20 dX10_picture_21 dX10_picture_23 dX10_picture_26 hex (by decide) (by decide) (Nat.le_of_ble_eq_true rfl) (Nat.le_of_ble_eq_true rfl) hlk rfl (by first | decide | omega) (by first | decide | omega)
set_option maxRecDepth 100000 in
set_option maxHeartbeats 400000 in
theorem c_L_picture_x {l : Launch} {D : va_G} {k : Nat → ClassId} (o : Nat) (h : Nat) (pp : Nat) (x2 : Nat) (x3 : Nat) (x4 : Nat) (o2 : Nat) (o4 : Nat) (o9 : Nat) (o7 : Nat) (o0 : Nat) (o1 : Nat) (oo : Nat) (fl : Nat → Int64) (a : Int32) (y : Int32) (hbad : picOk a y = false) : CMW l D k yL_picture cL_picture 5 (some .int) [((0 : Nat), (10 : Nat), (13 : Nat), (21 : Nat))] 7 104 [.ref o, .int a, .int y, .ref oo] [(o, .inr (14, [.ref h, .ref pp, .ref x2, .ref x3, .ref x4, .ref o2, .ref o4, .ref o9, .ref o7, .ref o0, .ref o1])), (oo, aJ k 1 fl)] (is1 (some (.int 1)) [(o, .inr (14, [.ref h, .ref pp, .ref x2, .ref x3, .ref x4, .ref o2, .ref o4, .ref o9, .ref o7, .ref o0, .ref o1])), (oo, aJ k 1 fl)]) 1 6 0 := by
  refine CMW.of (lv0 := [(0, .ref o), (1, .int a), (2, .int y), (3, .ref oo)]) (by decide +kernel) (Nat.le_of_ble_eq_true rfl) rfl ?_
  intro p9 e9 s9 m9 bl9 me9 co9 C hr hlk hin had htab
  refine g_aload_n (pc := 0) C 3 rfl rfl dL_picture_0 ?_
  refine g_iconst (pc := 1) (v := 0) C (by decide) dL_picture_1 ?_
  refine g_aload_n (pc := 2) C 0 rfl rfl dL_picture_2 ?_
  refine g_iload_n (pc := 3) C 1 rfl rfl dL_picture_3 ?_
  refine g_iload_n (pc := 4) C 2 rfl rfl dL_picture_4 ?_
  refine g_callVT (pc := 5) (cells := 0) (slots := 0) (g := 0) (As := [.int a, .int y]) (st := [.int 0, .ref oo]) (T := TX10) (q0 := 0) C (nA := 2) rfl (c_X10_picture_x o h pp x2 x3 x4 o2 o4 o9 o7 o0 o1 a y (by first | assumption | decide | omega)) q_451 q_452 q_450 q_203 q_449 (by decide +kernel) rfl rfl dL_picture_5 ⟨Nat.le_of_ble_eq_true rfl, Nat.le_of_ble_eq_true rfl⟩ [0] [1] rfl (wr := [(oo, aJ k 1 fl)]) rfl (by decide) (by decide) (by decide) (Nat.le_of_ble_eq_true rfl) ⟨Nat.le_of_ble_eq_true rfl, Nat.le_of_ble_eq_true rfl⟩ ?_
  refine GT.re [1, 0] (ws' := [(o, .inr (14, [.ref h, .ref pp, .ref x2, .ref x3, .ref x4, .ref o2, .ref o4, .ref o9, .ref o7, .ref o0, .ref o1])), (oo, aJ k 1 fl)]) (cells' := 1) (slots' := 6) (by decide) rfl rfl rfl ?_
  refine GT.catch C [] ⟨0, 10, 13, 21⟩ [] (htab.trans rfl) (fun z h => nomatch h) (by decide) (by decide) (by decide) q_457 (fun qx1 => ?_)
  refine g_astore (pc := 13) C [(4, .ref qx1), (0, .ref o), (1, .int a), (2, .int y), (3, .ref oo)] dL_picture_13 (by decide) rfl ?_
  refine g_iconst (pc := 15) (v := 1) C (by decide) dL_picture_15 ?_
  exact g_iret (pc := 16) C hr hlk (by first | decide | omega) (by first | decide | omega) (by first | decide | omega) dL_picture_16 ⟨rfl, rfl⟩
