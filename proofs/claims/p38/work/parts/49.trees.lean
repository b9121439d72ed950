theorem dX9_cell_0 : decode cX9_cell 0 = .ok (.iload_n 0, 1) := by decide +kernel
theorem dX9_cell_1 : decode cX9_cell 1 = .ok (.bipush 6, 2) := by decide +kernel
theorem dX9_cell_3 : decode cX9_cell 3 = .ok (.imul, 1) := by decide +kernel
theorem dX9_cell_4 : decode cX9_cell 4 = .ok (.iload_n 1, 1) := by decide +kernel
theorem dX9_cell_5 : decode cX9_cell 5 = .ok (.iadd, 1) := by decide +kernel
theorem dX9_cell_6 : decode cX9_cell 6 = .ok (.bipush 6, 2) := by decide +kernel
theorem dX9_cell_8 : decode cX9_cell 8 = .ok (.imul, 1) := by decide +kernel
theorem dX9_cell_9 : decode cX9_cell 9 = .ok (.iload_n 2, 1) := by decide +kernel
theorem dX9_cell_10 : decode cX9_cell 10 = .ok (.iadd, 1) := by decide +kernel
theorem dX9_cell_11 : decode cX9_cell 11 = .ok (.ireturn, 1) := by decide +kernel
theorem dX9_merge_0 : decode cX9_merge 0 = .ok (.iload_n 1, 1) := by decide +kernel
theorem dX9_merge_1 : decode cX9_merge 1 = .ok (.iconst 1, 1) := by decide +kernel
theorem dX9_merge_2 : decode cX9_merge 2 = .ok (.isub, 1) := by decide +kernel
theorem dX9_merge_3 : decode cX9_merge 3 = .ok (.istore_n 3, 1) := by decide +kernel
theorem dX9_merge_4 : decode cX9_merge 4 = .ok (.iconst 0, 1) := by decide +kernel
theorem dX9_merge_5 : decode cX9_merge 5 = .ok (.istore 4, 2) := by decide +kernel
theorem dX9_merge_7 : decode cX9_merge 7 = .ok (.iload 4, 2) := by decide +kernel
theorem dX9_merge_9 : decode cX9_merge 9 = .ok (.iload_n 3, 1) := by decide +kernel
theorem dX9_merge_10 : decode cX9_merge 10 = .ok (.if_icmp .ge 48, 3) := by decide +kernel
theorem dX9_merge_58 : decode cX9_merge 58 = .ok (.iconst 0, 1) := by decide +kernel
theorem dX9_merge_59 : decode cX9_merge 59 = .ok (.istore 4, 2) := by decide +kernel
theorem dX9_merge_61 : decode cX9_merge 61 = .ok (.iload 4, 2) := by decide +kernel
theorem dX9_merge_63 : decode cX9_merge 63 = .ok (.iload_n 3, 1) := by decide +kernel
theorem dX9_merge_64 : decode cX9_merge 64 = .ok (.if_icmp .ge 54, 3) := by decide +kernel
theorem dX9_merge_118 : decode cX9_merge 118 = .ok (.return_, 1) := by decide +kernel
theorem dX9_merge_67 : decode cX9_merge 67 = .ok (.aload_n 0, 1) := by decide +kernel
theorem dX9_merge_68 : decode cX9_merge 68 = .ok (.iload_n 1, 1) := by decide +kernel
theorem dX9_merge_69 : decode cX9_merge 69 = .ok (.iload_n 3, 1) := by decide +kernel
theorem dX9_merge_70 : decode cX9_merge 70 = .ok (.iload 4, 2) := by decide +kernel
theorem dX9_merge_72 : decode cX9_merge 72 = .ok (.invokestatic 26, 3) := by decide +kernel
theorem q_305 : (Jvm.Cond.code ({ cls := "Chipfold$TreeCount", name := "cell", desc := "(III)I" } : Jvm.MethodName) prog_11_method_3_code (3 : Nat) (Option.some Jvm.ClassFile.FieldType.int)) ∈ WG := wg_5 (List.mem_of_getElem? (i := 147) rfl) rfl
theorem q_306 : (Jvm.Cond.methodLink "Chipfold$TreeCount" (26 : Nat) ({ cls := "Chipfold$TreeCount", name := "cell", desc := "(III)I" } : Jvm.MethodName)) ∈ WG := wg_5 (List.mem_of_getElem? (i := 145) (by decide +kernel)) (by decide +kernel)
theorem q_307 : (Jvm.Cond.static ({ cls := "Chipfold$TreeCount", name := "cell", desc := "(III)I" } : Jvm.MethodName)) ∈ WG := wg_5 (List.mem_of_getElem? (i := 146) (by decide +kernel)) (by decide +kernel)
theorem dX9_merge_75 : decode cX9_merge 75 = .ok (.invokevirtual 42, 3) := by decide +kernel
theorem q_308 : (Jvm.Cond.methodLink "Chipfold$TreeCount" (42 : Nat) ({ cls := "Chipfold$Row", name := "at", desc := "(I)I" } : Jvm.MethodName)) ∈ WG := wg_5 (List.mem_of_getElem? (i := 153) (by decide +kernel)) (by decide +kernel)
theorem dX9_merge_78 : decode cX9_merge 78 = .ok (.istore 5, 2) := by decide +kernel
theorem dX9_merge_80 : decode cX9_merge 80 = .ok (.iload 4, 2) := by decide +kernel
theorem dX9_merge_82 : decode cX9_merge 82 = .ok (.iload_n 2, 1) := by decide +kernel
theorem dX9_merge_83 : decode cX9_merge 83 = .ok (.if_icmp .eq 29, 3) := by decide +kernel
theorem dX9_merge_112 : decode cX9_merge 112 = .ok (.iinc 4 1, 3) := by decide +kernel
theorem dX9_merge_115 : decode cX9_merge 115 = .ok (.goto (-54), 3) := by decide +kernel
theorem dX9_merge_86 : decode cX9_merge 86 = .ok (.aload_n 0, 1) := by decide +kernel
theorem dX9_merge_87 : decode cX9_merge 87 = .ok (.iload_n 3, 1) := by decide +kernel
theorem dX9_merge_88 : decode cX9_merge 88 = .ok (.iload_n 2, 1) := by decide +kernel
theorem dX9_merge_89 : decode cX9_merge 89 = .ok (.iload 4, 2) := by decide +kernel
theorem dX9_merge_91 : decode cX9_merge 91 = .ok (.invokestatic 26, 3) := by decide +kernel
theorem dX9_merge_94 : decode cX9_merge 94 = .ok (.iload 5, 2) := by decide +kernel
theorem dX9_merge_96 : decode cX9_merge 96 = .ok (.invokevirtual 50, 3) := by decide +kernel
theorem q_309 : (Jvm.Cond.methodLink "Chipfold$TreeCount" (50 : Nat) ({ cls := "Chipfold$Row", name := "add", desc := "(II)V" } : Jvm.MethodName)) ∈ WG := wg_5 (List.mem_of_getElem? (i := 157) (by decide +kernel)) (by decide +kernel)
theorem dX9_merge_99 : decode cX9_merge 99 = .ok (.aload_n 0, 1) := by decide +kernel
theorem dX9_merge_100 : decode cX9_merge 100 = .ok (.iload_n 3, 1) := by decide +kernel
theorem dX9_merge_101 : decode cX9_merge 101 = .ok (.iload 4, 2) := by decide +kernel
theorem dX9_merge_103 : decode cX9_merge 103 = .ok (.iload_n 2, 1) := by decide +kernel
theorem dX9_merge_104 : decode cX9_merge 104 = .ok (.invokestatic 26, 3) := by decide +kernel
theorem dX9_merge_107 : decode cX9_merge 107 = .ok (.iload 5, 2) := by decide +kernel
theorem dX9_merge_109 : decode cX9_merge 109 = .ok (.invokevirtual 50, 3) := by decide +kernel
theorem dX9_merge_13 : decode cX9_merge 13 = .ok (.iconst 0, 1) := by decide +kernel
theorem dX9_merge_14 : decode cX9_merge 14 = .ok (.istore 5, 2) := by decide +kernel
theorem dX9_merge_16 : decode cX9_merge 16 = .ok (.iload 5, 2) := by decide +kernel
theorem dX9_merge_18 : decode cX9_merge 18 = .ok (.iload_n 3, 1) := by decide +kernel
theorem dX9_merge_19 : decode cX9_merge 19 = .ok (.if_icmp .ge 33, 3) := by decide +kernel
theorem dX9_merge_52 : decode cX9_merge 52 = .ok (.iinc 4 1, 3) := by decide +kernel
theorem dX9_merge_55 : decode cX9_merge 55 = .ok (.goto (-48), 3) := by decide +kernel
theorem dX9_merge_22 : decode cX9_merge 22 = .ok (.aload_n 0, 1) := by decide +kernel
theorem dX9_merge_23 : decode cX9_merge 23 = .ok (.iload_n 3, 1) := by decide +kernel
theorem dX9_merge_24 : decode cX9_merge 24 = .ok (.iload 4, 2) := by decide +kernel
theorem dX9_merge_26 : decode cX9_merge 26 = .ok (.iload 5, 2) := by decide +kernel
theorem dX9_merge_28 : decode cX9_merge 28 = .ok (.invokestatic 26, 3) := by decide +kernel
theorem dX9_merge_31 : decode cX9_merge 31 = .ok (.aload_n 0, 1) := by decide +kernel
theorem dX9_merge_32 : decode cX9_merge 32 = .ok (.iload_n 1, 1) := by decide +kernel
theorem dX9_merge_33 : decode cX9_merge 33 = .ok (.iload 4, 2) := by decide +kernel
theorem dX9_merge_35 : decode cX9_merge 35 = .ok (.iload 5, 2) := by decide +kernel
theorem dX9_merge_37 : decode cX9_merge 37 = .ok (.invokestatic 26, 3) := by decide +kernel
theorem dX9_merge_40 : decode cX9_merge 40 = .ok (.invokevirtual 42, 3) := by decide +kernel
theorem dX9_merge_43 : decode cX9_merge 43 = .ok (.invokevirtual 34, 3) := by decide +kernel
theorem q_310 : (Jvm.Cond.methodLink "Chipfold$TreeCount" (34 : Nat) ({ cls := "Chipfold$Row", name := "write", desc := "(II)V" } : Jvm.MethodName)) ∈ WG := wg_5 (List.mem_of_getElem? (i := 149) (by decide +kernel)) (by decide +kernel)
theorem dX9_merge_46 : decode cX9_merge 46 = .ok (.iinc 5 1, 3) := by decide +kernel
theorem dX9_merge_49 : decode cX9_merge 49 = .ok (.goto (-33), 3) := by decide +kernel
theorem dX9_countLeft_0 : decode cX9_countLeft 0 = .ok (.iload_n 1, 1) := by decide +kernel
theorem dX9_countLeft_1 : decode cX9_countLeft 1 = .ok (.iconst 2, 1) := by decide +kernel
theorem dX9_countLeft_2 : decode cX9_countLeft 2 = .ok (.if_icmp .lt 9, 3) := by decide +kernel
theorem dX9_countLeft_11 : decode cX9_countLeft 11 = .ok (.iload_n 1, 1) := by decide +kernel
theorem dX9_countLeft_12 : decode cX9_countLeft 12 = .ok (.iconst 1, 1) := by decide +kernel
theorem dX9_countLeft_13 : decode cX9_countLeft 13 = .ok (.if_icmp .ne 7, 3) := by decide +kernel
theorem dX9_countLeft_20 : decode cX9_countLeft 20 = .ok (.lconst 0, 1) := by decide +kernel
theorem dX9_countLeft_21 : decode cX9_countLeft 21 = .ok (.lreturn, 1) := by decide +kernel
theorem dX9_countLeft_16 : decode cX9_countLeft 16 = .ok (.lconst 1, 1) := by decide +kernel
theorem dX9_countLeft_17 : decode cX9_countLeft 17 = .ok (.goto 4, 3) := by decide +kernel
theorem dX9_countLeft_5 : decode cX9_countLeft 5 = .ok (.iload_n 1, 1) := by decide +kernel
theorem dX9_countLeft_6 : decode cX9_countLeft 6 = .ok (.bipush 6, 2) := by decide +kernel
theorem dX9_countLeft_8 : decode cX9_countLeft 8 = .ok (.if_icmp .le 14, 3) := by decide +kernel
theorem dX9_countLeft_22 : decode cX9_countLeft 22 = .ok (.iload_n 1, 1) := by decide +kernel
theorem dX9_countLeft_23 : decode cX9_countLeft 23 = .ok (.iconst 1, 1) := by decide +kernel
theorem dX9_countLeft_24 : decode cX9_countLeft 24 = .ok (.isub, 1) := by decide +kernel
theorem dX9_countLeft_25 : decode cX9_countLeft 25 = .ok (.istore_n 2, 1) := by decide +kernel
theorem dX9_countLeft_26 : decode cX9_countLeft 26 = .ok (.lconst 0, 1) := by decide +kernel
theorem dX9_countLeft_27 : decode cX9_countLeft 27 = .ok (.lstore_n 3, 1) := by decide +kernel
theorem dX9_countLeft_28 : decode cX9_countLeft 28 = .ok (.iconst 0, 1) := by decide +kernel
theorem dX9_countLeft_29 : decode cX9_countLeft 29 = .ok (.istore 5, 2) := by decide +kernel
theorem dX9_countLeft_31 : decode cX9_countLeft 31 = .ok (.iload 5, 2) := by decide +kernel
theorem dX9_countLeft_33 : decode cX9_countLeft 33 = .ok (.iload_n 2, 1) := by decide +kernel
theorem dX9_countLeft_34 : decode cX9_countLeft 34 = .ok (.if_icmp .ge 58, 3) := by decide +kernel
theorem dX9_countLeft_92 : decode cX9_countLeft 92 = .ok (.lload_n 3, 1) := by decide +kernel
theorem dX9_countLeft_93 : decode cX9_countLeft 93 = .ok (.lreturn, 1) := by decide +kernel
theorem dX9_countLeft_37 : decode cX9_countLeft 37 = .ok (.aload_n 0, 1) := by decide +kernel
theorem dX9_countLeft_38 : decode cX9_countLeft 38 = .ok (.iload_n 1, 1) := by decide +kernel
theorem dX9_countLeft_39 : decode cX9_countLeft 39 = .ok (.iload_n 2, 1) := by decide +kernel
theorem dX9_countLeft_40 : decode cX9_countLeft 40 = .ok (.iload 5, 2) := by decide +kernel
theorem dX9_countLeft_42 : decode cX9_countLeft 42 = .ok (.invokestatic 26, 3) := by decide +kernel
theorem dX9_countLeft_45 : decode cX9_countLeft 45 = .ok (.invokevirtual 42, 3) := by decide +kernel
theorem dX9_countLeft_48 : decode cX9_countLeft 48 = .ok (.istore 6, 2) := by decide +kernel
theorem dX9_countLeft_50 : decode cX9_countLeft 50 = .ok (.iload 6, 2) := by decide +kernel
theorem dX9_countLeft_52 : decode cX9_countLeft 52 = .ok (.ifCond .le 34, 3) := by decide +kernel
theorem dX9_countLeft_86 : decode cX9_countLeft 86 = .ok (.iinc 5 1, 3) := by decide +kernel
theorem dX9_countLeft_89 : decode cX9_countLeft 89 = .ok (.goto (-58), 3) := by decide +kernel
theorem dX9_countLeft_55 : decode cX9_countLeft 55 = .ok (.aload_n 0, 1) := by decide +kernel
theorem dX9_countLeft_56 : decode cX9_countLeft 56 = .ok (.iload_n 1, 1) := by decide +kernel
theorem dX9_countLeft_57 : decode cX9_countLeft 57 = .ok (.iload_n 2, 1) := by decide +kernel
theorem dX9_countLeft_58 : decode cX9_countLeft 58 = .ok (.iload 5, 2) := by decide +kernel
theorem dX9_countLeft_60 : decode cX9_countLeft 60 = .ok (.invokestatic 26, 3) := by decide +kernel
theorem dX9_countLeft_63 : decode cX9_countLeft 63 = .ok (.iconst 0, 1) := by decide +kernel
theorem dX9_countLeft_64 : decode cX9_countLeft 64 = .ok (.invokevirtual 34, 3) := by decide +kernel
theorem dX9_countLeft_67 : decode cX9_countLeft 67 = .ok (.aload_n 0, 1) := by decide +kernel
theorem dX9_countLeft_68 : decode cX9_countLeft 68 = .ok (.iload_n 1, 1) := by decide +kernel
theorem dX9_countLeft_69 : decode cX9_countLeft 69 = .ok (.iload 5, 2) := by decide +kernel
theorem dX9_countLeft_71 : decode cX9_countLeft 71 = .ok (.invokestatic 46, 3) := by decide +kernel
theorem q_311 : (Jvm.Cond.code ({ cls := "Chipfold$TreeCount", name := "merge", desc := "(LChipfold$Row;II)V" } : Jvm.MethodName) prog_11_method_5_code (6 : Nat) (Option.none : Option Jvm.ClassFile.FieldType)) ∈ WG := wg_5 (List.mem_of_getElem? (i := 156) rfl) rfl
theorem q_312 : (Jvm.Cond.methodLink "Chipfold$TreeCount" (46 : Nat) ({ cls := "Chipfold$TreeCount", name := "merge", desc := "(LChipfold$Row;II)V" } : Jvm.MethodName)) ∈ WG := wg_5 (List.mem_of_getElem? (i := 154) (by decide +kernel)) (by decide +kernel)
theorem q_313 : (Jvm.Cond.static ({ cls := "Chipfold$TreeCount", name := "merge", desc := "(LChipfold$Row;II)V" } : Jvm.MethodName)) ∈ WG := wg_5 (List.mem_of_getElem? (i := 155) (by decide +kernel)) (by decide +kernel)
theorem dX9_countLeft_74 : decode cX9_countLeft 74 = .ok (.lload_n 3, 1) := by decide +kernel
theorem dX9_countLeft_75 : decode cX9_countLeft 75 = .ok (.iload 6, 2) := by decide +kernel
theorem dX9_countLeft_77 : decode cX9_countLeft 77 = .ok (.i2l, 1) := by decide +kernel
theorem dX9_countLeft_78 : decode cX9_countLeft 78 = .ok (.aload_n 0, 1) := by decide +kernel
theorem dX9_countLeft_79 : decode cX9_countLeft 79 = .ok (.iload_n 2, 1) := by decide +kernel
theorem dX9_countLeft_80 : decode cX9_countLeft 80 = .ok (.invokestatic 38, 3) := by decide +kernel
theorem q_314 : (Jvm.Cond.code ({ cls := "Chipfold$TreeCount", name := "countLeft", desc := "(LChipfold$Row;I)J" } : Jvm.MethodName) prog_11_method_4_code (7 : Nat) (Option.some Jvm.ClassFile.FieldType.long)) ∈ WG := wg_5 (List.mem_of_getElem? (i := 152) rfl) rfl
theorem q_315 : (Jvm.Cond.methodLink "Chipfold$TreeCount" (38 : Nat) ({ cls := "Chipfold$TreeCount", name := "countLeft", desc := "(LChipfold$Row;I)J" } : Jvm.MethodName)) ∈ WG := wg_5 (List.mem_of_getElem? (i := 150) (by decide +kernel)) (by decide +kernel)
theorem q_316 : (Jvm.Cond.static ({ cls := "Chipfold$TreeCount", name := "countLeft", desc := "(LChipfold$Row;I)J" } : Jvm.MethodName)) ∈ WG := wg_5 (List.mem_of_getElem? (i := 151) (by decide +kernel)) (by decide +kernel)
theorem dX9_countLeft_83 : decode cX9_countLeft 83 = .ok (.lmul, 1) := by decide +kernel
theorem dX9_countLeft_84 : decode cX9_countLeft 84 = .ok (.ladd, 1) := by decide +kernel
theorem dX9_countLeft_85 : decode cX9_countLeft 85 = .ok (.lstore_n 3, 1) := by decide +kernel
theorem dX9_countTrees_0 : decode cX9_countTrees 0 = .ok (.aload_n 1, 1) := by decide +kernel
theorem dX9_countTrees_1 : decode cX9_countTrees 1 = .ok (.invokevirtual 20, 3) := by decide +kernel
theorem q_317 : (Jvm.Cond.methodLink "Chipfold$TreeCount" (20 : Nat) ({ cls := "Chipfold$Graph", name := "size", desc := "()I" } : Jvm.MethodName)) ∈ WG := wg_5 (List.mem_of_getElem? (i := 144) (by decide +kernel)) (by decide +kernel)
theorem dX9_countTrees_4 : decode cX9_countTrees 4 = .ok (.istore_n 2, 1) := by decide +kernel
theorem dX9_countTrees_5 : decode cX9_countTrees 5 = .ok (.iconst 0, 1) := by decide +kernel
theorem dX9_countTrees_6 : decode cX9_countTrees 6 = .ok (.istore_n 3, 1) := by decide +kernel
theorem dX9_countTrees_7 : decode cX9_countTrees 7 = .ok (.iload_n 3, 1) := by decide +kernel
theorem dX9_countTrees_8 : decode cX9_countTrees 8 = .ok (.iload_n 2, 1) := by decide +kernel
theorem dX9_countTrees_9 : decode cX9_countTrees 9 = .ok (.if_icmp .ge 45, 3) := by decide +kernel
theorem dX9_countTrees_54 : decode cX9_countTrees 54 = .ok (.aload_n 0, 1) := by decide +kernel
theorem dX9_countTrees_55 : decode cX9_countTrees 55 = .ok (.getfield 14, 3) := by decide +kernel
theorem dX9_countTrees_58 : decode cX9_countTrees 58 = .ok (.iload_n 2, 1) := by decide +kernel
theorem dX9_countTrees_59 : decode cX9_countTrees 59 = .ok (.invokestatic 38, 3) := by decide +kernel
theorem dX9_countTrees_62 : decode cX9_countTrees 62 = .ok (.lreturn, 1) := by decide +kernel
theorem dX9_countTrees_12 : decode cX9_countTrees 12 = .ok (.iconst 0, 1) := by decide +kernel
theorem dX9_countTrees_13 : decode cX9_countTrees 13 = .ok (.istore 4, 2) := by decide +kernel
theorem dX9_countTrees_15 : decode cX9_countTrees 15 = .ok (.iload 4, 2) := by decide +kernel
theorem dX9_countTrees_17 : decode cX9_countTrees 17 = .ok (.iload_n 2, 1) := by decide +kernel
theorem dX9_countTrees_18 : decode cX9_countTrees 18 = .ok (.if_icmp .ge 30, 3) := by decide +kernel
theorem dX9_countTrees_48 : decode cX9_countTrees 48 = .ok (.iinc 3 1, 3) := by decide +kernel
theorem dX9_countTrees_51 : decode cX9_countTrees 51 = .ok (.goto (-44), 3) := by decide +kernel
theorem dX9_countTrees_21 : decode cX9_countTrees 21 = .ok (.aload_n 0, 1) := by decide +kernel
theorem dX9_countTrees_22 : decode cX9_countTrees 22 = .ok (.getfield 14, 3) := by decide +kernel
theorem dX9_countTrees_25 : decode cX9_countTrees 25 = .ok (.iload_n 2, 1) := by decide +kernel
theorem dX9_countTrees_26 : decode cX9_countTrees 26 = .ok (.iload_n 3, 1) := by decide +kernel
theorem dX9_countTrees_27 : decode cX9_countTrees 27 = .ok (.iload 4, 2) := by decide +kernel
theorem dX9_countTrees_29 : decode cX9_countTrees 29 = .ok (.invokestatic 26, 3) := by decide +kernel
theorem dX9_countTrees_32 : decode cX9_countTrees 32 = .ok (.aload_n 1, 1) := by decide +kernel
theorem dX9_countTrees_33 : decode cX9_countTrees 33 = .ok (.iload_n 3, 1) := by decide +kernel
theorem dX9_countTrees_34 : decode cX9_countTrees 34 = .ok (.iload 4, 2) := by decide +kernel
theorem dX9_countTrees_36 : decode cX9_countTrees 36 = .ok (.invokevirtual 30, 3) := by decide +kernel
theorem q_318 : (Jvm.Cond.methodLink "Chipfold$TreeCount" (30 : Nat) ({ cls := "Chipfold$Graph", name := "between", desc := "(II)I" } : Jvm.MethodName)) ∈ WG := wg_5 (List.mem_of_getElem? (i := 148) (by decide +kernel)) (by decide +kernel)
theorem dX9_countTrees_39 : decode cX9_countTrees 39 = .ok (.invokevirtual 34, 3) := by decide +kernel
theorem dX9_countTrees_42 : decode cX9_countTrees 42 = .ok (.iinc 4 1, 3) := by decide +kernel
theorem dX9_countTrees_45 : decode cX9_countTrees 45 = .ok (.goto (-30), 3) := by decide +kernel
/-- a contract holds with more room for frames -/
theorem CM.mono {l : Launch} {D : va_G} {k : Nat → ClassId} {y : MethodName} {cy : ByteArray} {ny : Nat} {ret : Option FieldType} {fr lo fr' lo' : Nat} {av : List Value} {w0 : va_W} {post : Option Value → va_W → Prop} {mc ms gr : Nat} (hf : fr ≤ fr') (hl : lo ≤ lo') (h : CM l D k y cy ny ret fr lo av w0 post mc ms gr) : CM l D k y cy ny ret fr' lo' av w0 post mc ms gr := fun sz => by
  intro p e ha hcs hk s m args below hfr happ hP hK
  obtain ⟨a1, a2, a3, a4, a5, a6, a7, a8⟩ := (Spec.appliesLoose_iff hfr).mp happ
  refine h sz p e ha hcs hk s m args below hfr ((Spec.appliesLoose_iff hfr).mpr ⟨a1, a2, a3, a4, a5, a6, ?_, a8⟩) hP hK
  have a7' : s.hasRoom e.platform { frames := fr', cells := mc, slots := ms, locals := lo' } = true := a7
  show s.hasRoom e.platform { frames := fr, cells := mc, slots := ms, locals := lo } = true
  simp only [State.hasRoom, Bool.and_eq_true, decide_eq_true_eq] at a7' ⊢
  obtain ⟨⟨⟨⟨y, a, b, c, d, e⟩, f⟩, g⟩, i⟩ := a7'
  exact ⟨⟨⟨⟨by omega, by omega, by omega, by omega, by omega, e⟩, by omega⟩, by omega⟩, i⟩
/-- the last vertex made one with another, in the square of one vertex less -/
def mgA (s v : Nat) (q : Nat → Int32) : Nat → Nat → Int32
  | 0 => q
  | w + 1 => upd (mgA s v q w) (((s - 1) * 6 + v) * 6 + w) (mgA s v q w ((s * 6 + v) * 6 + w))
def mgB (s : Nat) (q : Nat → Int32) : Nat → Nat → Int32
  | 0 => q
  | v + 1 => mgA s v (mgB s q v) (s - 1)
def mgD (s o : Nat) (q : Nat → Int32) : Nat → Nat → Int32
  | 0 => q
  | w + 1 => if w = o then mgD s o q w else upd (upd (mgD s o q w) (((s - 1) * 6 + o) * 6 + w) (mgD s o q w (((s - 1) * 6 + o) * 6 + w) + mgD s o q w ((s * 6 + (s - 1)) * 6 + w))) (((s - 1) * 6 + w) * 6 + o) (upd (mgD s o q w) (((s - 1) * 6 + o) * 6 + w) (mgD s o q w (((s - 1) * 6 + o) * 6 + w) + mgD s o q w ((s * 6 + (s - 1)) * 6 + w)) (((s - 1) * 6 + w) * 6 + o) + mgD s o q w ((s * 6 + (s - 1)) * 6 + w))
def mgV (s o : Nat) (q : Nat → Int32) : Nat → Int32 := mgD s o (mgB s q (s - 1)) (s - 1)
def clW (rec : (Nat → Int32) → Int64 × (Nat → Int32)) (s : Nat) (q : Nat → Int32) : Nat → Int64 × (Nat → Int32)
  | 0 => (0, q)
  | w + 1 => if (clW rec s q w).2 ((s * 6 + (s - 1)) * 6 + w) ≤ 0 then clW rec s q w else
    ((clW rec s q w).1 + ((clW rec s q w).2 ((s * 6 + (s - 1)) * 6 + w)).toInt64 * (rec (mgV s w (upd (clW rec s q w).2 ((s * 6 + (s - 1)) * 6 + w) 0))).1, (rec (mgV s w (upd (clW rec s q w).2 ((s * 6 + (s - 1)) * 6 + w) 0))).2)
def clL : Nat → (Nat → Int32) → Int64 × (Nat → Int32)
  | 0, q => (0, q)
  | 1, q => (1, q)
  | k + 2, q => clW (clL (k + 1)) (k + 2) q (k + 1)
theorem mgD_y {s o w : Nat} {q : Nat → Int32} (h : w = o) : mgD s o q (w + 1) = mgD s o q w := if_pos h
theorem mgD_n {s o w : Nat} {q : Nat → Int32} (h : ¬ w = o) : mgD s o q (w + 1) = upd (upd (mgD s o q w) (((s - 1) * 6 + o) * 6 + w) (mgD s o q w (((s - 1) * 6 + o) * 6 + w) + mgD s o q w ((s * 6 + (s - 1)) * 6 + w))) (((s - 1) * 6 + w) * 6 + o) (upd (mgD s o q w) (((s - 1) * 6 + o) * 6 + w) (mgD s o q w (((s - 1) * 6 + o) * 6 + w) + mgD s o q w ((s * 6 + (s - 1)) * 6 + w)) (((s - 1) * 6 + w) * 6 + o) + mgD s o q w ((s * 6 + (s - 1)) * 6 + w)) := if_neg h
theorem clL_s (k : Nat) (q : Nat → Int32) : clL (k + 2) q = clW (clL (k + 1)) (k + 2) q (k + 1) := rfl
theorem clL_e2 (q : Nat → Int32) : clL 2 q = clW (clL 1) 2 q 1 := clL_s 0 q
theorem clL_e3 (q : Nat → Int32) : clL 3 q = clW (clL 2) 3 q 2 := clL_s 1 q
theorem clL_e4 (q : Nat → Int32) : clL 4 q = clW (clL 3) 4 q 3 := clL_s 2 q
theorem clL_e5 (q : Nat → Int32) : clL 5 q = clW (clL 4) 5 q 4 := clL_s 3 q
theorem clL_e6 (q : Nat → Int32) : clL 6 q = clW (clL 5) 6 q 5 := clL_s 4 q
theorem clW_y {rec : (Nat → Int32) → Int64 × (Nat → Int32)} {s : Nat} {q : Nat → Int32} {w : Nat} (h : ¬ (clW rec s q w).2 ((s * 6 + (s - 1)) * 6 + w) ≤ 0) : clW rec s q (w + 1) = ((clW rec s q w).1 + ((clW rec s q w).2 ((s * 6 + (s - 1)) * 6 + w)).toInt64 * (rec (mgV s w (upd (clW rec s q w).2 ((s * 6 + (s - 1)) * 6 + w) 0))).1, (rec (mgV s w (upd (clW rec s q w).2 ((s * 6 + (s - 1)) * 6 + w) 0))).2) := if_neg h
theorem clW_n {rec : (Nat → Int32) → Int64 × (Nat → Int32)} {s : Nat} {q : Nat → Int32} {w : Nat} (h : (clW rec s q w).2 ((s * 6 + (s - 1)) * 6 + w) ≤ 0) : clW rec s q (w + 1) = clW rec s q w := if_pos h
set_option maxRecDepth 100000 in
set_option maxHeartbeats 400000 in
theorem c_X9_cell {l : Launch} {D : va_G} {k : Nat → ClassId} (sN : Nat) (v : Nat) (w : Nat)  : CM l D k yX9_cell cX9_cell 3 (some .int)  0 0 [.int (nI sN), .int (nI v), .int (nI w)] [] (is1 (some (.int (nI ((sN * 6 + v) * 6 + w)))) []) 0 0 0 := by
  refine CM.of (lv0 := [(0, .int (nI sN)), (1, .int (nI v)), (2, .int (nI w))]) (by decide +kernel) (Nat.le_of_ble_eq_true rfl) rfl ?_
  intro p9 e9 s9 m9 bl9 me9 co9 C hr hlk hin had
  refine g_iload_n (pc := 0) C 0 rfl rfl dX9_cell_0 ?_
  refine g_bipush (pc := 1) (v := 6) C (by decide) dX9_cell_1 ?_
  refine g_imul (pc := 3) C dX9_cell_3 ?_
  refine g_iload_n (pc := 4) C 1 rfl rfl dX9_cell_4 ?_
  refine g_iadd (pc := 5) C dX9_cell_5 ?_
  refine g_bipush (pc := 6) (v := 6) C (by decide) dX9_cell_6 ?_
  refine g_imul (pc := 8) C dX9_cell_8 ?_
  refine g_iload_n (pc := 9) C 2 rfl rfl dX9_cell_9 ?_
  refine g_iadd (pc := 10) C dX9_cell_10 ?_
  refine G.eqs (st' := [.int (nI ((sN * 6 + v) * 6 + w))]) (congrArg (fun z9 => [Value.int z9]) (show ((((((nI sN) * 6) + (nI v)) * 6) + (nI w)) : Int32) = (nI ((sN * 6 + v) * 6 + w)) from by rw [show (6 : Int32) = nI 6 from rfl, pk_mul, nI_add, pk_mul, nI_add])) ?_
  exact g_iret (pc := 11) C hr hlk (by first | decide | omega) (by first | decide | omega) (by first | decide | omega) dX9_cell_11 ⟨rfl, rfl⟩
set_option maxRecDepth 100000 in
set_option maxHeartbeats 400000 in
theorem c_X9_merge {l : Launch} {D : va_G} {k : Nat → ClassId} (y1 : Nat) (y2 : Nat) (q9 : Nat → Int32) (sN : Nat) (o9 : Nat) (hs : sN ≤ 6) (h1s : 1 ≤ sN) (ho9 : o9 < sN - 1) : CM l D k yX9_merge cX9_merge 6 none  1 22 [.ref y1, .int (nI sN), .int (nI o9)] [(y1, .inr (10, [.ref y2])), (y2, aI k 252 q9)] (is1 none [(y1, .inr (10, [.ref y2])), (y2, aI k 252 (mgV sN o9 q9))]) 0 0 0 := by
  refine CM.of (lv0 := [(0, .ref y1), (1, .int (nI sN)), (2, .int (nI o9))]) (by decide +kernel) (Nat.le_of_ble_eq_true rfl) rfl ?_
  intro p9 e9 s9 m9 bl9 me9 co9 C hr hlk hin had
  refine g_iload_n (pc := 0) C 1 rfl rfl dX9_merge_0 ?_
  refine g_iconst (pc := 1) (v := 1) C (by decide) dX9_merge_1 ?_
  refine g_isub (pc := 2) C dX9_merge_2 ?_
  refine G.eqs (st' := [.int (nI (sN - 1))]) (congrArg (β := List Value) (fun z9 => [.int z9]) (show (((nI sN) - 1) : Int32) = (nI (sN - 1)) from (show nI sN - nI 1 = nI (sN - 1) from pk_sub (by omega)))) ?_
  refine g_istore_n (pc := 3) C [(3, .int (nI (sN - 1))), (0, .ref y1), (1, .int (nI sN)), (2, .int (nI o9))] rfl dX9_merge_3 (by decide) rfl ?_
  refine g_iconst (pc := 4) (v := 0) C (by decide) dX9_merge_4 ?_
  refine g_istore (pc := 5) C [(4, .int 0), (3, .int (nI (sN - 1))), (0, .ref y1), (1, .int (nI sN)), (2, .int (nI o9))] dX9_merge_5 (by decide) rfl ?_
  have key_7 : ∀ (fuel : Nat) (v : Nat), v ≤ sN - 1 → sN - 1 - v < fuel → G p9 l e9 { frames := 1, cells := 0, slots := 0, locals := 22 } s9 m9 ([.ref y1, .int (nI sN), .int (nI o9)] : List Value).toArray bl9 me9 co9 D 6 (va_A [(y1, .inr (10, [.ref y2])), (y2, aI k 252 q9)] s9.heap.size) (QM bl9 D ([.ref y1, .int (nI sN), .int (nI o9)] : List Value).toArray s9 [(y1, .inr (10, [.ref y2])), (y2, aI k 252 q9)] (is1 none [(y1, .inr (10, [.ref y2])), (y2, aI k 252 (mgV sN o9 q9))]) 0 0 0) [(y1, .inr (10, [.ref y2])), (y2, aI k 252 (mgB sN q9 v))] [(0, .ref y1), (1, .int (nI sN)), (2, .int (nI o9)), (3, .int (nI (sN - 1))), (4, .int (nI v))] 0 0 0 7 [] := by
    intro fuel
    induction fuel with
    | zero => intro v hv hm; exact absurd hm (Nat.not_lt_zero _)
    | succ fuel ih =>
      intro v hv hm
      have ih_7 := ih
      refine g_iload (pc := 7) C 4 rfl dX9_merge_7 ?_
      refine g_iload_n (pc := 9) C 3 rfl rfl dX9_merge_9 ?_
      refine g_icmp_ge (pc := 10) C 58 (by decide) dX9_merge_10 (fun c_10 => ?_) (fun c_10 => ?_)
      · have h3 : v = sN - 1 := by { have := nle_ge (b := sN - 1) (a := v) (by omega) c_10; omega }
        refine G.fn (mgB sN q9 (sN - 1)) 1 [(y1, .inr (10, [.ref y2])), (y2, aI k 252 (mgB sN q9 (sN - 1)))] rfl (fun j hj => by rw [h3]) rfl ?_
        refine g_iconst (pc := 58) (v := 0) C (by decide) dX9_merge_58 ?_
        refine g_istore (pc := 59) C [(4, .int 0), (0, .ref y1), (1, .int (nI sN)), (2, .int (nI o9)), (3, .int (nI (sN - 1)))] dX9_merge_59 (by decide) rfl ?_
        have key_61 : ∀ (fuel : Nat) (u : Nat), u ≤ sN - 1 → sN - 1 - u < fuel → G p9 l e9 { frames := 1, cells := 0, slots := 0, locals := 22 } s9 m9 ([.ref y1, .int (nI sN), .int (nI o9)] : List Value).toArray bl9 me9 co9 D 6 (va_A [(y1, .inr (10, [.ref y2])), (y2, aI k 252 q9)] s9.heap.size) (QM bl9 D ([.ref y1, .int (nI sN), .int (nI o9)] : List Value).toArray s9 [(y1, .inr (10, [.ref y2])), (y2, aI k 252 q9)] (is1 none [(y1, .inr (10, [.ref y2])), (y2, aI k 252 (mgV sN o9 q9))]) 0 0 0) [(y1, .inr (10, [.ref y2])), (y2, aI k 252 (mgD sN o9 (mgB sN q9 (sN - 1)) u))] [(0, .ref y1), (1, .int (nI sN)), (2, .int (nI o9)), (3, .int (nI (sN - 1))), (4, .int (nI u))] 0 0 0 61 [] := by
          intro fuel
          induction fuel with
          | zero => intro u hu hm; exact absurd hm (Nat.not_lt_zero _)
          | succ fuel ih =>
            intro u hu hm
            have ih_61 := ih
            refine g_iload (pc := 61) C 4 rfl dX9_merge_61 ?_
            refine g_iload_n (pc := 63) C 3 rfl rfl dX9_merge_63 ?_
            refine g_icmp_ge (pc := 64) C 118 (by decide) dX9_merge_64 (fun c_64 => ?_) (fun c_64 => ?_)
            · have h5 : u = sN - 1 := by { have := nle_ge (b := sN - 1) (a := u) (by omega) c_64; omega }
              refine G.fn (mgV sN o9 q9) 1 [(y1, .inr (10, [.ref y2])), (y2, aI k 252 (mgV sN o9 q9))] rfl (fun j hj => by { rw [h5]; try rfl }) rfl ?_
              exact g_vret (pc := 118) C hr hlk (by first | decide | omega) (by first | decide | omega) (by first | decide | omega) dX9_merge_118 ⟨rfl, rfl⟩
            · have hl64 : u < sN - 1 := nle_lt (by omega) c_64
              refine g_aload_n (pc := 67) C 0 rfl rfl dX9_merge_67 ?_
              refine g_iload_n (pc := 68) C 1 rfl rfl dX9_merge_68 ?_
              refine g_iload_n (pc := 69) C 3 rfl rfl dX9_merge_69 ?_
              refine g_iload (pc := 70) C 4 rfl dX9_merge_70 ?_
              refine g_callS (pc := 72) (cells := 0) (slots := 0) (g := 0) (As := [.int (nI sN), .int (nI (sN - 1)), .int (nI u)]) (st := [.ref y1]) (b := 0) C (nA := 3) rfl (c_X9_cell sN (sN - 1) u ) q_306 q_307 q_162 q_305 (by decide +kernel) dX9_merge_72 ⟨Nat.le_of_ble_eq_true rfl, Nat.le_of_ble_eq_true rfl⟩ [] [0, 1] rfl (wr := [(y1, .inr (10, [.ref y2])), (y2, aI k 252 (mgD sN o9 (mgB sN q9 (sN - 1)) u))]) rfl (by decide) (by decide) (by decide) (Nat.le_of_ble_eq_true rfl) ⟨Nat.le_of_ble_eq_true rfl, Nat.le_of_ble_eq_true rfl⟩ (fun rv w1 h1 => ?_)
              obtain ⟨rfl, rfl⟩ := h1
              refine G.aft [0, 1] (ws' := [(y1, .inr (10, [.ref y2])), (y2, aI k 252 (mgD sN o9 (mgB sN q9 (sN - 1)) u))]) (st' := [.int (nI ((sN * 6 + (sN - 1)) * 6 + u)), .ref y1]) (cells' := 0) (slots' := 0) (g' := 0) (by decide) rfl rfl rfl rfl rfl ?_
              refine g_callV (pc := 75) (cells := 0) (slots := 0) (g := 0) (As := [.int (nI ((sN * 6 + (sN - 1)) * 6 + u))]) (st := []) (T := TX8) (q0 := 0) C (nA := 1) rfl (c_X8_at_n y1 y2 252 (mgD sN o9 (mgB sN q9 (sN - 1)) u) ((sN * 6 + (sN - 1)) * 6 + u) (by first | assumption | decide | omega) (by first | assumption | decide | omega)) q_308 q_9 q_7 q_6 q_5 (by decide +kernel) rfl rfl dX9_merge_75 ⟨Nat.le_of_ble_eq_true rfl, Nat.le_of_ble_eq_true rfl⟩ [0, 1] [] rfl (wr := []) rfl (by decide) (by decide) (by decide) (Nat.le_of_ble_eq_true rfl) ⟨Nat.le_of_ble_eq_true rfl, Nat.le_of_ble_eq_true rfl⟩ (fun rv w1 h1 => ?_)
              obtain ⟨rfl, rfl⟩ := h1
              refine G.aft [0, 1] (ws' := [(y1, .inr (10, [.ref y2])), (y2, aI k 252 (mgD sN o9 (mgB sN q9 (sN - 1)) u))]) (st' := [.int ((mgD sN o9 (mgB sN q9 (sN - 1)) u) ((sN * 6 + (sN - 1)) * 6 + u))]) (cells' := 0) (slots' := 0) (g' := 0) (by decide) rfl rfl rfl rfl rfl ?_
              refine g_istore (pc := 78) C [(5, .int ((mgD sN o9 (mgB sN q9 (sN - 1)) u) ((sN * 6 + (sN - 1)) * 6 + u))), (0, .ref y1), (1, .int (nI sN)), (2, .int (nI o9)), (3, .int (nI (sN - 1))), (4, .int (nI u))] dX9_merge_78 (by decide) rfl ?_
              refine g_iload (pc := 80) C 5 rfl dX9_merge_80 ?_
              refine g_iload_n (pc := 82) C 3 rfl rfl dX9_merge_82 ?_
              refine g_icmp_eq (pc := 83) C 112 (by decide) dX9_merge_83 (fun c_83 => ?_) (fun c_83 => ?_)
              · have c83 : u = o9 := (nI_eq (by omega) (by omega)).mp c_83
                refine g_iinc (pc := 112) (n := 1) (v := (nI (u + 1))) C 5 [(4, .int (nI (u + 1))), (5, .int ((mgD sN o9 (mgB sN q9 (sN - 1)) u) ((sN * 6 + (sN - 1)) * 6 + u))), (0, .ref y1), (1, .int (nI sN)), (2, .int (nI o9)), (3, .int (nI (sN - 1)))] rfl (nI_1 u) dX9_merge_112 (by decide) rfl ?_
                refine g_goto (pc := 115) C 61 (by decide) dX9_merge_115 ?_
                refine G.loc [2, 3, 4, 5, 0] (lv' := [(0, .ref y1), (1, .int (nI sN)), (2, .int (nI o9)), (3, .int (nI (sN - 1))), (4, .int (nI (u + 1)))]) rfl ?_
                refine G.fn (mgD sN o9 (mgB sN q9 (sN - 1)) (u + 1)) 1 [(y1, .inr (10, [.ref y2])), (y2, aI k 252 (mgD sN o9 (mgB sN q9 (sN - 1)) (u + 1)))] rfl (fun j hj => by first | (rw [mgD_y c83]) | (rw [mgD_n c83])) rfl ?_
                exact ih_61 (u + 1) (by omega) (by omega)
              · have c83 : ¬ u = o9 := fun q => c_83 (by rw [q])
                refine g_aload_n (pc := 86) C 1 rfl rfl dX9_merge_86 ?_
                refine g_iload_n (pc := 87) C 4 rfl rfl dX9_merge_87 ?_
                refine g_iload_n (pc := 88) C 3 rfl rfl dX9_merge_88 ?_
                refine g_iload (pc := 89) C 5 rfl dX9_merge_89 ?_
                refine g_callS (pc := 91) (cells := 0) (slots := 0) (g := 0) (As := [.int (nI (sN - 1)), .int (nI o9), .int (nI u)]) (st := [.ref y1]) (b := 0) C (nA := 3) rfl (c_X9_cell (sN - 1) o9 u ) q_306 q_307 q_162 q_305 (by decide +kernel) dX9_merge_91 ⟨Nat.le_of_ble_eq_true rfl, Nat.le_of_ble_eq_true rfl⟩ [] [0, 1] rfl (wr := [(y1, .inr (10, [.ref y2])), (y2, aI k 252 (mgD sN o9 (mgB sN q9 (sN - 1)) u))]) rfl (by decide) (by decide) (by decide) (Nat.le_of_ble_eq_true rfl) ⟨Nat.le_of_ble_eq_true rfl, Nat.le_of_ble_eq_true rfl⟩ (fun rv w1 h1 => ?_)
                obtain ⟨rfl, rfl⟩ := h1
                refine G.aft [0, 1] (ws' := [(y1, .inr (10, [.ref y2])), (y2, aI k 252 (mgD sN o9 (mgB sN q9 (sN - 1)) u))]) (st' := [.int (nI (((sN - 1) * 6 + o9) * 6 + u)), .ref y1]) (cells' := 0) (slots' := 0) (g' := 0) (by decide) rfl rfl rfl rfl rfl ?_
                refine g_iload (pc := 94) C 0 rfl dX9_merge_94 ?_
                refine g_callV (pc := 96) (cells := 0) (slots := 0) (g := 0) (As := [.int (nI (((sN - 1) * 6 + o9) * 6 + u)), .int ((mgD sN o9 (mgB sN q9 (sN - 1)) u) ((sN * 6 + (sN - 1)) * 6 + u))]) (st := []) (T := TX8) (q0 := 0) C (nA := 2) rfl (c_X8_add_n y1 y2 252 (mgD sN o9 (mgB sN q9 (sN - 1)) u) (((sN - 1) * 6 + o9) * 6 + u) ((mgD sN o9 (mgB sN q9 (sN - 1)) u) ((sN * 6 + (sN - 1)) * 6 + u)) (by first | assumption | decide | omega) (by first | assumption | decide | omega)) q_309 q_59 q_57 q_6 q_56 (by decide +kernel) rfl rfl dX9_merge_96 ⟨Nat.le_of_ble_eq_true rfl, Nat.le_of_ble_eq_true rfl⟩ [0, 1] [] rfl (wr := []) rfl (by decide) (by decide) (by decide) (Nat.le_of_ble_eq_true rfl) ⟨Nat.le_of_ble_eq_true rfl, Nat.le_of_ble_eq_true rfl⟩ (fun rv w1 h1 => ?_)
                obtain ⟨rfl, rfl⟩ := h1
                refine G.aft [0, 1] (ws' := [(y1, .inr (10, [.ref y2])), (y2, aI k 252 (upd (mgD sN o9 (mgB sN q9 (sN - 1)) u) (((sN - 1) * 6 + o9) * 6 + u) ((mgD sN o9 (mgB sN q9 (sN - 1)) u) (((sN - 1) * 6 + o9) * 6 + u) + ((mgD sN o9 (mgB sN q9 (sN - 1)) u) ((sN * 6 + (sN - 1)) * 6 + u)))))]) (st' := []) (cells' := 0) (slots' := 0) (g' := 0) (by decide) rfl rfl rfl rfl rfl ?_
                refine g_aload_n (pc := 99) C 1 rfl rfl dX9_merge_99 ?_
                refine g_iload_n (pc := 100) C 4 rfl rfl dX9_merge_100 ?_
                refine g_iload (pc := 101) C 5 rfl dX9_merge_101 ?_
                refine g_iload_n (pc := 103) C 3 rfl rfl dX9_merge_103 ?_
                refine g_callS (pc := 104) (cells := 0) (slots := 0) (g := 0) (As := [.int (nI (sN - 1)), .int (nI u), .int (nI o9)]) (st := [.ref y1]) (b := 0) C (nA := 3) rfl (c_X9_cell (sN - 1) u o9 ) q_306 q_307 q_162 q_305 (by decide +kernel) dX9_merge_104 ⟨Nat.le_of_ble_eq_true rfl, Nat.le_of_ble_eq_true rfl⟩ [] [0, 1] rfl (wr := [(y1, .inr (10, [.ref y2])), (y2, aI k 252 (upd (mgD sN o9 (mgB sN q9 (sN - 1)) u) (((sN - 1) * 6 + o9) * 6 + u) ((mgD sN o9 (mgB sN q9 (sN - 1)) u) (((sN - 1) * 6 + o9) * 6 + u) + ((mgD sN o9 (mgB sN q9 (sN - 1)) u) ((sN * 6 + (sN - 1)) * 6 + u)))))]) rfl (by decide) (by decide) (by decide) (Nat.le_of_ble_eq_true rfl) ⟨Nat.le_of_ble_eq_true rfl, Nat.le_of_ble_eq_true rfl⟩ (fun rv w1 h1 => ?_)
                obtain ⟨rfl, rfl⟩ := h1
                refine G.aft [0, 1] (ws' := [(y1, .inr (10, [.ref y2])), (y2, aI k 252 (upd (mgD sN o9 (mgB sN q9 (sN - 1)) u) (((sN - 1) * 6 + o9) * 6 + u) ((mgD sN o9 (mgB sN q9 (sN - 1)) u) (((sN - 1) * 6 + o9) * 6 + u) + ((mgD sN o9 (mgB sN q9 (sN - 1)) u) ((sN * 6 + (sN - 1)) * 6 + u)))))]) (st' := [.int (nI (((sN - 1) * 6 + u) * 6 + o9)), .ref y1]) (cells' := 0) (slots' := 0) (g' := 0) (by decide) rfl rfl rfl rfl rfl ?_
                refine g_iload (pc := 107) C 0 rfl dX9_merge_107 ?_
                refine g_callV (pc := 109) (cells := 0) (slots := 0) (g := 0) (As := [.int (nI (((sN - 1) * 6 + u) * 6 + o9)), .int ((mgD sN o9 (mgB sN q9 (sN - 1)) u) ((sN * 6 + (sN - 1)) * 6 + u))]) (st := []) (T := TX8) (q0 := 0) C (nA := 2) rfl (c_X8_add_n y1 y2 252 (upd (mgD sN o9 (mgB sN q9 (sN - 1)) u) (((sN - 1) * 6 + o9) * 6 + u) ((mgD sN o9 (mgB sN q9 (sN - 1)) u) (((sN - 1) * 6 + o9) * 6 + u) + ((mgD sN o9 (mgB sN q9 (sN - 1)) u) ((sN * 6 + (sN - 1)) * 6 + u)))) (((sN - 1) * 6 + u) * 6 + o9) ((mgD sN o9 (mgB sN q9 (sN - 1)) u) ((sN * 6 + (sN - 1)) * 6 + u)) (by first | assumption | decide | omega) (by first | assumption | decide | omega)) q_309 q_59 q_57 q_6 q_56 (by decide +kernel) rfl rfl dX9_merge_109 ⟨Nat.le_of_ble_eq_true rfl, Nat.le_of_ble_eq_true rfl⟩ [0, 1] [] rfl (wr := []) rfl (by decide) (by decide) (by decide) (Nat.le_of_ble_eq_true rfl) ⟨Nat.le_of_ble_eq_true rfl, Nat.le_of_ble_eq_true rfl⟩ (fun rv w1 h1 => ?_)
                obtain ⟨rfl, rfl⟩ := h1
                refine G.aft [0, 1] (ws' := [(y1, .inr (10, [.ref y2])), (y2, aI k 252 (upd (upd (mgD sN o9 (mgB sN q9 (sN - 1)) u) (((sN - 1) * 6 + o9) * 6 + u) ((mgD sN o9 (mgB sN q9 (sN - 1)) u) (((sN - 1) * 6 + o9) * 6 + u) + ((mgD sN o9 (mgB sN q9 (sN - 1)) u) ((sN * 6 + (sN - 1)) * 6 + u)))) (((sN - 1) * 6 + u) * 6 + o9) ((upd (mgD sN o9 (mgB sN q9 (sN - 1)) u) (((sN - 1) * 6 + o9) * 6 + u) ((mgD sN o9 (mgB sN q9 (sN - 1)) u) (((sN - 1) * 6 + o9) * 6 + u) + ((mgD sN o9 (mgB sN q9 (sN - 1)) u) ((sN * 6 + (sN - 1)) * 6 + u)))) (((sN - 1) * 6 + u) * 6 + o9) + ((mgD sN o9 (mgB sN q9 (sN - 1)) u) ((sN * 6 + (sN - 1)) * 6 + u)))))]) (st' := []) (cells' := 0) (slots' := 0) (g' := 0) (by decide) rfl rfl rfl rfl rfl ?_
                refine g_iinc (pc := 112) (n := 1) (v := (nI (u + 1))) C 5 [(4, .int (nI (u + 1))), (5, .int ((mgD sN o9 (mgB sN q9 (sN - 1)) u) ((sN * 6 + (sN - 1)) * 6 + u))), (0, .ref y1), (1, .int (nI sN)), (2, .int (nI o9)), (3, .int (nI (sN - 1)))] rfl (nI_1 u) dX9_merge_112 (by decide) rfl ?_
                refine g_goto (pc := 115) C 61 (by decide) dX9_merge_115 ?_
                refine G.loc [2, 3, 4, 5, 0] (lv' := [(0, .ref y1), (1, .int (nI sN)), (2, .int (nI o9)), (3, .int (nI (sN - 1))), (4, .int (nI (u + 1)))]) rfl ?_
                refine G.fn (mgD sN o9 (mgB sN q9 (sN - 1)) (u + 1)) 1 [(y1, .inr (10, [.ref y2])), (y2, aI k 252 (mgD sN o9 (mgB sN q9 (sN - 1)) (u + 1)))] rfl (fun j hj => by first | (rw [mgD_y c83]) | (rw [mgD_n c83])) rfl ?_
                exact ih_61 (u + 1) (by omega) (by omega)
        refine G.loc [1, 2, 3, 4, 0] (lv' := [(0, .ref y1), (1, .int (nI sN)), (2, .int (nI o9)), (3, .int (nI (sN - 1))), (4, .int 0)]) rfl ?_
        refine G.fn (mgD sN o9 (mgB sN q9 (sN - 1)) 0) 1 [(y1, .inr (10, [.ref y2])), (y2, aI k 252 (mgD sN o9 (mgB sN q9 (sN - 1)) 0))] rfl (fun j hj => by rfl) rfl ?_
        refine G.eql (lv' := [(0, .ref y1), (1, .int (nI sN)), (2, .int (nI o9)), (3, .int (nI (sN - 1))), (4, .int (nI 0))]) (congrArg (β := List (Nat × Value)) (fun z9 => [(0, .ref y1), (1, .int (nI sN)), (2, .int (nI o9)), (3, .int (nI (sN - 1))), (4, .int z9)]) (show (0 : Int32) = (nI 0) from by exact nI_0.symm)) ?_
        exact key_61 (sN - 1 - 0 + 1) 0 (by omega) (Nat.lt_succ_self _)
      · have hl10 : v < sN - 1 := nle_lt (by omega) c_10
        refine g_iconst (pc := 13) (v := 0) C (by decide) dX9_merge_13 ?_
        refine g_istore (pc := 14) C [(5, .int 0), (0, .ref y1), (1, .int (nI sN)), (2, .int (nI o9)), (3, .int (nI (sN - 1))), (4, .int (nI v))] dX9_merge_14 (by decide) rfl ?_
        have key_16 : ∀ (fuel : Nat) (w : Nat), w ≤ sN - 1 → sN - 1 - w < fuel → G p9 l e9 { frames := 1, cells := 0, slots := 0, locals := 22 } s9 m9 ([.ref y1, .int (nI sN), .int (nI o9)] : List Value).toArray bl9 me9 co9 D 6 (va_A [(y1, .inr (10, [.ref y2])), (y2, aI k 252 q9)] s9.heap.size) (QM bl9 D ([.ref y1, .int (nI sN), .int (nI o9)] : List Value).toArray s9 [(y1, .inr (10, [.ref y2])), (y2, aI k 252 q9)] (is1 none [(y1, .inr (10, [.ref y2])), (y2, aI k 252 (mgV sN o9 q9))]) 0 0 0) [(y1, .inr (10, [.ref y2])), (y2, aI k 252 (mgA sN v (mgB sN q9 v) w))] [(0, .ref y1), (1, .int (nI sN)), (2, .int (nI o9)), (3, .int (nI (sN - 1))), (4, .int (nI v)), (5, .int (nI w))] 0 0 0 16 [] := by
          intro fuel
          induction fuel with
          | zero => intro w hw hm; exact absurd hm (Nat.not_lt_zero _)
          | succ fuel ih =>
            intro w hw hm
            have ih_16 := ih
            refine g_iload (pc := 16) C 5 rfl dX9_merge_16 ?_
            refine g_iload_n (pc := 18) C 3 rfl rfl dX9_merge_18 ?_
            refine g_icmp_ge (pc := 19) C 52 (by decide) dX9_merge_19 (fun c_19 => ?_) (fun c_19 => ?_)
            · have h4 : w = sN - 1 := by { have := nle_ge (b := sN - 1) (a := w) (by omega) c_19; omega }
              refine g_iinc (pc := 52) (n := 1) (v := (nI (v + 1))) C 4 [(4, .int (nI (v + 1))), (0, .ref y1), (1, .int (nI sN)), (2, .int (nI o9)), (3, .int (nI (sN - 1))), (5, .int (nI w))] rfl (nI_1 v) dX9_merge_52 (by decide) rfl ?_
              refine g_goto (pc := 55) C 7 (by decide) dX9_merge_55 ?_
              refine G.loc [1, 2, 3, 4, 0] (lv' := [(0, .ref y1), (1, .int (nI sN)), (2, .int (nI o9)), (3, .int (nI (sN - 1))), (4, .int (nI (v + 1)))]) rfl ?_
              refine G.fn (mgB sN q9 (v + 1)) 1 [(y1, .inr (10, [.ref y2])), (y2, aI k 252 (mgB sN q9 (v + 1)))] rfl (fun j hj => by rw [h4]; try rfl) rfl ?_
              exact ih_7 (v + 1) (by omega) (by omega)
            · have hl19 : w < sN - 1 := nle_lt (by omega) c_19
              refine g_aload_n (pc := 22) C 0 rfl rfl dX9_merge_22 ?_
              refine g_iload_n (pc := 23) C 3 rfl rfl dX9_merge_23 ?_
              refine g_iload (pc := 24) C 4 rfl dX9_merge_24 ?_
              refine g_iload (pc := 26) C 5 rfl dX9_merge_26 ?_
              refine g_callS (pc := 28) (cells := 0) (slots := 0) (g := 0) (As := [.int (nI (sN - 1)), .int (nI v), .int (nI w)]) (st := [.ref y1]) (b := 0) C (nA := 3) rfl (c_X9_cell (sN - 1) v w ) q_306 q_307 q_162 q_305 (by decide +kernel) dX9_merge_28 ⟨Nat.le_of_ble_eq_true rfl, Nat.le_of_ble_eq_true rfl⟩ [] [0, 1] rfl (wr := [(y1, .inr (10, [.ref y2])), (y2, aI k 252 (mgA sN v (mgB sN q9 v) w))]) rfl (by decide) (by decide) (by decide) (Nat.le_of_ble_eq_true rfl) ⟨Nat.le_of_ble_eq_true rfl, Nat.le_of_ble_eq_true rfl⟩ (fun rv w1 h1 => ?_)
              obtain ⟨rfl, rfl⟩ := h1
              refine G.aft [0, 1] (ws' := [(y1, .inr (10, [.ref y2])), (y2, aI k 252 (mgA sN v (mgB sN q9 v) w))]) (st' := [.int (nI (((sN - 1) * 6 + v) * 6 + w)), .ref y1]) (cells' := 0) (slots' := 0) (g' := 0) (by decide) rfl rfl rfl rfl rfl ?_
              refine g_aload_n (pc := 31) C 0 rfl rfl dX9_merge_31 ?_
              refine g_iload_n (pc := 32) C 1 rfl rfl dX9_merge_32 ?_
              refine g_iload (pc := 33) C 4 rfl dX9_merge_33 ?_
              refine g_iload (pc := 35) C 5 rfl dX9_merge_35 ?_
              refine g_callS (pc := 37) (cells := 0) (slots := 0) (g := 0) (As := [.int (nI sN), .int (nI v), .int (nI w)]) (st := [.ref y1, .int (nI (((sN - 1) * 6 + v) * 6 + w)), .ref y1]) (b := 0) C (nA := 3) rfl (c_X9_cell sN v w ) q_306 q_307 q_162 q_305 (by decide +kernel) dX9_merge_37 ⟨Nat.le_of_ble_eq_true rfl, Nat.le_of_ble_eq_true rfl⟩ [] [0, 1] rfl (wr := [(y1, .inr (10, [.ref y2])), (y2, aI k 252 (mgA sN v (mgB sN q9 v) w))]) rfl (by decide) (by decide) (by decide) (Nat.le_of_ble_eq_true rfl) ⟨Nat.le_of_ble_eq_true rfl, Nat.le_of_ble_eq_true rfl⟩ (fun rv w1 h1 => ?_)
              obtain ⟨rfl, rfl⟩ := h1
              refine G.aft [0, 1] (ws' := [(y1, .inr (10, [.ref y2])), (y2, aI k 252 (mgA sN v (mgB sN q9 v) w))]) (st' := [.int (nI ((sN * 6 + v) * 6 + w)), .ref y1, .int (nI (((sN - 1) * 6 + v) * 6 + w)), .ref y1]) (cells' := 0) (slots' := 0) (g' := 0) (by decide) rfl rfl rfl rfl rfl ?_
              refine g_callV (pc := 40) (cells := 0) (slots := 0) (g := 0) (As := [.int (nI ((sN * 6 + v) * 6 + w))]) (st := [.int (nI (((sN - 1) * 6 + v) * 6 + w)), .ref y1]) (T := TX8) (q0 := 0) C (nA := 1) rfl (c_X8_at_n y1 y2 252 (mgA sN v (mgB sN q9 v) w) ((sN * 6 + v) * 6 + w) (by first | assumption | decide | omega) (by first | assumption | decide | omega)) q_308 q_9 q_7 q_6 q_5 (by decide +kernel) rfl rfl dX9_merge_40 ⟨Nat.le_of_ble_eq_true rfl, Nat.le_of_ble_eq_true rfl⟩ [0, 1] [] rfl (wr := []) rfl (by decide) (by decide) (by decide) (Nat.le_of_ble_eq_true rfl) ⟨Nat.le_of_ble_eq_true rfl, Nat.le_of_ble_eq_true rfl⟩ (fun rv w1 h1 => ?_)
              obtain ⟨rfl, rfl⟩ := h1
              refine G.aft [0, 1] (ws' := [(y1, .inr (10, [.ref y2])), (y2, aI k 252 (mgA sN v (mgB sN q9 v) w))]) (st' := [.int ((mgA sN v (mgB sN q9 v) w) ((sN * 6 + v) * 6 + w)), .int (nI (((sN - 1) * 6 + v) * 6 + w)), .ref y1]) (cells' := 0) (slots' := 0) (g' := 0) (by decide) rfl rfl rfl rfl rfl ?_
              refine g_callV (pc := 43) (cells := 0) (slots := 0) (g := 0) (As := [.int (nI (((sN - 1) * 6 + v) * 6 + w)), .int ((mgA sN v (mgB sN q9 v) w) ((sN * 6 + v) * 6 + w))]) (st := []) (T := TX8) (q0 := 0) C (nA := 2) rfl (c_X8_write_n y1 y2 252 (mgA sN v (mgB sN q9 v) w) (((sN - 1) * 6 + v) * 6 + w) ((mgA sN v (mgB sN q9 v) w) ((sN * 6 + v) * 6 + w)) (by first | assumption | decide | omega) (by first | assumption | decide | omega)) q_310 q_202 q_200 q_6 q_199 (by decide +kernel) rfl rfl dX9_merge_43 ⟨Nat.le_of_ble_eq_true rfl, Nat.le_of_ble_eq_true rfl⟩ [0, 1] [] rfl (wr := []) rfl (by decide) (by decide) (by decide) (Nat.le_of_ble_eq_true rfl) ⟨Nat.le_of_ble_eq_true rfl, Nat.le_of_ble_eq_true rfl⟩ (fun rv w1 h1 => ?_)
              obtain ⟨rfl, rfl⟩ := h1
              refine G.aft [0, 1] (ws' := [(y1, .inr (10, [.ref y2])), (y2, aI k 252 (upd (mgA sN v (mgB sN q9 v) w) (((sN - 1) * 6 + v) * 6 + w) ((mgA sN v (mgB sN q9 v) w) ((sN * 6 + v) * 6 + w))))]) (st' := []) (cells' := 0) (slots' := 0) (g' := 0) (by decide) rfl rfl rfl rfl rfl ?_
              refine g_iinc (pc := 46) (n := 1) (v := (nI (w + 1))) C 5 [(5, .int (nI (w + 1))), (0, .ref y1), (1, .int (nI sN)), (2, .int (nI o9)), (3, .int (nI (sN - 1))), (4, .int (nI v))] rfl (nI_1 w) dX9_merge_46 (by decide) rfl ?_
              refine g_goto (pc := 49) C 16 (by decide) dX9_merge_49 ?_
              refine G.loc [1, 2, 3, 4, 5, 0] (lv' := [(0, .ref y1), (1, .int (nI sN)), (2, .int (nI o9)), (3, .int (nI (sN - 1))), (4, .int (nI v)), (5, .int (nI (w + 1)))]) rfl ?_
              refine G.fn (mgA sN v (mgB sN q9 v) (w + 1)) 1 [(y1, .inr (10, [.ref y2])), (y2, aI k 252 (mgA sN v (mgB sN q9 v) (w + 1)))] rfl (fun j hj => by rfl) rfl ?_
              exact ih_16 (w + 1) (by omega) (by omega)
        refine G.loc [1, 2, 3, 4, 5, 0] (lv' := [(0, .ref y1), (1, .int (nI sN)), (2, .int (nI o9)), (3, .int (nI (sN - 1))), (4, .int (nI v)), (5, .int 0)]) rfl ?_
        refine G.fn (mgA sN v (mgB sN q9 v) 0) 1 [(y1, .inr (10, [.ref y2])), (y2, aI k 252 (mgA sN v (mgB sN q9 v) 0))] rfl (fun j hj => by rfl) rfl ?_
        refine G.eql (lv' := [(0, .ref y1), (1, .int (nI sN)), (2, .int (nI o9)), (3, .int (nI (sN - 1))), (4, .int (nI v)), (5, .int (nI 0))]) (congrArg (β := List (Nat × Value)) (fun z9 => [(0, .ref y1), (1, .int (nI sN)), (2, .int (nI o9)), (3, .int (nI (sN - 1))), (4, .int (nI v)), (5, .int z9)]) (show (0 : Int32) = (nI 0) from by exact nI_0.symm)) ?_
        exact key_16 (sN - 1 - 0 + 1) 0 (by omega) (Nat.lt_succ_self _)
  refine G.loc [2, 3, 4, 1, 0] (lv' := [(0, .ref y1), (1, .int (nI sN)), (2, .int (nI o9)), (3, .int (nI (sN - 1))), (4, .int 0)]) rfl ?_
  refine G.fn (mgB sN q9 0) 1 [(y1, .inr (10, [.ref y2])), (y2, aI k 252 (mgB sN q9 0))] rfl (fun j hj => by rfl) rfl ?_
  refine G.eql (lv' := [(0, .ref y1), (1, .int (nI sN)), (2, .int (nI o9)), (3, .int (nI (sN - 1))), (4, .int (nI 0))]) (congrArg (β := List (Nat × Value)) (fun z9 => [(0, .ref y1), (1, .int (nI sN)), (2, .int (nI o9)), (3, .int (nI (sN - 1))), (4, .int z9)]) (show (0 : Int32) = (nI 0) from by exact nI_0.symm)) ?_
  exact key_7 (sN - 1 - 0 + 1) 0 (by omega) (Nat.lt_succ_self _)
set_option maxRecDepth 100000 in
set_option maxHeartbeats 400000 in
theorem c_X9_countLeft_0 {l : Launch} {D : va_G} {k : Nat → ClassId} (y1 : Nat) (y2 : Nat) (q9 : Nat → Int32)  : CM l D k yX9_countLeft cX9_countLeft 7 (some .long)  0 0 [.ref y1, .int (nI 0)] [(y1, .inr (10, [.ref y2])), (y2, aI k 252 q9)] (is1 (some (.long ((clL 0 q9).1))) [(y1, .inr (10, [.ref y2])), (y2, aI k 252 ((clL 0 q9).2))]) 0 0 0 := by
  refine CM.of (lv0 := [(0, .ref y1), (1, .int (nI 0))]) (by decide +kernel) (Nat.le_of_ble_eq_true rfl) rfl ?_
  intro p9 e9 s9 m9 bl9 me9 co9 C hr hlk hin had
  refine g_iload_n (pc := 0) C 1 rfl rfl dX9_countLeft_0 ?_
  refine g_iconst (pc := 1) (v := 2) C (by decide) dX9_countLeft_1 ?_
  refine g_icmp_lt (pc := 2) C 11 (by decide) dX9_countLeft_2 (fun c_2 => ?_) (fun c_2 => ?_)
  · refine g_iload_n (pc := 11) C 1 rfl rfl dX9_countLeft_11 ?_
    refine g_iconst (pc := 12) (v := 1) C (by decide) dX9_countLeft_12 ?_
    refine g_icmp_ne (pc := 13) C 20 (by decide) dX9_countLeft_13 (fun c_13 => ?_) (fun c_13 => ?_)
    · refine g_lconst (pc := 20) (v := 0) C (by decide) dX9_countLeft_20 ?_
      refine G.fn ((clL 0 q9).2) 1 [(y1, .inr (10, [.ref y2])), (y2, aI k 252 ((clL 0 q9).2))] rfl (fun j hj => by rfl) rfl ?_
      refine G.eqs (st' := [.long ((clL 0 q9).1)]) (congrArg (fun z9 => [Value.long z9]) (show (0 : Int64) = (clL 0 q9).1 from by rfl)) ?_
      exact g_lret (pc := 21) C hr hlk (by first | decide | omega) (by first | decide | omega) (by first | decide | omega) dX9_countLeft_21 ⟨rfl, rfl⟩
    · exact absurd c_13 (by decide)
  · exact absurd c_2 (by decide)
set_option maxRecDepth 100000 in
set_option maxHeartbeats 400000 in
theorem c_X9_countLeft_1 {l : Launch} {D : va_G} {k : Nat → ClassId} (y1 : Nat) (y2 : Nat) (q9 : Nat → Int32)  : CM l D k yX9_countLeft cX9_countLeft 7 (some .long)  0 0 [.ref y1, .int (nI 1)] [(y1, .inr (10, [.ref y2])), (y2, aI k 252 q9)] (is1 (some (.long ((clL 1 q9).1))) [(y1, .inr (10, [.ref y2])), (y2, aI k 252 ((clL 1 q9).2))]) 0 0 0 := by
  refine CM.of (lv0 := [(0, .ref y1), (1, .int (nI 1))]) (by decide +kernel) (Nat.le_of_ble_eq_true rfl) rfl ?_
  intro p9 e9 s9 m9 bl9 me9 co9 C hr hlk hin had
  refine g_iload_n (pc := 0) C 1 rfl rfl dX9_countLeft_0 ?_
  refine g_iconst (pc := 1) (v := 2) C (by decide) dX9_countLeft_1 ?_
  refine g_icmp_lt (pc := 2) C 11 (by decide) dX9_countLeft_2 (fun c_2 => ?_) (fun c_2 => ?_)
  · refine g_iload_n (pc := 11) C 1 rfl rfl dX9_countLeft_11 ?_
    refine g_iconst (pc := 12) (v := 1) C (by decide) dX9_countLeft_12 ?_
    refine g_icmp_ne (pc := 13) C 20 (by decide) dX9_countLeft_13 (fun c_13 => ?_) (fun c_13 => ?_)
    · exact absurd c_13 (by decide)
    · refine g_lconst (pc := 16) (v := 1) C (by decide) dX9_countLeft_16 ?_
      refine g_goto (pc := 17) C 21 (by decide) dX9_countLeft_17 ?_
      refine G.fn ((clL 1 q9).2) 1 [(y1, .inr (10, [.ref y2])), (y2, aI k 252 ((clL 1 q9).2))] rfl (fun j hj => by rfl) rfl ?_
      refine G.eqs (st' := [.long ((clL 1 q9).1)]) (congrArg (fun z9 => [Value.long z9]) (show (1 : Int64) = (clL 1 q9).1 from by rfl)) ?_
      exact g_lret (pc := 21) C hr hlk (by first | decide | omega) (by first | decide | omega) (by first | decide | omega) dX9_countLeft_21 ⟨rfl, rfl⟩
  · exact absurd c_2 (by decide)
set_option maxRecDepth 100000 in
set_option maxHeartbeats 400000 in
theorem c_X9_countLeft_2 {l : Launch} {D : va_G} {k : Nat → ClassId} (y1 : Nat) (y2 : Nat) (q9 : Nat → Int32)  : CM l D k yX9_countLeft cX9_countLeft 7 (some .long)  2 47 [.ref y1, .int (nI 2)] [(y1, .inr (10, [.ref y2])), (y2, aI k 252 q9)] (is1 (some (.long ((clL 2 q9).1))) [(y1, .inr (10, [.ref y2])), (y2, aI k 252 ((clL 2 q9).2))]) 0 0 0 := by
  refine CM.of (lv0 := [(0, .ref y1), (1, .int (nI 2))]) (by decide +kernel) (Nat.le_of_ble_eq_true rfl) rfl ?_
  intro p9 e9 s9 m9 bl9 me9 co9 C hr hlk hin had
  refine g_iload_n (pc := 0) C 1 rfl rfl dX9_countLeft_0 ?_
  refine g_iconst (pc := 1) (v := 2) C (by decide) dX9_countLeft_1 ?_
  refine g_icmp_lt (pc := 2) C 11 (by decide) dX9_countLeft_2 (fun c_2 => ?_) (fun c_2 => ?_)
  · exact absurd c_2 (by decide)
  · refine g_iload_n (pc := 5) C 1 rfl rfl dX9_countLeft_5 ?_
    refine g_bipush (pc := 6) (v := 6) C (by decide) dX9_countLeft_6 ?_
    refine g_icmp_le (pc := 8) C 22 (by decide) dX9_countLeft_8 (fun c_8 => ?_) (fun c_8 => ?_)
    · refine g_iload_n (pc := 22) C 1 rfl rfl dX9_countLeft_22 ?_
      refine g_iconst (pc := 23) (v := 1) C (by decide) dX9_countLeft_23 ?_
      refine g_isub (pc := 24) C dX9_countLeft_24 ?_
      refine G.eqs (st' := [.int (nI 1)]) (congrArg (β := List Value) (fun z9 => [.int z9]) (show (((nI 2) - 1) : Int32) = (nI 1) from by decide)) ?_
      refine g_istore_n (pc := 25) C [(2, .int (nI 1)), (0, .ref y1), (1, .int (nI 2))] rfl dX9_countLeft_25 (by decide) rfl ?_
      refine g_lconst (pc := 26) (v := 0) C (by decide) dX9_countLeft_26 ?_
      refine g_lstore_n (pc := 27) C [(3, .long 0), (2, .int (nI 1)), (0, .ref y1), (1, .int (nI 2))] rfl dX9_countLeft_27 (by decide) rfl ?_
      refine g_iconst (pc := 28) (v := 0) C (by decide) dX9_countLeft_28 ?_
      refine g_istore (pc := 29) C [(5, .int 0), (3, .long 0), (2, .int (nI 1)), (0, .ref y1), (1, .int (nI 2))] dX9_countLeft_29 (by decide) rfl ?_
      have key_31 : ∀ (fuel : Nat) (w : Nat), w ≤ 1 → 1 - w < fuel → G p9 l e9 { frames := 2, cells := 0, slots := 0, locals := 47 } s9 m9 ([.ref y1, .int (nI 2)] : List Value).toArray bl9 me9 co9 D 7 (va_A [(y1, .inr (10, [.ref y2])), (y2, aI k 252 q9)] s9.heap.size) (QM bl9 D ([.ref y1, .int (nI 2)] : List Value).toArray s9 [(y1, .inr (10, [.ref y2])), (y2, aI k 252 q9)] (is1 (some (.long ((clL 2 q9).1))) [(y1, .inr (10, [.ref y2])), (y2, aI k 252 ((clL 2 q9).2))]) 0 0 0) [(y1, .inr (10, [.ref y2])), (y2, aI k 252 ((clW (clL 1) 2 q9 w).2))] [(0, .ref y1), (1, .int (nI 2)), (2, .int (nI 1)), (3, .long ((clW (clL 1) 2 q9 w).1)), (5, .int (nI w))] 0 0 0 31 [] := by
        intro fuel
        induction fuel with
        | zero => intro w hw hm; exact absurd hm (Nat.not_lt_zero _)
        | succ fuel ih =>
          intro w hw hm
          have ih_31 := ih
          refine g_iload (pc := 31) C 4 rfl dX9_countLeft_31 ?_
          refine g_iload_n (pc := 33) C 2 rfl rfl dX9_countLeft_33 ?_
          refine g_icmp_ge (pc := 34) C 92 (by decide) dX9_countLeft_34 (fun c_34 => ?_) (fun c_34 => ?_)
          · have h3 : w = 1 := by { have := nle_ge (b := 1) (a := w) (by omega) c_34; omega }
            refine g_lload_n (pc := 92) C 3 rfl rfl dX9_countLeft_92 ?_
            refine G.fn ((clL 2 q9).2) 1 [(y1, .inr (10, [.ref y2])), (y2, aI k 252 ((clL 2 q9).2))] rfl (fun j hj => by rw [h3, clL_e2]) rfl ?_
            refine G.eqs (st' := [.long ((clL 2 q9).1)]) (congrArg (fun z9 => [Value.long z9]) (show ((clW (clL 1) 2 q9 w).1 : Int64) = (clL 2 q9).1 from by rw [h3, clL_e2])) ?_
            exact g_lret (pc := 93) C hr hlk (by first | decide | omega) (by first | decide | omega) (by first | decide | omega) dX9_countLeft_93 ⟨rfl, rfl⟩
          · have hl34 : w < 1 := nle_lt (by omega) c_34
            refine g_aload_n (pc := 37) C 0 rfl rfl dX9_countLeft_37 ?_
            refine g_iload_n (pc := 38) C 1 rfl rfl dX9_countLeft_38 ?_
            refine g_iload_n (pc := 39) C 2 rfl rfl dX9_countLeft_39 ?_
            refine g_iload (pc := 40) C 4 rfl dX9_countLeft_40 ?_
            refine g_callS (pc := 42) (cells := 0) (slots := 0) (g := 0) (As := [.int (nI 2), .int (nI 1), .int (nI w)]) (st := [.ref y1]) (b := 0) C (nA := 3) rfl (c_X9_cell 2 1 w ) q_306 q_307 q_162 q_305 (by decide +kernel) dX9_countLeft_42 ⟨Nat.le_of_ble_eq_true rfl, Nat.le_of_ble_eq_true rfl⟩ [] [0, 1] rfl (wr := [(y1, .inr (10, [.ref y2])), (y2, aI k 252 ((clW (clL 1) 2 q9 w).2))]) rfl (by decide) (by decide) (by decide) (Nat.le_of_ble_eq_true rfl) ⟨Nat.le_of_ble_eq_true rfl, Nat.le_of_ble_eq_true rfl⟩ (fun rv w1 h1 => ?_)
            obtain ⟨rfl, rfl⟩ := h1
            refine G.aft [0, 1] (ws' := [(y1, .inr (10, [.ref y2])), (y2, aI k 252 ((clW (clL 1) 2 q9 w).2))]) (st' := [.int (nI ((2 * 6 + 1) * 6 + w)), .ref y1]) (cells' := 0) (slots' := 0) (g' := 0) (by decide) rfl rfl rfl rfl rfl ?_
            refine g_callV (pc := 45) (cells := 0) (slots := 0) (g := 0) (As := [.int (nI ((2 * 6 + 1) * 6 + w))]) (st := []) (T := TX8) (q0 := 0) C (nA := 1) rfl (c_X8_at_n y1 y2 252 ((clW (clL 1) 2 q9 w).2) ((2 * 6 + 1) * 6 + w) (by first | assumption | decide | omega) (by first | assumption | decide | omega)) q_308 q_9 q_7 q_6 q_5 (by decide +kernel) rfl rfl dX9_countLeft_45 ⟨Nat.le_of_ble_eq_true rfl, Nat.le_of_ble_eq_true rfl⟩ [0, 1] [] rfl (wr := []) rfl (by decide) (by decide) (by decide) (Nat.le_of_ble_eq_true rfl) ⟨Nat.le_of_ble_eq_true rfl, Nat.le_of_ble_eq_true rfl⟩ (fun rv w1 h1 => ?_)
            obtain ⟨rfl, rfl⟩ := h1
            refine G.aft [0, 1] (ws' := [(y1, .inr (10, [.ref y2])), (y2, aI k 252 ((clW (clL 1) 2 q9 w).2))]) (st' := [.int (((clW (clL 1) 2 q9 w).2) ((2 * 6 + 1) * 6 + w))]) (cells' := 0) (slots' := 0) (g' := 0) (by decide) rfl rfl rfl rfl rfl ?_
            refine g_istore (pc := 48) C [(6, .int (((clW (clL 1) 2 q9 w).2) ((2 * 6 + 1) * 6 + w))), (0, .ref y1), (1, .int (nI 2)), (2, .int (nI 1)), (3, .long ((clW (clL 1) 2 q9 w).1)), (5, .int (nI w))] dX9_countLeft_48 (by decide) rfl ?_
            refine g_iload (pc := 50) C 0 rfl dX9_countLeft_50 ?_
            refine g_if_le (pc := 52) C 86 (by decide) dX9_countLeft_52 (fun c_52 => ?_) (fun c_52 => ?_)
            · refine g_iinc (pc := 86) (n := 1) (v := (nI (w + 1))) C 5 [(5, .int (nI (w + 1))), (6, .int (((clW (clL 1) 2 q9 w).2) ((2 * 6 + 1) * 6 + w))), (0, .ref y1), (1, .int (nI 2)), (2, .int (nI 1)), (3, .long ((clW (clL 1) 2 q9 w).1))] rfl (nI_1 w) dX9_countLeft_86 (by decide) rfl ?_
              refine g_goto (pc := 89) C 31 (by decide) dX9_countLeft_89 ?_
              refine G.loc [2, 3, 4, 5, 0] (lv' := [(0, .ref y1), (1, .int (nI 2)), (2, .int (nI 1)), (3, .long ((clW (clL 1) 2 q9 w).1)), (5, .int (nI (w + 1)))]) rfl ?_
              refine G.fn ((clW (clL 1) 2 q9 (w + 1)).2) 1 [(y1, .inr (10, [.ref y2])), (y2, aI k 252 ((clW (clL 1) 2 q9 (w + 1)).2))] rfl (fun j hj => by first | (rw [clW_n c_52]) | (rw [clW_y c_52])) rfl ?_
              refine G.eql (lv' := [(0, .ref y1), (1, .int (nI 2)), (2, .int (nI 1)), (3, .long ((clW (clL 1) 2 q9 (w + 1)).1)), (5, .int (nI (w + 1)))]) (congrArg (β := List (Nat × Value)) (fun z9 => [(0, .ref y1), (1, .int (nI 2)), (2, .int (nI 1)), (3, .long z9), (5, .int (nI (w + 1)))]) (show ((clW (clL 1) 2 q9 w).1 : Int64) = (clW (clL 1) 2 q9 (w + 1)).1 from by first | (rw [clW_n c_52]) | (rw [clW_y c_52]))) ?_
              exact ih_31 (w + 1) (by omega) (by omega)
            · refine g_aload_n (pc := 55) C 1 rfl rfl dX9_countLeft_55 ?_
              refine g_iload_n (pc := 56) C 2 rfl rfl dX9_countLeft_56 ?_
              refine g_iload_n (pc := 57) C 3 rfl rfl dX9_countLeft_57 ?_
              refine g_iload (pc := 58) C 5 rfl dX9_countLeft_58 ?_
              refine g_callS (pc := 60) (cells := 0) (slots := 0) (g := 0) (As := [.int (nI 2), .int (nI 1), .int (nI w)]) (st := [.ref y1]) (b := 0) C (nA := 3) rfl (c_X9_cell 2 1 w ) q_306 q_307 q_162 q_305 (by decide +kernel) dX9_countLeft_60 ⟨Nat.le_of_ble_eq_true rfl, Nat.le_of_ble_eq_true rfl⟩ [] [0, 1] rfl (wr := [(y1, .inr (10, [.ref y2])), (y2, aI k 252 ((clW (clL 1) 2 q9 w).2))]) rfl (by decide) (by decide) (by decide) (Nat.le_of_ble_eq_true rfl) ⟨Nat.le_of_ble_eq_true rfl, Nat.le_of_ble_eq_true rfl⟩ (fun rv w1 h1 => ?_)
              obtain ⟨rfl, rfl⟩ := h1
              refine G.aft [0, 1] (ws' := [(y1, .inr (10, [.ref y2])), (y2, aI k 252 ((clW (clL 1) 2 q9 w).2))]) (st' := [.int (nI ((2 * 6 + 1) * 6 + w)), .ref y1]) (cells' := 0) (slots' := 0) (g' := 0) (by decide) rfl rfl rfl rfl rfl ?_
              refine g_iconst (pc := 63) (v := 0) C (by decide) dX9_countLeft_63 ?_
              refine g_callV (pc := 64) (cells := 0) (slots := 0) (g := 0) (As := [.int (nI ((2 * 6 + 1) * 6 + w)), .int 0]) (st := []) (T := TX8) (q0 := 0) C (nA := 2) rfl (c_X8_write_n y1 y2 252 ((clW (clL 1) 2 q9 w).2) ((2 * 6 + 1) * 6 + w) 0 (by first | assumption | decide | omega) (by first | assumption | decide | omega)) q_310 q_202 q_200 q_6 q_199 (by decide +kernel) rfl rfl dX9_countLeft_64 ⟨Nat.le_of_ble_eq_true rfl, Nat.le_of_ble_eq_true rfl⟩ [0, 1] [] rfl (wr := []) rfl (by decide) (by decide) (by decide) (Nat.le_of_ble_eq_true rfl) ⟨Nat.le_of_ble_eq_true rfl, Nat.le_of_ble_eq_true rfl⟩ (fun rv w1 h1 => ?_)
              obtain ⟨rfl, rfl⟩ := h1
              refine G.aft [0, 1] (ws' := [(y1, .inr (10, [.ref y2])), (y2, aI k 252 (upd ((clW (clL 1) 2 q9 w).2) ((2 * 6 + 1) * 6 + w) 0))]) (st' := []) (cells' := 0) (slots' := 0) (g' := 0) (by decide) rfl rfl rfl rfl rfl ?_
              refine g_aload_n (pc := 67) C 1 rfl rfl dX9_countLeft_67 ?_
              refine g_iload_n (pc := 68) C 2 rfl rfl dX9_countLeft_68 ?_
              refine g_iload (pc := 69) C 5 rfl dX9_countLeft_69 ?_
              refine g_callS (pc := 71) (cells := 0) (slots := 0) (g := 0) (As := [.ref y1, .int (nI 2), .int (nI w)]) (st := []) (b := 0) C (nA := 3) rfl (c_X9_merge y1 y2 (upd ((clW (clL 1) 2 q9 w).2) ((2 * 6 + 1) * 6 + w) 0) 2 w (by first | assumption | decide | omega) (by first | assumption | decide | omega) (by first | assumption | decide | omega)) q_312 q_313 q_162 q_311 (by decide +kernel) dX9_countLeft_71 ⟨Nat.le_of_ble_eq_true rfl, Nat.le_of_ble_eq_true rfl⟩ [0, 1] [] rfl (wr := []) rfl (by decide) (by decide) (by decide) (Nat.le_of_ble_eq_true rfl) ⟨Nat.le_of_ble_eq_true rfl, Nat.le_of_ble_eq_true rfl⟩ (fun rv w1 h1 => ?_)
              obtain ⟨rfl, rfl⟩ := h1
              refine G.aft [0, 1] (ws' := [(y1, .inr (10, [.ref y2])), (y2, aI k 252 (mgV 2 w (upd ((clW (clL 1) 2 q9 w).2) ((2 * 6 + 1) * 6 + w) 0)))]) (st' := []) (cells' := 0) (slots' := 0) (g' := 0) (by decide) rfl rfl rfl rfl rfl ?_
              refine g_lload_n (pc := 74) C 4 rfl rfl dX9_countLeft_74 ?_
              refine g_iload (pc := 75) C 0 rfl dX9_countLeft_75 ?_
              refine g_i2l (pc := 77) C dX9_countLeft_77 ?_
              refine g_aload_n (pc := 78) C 1 rfl rfl dX9_countLeft_78 ?_
              refine g_iload_n (pc := 79) C 3 rfl rfl dX9_countLeft_79 ?_
              refine g_callS (pc := 80) (cells := 0) (slots := 0) (g := 0) (As := [.ref y1, .int (nI 1)]) (st := [.long ((((clW (clL 1) 2 q9 w).2) ((2 * 6 + 1) * 6 + w)).toInt64), .long ((clW (clL 1) 2 q9 w).1)]) (b := 0) C (nA := 2) rfl (c_X9_countLeft_1 y1 y2 (mgV 2 w (upd ((clW (clL 1) 2 q9 w).2) ((2 * 6 + 1) * 6 + w) 0)) ) q_315 q_316 q_162 q_314 (by decide +kernel) dX9_countLeft_80 ⟨Nat.le_of_ble_eq_true rfl, Nat.le_of_ble_eq_true rfl⟩ [0, 1] [] rfl (wr := []) rfl (by decide) (by decide) (by decide) (Nat.le_of_ble_eq_true rfl) ⟨Nat.le_of_ble_eq_true rfl, Nat.le_of_ble_eq_true rfl⟩ (fun rv w1 h1 => ?_)
              obtain ⟨rfl, rfl⟩ := h1
              refine G.aft [0, 1] (ws' := [(y1, .inr (10, [.ref y2])), (y2, aI k 252 ((clL 1 (mgV 2 w (upd ((clW (clL 1) 2 q9 w).2) ((2 * 6 + 1) * 6 + w) 0))).2))]) (st' := [.long ((clL 1 (mgV 2 w (upd ((clW (clL 1) 2 q9 w).2) ((2 * 6 + 1) * 6 + w) 0))).1), .long ((((clW (clL 1) 2 q9 w).2) ((2 * 6 + 1) * 6 + w)).toInt64), .long ((clW (clL 1) 2 q9 w).1)]) (cells' := 0) (slots' := 0) (g' := 0) (by decide) rfl rfl rfl rfl rfl ?_
              refine g_lmul (pc := 83) C dX9_countLeft_83 ?_
              refine g_ladd (pc := 84) C dX9_countLeft_84 ?_
              refine g_lstore_n (pc := 85) C [(3, .long (((clW (clL 1) 2 q9 w).1) + (((((clW (clL 1) 2 q9 w).2) ((2 * 6 + 1) * 6 + w)).toInt64) * ((clL 1 (mgV 2 w (upd ((clW (clL 1) 2 q9 w).2) ((2 * 6 + 1) * 6 + w) 0))).1)))), (6, .int (((clW (clL 1) 2 q9 w).2) ((2 * 6 + 1) * 6 + w))), (0, .ref y1), (1, .int (nI 2)), (2, .int (nI 1)), (5, .int (nI w))] rfl dX9_countLeft_85 (by decide) rfl ?_
              refine g_iinc (pc := 86) (n := 1) (v := (nI (w + 1))) C 5 [(5, .int (nI (w + 1))), (3, .long (((clW (clL 1) 2 q9 w).1) + (((((clW (clL 1) 2 q9 w).2) ((2 * 6 + 1) * 6 + w)).toInt64) * ((clL 1 (mgV 2 w (upd ((clW (clL 1) 2 q9 w).2) ((2 * 6 + 1) * 6 + w) 0))).1)))), (6, .int (((clW (clL 1) 2 q9 w).2) ((2 * 6 + 1) * 6 + w))), (0, .ref y1), (1, .int (nI 2)), (2, .int (nI 1))] rfl (nI_1 w) dX9_countLeft_86 (by decide) rfl ?_
              refine g_goto (pc := 89) C 31 (by decide) dX9_countLeft_89 ?_
              refine G.loc [3, 4, 5, 1, 0] (lv' := [(0, .ref y1), (1, .int (nI 2)), (2, .int (nI 1)), (3, .long (((clW (clL 1) 2 q9 w).1) + (((((clW (clL 1) 2 q9 w).2) ((2 * 6 + 1) * 6 + w)).toInt64) * ((clL 1 (mgV 2 w (upd ((clW (clL 1) 2 q9 w).2) ((2 * 6 + 1) * 6 + w) 0))).1)))), (5, .int (nI (w + 1)))]) rfl ?_
              refine G.fn ((clW (clL 1) 2 q9 (w + 1)).2) 1 [(y1, .inr (10, [.ref y2])), (y2, aI k 252 ((clW (clL 1) 2 q9 (w + 1)).2))] rfl (fun j hj => by first | (rw [clW_n c_52]) | (rw [clW_y c_52])) rfl ?_
              refine G.eql (lv' := [(0, .ref y1), (1, .int (nI 2)), (2, .int (nI 1)), (3, .long ((clW (clL 1) 2 q9 (w + 1)).1)), (5, .int (nI (w + 1)))]) (congrArg (β := List (Nat × Value)) (fun z9 => [(0, .ref y1), (1, .int (nI 2)), (2, .int (nI 1)), (3, .long z9), (5, .int (nI (w + 1)))]) (show ((((clW (clL 1) 2 q9 w).1) + (((((clW (clL 1) 2 q9 w).2) ((2 * 6 + 1) * 6 + w)).toInt64) * ((clL 1 (mgV 2 w (upd ((clW (clL 1) 2 q9 w).2) ((2 * 6 + 1) * 6 + w) 0))).1))) : Int64) = (clW (clL 1) 2 q9 (w + 1)).1 from by first | (rw [clW_n c_52]) | (rw [clW_y c_52]))) ?_
              exact ih_31 (w + 1) (by omega) (by omega)
      refine G.loc [3, 4, 2, 1, 0] (lv' := [(0, .ref y1), (1, .int (nI 2)), (2, .int (nI 1)), (3, .long 0), (5, .int 0)]) rfl ?_
      refine G.fn ((clW (clL 1) 2 q9 0).2) 1 [(y1, .inr (10, [.ref y2])), (y2, aI k 252 ((clW (clL 1) 2 q9 0).2))] rfl (fun j hj => by rfl) rfl ?_
      refine G.eql (lv' := [(0, .ref y1), (1, .int (nI 2)), (2, .int (nI 1)), (3, .long ((clW (clL 1) 2 q9 0).1)), (5, .int (nI 0))]) ((congrArg (β := List (Nat × Value)) (fun z9 => [(0, .ref y1), (1, .int (nI 2)), (2, .int (nI 1)), (3, .long z9), (5, .int 0)]) (show (0 : Int64) = (clW (clL 1) 2 q9 0).1 from by first | rfl | exact nI_0.symm)).trans (congrArg (β := List (Nat × Value)) (fun z9 => [(0, .ref y1), (1, .int (nI 2)), (2, .int (nI 1)), (3, .long ((clW (clL 1) 2 q9 0).1)), (5, .int z9)]) (show (0 : Int32) = (nI 0) from by first | rfl | exact nI_0.symm))) ?_
      exact key_31 (1 - 0 + 1) 0 (by omega) (Nat.lt_succ_self _)
    · exact absurd c_8 (by decide)
set_option maxRecDepth 100000 in
set_option maxHeartbeats 400000 in
theorem c_X9_countLeft_3 {l : Launch} {D : va_G} {k : Nat → ClassId} (y1 : Nat) (y2 : Nat) (q9 : Nat → Int32)  : CM l D k yX9_countLeft cX9_countLeft 7 (some .long)  3 73 [.ref y1, .int (nI 3)] [(y1, .inr (10, [.ref y2])), (y2, aI k 252 q9)] (is1 (some (.long ((clL 3 q9).1))) [(y1, .inr (10, [.ref y2])), (y2, aI k 252 ((clL 3 q9).2))]) 0 0 0 := by
  refine CM.of (lv0 := [(0, .ref y1), (1, .int (nI 3))]) (by decide +kernel) (Nat.le_of_ble_eq_true rfl) rfl ?_
  intro p9 e9 s9 m9 bl9 me9 co9 C hr hlk hin had
  refine g_iload_n (pc := 0) C 1 rfl rfl dX9_countLeft_0 ?_
  refine g_iconst (pc := 1) (v := 2) C (by decide) dX9_countLeft_1 ?_
  refine g_icmp_lt (pc := 2) C 11 (by decide) dX9_countLeft_2 (fun c_2 => ?_) (fun c_2 => ?_)
  · exact absurd c_2 (by decide)
  · refine g_iload_n (pc := 5) C 1 rfl rfl dX9_countLeft_5 ?_
    refine g_bipush (pc := 6) (v := 6) C (by decide) dX9_countLeft_6 ?_
    refine g_icmp_le (pc := 8) C 22 (by decide) dX9_countLeft_8 (fun c_8 => ?_) (fun c_8 => ?_)
    · refine g_iload_n (pc := 22) C 1 rfl rfl dX9_countLeft_22 ?_
      refine g_iconst (pc := 23) (v := 1) C (by decide) dX9_countLeft_23 ?_
      refine g_isub (pc := 24) C dX9_countLeft_24 ?_
      refine G.eqs (st' := [.int (nI 2)]) (congrArg (β := List Value) (fun z9 => [.int z9]) (show (((nI 3) - 1) : Int32) = (nI 2) from by decide)) ?_
      refine g_istore_n (pc := 25) C [(2, .int (nI 2)), (0, .ref y1), (1, .int (nI 3))] rfl dX9_countLeft_25 (by decide) rfl ?_
      refine g_lconst (pc := 26) (v := 0) C (by decide) dX9_countLeft_26 ?_
      refine g_lstore_n (pc := 27) C [(3, .long 0), (2, .int (nI 2)), (0, .ref y1), (1, .int (nI 3))] rfl dX9_countLeft_27 (by decide) rfl ?_
      refine g_iconst (pc := 28) (v := 0) C (by decide) dX9_countLeft_28 ?_
      refine g_istore (pc := 29) C [(5, .int 0), (3, .long 0), (2, .int (nI 2)), (0, .ref y1), (1, .int (nI 3))] dX9_countLeft_29 (by decide) rfl ?_
      have key_31 : ∀ (fuel : Nat) (w : Nat), w ≤ 2 → 2 - w < fuel → G p9 l e9 { frames := 3, cells := 0, slots := 0, locals := 73 } s9 m9 ([.ref y1, .int (nI 3)] : List Value).toArray bl9 me9 co9 D 7 (va_A [(y1, .inr (10, [.ref y2])), (y2, aI k 252 q9)] s9.heap.size) (QM bl9 D ([.ref y1, .int (nI 3)] : List Value).toArray s9 [(y1, .inr (10, [.ref y2])), (y2, aI k 252 q9)] (is1 (some (.long ((clL 3 q9).1))) [(y1, .inr (10, [.ref y2])), (y2, aI k 252 ((clL 3 q9).2))]) 0 0 0) [(y1, .inr (10, [.ref y2])), (y2, aI k 252 ((clW (clL 2) 3 q9 w).2))] [(0, .ref y1), (1, .int (nI 3)), (2, .int (nI 2)), (3, .long ((clW (clL 2) 3 q9 w).1)), (5, .int (nI w))] 0 0 0 31 [] := by
        intro fuel
        induction fuel with
        | zero => intro w hw hm; exact absurd hm (Nat.not_lt_zero _)
        | succ fuel ih =>
          intro w hw hm
          have ih_31 := ih
          refine g_iload (pc := 31) C 4 rfl dX9_countLeft_31 ?_
          refine g_iload_n (pc := 33) C 2 rfl rfl dX9_countLeft_33 ?_
          refine g_icmp_ge (pc := 34) C 92 (by decide) dX9_countLeft_34 (fun c_34 => ?_) (fun c_34 => ?_)
          · have h3 : w = 2 := by { have := nle_ge (b := 2) (a := w) (by omega) c_34; omega }
            refine g_lload_n (pc := 92) C 3 rfl rfl dX9_countLeft_92 ?_
            refine G.fn ((clL 3 q9).2) 1 [(y1, .inr (10, [.ref y2])), (y2, aI k 252 ((clL 3 q9).2))] rfl (fun j hj => by rw [h3, clL_e3]) rfl ?_
            refine G.eqs (st' := [.long ((clL 3 q9).1)]) (congrArg (fun z9 => [Value.long z9]) (show ((clW (clL 2) 3 q9 w).1 : Int64) = (clL 3 q9).1 from by rw [h3, clL_e3])) ?_
            exact g_lret (pc := 93) C hr hlk (by first | decide | omega) (by first | decide | omega) (by first | decide | omega) dX9_countLeft_93 ⟨rfl, rfl⟩
          · have hl34 : w < 2 := nle_lt (by omega) c_34
            refine g_aload_n (pc := 37) C 0 rfl rfl dX9_countLeft_37 ?_
            refine g_iload_n (pc := 38) C 1 rfl rfl dX9_countLeft_38 ?_
            refine g_iload_n (pc := 39) C 2 rfl rfl dX9_countLeft_39 ?_
            refine g_iload (pc := 40) C 4 rfl dX9_countLeft_40 ?_
            refine g_callS (pc := 42) (cells := 0) (slots := 0) (g := 0) (As := [.int (nI 3), .int (nI 2), .int (nI w)]) (st := [.ref y1]) (b := 0) C (nA := 3) rfl (c_X9_cell 3 2 w ) q_306 q_307 q_162 q_305 (by decide +kernel) dX9_countLeft_42 ⟨Nat.le_of_ble_eq_true rfl, Nat.le_of_ble_eq_true rfl⟩ [] [0, 1] rfl (wr := [(y1, .inr (10, [.ref y2])), (y2, aI k 252 ((clW (clL 2) 3 q9 w).2))]) rfl (by decide) (by decide) (by decide) (Nat.le_of_ble_eq_true rfl) ⟨Nat.le_of_ble_eq_true rfl, Nat.le_of_ble_eq_true rfl⟩ (fun rv w1 h1 => ?_)
            obtain ⟨rfl, rfl⟩ := h1
            refine G.aft [0, 1] (ws' := [(y1, .inr (10, [.ref y2])), (y2, aI k 252 ((clW (clL 2) 3 q9 w).2))]) (st' := [.int (nI ((3 * 6 + 2) * 6 + w)), .ref y1]) (cells' := 0) (slots' := 0) (g' := 0) (by decide) rfl rfl rfl rfl rfl ?_
            refine g_callV (pc := 45) (cells := 0) (slots := 0) (g := 0) (As := [.int (nI ((3 * 6 + 2) * 6 + w))]) (st := []) (T := TX8) (q0 := 0) C (nA := 1) rfl (c_X8_at_n y1 y2 252 ((clW (clL 2) 3 q9 w).2) ((3 * 6 + 2) * 6 + w) (by first | assumption | decide | omega) (by first | assumption | decide | omega)) q_308 q_9 q_7 q_6 q_5 (by decide +kernel) rfl rfl dX9_countLeft_45 ⟨Nat.le_of_ble_eq_true rfl, Nat.le_of_ble_eq_true rfl⟩ [0, 1] [] rfl (wr := []) rfl (by decide) (by decide) (by decide) (Nat.le_of_ble_eq_true rfl) ⟨Nat.le_of_ble_eq_true rfl, Nat.le_of_ble_eq_true rfl⟩ (fun rv w1 h1 => ?_)
            obtain ⟨rfl, rfl⟩ := h1
            refine G.aft [0, 1] (ws' := [(y1, .inr (10, [.ref y2])), (y2, aI k 252 ((clW (clL 2) 3 q9 w).2))]) (st' := [.int (((clW (clL 2) 3 q9 w).2) ((3 * 6 + 2) * 6 + w))]) (cells' := 0) (slots' := 0) (g' := 0) (by decide) rfl rfl rfl rfl rfl ?_
            refine g_istore (pc := 48) C [(6, .int (((clW (clL 2) 3 q9 w).2) ((3 * 6 + 2) * 6 + w))), (0, .ref y1), (1, .int (nI 3)), (2, .int (nI 2)), (3, .long ((clW (clL 2) 3 q9 w).1)), (5, .int (nI w))] dX9_countLeft_48 (by decide) rfl ?_
            refine g_iload (pc := 50) C 0 rfl dX9_countLeft_50 ?_
            refine g_if_le (pc := 52) C 86 (by decide) dX9_countLeft_52 (fun c_52 => ?_) (fun c_52 => ?_)
            · refine g_iinc (pc := 86) (n := 1) (v := (nI (w + 1))) C 5 [(5, .int (nI (w + 1))), (6, .int (((clW (clL 2) 3 q9 w).2) ((3 * 6 + 2) * 6 + w))), (0, .ref y1), (1, .int (nI 3)), (2, .int (nI 2)), (3, .long ((clW (clL 2) 3 q9 w).1))] rfl (nI_1 w) dX9_countLeft_86 (by decide) rfl ?_
              refine g_goto (pc := 89) C 31 (by decide) dX9_countLeft_89 ?_
              refine G.loc [2, 3, 4, 5, 0] (lv' := [(0, .ref y1), (1, .int (nI 3)), (2, .int (nI 2)), (3, .long ((clW (clL 2) 3 q9 w).1)), (5, .int (nI (w + 1)))]) rfl ?_
              refine G.fn ((clW (clL 2) 3 q9 (w + 1)).2) 1 [(y1, .inr (10, [.ref y2])), (y2, aI k 252 ((clW (clL 2) 3 q9 (w + 1)).2))] rfl (fun j hj => by first | (rw [clW_n c_52]) | (rw [clW_y c_52])) rfl ?_
              refine G.eql (lv' := [(0, .ref y1), (1, .int (nI 3)), (2, .int (nI 2)), (3, .long ((clW (clL 2) 3 q9 (w + 1)).1)), (5, .int (nI (w + 1)))]) (congrArg (β := List (Nat × Value)) (fun z9 => [(0, .ref y1), (1, .int (nI 3)), (2, .int (nI 2)), (3, .long z9), (5, .int (nI (w + 1)))]) (show ((clW (clL 2) 3 q9 w).1 : Int64) = (clW (clL 2) 3 q9 (w + 1)).1 from by first | (rw [clW_n c_52]) | (rw [clW_y c_52]))) ?_
              exact ih_31 (w + 1) (by omega) (by omega)
            · refine g_aload_n (pc := 55) C 1 rfl rfl dX9_countLeft_55 ?_
              refine g_iload_n (pc := 56) C 2 rfl rfl dX9_countLeft_56 ?_
              refine g_iload_n (pc := 57) C 3 rfl rfl dX9_countLeft_57 ?_
              refine g_iload (pc := 58) C 5 rfl dX9_countLeft_58 ?_
              refine g_callS (pc := 60) (cells := 0) (slots := 0) (g := 0) (As := [.int (nI 3), .int (nI 2), .int (nI w)]) (st := [.ref y1]) (b := 0) C (nA := 3) rfl (c_X9_cell 3 2 w ) q_306 q_307 q_162 q_305 (by decide +kernel) dX9_countLeft_60 ⟨Nat.le_of_ble_eq_true rfl, Nat.le_of_ble_eq_true rfl⟩ [] [0, 1] rfl (wr := [(y1, .inr (10, [.ref y2])), (y2, aI k 252 ((clW (clL 2) 3 q9 w).2))]) rfl (by decide) (by decide) (by decide) (Nat.le_of_ble_eq_true rfl) ⟨Nat.le_of_ble_eq_true rfl, Nat.le_of_ble_eq_true rfl⟩ (fun rv w1 h1 => ?_)
              obtain ⟨rfl, rfl⟩ := h1
              refine G.aft [0, 1] (ws' := [(y1, .inr (10, [.ref y2])), (y2, aI k 252 ((clW (clL 2) 3 q9 w).2))]) (st' := [.int (nI ((3 * 6 + 2) * 6 + w)), .ref y1]) (cells' := 0) (slots' := 0) (g' := 0) (by decide) rfl rfl rfl rfl rfl ?_
              refine g_iconst (pc := 63) (v := 0) C (by decide) dX9_countLeft_63 ?_
              refine g_callV (pc := 64) (cells := 0) (slots := 0) (g := 0) (As := [.int (nI ((3 * 6 + 2) * 6 + w)), .int 0]) (st := []) (T := TX8) (q0 := 0) C (nA := 2) rfl (c_X8_write_n y1 y2 252 ((clW (clL 2) 3 q9 w).2) ((3 * 6 + 2) * 6 + w) 0 (by first | assumption | decide | omega) (by first | assumption | decide | omega)) q_310 q_202 q_200 q_6 q_199 (by decide +kernel) rfl rfl dX9_countLeft_64 ⟨Nat.le_of_ble_eq_true rfl, Nat.le_of_ble_eq_true rfl⟩ [0, 1] [] rfl (wr := []) rfl (by decide) (by decide) (by decide) (Nat.le_of_ble_eq_true rfl) ⟨Nat.le_of_ble_eq_true rfl, Nat.le_of_ble_eq_true rfl⟩ (fun rv w1 h1 => ?_)
              obtain ⟨rfl, rfl⟩ := h1
              refine G.aft [0, 1] (ws' := [(y1, .inr (10, [.ref y2])), (y2, aI k 252 (upd ((clW (clL 2) 3 q9 w).2) ((3 * 6 + 2) * 6 + w) 0))]) (st' := []) (cells' := 0) (slots' := 0) (g' := 0) (by decide) rfl rfl rfl rfl rfl ?_
              refine g_aload_n (pc := 67) C 1 rfl rfl dX9_countLeft_67 ?_
              refine g_iload_n (pc := 68) C 2 rfl rfl dX9_countLeft_68 ?_
              refine g_iload (pc := 69) C 5 rfl dX9_countLeft_69 ?_
              refine g_callS (pc := 71) (cells := 0) (slots := 0) (g := 0) (As := [.ref y1, .int (nI 3), .int (nI w)]) (st := []) (b := 0) C (nA := 3) rfl (c_X9_merge y1 y2 (upd ((clW (clL 2) 3 q9 w).2) ((3 * 6 + 2) * 6 + w) 0) 3 w (by first | assumption | decide | omega) (by first | assumption | decide | omega) (by first | assumption | decide | omega)) q_312 q_313 q_162 q_311 (by decide +kernel) dX9_countLeft_71 ⟨Nat.le_of_ble_eq_true rfl, Nat.le_of_ble_eq_true rfl⟩ [0, 1] [] rfl (wr := []) rfl (by decide) (by decide) (by decide) (Nat.le_of_ble_eq_true rfl) ⟨Nat.le_of_ble_eq_true rfl, Nat.le_of_ble_eq_true rfl⟩ (fun rv w1 h1 => ?_)
              obtain ⟨rfl, rfl⟩ := h1
              refine G.aft [0, 1] (ws' := [(y1, .inr (10, [.ref y2])), (y2, aI k 252 (mgV 3 w (upd ((clW (clL 2) 3 q9 w).2) ((3 * 6 + 2) * 6 + w) 0)))]) (st' := []) (cells' := 0) (slots' := 0) (g' := 0) (by decide) rfl rfl rfl rfl rfl ?_
              refine g_lload_n (pc := 74) C 4 rfl rfl dX9_countLeft_74 ?_
              refine g_iload (pc := 75) C 0 rfl dX9_countLeft_75 ?_
              refine g_i2l (pc := 77) C dX9_countLeft_77 ?_
              refine g_aload_n (pc := 78) C 1 rfl rfl dX9_countLeft_78 ?_
              refine g_iload_n (pc := 79) C 3 rfl rfl dX9_countLeft_79 ?_
              refine g_callS (pc := 80) (cells := 0) (slots := 0) (g := 0) (As := [.ref y1, .int (nI 2)]) (st := [.long ((((clW (clL 2) 3 q9 w).2) ((3 * 6 + 2) * 6 + w)).toInt64), .long ((clW (clL 2) 3 q9 w).1)]) (b := 0) C (nA := 2) rfl (c_X9_countLeft_2 y1 y2 (mgV 3 w (upd ((clW (clL 2) 3 q9 w).2) ((3 * 6 + 2) * 6 + w) 0)) ) q_315 q_316 q_162 q_314 (by decide +kernel) dX9_countLeft_80 ⟨Nat.le_of_ble_eq_true rfl, Nat.le_of_ble_eq_true rfl⟩ [0, 1] [] rfl (wr := []) rfl (by decide) (by decide) (by decide) (Nat.le_of_ble_eq_true rfl) ⟨Nat.le_of_ble_eq_true rfl, Nat.le_of_ble_eq_true rfl⟩ (fun rv w1 h1 => ?_)
              obtain ⟨rfl, rfl⟩ := h1
              refine G.aft [0, 1] (ws' := [(y1, .inr (10, [.ref y2])), (y2, aI k 252 ((clL 2 (mgV 3 w (upd ((clW (clL 2) 3 q9 w).2) ((3 * 6 + 2) * 6 + w) 0))).2))]) (st' := [.long ((clL 2 (mgV 3 w (upd ((clW (clL 2) 3 q9 w).2) ((3 * 6 + 2) * 6 + w) 0))).1), .long ((((clW (clL 2) 3 q9 w).2) ((3 * 6 + 2) * 6 + w)).toInt64), .long ((clW (clL 2) 3 q9 w).1)]) (cells' := 0) (slots' := 0) (g' := 0) (by decide) rfl rfl rfl rfl rfl ?_
              refine g_lmul (pc := 83) C dX9_countLeft_83 ?_
              refine g_ladd (pc := 84) C dX9_countLeft_84 ?_
              refine g_lstore_n (pc := 85) C [(3, .long (((clW (clL 2) 3 q9 w).1) + (((((clW (clL 2) 3 q9 w).2) ((3 * 6 + 2) * 6 + w)).toInt64) * ((clL 2 (mgV 3 w (upd ((clW (clL 2) 3 q9 w).2) ((3 * 6 + 2) * 6 + w) 0))).1)))), (6, .int (((clW (clL 2) 3 q9 w).2) ((3 * 6 + 2) * 6 + w))), (0, .ref y1), (1, .int (nI 3)), (2, .int (nI 2)), (5, .int (nI w))] rfl dX9_countLeft_85 (by decide) rfl ?_
              refine g_iinc (pc := 86) (n := 1) (v := (nI (w + 1))) C 5 [(5, .int (nI (w + 1))), (3, .long (((clW (clL 2) 3 q9 w).1) + (((((clW (clL 2) 3 q9 w).2) ((3 * 6 + 2) * 6 + w)).toInt64) * ((clL 2 (mgV 3 w (upd ((clW (clL 2) 3 q9 w).2) ((3 * 6 + 2) * 6 + w) 0))).1)))), (6, .int (((clW (clL 2) 3 q9 w).2) ((3 * 6 + 2) * 6 + w))), (0, .ref y1), (1, .int (nI 3)), (2, .int (nI 2))] rfl (nI_1 w) dX9_countLeft_86 (by decide) rfl ?_
              refine g_goto (pc := 89) C 31 (by decide) dX9_countLeft_89 ?_
              refine G.loc [3, 4, 5, 1, 0] (lv' := [(0, .ref y1), (1, .int (nI 3)), (2, .int (nI 2)), (3, .long (((clW (clL 2) 3 q9 w).1) + (((((clW (clL 2) 3 q9 w).2) ((3 * 6 + 2) * 6 + w)).toInt64) * ((clL 2 (mgV 3 w (upd ((clW (clL 2) 3 q9 w).2) ((3 * 6 + 2) * 6 + w) 0))).1)))), (5, .int (nI (w + 1)))]) rfl ?_
              refine G.fn ((clW (clL 2) 3 q9 (w + 1)).2) 1 [(y1, .inr (10, [.ref y2])), (y2, aI k 252 ((clW (clL 2) 3 q9 (w + 1)).2))] rfl (fun j hj => by first | (rw [clW_n c_52]) | (rw [clW_y c_52])) rfl ?_
              refine G.eql (lv' := [(0, .ref y1), (1, .int (nI 3)), (2, .int (nI 2)), (3, .long ((clW (clL 2) 3 q9 (w + 1)).1)), (5, .int (nI (w + 1)))]) (congrArg (β := List (Nat × Value)) (fun z9 => [(0, .ref y1), (1, .int (nI 3)), (2, .int (nI 2)), (3, .long z9), (5, .int (nI (w + 1)))]) (show ((((clW (clL 2) 3 q9 w).1) + (((((clW (clL 2) 3 q9 w).2) ((3 * 6 + 2) * 6 + w)).toInt64) * ((clL 2 (mgV 3 w (upd ((clW (clL 2) 3 q9 w).2) ((3 * 6 + 2) * 6 + w) 0))).1))) : Int64) = (clW (clL 2) 3 q9 (w + 1)).1 from by first | (rw [clW_n c_52]) | (rw [clW_y c_52]))) ?_
              exact ih_31 (w + 1) (by omega) (by omega)
      refine G.loc [3, 4, 2, 1, 0] (lv' := [(0, .ref y1), (1, .int (nI 3)), (2, .int (nI 2)), (3, .long 0), (5, .int 0)]) rfl ?_
      refine G.fn ((clW (clL 2) 3 q9 0).2) 1 [(y1, .inr (10, [.ref y2])), (y2, aI k 252 ((clW (clL 2) 3 q9 0).2))] rfl (fun j hj => by rfl) rfl ?_
      refine G.eql (lv' := [(0, .ref y1), (1, .int (nI 3)), (2, .int (nI 2)), (3, .long ((clW (clL 2) 3 q9 0).1)), (5, .int (nI 0))]) ((congrArg (β := List (Nat × Value)) (fun z9 => [(0, .ref y1), (1, .int (nI 3)), (2, .int (nI 2)), (3, .long z9), (5, .int 0)]) (show (0 : Int64) = (clW (clL 2) 3 q9 0).1 from by first | rfl | exact nI_0.symm)).trans (congrArg (β := List (Nat × Value)) (fun z9 => [(0, .ref y1), (1, .int (nI 3)), (2, .int (nI 2)), (3, .long ((clW (clL 2) 3 q9 0).1)), (5, .int z9)]) (show (0 : Int32) = (nI 0) from by first | rfl | exact nI_0.symm))) ?_
      exact key_31 (2 - 0 + 1) 0 (by omega) (Nat.lt_succ_self _)
    · exact absurd c_8 (by decide)
set_option maxRecDepth 100000 in
set_option maxHeartbeats 400000 in
theorem c_X9_countLeft_4 {l : Launch} {D : va_G} {k : Nat → ClassId} (y1 : Nat) (y2 : Nat) (q9 : Nat → Int32)  : CM l D k yX9_countLeft cX9_countLeft 7 (some .long)  4 99 [.ref y1, .int (nI 4)] [(y1, .inr (10, [.ref y2])), (y2, aI k 252 q9)] (is1 (some (.long ((clL 4 q9).1))) [(y1, .inr (10, [.ref y2])), (y2, aI k 252 ((clL 4 q9).2))]) 0 0 0 := by
  refine CM.of (lv0 := [(0, .ref y1), (1, .int (nI 4))]) (by decide +kernel) (Nat.le_of_ble_eq_true rfl) rfl ?_
  intro p9 e9 s9 m9 bl9 me9 co9 C hr hlk hin had
  refine g_iload_n (pc := 0) C 1 rfl rfl dX9_countLeft_0 ?_
  refine g_iconst (pc := 1) (v := 2) C (by decide) dX9_countLeft_1 ?_
  refine g_icmp_lt (pc := 2) C 11 (by decide) dX9_countLeft_2 (fun c_2 => ?_) (fun c_2 => ?_)
  · exact absurd c_2 (by decide)
  · refine g_iload_n (pc := 5) C 1 rfl rfl dX9_countLeft_5 ?_
    refine g_bipush (pc := 6) (v := 6) C (by decide) dX9_countLeft_6 ?_
    refine g_icmp_le (pc := 8) C 22 (by decide) dX9_countLeft_8 (fun c_8 => ?_) (fun c_8 => ?_)
    · refine g_iload_n (pc := 22) C 1 rfl rfl dX9_countLeft_22 ?_
      refine g_iconst (pc := 23) (v := 1) C (by decide) dX9_countLeft_23 ?_
      refine g_isub (pc := 24) C dX9_countLeft_24 ?_
      refine G.eqs (st' := [.int (nI 3)]) (congrArg (β := List Value) (fun z9 => [.int z9]) (show (((nI 4) - 1) : Int32) = (nI 3) from by decide)) ?_
      refine g_istore_n (pc := 25) C [(2, .int (nI 3)), (0, .ref y1), (1, .int (nI 4))] rfl dX9_countLeft_25 (by decide) rfl ?_
      refine g_lconst (pc := 26) (v := 0) C (by decide) dX9_countLeft_26 ?_
      refine g_lstore_n (pc := 27) C [(3, .long 0), (2, .int (nI 3)), (0, .ref y1), (1, .int (nI 4))] rfl dX9_countLeft_27 (by decide) rfl ?_
      refine g_iconst (pc := 28) (v := 0) C (by decide) dX9_countLeft_28 ?_
      refine g_istore (pc := 29) C [(5, .int 0), (3, .long 0), (2, .int (nI 3)), (0, .ref y1), (1, .int (nI 4))] dX9_countLeft_29 (by decide) rfl ?_
      have key_31 : ∀ (fuel : Nat) (w : Nat), w ≤ 3 → 3 - w < fuel → G p9 l e9 { frames := 4, cells := 0, slots := 0, locals := 99 } s9 m9 ([.ref y1, .int (nI 4)] : List Value).toArray bl9 me9 co9 D 7 (va_A [(y1, .inr (10, [.ref y2])), (y2, aI k 252 q9)] s9.heap.size) (QM bl9 D ([.ref y1, .int (nI 4)] : List Value).toArray s9 [(y1, .inr (10, [.ref y2])), (y2, aI k 252 q9)] (is1 (some (.long ((clL 4 q9).1))) [(y1, .inr (10, [.ref y2])), (y2, aI k 252 ((clL 4 q9).2))]) 0 0 0) [(y1, .inr (10, [.ref y2])), (y2, aI k 252 ((clW (clL 3) 4 q9 w).2))] [(0, .ref y1), (1, .int (nI 4)), (2, .int (nI 3)), (3, .long ((clW (clL 3) 4 q9 w).1)), (5, .int (nI w))] 0 0 0 31 [] := by
        intro fuel
        induction fuel with
        | zero => intro w hw hm; exact absurd hm (Nat.not_lt_zero _)
        | succ fuel ih =>
          intro w hw hm
          have ih_31 := ih
          refine g_iload (pc := 31) C 4 rfl dX9_countLeft_31 ?_
          refine g_iload_n (pc := 33) C 2 rfl rfl dX9_countLeft_33 ?_
          refine g_icmp_ge (pc := 34) C 92 (by decide) dX9_countLeft_34 (fun c_34 => ?_) (fun c_34 => ?_)
          · have h3 : w = 3 := by { have := nle_ge (b := 3) (a := w) (by omega) c_34; omega }
            refine g_lload_n (pc := 92) C 3 rfl rfl dX9_countLeft_92 ?_
            refine G.fn ((clL 4 q9).2) 1 [(y1, .inr (10, [.ref y2])), (y2, aI k 252 ((clL 4 q9).2))] rfl (fun j hj => by rw [h3, clL_e4]) rfl ?_
            refine G.eqs (st' := [.long ((clL 4 q9).1)]) (congrArg (fun z9 => [Value.long z9]) (show ((clW (clL 3) 4 q9 w).1 : Int64) = (clL 4 q9).1 from by rw [h3, clL_e4])) ?_
            exact g_lret (pc := 93) C hr hlk (by first | decide | omega) (by first | decide | omega) (by first | decide | omega) dX9_countLeft_93 ⟨rfl, rfl⟩
          · have hl34 : w < 3 := nle_lt (by omega) c_34
            refine g_aload_n (pc := 37) C 0 rfl rfl dX9_countLeft_37 ?_
            refine g_iload_n (pc := 38) C 1 rfl rfl dX9_countLeft_38 ?_
            refine g_iload_n (pc := 39) C 2 rfl rfl dX9_countLeft_39 ?_
            refine g_iload (pc := 40) C 4 rfl dX9_countLeft_40 ?_
            refine g_callS (pc := 42) (cells := 0) (slots := 0) (g := 0) (As := [.int (nI 4), .int (nI 3), .int (nI w)]) (st := [.ref y1]) (b := 0) C (nA := 3) rfl (c_X9_cell 4 3 w ) q_306 q_307 q_162 q_305 (by decide +kernel) dX9_countLeft_42 ⟨Nat.le_of_ble_eq_true rfl, Nat.le_of_ble_eq_true rfl⟩ [] [0, 1] rfl (wr := [(y1, .inr (10, [.ref y2])), (y2, aI k 252 ((clW (clL 3) 4 q9 w).2))]) rfl (by decide) (by decide) (by decide) (Nat.le_of_ble_eq_true rfl) ⟨Nat.le_of_ble_eq_true rfl, Nat.le_of_ble_eq_true rfl⟩ (fun rv w1 h1 => ?_)
            obtain ⟨rfl, rfl⟩ := h1
            refine G.aft [0, 1] (ws' := [(y1, .inr (10, [.ref y2])), (y2, aI k 252 ((clW (clL 3) 4 q9 w).2))]) (st' := [.int (nI ((4 * 6 + 3) * 6 + w)), .ref y1]) (cells' := 0) (slots' := 0) (g' := 0) (by decide) rfl rfl rfl rfl rfl ?_
            refine g_callV (pc := 45) (cells := 0) (slots := 0) (g := 0) (As := [.int (nI ((4 * 6 + 3) * 6 + w))]) (st := []) (T := TX8) (q0 := 0) C (nA := 1) rfl (c_X8_at_n y1 y2 252 ((clW (clL 3) 4 q9 w).2) ((4 * 6 + 3) * 6 + w) (by first | assumption | decide | omega) (by first | assumption | decide | omega)) q_308 q_9 q_7 q_6 q_5 (by decide +kernel) rfl rfl dX9_countLeft_45 ⟨Nat.le_of_ble_eq_true rfl, Nat.le_of_ble_eq_true rfl⟩ [0, 1] [] rfl (wr := []) rfl (by decide) (by decide) (by decide) (Nat.le_of_ble_eq_true rfl) ⟨Nat.le_of_ble_eq_true rfl, Nat.le_of_ble_eq_true rfl⟩ (fun rv w1 h1 => ?_)
            obtain ⟨rfl, rfl⟩ := h1
            refine G.aft [0, 1] (ws' := [(y1, .inr (10, [.ref y2])), (y2, aI k 252 ((clW (clL 3) 4 q9 w).2))]) (st' := [.int (((clW (clL 3) 4 q9 w).2) ((4 * 6 + 3) * 6 + w))]) (cells' := 0) (slots' := 0) (g' := 0) (by decide) rfl rfl rfl rfl rfl ?_
            refine g_istore (pc := 48) C [(6, .int (((clW (clL 3) 4 q9 w).2) ((4 * 6 + 3) * 6 + w))), (0, .ref y1), (1, .int (nI 4)), (2, .int (nI 3)), (3, .long ((clW (clL 3) 4 q9 w).1)), (5, .int (nI w))] dX9_countLeft_48 (by decide) rfl ?_
            refine g_iload (pc := 50) C 0 rfl dX9_countLeft_50 ?_
            refine g_if_le (pc := 52) C 86 (by decide) dX9_countLeft_52 (fun c_52 => ?_) (fun c_52 => ?_)
            · refine g_iinc (pc := 86) (n := 1) (v := (nI (w + 1))) C 5 [(5, .int (nI (w + 1))), (6, .int (((clW (clL 3) 4 q9 w).2) ((4 * 6 + 3) * 6 + w))), (0, .ref y1), (1, .int (nI 4)), (2, .int (nI 3)), (3, .long ((clW (clL 3) 4 q9 w).1))] rfl (nI_1 w) dX9_countLeft_86 (by decide) rfl ?_
              refine g_goto (pc := 89) C 31 (by decide) dX9_countLeft_89 ?_
              refine G.loc [2, 3, 4, 5, 0] (lv' := [(0, .ref y1), (1, .int (nI 4)), (2, .int (nI 3)), (3, .long ((clW (clL 3) 4 q9 w).1)), (5, .int (nI (w + 1)))]) rfl ?_
              refine G.fn ((clW (clL 3) 4 q9 (w + 1)).2) 1 [(y1, .inr (10, [.ref y2])), (y2, aI k 252 ((clW (clL 3) 4 q9 (w + 1)).2))] rfl (fun j hj => by first | (rw [clW_n c_52]) | (rw [clW_y c_52])) rfl ?_
              refine G.eql (lv' := [(0, .ref y1), (1, .int (nI 4)), (2, .int (nI 3)), (3, .long ((clW (clL 3) 4 q9 (w + 1)).1)), (5, .int (nI (w + 1)))]) (congrArg (β := List (Nat × Value)) (fun z9 => [(0, .ref y1), (1, .int (nI 4)), (2, .int (nI 3)), (3, .long z9), (5, .int (nI (w + 1)))]) (show ((clW (clL 3) 4 q9 w).1 : Int64) = (clW (clL 3) 4 q9 (w + 1)).1 from by first | (rw [clW_n c_52]) | (rw [clW_y c_52]))) ?_
              exact ih_31 (w + 1) (by omega) (by omega)
            · refine g_aload_n (pc := 55) C 1 rfl rfl dX9_countLeft_55 ?_
              refine g_iload_n (pc := 56) C 2 rfl rfl dX9_countLeft_56 ?_
              refine g_iload_n (pc := 57) C 3 rfl rfl dX9_countLeft_57 ?_
              refine g_iload (pc := 58) C 5 rfl dX9_countLeft_58 ?_
              refine g_callS (pc := 60) (cells := 0) (slots := 0) (g := 0) (As := [.int (nI 4), .int (nI 3), .int (nI w)]) (st := [.ref y1]) (b := 0) C (nA := 3) rfl (c_X9_cell 4 3 w ) q_306 q_307 q_162 q_305 (by decide +kernel) dX9_countLeft_60 ⟨Nat.le_of_ble_eq_true rfl, Nat.le_of_ble_eq_true rfl⟩ [] [0, 1] rfl (wr := [(y1, .inr (10, [.ref y2])), (y2, aI k 252 ((clW (clL 3) 4 q9 w).2))]) rfl (by decide) (by decide) (by decide) (Nat.le_of_ble_eq_true rfl) ⟨Nat.le_of_ble_eq_true rfl, Nat.le_of_ble_eq_true rfl⟩ (fun rv w1 h1 => ?_)
              obtain ⟨rfl, rfl⟩ := h1
              refine G.aft [0, 1] (ws' := [(y1, .inr (10, [.ref y2])), (y2, aI k 252 ((clW (clL 3) 4 q9 w).2))]) (st' := [.int (nI ((4 * 6 + 3) * 6 + w)), .ref y1]) (cells' := 0) (slots' := 0) (g' := 0) (by decide) rfl rfl rfl rfl rfl ?_
              refine g_iconst (pc := 63) (v := 0) C (by decide) dX9_countLeft_63 ?_
              refine g_callV (pc := 64) (cells := 0) (slots := 0) (g := 0) (As := [.int (nI ((4 * 6 + 3) * 6 + w)), .int 0]) (st := []) (T := TX8) (q0 := 0) C (nA := 2) rfl (c_X8_write_n y1 y2 252 ((clW (clL 3) 4 q9 w).2) ((4 * 6 + 3) * 6 + w) 0 (by first | assumption | decide | omega) (by first | assumption | decide | omega)) q_310 q_202 q_200 q_6 q_199 (by decide +kernel) rfl rfl dX9_countLeft_64 ⟨Nat.le_of_ble_eq_true rfl, Nat.le_of_ble_eq_true rfl⟩ [0, 1] [] rfl (wr := []) rfl (by decide) (by decide) (by decide) (Nat.le_of_ble_eq_true rfl) ⟨Nat.le_of_ble_eq_true rfl, Nat.le_of_ble_eq_true rfl⟩ (fun rv w1 h1 => ?_)
              obtain ⟨rfl, rfl⟩ := h1
              refine G.aft [0, 1] (ws' := [(y1, .inr (10, [.ref y2])), (y2, aI k 252 (upd ((clW (clL 3) 4 q9 w).2) ((4 * 6 + 3) * 6 + w) 0))]) (st' := []) (cells' := 0) (slots' := 0) (g' := 0) (by decide) rfl rfl rfl rfl rfl ?_
              refine g_aload_n (pc := 67) C 1 rfl rfl dX9_countLeft_67 ?_
              refine g_iload_n (pc := 68) C 2 rfl rfl dX9_countLeft_68 ?_
              refine g_iload (pc := 69) C 5 rfl dX9_countLeft_69 ?_
              refine g_callS (pc := 71) (cells := 0) (slots := 0) (g := 0) (As := [.ref y1, .int (nI 4), .int (nI w)]) (st := []) (b := 0) C (nA := 3) rfl (c_X9_merge y1 y2 (upd ((clW (clL 3) 4 q9 w).2) ((4 * 6 + 3) * 6 + w) 0) 4 w (by first | assumption | decide | omega) (by first | assumption | decide | omega) (by first | assumption | decide | omega)) q_312 q_313 q_162 q_311 (by decide +kernel) dX9_countLeft_71 ⟨Nat.le_of_ble_eq_true rfl, Nat.le_of_ble_eq_true rfl⟩ [0, 1] [] rfl (wr := []) rfl (by decide) (by decide) (by decide) (Nat.le_of_ble_eq_true rfl) ⟨Nat.le_of_ble_eq_true rfl, Nat.le_of_ble_eq_true rfl⟩ (fun rv w1 h1 => ?_)
              obtain ⟨rfl, rfl⟩ := h1
              refine G.aft [0, 1] (ws' := [(y1, .inr (10, [.ref y2])), (y2, aI k 252 (mgV 4 w (upd ((clW (clL 3) 4 q9 w).2) ((4 * 6 + 3) * 6 + w) 0)))]) (st' := []) (cells' := 0) (slots' := 0) (g' := 0) (by decide) rfl rfl rfl rfl rfl ?_
              refine g_lload_n (pc := 74) C 4 rfl rfl dX9_countLeft_74 ?_
              refine g_iload (pc := 75) C 0 rfl dX9_countLeft_75 ?_
              refine g_i2l (pc := 77) C dX9_countLeft_77 ?_
              refine g_aload_n (pc := 78) C 1 rfl rfl dX9_countLeft_78 ?_
              refine g_iload_n (pc := 79) C 3 rfl rfl dX9_countLeft_79 ?_
              refine g_callS (pc := 80) (cells := 0) (slots := 0) (g := 0) (As := [.ref y1, .int (nI 3)]) (st := [.long ((((clW (clL 3) 4 q9 w).2) ((4 * 6 + 3) * 6 + w)).toInt64), .long ((clW (clL 3) 4 q9 w).1)]) (b := 0) C (nA := 2) rfl (c_X9_countLeft_3 y1 y2 (mgV 4 w (upd ((clW (clL 3) 4 q9 w).2) ((4 * 6 + 3) * 6 + w) 0)) ) q_315 q_316 q_162 q_314 (by decide +kernel) dX9_countLeft_80 ⟨Nat.le_of_ble_eq_true rfl, Nat.le_of_ble_eq_true rfl⟩ [0, 1] [] rfl (wr := []) rfl (by decide) (by decide) (by decide) (Nat.le_of_ble_eq_true rfl) ⟨Nat.le_of_ble_eq_true rfl, Nat.le_of_ble_eq_true rfl⟩ (fun rv w1 h1 => ?_)
              obtain ⟨rfl, rfl⟩ := h1
              refine G.aft [0, 1] (ws' := [(y1, .inr (10, [.ref y2])), (y2, aI k 252 ((clL 3 (mgV 4 w (upd ((clW (clL 3) 4 q9 w).2) ((4 * 6 + 3) * 6 + w) 0))).2))]) (st' := [.long ((clL 3 (mgV 4 w (upd ((clW (clL 3) 4 q9 w).2) ((4 * 6 + 3) * 6 + w) 0))).1), .long ((((clW (clL 3) 4 q9 w).2) ((4 * 6 + 3) * 6 + w)).toInt64), .long ((clW (clL 3) 4 q9 w).1)]) (cells' := 0) (slots' := 0) (g' := 0) (by decide) rfl rfl rfl rfl rfl ?_
              refine g_lmul (pc := 83) C dX9_countLeft_83 ?_
              refine g_ladd (pc := 84) C dX9_countLeft_84 ?_
              refine g_lstore_n (pc := 85) C [(3, .long (((clW (clL 3) 4 q9 w).1) + (((((clW (clL 3) 4 q9 w).2) ((4 * 6 + 3) * 6 + w)).toInt64) * ((clL 3 (mgV 4 w (upd ((clW (clL 3) 4 q9 w).2) ((4 * 6 + 3) * 6 + w) 0))).1)))), (6, .int (((clW (clL 3) 4 q9 w).2) ((4 * 6 + 3) * 6 + w))), (0, .ref y1), (1, .int (nI 4)), (2, .int (nI 3)), (5, .int (nI w))] rfl dX9_countLeft_85 (by decide) rfl ?_
              refine g_iinc (pc := 86) (n := 1) (v := (nI (w + 1))) C 5 [(5, .int (nI (w + 1))), (3, .long (((clW (clL 3) 4 q9 w).1) + (((((clW (clL 3) 4 q9 w).2) ((4 * 6 + 3) * 6 + w)).toInt64) * ((clL 3 (mgV 4 w (upd ((clW (clL 3) 4 q9 w).2) ((4 * 6 + 3) * 6 + w) 0))).1)))), (6, .int (((clW (clL 3) 4 q9 w).2) ((4 * 6 + 3) * 6 + w))), (0, .ref y1), (1, .int (nI 4)), (2, .int (nI 3))] rfl (nI_1 w) dX9_countLeft_86 (by decide) rfl ?_
              refine g_goto (pc := 89) C 31 (by decide) dX9_countLeft_89 ?_
              refine G.loc [3, 4, 5, 1, 0] (lv' := [(0, .ref y1), (1, .int (nI 4)), (2, .int (nI 3)), (3, .long (((clW (clL 3) 4 q9 w).1) + (((((clW (clL 3) 4 q9 w).2) ((4 * 6 + 3) * 6 + w)).toInt64) * ((clL 3 (mgV 4 w (upd ((clW (clL 3) 4 q9 w).2) ((4 * 6 + 3) * 6 + w) 0))).1)))), (5, .int (nI (w + 1)))]) rfl ?_
              refine G.fn ((clW (clL 3) 4 q9 (w + 1)).2) 1 [(y1, .inr (10, [.ref y2])), (y2, aI k 252 ((clW (clL 3) 4 q9 (w + 1)).2))] rfl (fun j hj => by first | (rw [clW_n c_52]) | (rw [clW_y c_52])) rfl ?_
              refine G.eql (lv' := [(0, .ref y1), (1, .int (nI 4)), (2, .int (nI 3)), (3, .long ((clW (clL 3) 4 q9 (w + 1)).1)), (5, .int (nI (w + 1)))]) (congrArg (β := List (Nat × Value)) (fun z9 => [(0, .ref y1), (1, .int (nI 4)), (2, .int (nI 3)), (3, .long z9), (5, .int (nI (w + 1)))]) (show ((((clW (clL 3) 4 q9 w).1) + (((((clW (clL 3) 4 q9 w).2) ((4 * 6 + 3) * 6 + w)).toInt64) * ((clL 3 (mgV 4 w (upd ((clW (clL 3) 4 q9 w).2) ((4 * 6 + 3) * 6 + w) 0))).1))) : Int64) = (clW (clL 3) 4 q9 (w + 1)).1 from by first | (rw [clW_n c_52]) | (rw [clW_y c_52]))) ?_
              exact ih_31 (w + 1) (by omega) (by omega)
      refine G.loc [3, 4, 2, 1, 0] (lv' := [(0, .ref y1), (1, .int (nI 4)), (2, .int (nI 3)), (3, .long 0), (5, .int 0)]) rfl ?_
      refine G.fn ((clW (clL 3) 4 q9 0).2) 1 [(y1, .inr (10, [.ref y2])), (y2, aI k 252 ((clW (clL 3) 4 q9 0).2))] rfl (fun j hj => by rfl) rfl ?_
      refine G.eql (lv' := [(0, .ref y1), (1, .int (nI 4)), (2, .int (nI 3)), (3, .long ((clW (clL 3) 4 q9 0).1)), (5, .int (nI 0))]) ((congrArg (β := List (Nat × Value)) (fun z9 => [(0, .ref y1), (1, .int (nI 4)), (2, .int (nI 3)), (3, .long z9), (5, .int 0)]) (show (0 : Int64) = (clW (clL 3) 4 q9 0).1 from by first | rfl | exact nI_0.symm)).trans (congrArg (β := List (Nat × Value)) (fun z9 => [(0, .ref y1), (1, .int (nI 4)), (2, .int (nI 3)), (3, .long ((clW (clL 3) 4 q9 0).1)), (5, .int z9)]) (show (0 : Int32) = (nI 0) from by first | rfl | exact nI_0.symm))) ?_
      exact key_31 (3 - 0 + 1) 0 (by omega) (Nat.lt_succ_self _)
    · exact absurd c_8 (by decide)
set_option maxRecDepth 100000 in
set_option maxHeartbeats 400000 in
theorem c_X9_countLeft_5 {l : Launch} {D : va_G} {k : Nat → ClassId} (y1 : Nat) (y2 : Nat) (q9 : Nat → Int32)  : CM l D k yX9_countLeft cX9_countLeft 7 (some .long)  5 125 [.ref y1, .int (nI 5)] [(y1, .inr (10, [.ref y2])), (y2, aI k 252 q9)] (is1 (some (.long ((clL 5 q9).1))) [(y1, .inr (10, [.ref y2])), (y2, aI k 252 ((clL 5 q9).2))]) 0 0 0 := by
  refine CM.of (lv0 := [(0, .ref y1), (1, .int (nI 5))]) (by decide +kernel) (Nat.le_of_ble_eq_true rfl) rfl ?_
  intro p9 e9 s9 m9 bl9 me9 co9 C hr hlk hin had
  refine g_iload_n (pc := 0) C 1 rfl rfl dX9_countLeft_0 ?_
  refine g_iconst (pc := 1) (v := 2) C (by decide) dX9_countLeft_1 ?_
  refine g_icmp_lt (pc := 2) C 11 (by decide) dX9_countLeft_2 (fun c_2 => ?_) (fun c_2 => ?_)
  · exact absurd c_2 (by decide)
  · refine g_iload_n (pc := 5) C 1 rfl rfl dX9_countLeft_5 ?_
    refine g_bipush (pc := 6) (v := 6) C (by decide) dX9_countLeft_6 ?_
    refine g_icmp_le (pc := 8) C 22 (by decide) dX9_countLeft_8 (fun c_8 => ?_) (fun c_8 => ?_)
    · refine g_iload_n (pc := 22) C 1 rfl rfl dX9_countLeft_22 ?_
      refine g_iconst (pc := 23) (v := 1) C (by decide) dX9_countLeft_23 ?_
      refine g_isub (pc := 24) C dX9_countLeft_24 ?_
      refine G.eqs (st' := [.int (nI 4)]) (congrArg (β := List Value) (fun z9 => [.int z9]) (show (((nI 5) - 1) : Int32) = (nI 4) from by decide)) ?_
      refine g_istore_n (pc := 25) C [(2, .int (nI 4)), (0, .ref y1), (1, .int (nI 5))] rfl dX9_countLeft_25 (by decide) rfl ?_
      refine g_lconst (pc := 26) (v := 0) C (by decide) dX9_countLeft_26 ?_
      refine g_lstore_n (pc := 27) C [(3, .long 0), (2, .int (nI 4)), (0, .ref y1), (1, .int (nI 5))] rfl dX9_countLeft_27 (by decide) rfl ?_
      refine g_iconst (pc := 28) (v := 0) C (by decide) dX9_countLeft_28 ?_
      refine g_istore (pc := 29) C [(5, .int 0), (3, .long 0), (2, .int (nI 4)), (0, .ref y1), (1, .int (nI 5))] dX9_countLeft_29 (by decide) rfl ?_
      have key_31 : ∀ (fuel : Nat) (w : Nat), w ≤ 4 → 4 - w < fuel → G p9 l e9 { frames := 5, cells := 0, slots := 0, locals := 125 } s9 m9 ([.ref y1, .int (nI 5)] : List Value).toArray bl9 me9 co9 D 7 (va_A [(y1, .inr (10, [.ref y2])), (y2, aI k 252 q9)] s9.heap.size) (QM bl9 D ([.ref y1, .int (nI 5)] : List Value).toArray s9 [(y1, .inr (10, [.ref y2])), (y2, aI k 252 q9)] (is1 (some (.long ((clL 5 q9).1))) [(y1, .inr (10, [.ref y2])), (y2, aI k 252 ((clL 5 q9).2))]) 0 0 0) [(y1, .inr (10, [.ref y2])), (y2, aI k 252 ((clW (clL 4) 5 q9 w).2))] [(0, .ref y1), (1, .int (nI 5)), (2, .int (nI 4)), (3, .long ((clW (clL 4) 5 q9 w).1)), (5, .int (nI w))] 0 0 0 31 [] := by
        intro fuel
        induction fuel with
        | zero => intro w hw hm; exact absurd hm (Nat.not_lt_zero _)
        | succ fuel ih =>
          intro w hw hm
          have ih_31 := ih
          refine g_iload (pc := 31) C 4 rfl dX9_countLeft_31 ?_
          refine g_iload_n (pc := 33) C 2 rfl rfl dX9_countLeft_33 ?_
          refine g_icmp_ge (pc := 34) C 92 (by decide) dX9_countLeft_34 (fun c_34 => ?_) (fun c_34 => ?_)
          · have h3 : w = 4 := by { have := nle_ge (b := 4) (a := w) (by omega) c_34; omega }
            refine g_lload_n (pc := 92) C 3 rfl rfl dX9_countLeft_92 ?_
            refine G.fn ((clL 5 q9).2) 1 [(y1, .inr (10, [.ref y2])), (y2, aI k 252 ((clL 5 q9).2))] rfl (fun j hj => by rw [h3, clL_e5]) rfl ?_
            refine G.eqs (st' := [.long ((clL 5 q9).1)]) (congrArg (fun z9 => [Value.long z9]) (show ((clW (clL 4) 5 q9 w).1 : Int64) = (clL 5 q9).1 from by rw [h3, clL_e5])) ?_
            exact g_lret (pc := 93) C hr hlk (by first | decide | omega) (by first | decide | omega) (by first | decide | omega) dX9_countLeft_93 ⟨rfl, rfl⟩
          · have hl34 : w < 4 := nle_lt (by omega) c_34
            refine g_aload_n (pc := 37) C 0 rfl rfl dX9_countLeft_37 ?_
            refine g_iload_n (pc := 38) C 1 rfl rfl dX9_countLeft_38 ?_
            refine g_iload_n (pc := 39) C 2 rfl rfl dX9_countLeft_39 ?_
            refine g_iload (pc := 40) C 4 rfl dX9_countLeft_40 ?_
            refine g_callS (pc := 42) (cells := 0) (slots := 0) (g := 0) (As := [.int (nI 5), .int (nI 4), .int (nI w)]) (st := [.ref y1]) (b := 0) C (nA := 3) rfl (c_X9_cell 5 4 w ) q_306 q_307 q_162 q_305 (by decide +kernel) dX9_countLeft_42 ⟨Nat.le_of_ble_eq_true rfl, Nat.le_of_ble_eq_true rfl⟩ [] [0, 1] rfl (wr := [(y1, .inr (10, [.ref y2])), (y2, aI k 252 ((clW (clL 4) 5 q9 w).2))]) rfl (by decide) (by decide) (by decide) (Nat.le_of_ble_eq_true rfl) ⟨Nat.le_of_ble_eq_true rfl, Nat.le_of_ble_eq_true rfl⟩ (fun rv w1 h1 => ?_)
            obtain ⟨rfl, rfl⟩ := h1
            refine G.aft [0, 1] (ws' := [(y1, .inr (10, [.ref y2])), (y2, aI k 252 ((clW (clL 4) 5 q9 w).2))]) (st' := [.int (nI ((5 * 6 + 4) * 6 + w)), .ref y1]) (cells' := 0) (slots' := 0) (g' := 0) (by decide) rfl rfl rfl rfl rfl ?_
            refine g_callV (pc := 45) (cells := 0) (slots := 0) (g := 0) (As := [.int (nI ((5 * 6 + 4) * 6 + w))]) (st := []) (T := TX8) (q0 := 0) C (nA := 1) rfl (c_X8_at_n y1 y2 252 ((clW (clL 4) 5 q9 w).2) ((5 * 6 + 4) * 6 + w) (by first | assumption | decide | omega) (by first | assumption | decide | omega)) q_308 q_9 q_7 q_6 q_5 (by decide +kernel) rfl rfl dX9_countLeft_45 ⟨Nat.le_of_ble_eq_true rfl, Nat.le_of_ble_eq_true rfl⟩ [0, 1] [] rfl (wr := []) rfl (by decide) (by decide) (by decide) (Nat.le_of_ble_eq_true rfl) ⟨Nat.le_of_ble_eq_true rfl, Nat.le_of_ble_eq_true rfl⟩ (fun rv w1 h1 => ?_)
            obtain ⟨rfl, rfl⟩ := h1
            refine G.aft [0, 1] (ws' := [(y1, .inr (10, [.ref y2])), (y2, aI k 252 ((clW (clL 4) 5 q9 w).2))]) (st' := [.int (((clW (clL 4) 5 q9 w).2) ((5 * 6 + 4) * 6 + w))]) (cells' := 0) (slots' := 0) (g' := 0) (by decide) rfl rfl rfl rfl rfl ?_
            refine g_istore (pc := 48) C [(6, .int (((clW (clL 4) 5 q9 w).2) ((5 * 6 + 4) * 6 + w))), (0, .ref y1), (1, .int (nI 5)), (2, .int (nI 4)), (3, .long ((clW (clL 4) 5 q9 w).1)), (5, .int (nI w))] dX9_countLeft_48 (by decide) rfl ?_
            refine g_iload (pc := 50) C 0 rfl dX9_countLeft_50 ?_
            refine g_if_le (pc := 52) C 86 (by decide) dX9_countLeft_52 (fun c_52 => ?_) (fun c_52 => ?_)
            · refine g_iinc (pc := 86) (n := 1) (v := (nI (w + 1))) C 5 [(5, .int (nI (w + 1))), (6, .int (((clW (clL 4) 5 q9 w).2) ((5 * 6 + 4) * 6 + w))), (0, .ref y1), (1, .int (nI 5)), (2, .int (nI 4)), (3, .long ((clW (clL 4) 5 q9 w).1))] rfl (nI_1 w) dX9_countLeft_86 (by decide) rfl ?_
              refine g_goto (pc := 89) C 31 (by decide) dX9_countLeft_89 ?_
              refine G.loc [2, 3, 4, 5, 0] (lv' := [(0, .ref y1), (1, .int (nI 5)), (2, .int (nI 4)), (3, .long ((clW (clL 4) 5 q9 w).1)), (5, .int (nI (w + 1)))]) rfl ?_
              refine G.fn ((clW (clL 4) 5 q9 (w + 1)).2) 1 [(y1, .inr (10, [.ref y2])), (y2, aI k 252 ((clW (clL 4) 5 q9 (w + 1)).2))] rfl (fun j hj => by first | (rw [clW_n c_52]) | (rw [clW_y c_52])) rfl ?_
              refine G.eql (lv' := [(0, .ref y1), (1, .int (nI 5)), (2, .int (nI 4)), (3, .long ((clW (clL 4) 5 q9 (w + 1)).1)), (5, .int (nI (w + 1)))]) (congrArg (β := List (Nat × Value)) (fun z9 => [(0, .ref y1), (1, .int (nI 5)), (2, .int (nI 4)), (3, .long z9), (5, .int (nI (w + 1)))]) (show ((clW (clL 4) 5 q9 w).1 : Int64) = (clW (clL 4) 5 q9 (w + 1)).1 from by first | (rw [clW_n c_52]) | (rw [clW_y c_52]))) ?_
              exact ih_31 (w + 1) (by omega) (by omega)
            · refine g_aload_n (pc := 55) C 1 rfl rfl dX9_countLeft_55 ?_
              refine g_iload_n (pc := 56) C 2 rfl rfl dX9_countLeft_56 ?_
              refine g_iload_n (pc := 57) C 3 rfl rfl dX9_countLeft_57 ?_
              refine g_iload (pc := 58) C 5 rfl dX9_countLeft_58 ?_
              refine g_callS (pc := 60) (cells := 0) (slots := 0) (g := 0) (As := [.int (nI 5), .int (nI 4), .int (nI w)]) (st := [.ref y1]) (b := 0) C (nA := 3) rfl (c_X9_cell 5 4 w ) q_306 q_307 q_162 q_305 (by decide +kernel) dX9_countLeft_60 ⟨Nat.le_of_ble_eq_true rfl, Nat.le_of_ble_eq_true rfl⟩ [] [0, 1] rfl (wr := [(y1, .inr (10, [.ref y2])), (y2, aI k 252 ((clW (clL 4) 5 q9 w).2))]) rfl (by decide) (by decide) (by decide) (Nat.le_of_ble_eq_true rfl) ⟨Nat.le_of_ble_eq_true rfl, Nat.le_of_ble_eq_true rfl⟩ (fun rv w1 h1 => ?_)
              obtain ⟨rfl, rfl⟩ := h1
              refine G.aft [0, 1] (ws' := [(y1, .inr (10, [.ref y2])), (y2, aI k 252 ((clW (clL 4) 5 q9 w).2))]) (st' := [.int (nI ((5 * 6 + 4) * 6 + w)), .ref y1]) (cells' := 0) (slots' := 0) (g' := 0) (by decide) rfl rfl rfl rfl rfl ?_
              refine g_iconst (pc := 63) (v := 0) C (by decide) dX9_countLeft_63 ?_
              refine g_callV (pc := 64) (cells := 0) (slots := 0) (g := 0) (As := [.int (nI ((5 * 6 + 4) * 6 + w)), .int 0]) (st := []) (T := TX8) (q0 := 0) C (nA := 2) rfl (c_X8_write_n y1 y2 252 ((clW (clL 4) 5 q9 w).2) ((5 * 6 + 4) * 6 + w) 0 (by first | assumption | decide | omega) (by first | assumption | decide | omega)) q_310 q_202 q_200 q_6 q_199 (by decide +kernel) rfl rfl dX9_countLeft_64 ⟨Nat.le_of_ble_eq_true rfl, Nat.le_of_ble_eq_true rfl⟩ [0, 1] [] rfl (wr := []) rfl (by decide) (by decide) (by decide) (Nat.le_of_ble_eq_true rfl) ⟨Nat.le_of_ble_eq_true rfl, Nat.le_of_ble_eq_true rfl⟩ (fun rv w1 h1 => ?_)
              obtain ⟨rfl, rfl⟩ := h1
              refine G.aft [0, 1] (ws' := [(y1, .inr (10, [.ref y2])), (y2, aI k 252 (upd ((clW (clL 4) 5 q9 w).2) ((5 * 6 + 4) * 6 + w) 0))]) (st' := []) (cells' := 0) (slots' := 0) (g' := 0) (by decide) rfl rfl rfl rfl rfl ?_
              refine g_aload_n (pc := 67) C 1 rfl rfl dX9_countLeft_67 ?_
              refine g_iload_n (pc := 68) C 2 rfl rfl dX9_countLeft_68 ?_
              refine g_iload (pc := 69) C 5 rfl dX9_countLeft_69 ?_
              refine g_callS (pc := 71) (cells := 0) (slots := 0) (g := 0) (As := [.ref y1, .int (nI 5), .int (nI w)]) (st := []) (b := 0) C (nA := 3) rfl (c_X9_merge y1 y2 (upd ((clW (clL 4) 5 q9 w).2) ((5 * 6 + 4) * 6 + w) 0) 5 w (by first | assumption | decide | omega) (by first | assumption | decide | omega) (by first | assumption | decide | omega)) q_312 q_313 q_162 q_311 (by decide +kernel) dX9_countLeft_71 ⟨Nat.le_of_ble_eq_true rfl, Nat.le_of_ble_eq_true rfl⟩ [0, 1] [] rfl (wr := []) rfl (by decide) (by decide) (by decide) (Nat.le_of_ble_eq_true rfl) ⟨Nat.le_of_ble_eq_true rfl, Nat.le_of_ble_eq_true rfl⟩ (fun rv w1 h1 => ?_)
              obtain ⟨rfl, rfl⟩ := h1
              refine G.aft [0, 1] (ws' := [(y1, .inr (10, [.ref y2])), (y2, aI k 252 (mgV 5 w (upd ((clW (clL 4) 5 q9 w).2) ((5 * 6 + 4) * 6 + w) 0)))]) (st' := []) (cells' := 0) (slots' := 0) (g' := 0) (by decide) rfl rfl rfl rfl rfl ?_
              refine g_lload_n (pc := 74) C 4 rfl rfl dX9_countLeft_74 ?_
              refine g_iload (pc := 75) C 0 rfl dX9_countLeft_75 ?_
              refine g_i2l (pc := 77) C dX9_countLeft_77 ?_
              refine g_aload_n (pc := 78) C 1 rfl rfl dX9_countLeft_78 ?_
              refine g_iload_n (pc := 79) C 3 rfl rfl dX9_countLeft_79 ?_
              refine g_callS (pc := 80) (cells := 0) (slots := 0) (g := 0) (As := [.ref y1, .int (nI 4)]) (st := [.long ((((clW (clL 4) 5 q9 w).2) ((5 * 6 + 4) * 6 + w)).toInt64), .long ((clW (clL 4) 5 q9 w).1)]) (b := 0) C (nA := 2) rfl (c_X9_countLeft_4 y1 y2 (mgV 5 w (upd ((clW (clL 4) 5 q9 w).2) ((5 * 6 + 4) * 6 + w) 0)) ) q_315 q_316 q_162 q_314 (by decide +kernel) dX9_countLeft_80 ⟨Nat.le_of_ble_eq_true rfl, Nat.le_of_ble_eq_true rfl⟩ [0, 1] [] rfl (wr := []) rfl (by decide) (by decide) (by decide) (Nat.le_of_ble_eq_true rfl) ⟨Nat.le_of_ble_eq_true rfl, Nat.le_of_ble_eq_true rfl⟩ (fun rv w1 h1 => ?_)
              obtain ⟨rfl, rfl⟩ := h1
              refine G.aft [0, 1] (ws' := [(y1, .inr (10, [.ref y2])), (y2, aI k 252 ((clL 4 (mgV 5 w (upd ((clW (clL 4) 5 q9 w).2) ((5 * 6 + 4) * 6 + w) 0))).2))]) (st' := [.long ((clL 4 (mgV 5 w (upd ((clW (clL 4) 5 q9 w).2) ((5 * 6 + 4) * 6 + w) 0))).1), .long ((((clW (clL 4) 5 q9 w).2) ((5 * 6 + 4) * 6 + w)).toInt64), .long ((clW (clL 4) 5 q9 w).1)]) (cells' := 0) (slots' := 0) (g' := 0) (by decide) rfl rfl rfl rfl rfl ?_
              refine g_lmul (pc := 83) C dX9_countLeft_83 ?_
              refine g_ladd (pc := 84) C dX9_countLeft_84 ?_
              refine g_lstore_n (pc := 85) C [(3, .long (((clW (clL 4) 5 q9 w).1) + (((((clW (clL 4) 5 q9 w).2) ((5 * 6 + 4) * 6 + w)).toInt64) * ((clL 4 (mgV 5 w (upd ((clW (clL 4) 5 q9 w).2) ((5 * 6 + 4) * 6 + w) 0))).1)))), (6, .int (((clW (clL 4) 5 q9 w).2) ((5 * 6 + 4) * 6 + w))), (0, .ref y1), (1, .int (nI 5)), (2, .int (nI 4)), (5, .int (nI w))] rfl dX9_countLeft_85 (by decide) rfl ?_
              refine g_iinc (pc := 86) (n := 1) (v := (nI (w + 1))) C 5 [(5, .int (nI (w + 1))), (3, .long (((clW (clL 4) 5 q9 w).1) + (((((clW (clL 4) 5 q9 w).2) ((5 * 6 + 4) * 6 + w)).toInt64) * ((clL 4 (mgV 5 w (upd ((clW (clL 4) 5 q9 w).2) ((5 * 6 + 4) * 6 + w) 0))).1)))), (6, .int (((clW (clL 4) 5 q9 w).2) ((5 * 6 + 4) * 6 + w))), (0, .ref y1), (1, .int (nI 5)), (2, .int (nI 4))] rfl (nI_1 w) dX9_countLeft_86 (by decide) rfl ?_
              refine g_goto (pc := 89) C 31 (by decide) dX9_countLeft_89 ?_
              refine G.loc [3, 4, 5, 1, 0] (lv' := [(0, .ref y1), (1, .int (nI 5)), (2, .int (nI 4)), (3, .long (((clW (clL 4) 5 q9 w).1) + (((((clW (clL 4) 5 q9 w).2) ((5 * 6 + 4) * 6 + w)).toInt64) * ((clL 4 (mgV 5 w (upd ((clW (clL 4) 5 q9 w).2) ((5 * 6 + 4) * 6 + w) 0))).1)))), (5, .int (nI (w + 1)))]) rfl ?_
              refine G.fn ((clW (clL 4) 5 q9 (w + 1)).2) 1 [(y1, .inr (10, [.ref y2])), (y2, aI k 252 ((clW (clL 4) 5 q9 (w + 1)).2))] rfl (fun j hj => by first | (rw [clW_n c_52]) | (rw [clW_y c_52])) rfl ?_
              refine G.eql (lv' := [(0, .ref y1), (1, .int (nI 5)), (2, .int (nI 4)), (3, .long ((clW (clL 4) 5 q9 (w + 1)).1)), (5, .int (nI (w + 1)))]) (congrArg (β := List (Nat × Value)) (fun z9 => [(0, .ref y1), (1, .int (nI 5)), (2, .int (nI 4)), (3, .long z9), (5, .int (nI (w + 1)))]) (show ((((clW (clL 4) 5 q9 w).1) + (((((clW (clL 4) 5 q9 w).2) ((5 * 6 + 4) * 6 + w)).toInt64) * ((clL 4 (mgV 5 w (upd ((clW (clL 4) 5 q9 w).2) ((5 * 6 + 4) * 6 + w) 0))).1))) : Int64) = (clW (clL 4) 5 q9 (w + 1)).1 from by first | (rw [clW_n c_52]) | (rw [clW_y c_52]))) ?_
              exact ih_31 (w + 1) (by omega) (by omega)
      refine G.loc [3, 4, 2, 1, 0] (lv' := [(0, .ref y1), (1, .int (nI 5)), (2, .int (nI 4)), (3, .long 0), (5, .int 0)]) rfl ?_
      refine G.fn ((clW (clL 4) 5 q9 0).2) 1 [(y1, .inr (10, [.ref y2])), (y2, aI k 252 ((clW (clL 4) 5 q9 0).2))] rfl (fun j hj => by rfl) rfl ?_
      refine G.eql (lv' := [(0, .ref y1), (1, .int (nI 5)), (2, .int (nI 4)), (3, .long ((clW (clL 4) 5 q9 0).1)), (5, .int (nI 0))]) ((congrArg (β := List (Nat × Value)) (fun z9 => [(0, .ref y1), (1, .int (nI 5)), (2, .int (nI 4)), (3, .long z9), (5, .int 0)]) (show (0 : Int64) = (clW (clL 4) 5 q9 0).1 from by first | rfl | exact nI_0.symm)).trans (congrArg (β := List (Nat × Value)) (fun z9 => [(0, .ref y1), (1, .int (nI 5)), (2, .int (nI 4)), (3, .long ((clW (clL 4) 5 q9 0).1)), (5, .int z9)]) (show (0 : Int32) = (nI 0) from by first | rfl | exact nI_0.symm))) ?_
      exact key_31 (4 - 0 + 1) 0 (by omega) (Nat.lt_succ_self _)
    · exact absurd c_8 (by decide)
set_option maxRecDepth 100000 in
set_option maxHeartbeats 400000 in
theorem c_X9_countLeft_6 {l : Launch} {D : va_G} {k : Nat → ClassId} (y1 : Nat) (y2 : Nat) (q9 : Nat → Int32)  : CM l D k yX9_countLeft cX9_countLeft 7 (some .long)  6 151 [.ref y1, .int (nI 6)] [(y1, .inr (10, [.ref y2])), (y2, aI k 252 q9)] (is1 (some (.long ((clL 6 q9).1))) [(y1, .inr (10, [.ref y2])), (y2, aI k 252 ((clL 6 q9).2))]) 0 0 0 := by
  refine CM.of (lv0 := [(0, .ref y1), (1, .int (nI 6))]) (by decide +kernel) (Nat.le_of_ble_eq_true rfl) rfl ?_
  intro p9 e9 s9 m9 bl9 me9 co9 C hr hlk hin had
  refine g_iload_n (pc := 0) C 1 rfl rfl dX9_countLeft_0 ?_
  refine g_iconst (pc := 1) (v := 2) C (by decide) dX9_countLeft_1 ?_
  refine g_icmp_lt (pc := 2) C 11 (by decide) dX9_countLeft_2 (fun c_2 => ?_) (fun c_2 => ?_)
  · exact absurd c_2 (by decide)
  · refine g_iload_n (pc := 5) C 1 rfl rfl dX9_countLeft_5 ?_
    refine g_bipush (pc := 6) (v := 6) C (by decide) dX9_countLeft_6 ?_
    refine g_icmp_le (pc := 8) C 22 (by decide) dX9_countLeft_8 (fun c_8 => ?_) (fun c_8 => ?_)
    · refine g_iload_n (pc := 22) C 1 rfl rfl dX9_countLeft_22 ?_
      refine g_iconst (pc := 23) (v := 1) C (by decide) dX9_countLeft_23 ?_
      refine g_isub (pc := 24) C dX9_countLeft_24 ?_
      refine G.eqs (st' := [.int (nI 5)]) (congrArg (β := List Value) (fun z9 => [.int z9]) (show (((nI 6) - 1) : Int32) = (nI 5) from by decide)) ?_
      refine g_istore_n (pc := 25) C [(2, .int (nI 5)), (0, .ref y1), (1, .int (nI 6))] rfl dX9_countLeft_25 (by decide) rfl ?_
      refine g_lconst (pc := 26) (v := 0) C (by decide) dX9_countLeft_26 ?_
      refine g_lstore_n (pc := 27) C [(3, .long 0), (2, .int (nI 5)), (0, .ref y1), (1, .int (nI 6))] rfl dX9_countLeft_27 (by decide) rfl ?_
      refine g_iconst (pc := 28) (v := 0) C (by decide) dX9_countLeft_28 ?_
      refine g_istore (pc := 29) C [(5, .int 0), (3, .long 0), (2, .int (nI 5)), (0, .ref y1), (1, .int (nI 6))] dX9_countLeft_29 (by decide) rfl ?_
      have key_31 : ∀ (fuel : Nat) (w : Nat), w ≤ 5 → 5 - w < fuel → G p9 l e9 { frames := 6, cells := 0, slots := 0, locals := 151 } s9 m9 ([.ref y1, .int (nI 6)] : List Value).toArray bl9 me9 co9 D 7 (va_A [(y1, .inr (10, [.ref y2])), (y2, aI k 252 q9)] s9.heap.size) (QM bl9 D ([.ref y1, .int (nI 6)] : List Value).toArray s9 [(y1, .inr (10, [.ref y2])), (y2, aI k 252 q9)] (is1 (some (.long ((clL 6 q9).1))) [(y1, .inr (10, [.ref y2])), (y2, aI k 252 ((clL 6 q9).2))]) 0 0 0) [(y1, .inr (10, [.ref y2])), (y2, aI k 252 ((clW (clL 5) 6 q9 w).2))] [(0, .ref y1), (1, .int (nI 6)), (2, .int (nI 5)), (3, .long ((clW (clL 5) 6 q9 w).1)), (5, .int (nI w))] 0 0 0 31 [] := by
        intro fuel
        induction fuel with
        | zero => intro w hw hm; exact absurd hm (Nat.not_lt_zero _)
        | succ fuel ih =>
          intro w hw hm
          have ih_31 := ih
          refine g_iload (pc := 31) C 4 rfl dX9_countLeft_31 ?_
          refine g_iload_n (pc := 33) C 2 rfl rfl dX9_countLeft_33 ?_
          refine g_icmp_ge (pc := 34) C 92 (by decide) dX9_countLeft_34 (fun c_34 => ?_) (fun c_34 => ?_)
          · have h3 : w = 5 := by { have := nle_ge (b := 5) (a := w) (by omega) c_34; omega }
            refine g_lload_n (pc := 92) C 3 rfl rfl dX9_countLeft_92 ?_
            refine G.fn ((clL 6 q9).2) 1 [(y1, .inr (10, [.ref y2])), (y2, aI k 252 ((clL 6 q9).2))] rfl (fun j hj => by rw [h3, clL_e6]) rfl ?_
            refine G.eqs (st' := [.long ((clL 6 q9).1)]) (congrArg (fun z9 => [Value.long z9]) (show ((clW (clL 5) 6 q9 w).1 : Int64) = (clL 6 q9).1 from by rw [h3, clL_e6])) ?_
            exact g_lret (pc := 93) C hr hlk (by first | decide | omega) (by first | decide | omega) (by first | decide | omega) dX9_countLeft_93 ⟨rfl, rfl⟩
          · have hl34 : w < 5 := nle_lt (by omega) c_34
            refine g_aload_n (pc := 37) C 0 rfl rfl dX9_countLeft_37 ?_
            refine g_iload_n (pc := 38) C 1 rfl rfl dX9_countLeft_38 ?_
            refine g_iload_n (pc := 39) C 2 rfl rfl dX9_countLeft_39 ?_
            refine g_iload (pc := 40) C 4 rfl dX9_countLeft_40 ?_
            refine g_callS (pc := 42) (cells := 0) (slots := 0) (g := 0) (As := [.int (nI 6), .int (nI 5), .int (nI w)]) (st := [.ref y1]) (b := 0) C (nA := 3) rfl (c_X9_cell 6 5 w ) q_306 q_307 q_162 q_305 (by decide +kernel) dX9_countLeft_42 ⟨Nat.le_of_ble_eq_true rfl, Nat.le_of_ble_eq_true rfl⟩ [] [0, 1] rfl (wr := [(y1, .inr (10, [.ref y2])), (y2, aI k 252 ((clW (clL 5) 6 q9 w).2))]) rfl (by decide) (by decide) (by decide) (Nat.le_of_ble_eq_true rfl) ⟨Nat.le_of_ble_eq_true rfl, Nat.le_of_ble_eq_true rfl⟩ (fun rv w1 h1 => ?_)
            obtain ⟨rfl, rfl⟩ := h1
            refine G.aft [0, 1] (ws' := [(y1, .inr (10, [.ref y2])), (y2, aI k 252 ((clW (clL 5) 6 q9 w).2))]) (st' := [.int (nI ((6 * 6 + 5) * 6 + w)), .ref y1]) (cells' := 0) (slots' := 0) (g' := 0) (by decide) rfl rfl rfl rfl rfl ?_
            refine g_callV (pc := 45) (cells := 0) (slots := 0) (g := 0) (As := [.int (nI ((6 * 6 + 5) * 6 + w))]) (st := []) (T := TX8) (q0 := 0) C (nA := 1) rfl (c_X8_at_n y1 y2 252 ((clW (clL 5) 6 q9 w).2) ((6 * 6 + 5) * 6 + w) (by first | assumption | decide | omega) (by first | assumption | decide | omega)) q_308 q_9 q_7 q_6 q_5 (by decide +kernel) rfl rfl dX9_countLeft_45 ⟨Nat.le_of_ble_eq_true rfl, Nat.le_of_ble_eq_true rfl⟩ [0, 1] [] rfl (wr := []) rfl (by decide) (by decide) (by decide) (Nat.le_of_ble_eq_true rfl) ⟨Nat.le_of_ble_eq_true rfl, Nat.le_of_ble_eq_true rfl⟩ (fun rv w1 h1 => ?_)
            obtain ⟨rfl, rfl⟩ := h1
            refine G.aft [0, 1] (ws' := [(y1, .inr (10, [.ref y2])), (y2, aI k 252 ((clW (clL 5) 6 q9 w).2))]) (st' := [.int (((clW (clL 5) 6 q9 w).2) ((6 * 6 + 5) * 6 + w))]) (cells' := 0) (slots' := 0) (g' := 0) (by decide) rfl rfl rfl rfl rfl ?_
            refine g_istore (pc := 48) C [(6, .int (((clW (clL 5) 6 q9 w).2) ((6 * 6 + 5) * 6 + w))), (0, .ref y1), (1, .int (nI 6)), (2, .int (nI 5)), (3, .long ((clW (clL 5) 6 q9 w).1)), (5, .int (nI w))] dX9_countLeft_48 (by decide) rfl ?_
            refine g_iload (pc := 50) C 0 rfl dX9_countLeft_50 ?_
            refine g_if_le (pc := 52) C 86 (by decide) dX9_countLeft_52 (fun c_52 => ?_) (fun c_52 => ?_)
            · refine g_iinc (pc := 86) (n := 1) (v := (nI (w + 1))) C 5 [(5, .int (nI (w + 1))), (6, .int (((clW (clL 5) 6 q9 w).2) ((6 * 6 + 5) * 6 + w))), (0, .ref y1), (1, .int (nI 6)), (2, .int (nI 5)), (3, .long ((clW (clL 5) 6 q9 w).1))] rfl (nI_1 w) dX9_countLeft_86 (by decide) rfl ?_
              refine g_goto (pc := 89) C 31 (by decide) dX9_countLeft_89 ?_
              refine G.loc [2, 3, 4, 5, 0] (lv' := [(0, .ref y1), (1, .int (nI 6)), (2, .int (nI 5)), (3, .long ((clW (clL 5) 6 q9 w).1)), (5, .int (nI (w + 1)))]) rfl ?_
              refine G.fn ((clW (clL 5) 6 q9 (w + 1)).2) 1 [(y1, .inr (10, [.ref y2])), (y2, aI k 252 ((clW (clL 5) 6 q9 (w + 1)).2))] rfl (fun j hj => by first | (rw [clW_n c_52]) | (rw [clW_y c_52])) rfl ?_
              refine G.eql (lv' := [(0, .ref y1), (1, .int (nI 6)), (2, .int (nI 5)), (3, .long ((clW (clL 5) 6 q9 (w + 1)).1)), (5, .int (nI (w + 1)))]) (congrArg (β := List (Nat × Value)) (fun z9 => [(0, .ref y1), (1, .int (nI 6)), (2, .int (nI 5)), (3, .long z9), (5, .int (nI (w + 1)))]) (show ((clW (clL 5) 6 q9 w).1 : Int64) = (clW (clL 5) 6 q9 (w + 1)).1 from by first | (rw [clW_n c_52]) | (rw [clW_y c_52]))) ?_
              exact ih_31 (w + 1) (by omega) (by omega)
            · refine g_aload_n (pc := 55) C 1 rfl rfl dX9_countLeft_55 ?_
              refine g_iload_n (pc := 56) C 2 rfl rfl dX9_countLeft_56 ?_
              refine g_iload_n (pc := 57) C 3 rfl rfl dX9_countLeft_57 ?_
              refine g_iload (pc := 58) C 5 rfl dX9_countLeft_58 ?_
              refine g_callS (pc := 60) (cells := 0) (slots := 0) (g := 0) (As := [.int (nI 6), .int (nI 5), .int (nI w)]) (st := [.ref y1]) (b := 0) C (nA := 3) rfl (c_X9_cell 6 5 w ) q_306 q_307 q_162 q_305 (by decide +kernel) dX9_countLeft_60 ⟨Nat.le_of_ble_eq_true rfl, Nat.le_of_ble_eq_true rfl⟩ [] [0, 1] rfl (wr := [(y1, .inr (10, [.ref y2])), (y2, aI k 252 ((clW (clL 5) 6 q9 w).2))]) rfl (by decide) (by decide) (by decide) (Nat.le_of_ble_eq_true rfl) ⟨Nat.le_of_ble_eq_true rfl, Nat.le_of_ble_eq_true rfl⟩ (fun rv w1 h1 => ?_)
              obtain ⟨rfl, rfl⟩ := h1
              refine G.aft [0, 1] (ws' := [(y1, .inr (10, [.ref y2])), (y2, aI k 252 ((clW (clL 5) 6 q9 w).2))]) (st' := [.int (nI ((6 * 6 + 5) * 6 + w)), .ref y1]) (cells' := 0) (slots' := 0) (g' := 0) (by decide) rfl rfl rfl rfl rfl ?_
              refine g_iconst (pc := 63) (v := 0) C (by decide) dX9_countLeft_63 ?_
              refine g_callV (pc := 64) (cells := 0) (slots := 0) (g := 0) (As := [.int (nI ((6 * 6 + 5) * 6 + w)), .int 0]) (st := []) (T := TX8) (q0 := 0) C (nA := 2) rfl (c_X8_write_n y1 y2 252 ((clW (clL 5) 6 q9 w).2) ((6 * 6 + 5) * 6 + w) 0 (by first | assumption | decide | omega) (by first | assumption | decide | omega)) q_310 q_202 q_200 q_6 q_199 (by decide +kernel) rfl rfl dX9_countLeft_64 ⟨Nat.le_of_ble_eq_true rfl, Nat.le_of_ble_eq_true rfl⟩ [0, 1] [] rfl (wr := []) rfl (by decide) (by decide) (by decide) (Nat.le_of_ble_eq_true rfl) ⟨Nat.le_of_ble_eq_true rfl, Nat.le_of_ble_eq_true rfl⟩ (fun rv w1 h1 => ?_)
              obtain ⟨rfl, rfl⟩ := h1
              refine G.aft [0, 1] (ws' := [(y1, .inr (10, [.ref y2])), (y2, aI k 252 (upd ((clW (clL 5) 6 q9 w).2) ((6 * 6 + 5) * 6 + w) 0))]) (st' := []) (cells' := 0) (slots' := 0) (g' := 0) (by decide) rfl rfl rfl rfl rfl ?_
              refine g_aload_n (pc := 67) C 1 rfl rfl dX9_countLeft_67 ?_
              refine g_iload_n (pc := 68) C 2 rfl rfl dX9_countLeft_68 ?_
              refine g_iload (pc := 69) C 5 rfl dX9_countLeft_69 ?_
              refine g_callS (pc := 71) (cells := 0) (slots := 0) (g := 0) (As := [.ref y1, .int (nI 6), .int (nI w)]) (st := []) (b := 0) C (nA := 3) rfl (c_X9_merge y1 y2 (upd ((clW (clL 5) 6 q9 w).2) ((6 * 6 + 5) * 6 + w) 0) 6 w (by first | assumption | decide | omega) (by first | assumption | decide | omega) (by first | assumption | decide | omega)) q_312 q_313 q_162 q_311 (by decide +kernel) dX9_countLeft_71 ⟨Nat.le_of_ble_eq_true rfl, Nat.le_of_ble_eq_true rfl⟩ [0, 1] [] rfl (wr := []) rfl (by decide) (by decide) (by decide) (Nat.le_of_ble_eq_true rfl) ⟨Nat.le_of_ble_eq_true rfl, Nat.le_of_ble_eq_true rfl⟩ (fun rv w1 h1 => ?_)
              obtain ⟨rfl, rfl⟩ := h1
              refine G.aft [0, 1] (ws' := [(y1, .inr (10, [.ref y2])), (y2, aI k 252 (mgV 6 w (upd ((clW (clL 5) 6 q9 w).2) ((6 * 6 + 5) * 6 + w) 0)))]) (st' := []) (cells' := 0) (slots' := 0) (g' := 0) (by decide) rfl rfl rfl rfl rfl ?_
              refine g_lload_n (pc := 74) C 4 rfl rfl dX9_countLeft_74 ?_
              refine g_iload (pc := 75) C 0 rfl dX9_countLeft_75 ?_
              refine g_i2l (pc := 77) C dX9_countLeft_77 ?_
              refine g_aload_n (pc := 78) C 1 rfl rfl dX9_countLeft_78 ?_
              refine g_iload_n (pc := 79) C 3 rfl rfl dX9_countLeft_79 ?_
              refine g_callS (pc := 80) (cells := 0) (slots := 0) (g := 0) (As := [.ref y1, .int (nI 5)]) (st := [.long ((((clW (clL 5) 6 q9 w).2) ((6 * 6 + 5) * 6 + w)).toInt64), .long ((clW (clL 5) 6 q9 w).1)]) (b := 0) C (nA := 2) rfl (c_X9_countLeft_5 y1 y2 (mgV 6 w (upd ((clW (clL 5) 6 q9 w).2) ((6 * 6 + 5) * 6 + w) 0)) ) q_315 q_316 q_162 q_314 (by decide +kernel) dX9_countLeft_80 ⟨Nat.le_of_ble_eq_true rfl, Nat.le_of_ble_eq_true rfl⟩ [0, 1] [] rfl (wr := []) rfl (by decide) (by decide) (by decide) (Nat.le_of_ble_eq_true rfl) ⟨Nat.le_of_ble_eq_true rfl, Nat.le_of_ble_eq_true rfl⟩ (fun rv w1 h1 => ?_)
              obtain ⟨rfl, rfl⟩ := h1
              refine G.aft [0, 1] (ws' := [(y1, .inr (10, [.ref y2])), (y2, aI k 252 ((clL 5 (mgV 6 w (upd ((clW (clL 5) 6 q9 w).2) ((6 * 6 + 5) * 6 + w) 0))).2))]) (st' := [.long ((clL 5 (mgV 6 w (upd ((clW (clL 5) 6 q9 w).2) ((6 * 6 + 5) * 6 + w) 0))).1), .long ((((clW (clL 5) 6 q9 w).2) ((6 * 6 + 5) * 6 + w)).toInt64), .long ((clW (clL 5) 6 q9 w).1)]) (cells' := 0) (slots' := 0) (g' := 0) (by decide) rfl rfl rfl rfl rfl ?_
              refine g_lmul (pc := 83) C dX9_countLeft_83 ?_
              refine g_ladd (pc := 84) C dX9_countLeft_84 ?_
              refine g_lstore_n (pc := 85) C [(3, .long (((clW (clL 5) 6 q9 w).1) + (((((clW (clL 5) 6 q9 w).2) ((6 * 6 + 5) * 6 + w)).toInt64) * ((clL 5 (mgV 6 w (upd ((clW (clL 5) 6 q9 w).2) ((6 * 6 + 5) * 6 + w) 0))).1)))), (6, .int (((clW (clL 5) 6 q9 w).2) ((6 * 6 + 5) * 6 + w))), (0, .ref y1), (1, .int (nI 6)), (2, .int (nI 5)), (5, .int (nI w))] rfl dX9_countLeft_85 (by decide) rfl ?_
              refine g_iinc (pc := 86) (n := 1) (v := (nI (w + 1))) C 5 [(5, .int (nI (w + 1))), (3, .long (((clW (clL 5) 6 q9 w).1) + (((((clW (clL 5) 6 q9 w).2) ((6 * 6 + 5) * 6 + w)).toInt64) * ((clL 5 (mgV 6 w (upd ((clW (clL 5) 6 q9 w).2) ((6 * 6 + 5) * 6 + w) 0))).1)))), (6, .int (((clW (clL 5) 6 q9 w).2) ((6 * 6 + 5) * 6 + w))), (0, .ref y1), (1, .int (nI 6)), (2, .int (nI 5))] rfl (nI_1 w) dX9_countLeft_86 (by decide) rfl ?_
              refine g_goto (pc := 89) C 31 (by decide) dX9_countLeft_89 ?_
              refine G.loc [3, 4, 5, 1, 0] (lv' := [(0, .ref y1), (1, .int (nI 6)), (2, .int (nI 5)), (3, .long (((clW (clL 5) 6 q9 w).1) + (((((clW (clL 5) 6 q9 w).2) ((6 * 6 + 5) * 6 + w)).toInt64) * ((clL 5 (mgV 6 w (upd ((clW (clL 5) 6 q9 w).2) ((6 * 6 + 5) * 6 + w) 0))).1)))), (5, .int (nI (w + 1)))]) rfl ?_
              refine G.fn ((clW (clL 5) 6 q9 (w + 1)).2) 1 [(y1, .inr (10, [.ref y2])), (y2, aI k 252 ((clW (clL 5) 6 q9 (w + 1)).2))] rfl (fun j hj => by first | (rw [clW_n c_52]) | (rw [clW_y c_52])) rfl ?_
              refine G.eql (lv' := [(0, .ref y1), (1, .int (nI 6)), (2, .int (nI 5)), (3, .long ((clW (clL 5) 6 q9 (w + 1)).1)), (5, .int (nI (w + 1)))]) (congrArg (β := List (Nat × Value)) (fun z9 => [(0, .ref y1), (1, .int (nI 6)), (2, .int (nI 5)), (3, .long z9), (5, .int (nI (w + 1)))]) (show ((((clW (clL 5) 6 q9 w).1) + (((((clW (clL 5) 6 q9 w).2) ((6 * 6 + 5) * 6 + w)).toInt64) * ((clL 5 (mgV 6 w (upd ((clW (clL 5) 6 q9 w).2) ((6 * 6 + 5) * 6 + w) 0))).1))) : Int64) = (clW (clL 5) 6 q9 (w + 1)).1 from by first | (rw [clW_n c_52]) | (rw [clW_y c_52]))) ?_
              exact ih_31 (w + 1) (by omega) (by omega)
      refine G.loc [3, 4, 2, 1, 0] (lv' := [(0, .ref y1), (1, .int (nI 6)), (2, .int (nI 5)), (3, .long 0), (5, .int 0)]) rfl ?_
      refine G.fn ((clW (clL 5) 6 q9 0).2) 1 [(y1, .inr (10, [.ref y2])), (y2, aI k 252 ((clW (clL 5) 6 q9 0).2))] rfl (fun j hj => by rfl) rfl ?_
      refine G.eql (lv' := [(0, .ref y1), (1, .int (nI 6)), (2, .int (nI 5)), (3, .long ((clW (clL 5) 6 q9 0).1)), (5, .int (nI 0))]) ((congrArg (β := List (Nat × Value)) (fun z9 => [(0, .ref y1), (1, .int (nI 6)), (2, .int (nI 5)), (3, .long z9), (5, .int 0)]) (show (0 : Int64) = (clW (clL 5) 6 q9 0).1 from by first | rfl | exact nI_0.symm)).trans (congrArg (β := List (Nat × Value)) (fun z9 => [(0, .ref y1), (1, .int (nI 6)), (2, .int (nI 5)), (3, .long ((clW (clL 5) 6 q9 0).1)), (5, .int z9)]) (show (0 : Int32) = (nI 0) from by first | rfl | exact nI_0.symm))) ?_
      exact key_31 (5 - 0 + 1) 0 (by omega) (Nat.lt_succ_self _)
    · exact absurd c_8 (by decide)
theorem c_X9_countLeft {l : Launch} {D : va_G} {k : Nat → ClassId} (y1 y2 : Nat) (q9 : Nat → Int32) (sN : Nat) (hs : sN ≤ 6) : CM l D k yX9_countLeft cX9_countLeft 7 (some .long) 6 151 [.ref y1, .int (nI sN)] [(y1, .inr (10, [.ref y2])), (y2, aI k 252 q9)] (is1 (some (.long (clL sN q9).1)) [(y1, .inr (10, [.ref y2])), (y2, aI k 252 (clL sN q9).2)]) 0 0 0 := by
  rcases (show sN = 0 ∨ sN = 1 ∨ sN = 2 ∨ sN = 3 ∨ sN = 4 ∨ sN = 5 ∨ sN = 6 by omega) with rfl | rfl | rfl | rfl | rfl | rfl | rfl
  · exact CM.mono (by decide) (by decide) (c_X9_countLeft_0 y1 y2 q9)
  · exact CM.mono (by decide) (by decide) (c_X9_countLeft_1 y1 y2 q9)
  · exact CM.mono (by decide) (by decide) (c_X9_countLeft_2 y1 y2 q9)
  · exact CM.mono (by decide) (by decide) (c_X9_countLeft_3 y1 y2 q9)
  · exact CM.mono (by decide) (by decide) (c_X9_countLeft_4 y1 y2 q9)
  · exact CM.mono (by decide) (by decide) (c_X9_countLeft_5 y1 y2 q9)
  · exact CM.mono (by decide) (by decide) (c_X9_countLeft_6 y1 y2 q9)
def ctA (n : Nat) (fj : Nat → Int32) (v : Nat) (q : Nat → Int32) : Nat → Nat → Int32
  | 0 => q
  | w + 1 => upd (ctA n fj v q w) ((n * 6 + v) * 6 + w) (fj (v * 6 + w))
def ctB (n : Nat) (fj : Nat → Int32) (q : Nat → Int32) : Nat → Nat → Int32
  | 0 => q
  | v + 1 => ctA n fj v (ctB n fj q v) n
set_option maxRecDepth 100000 in
set_option maxHeartbeats 400000 in
theorem c_X9_countTrees {l : Launch} {D : va_G} {k : Nat → ClassId} (o9 : Nat) (y1 : Nat) (y2 : Nat) (q9 : Nat → Int32) (h : Nat) (jj : Nat) (dd : Nat) (n : Nat) (z : Nat) (fj : Nat → Int32) (fd : Nat → Int32) (hn : n ≤ 6) : CM l D k yX9_countTrees cX9_countTrees 5 (some .long)  7 177 [.ref o9, .ref h] [(o9, .inr (11, [.ref y1])), (y1, .inr (10, [.ref y2])), (y2, aI k 252 q9), (h, .inr (5, [.ref jj, .ref dd, .int (nI n), .int (nI z)])), (jj, aI k 36 fj), (dd, aI k 6 fd)] (is1 (some (.long ((clL n (ctB n fj q9 n)).1))) [(o9, .inr (11, [.ref y1])), (y1, .inr (10, [.ref y2])), (y2, aI k 252 ((clL n (ctB n fj q9 n)).2)), (h, .inr (5, [.ref jj, .ref dd, .int (nI n), .int (nI z)])), (jj, aI k 36 fj), (dd, aI k 6 fd)]) 0 0 0 := by
  refine CM.of (lv0 := [(0, .ref o9), (1, .ref h)]) (by decide +kernel) (Nat.le_of_ble_eq_true rfl) rfl ?_
  intro p9 e9 s9 m9 bl9 me9 co9 C hr hlk hin had
  refine g_aload_n (pc := 0) C 1 rfl rfl dX9_countTrees_0 ?_
  refine g_callV (pc := 1) (cells := 0) (slots := 0) (g := 0) (As := []) (st := []) (T := TX3) (q0 := 3) C (nA := 0) rfl (c_X3_size h jj dd n z fj fd ) q_317 q_67 q_65 q_16 q_64 (by decide +kernel) rfl rfl dX9_countTrees_1 ⟨Nat.le_of_ble_eq_true rfl, Nat.le_of_ble_eq_true rfl⟩ [3, 4, 5] [0, 1, 2] rfl (wr := [(o9, .inr (11, [.ref y1])), (y1, .inr (10, [.ref y2])), (y2, aI k 252 q9)]) rfl (by decide) (by decide) (by decide) (Nat.le_of_ble_eq_true rfl) ⟨Nat.le_of_ble_eq_true rfl, Nat.le_of_ble_eq_true rfl⟩ (fun rv w1 h1 => ?_)
  obtain ⟨rfl, rfl⟩ := h1
  refine G.aft [0, 1, 2, 3, 4, 5] (ws' := [(o9, .inr (11, [.ref y1])), (y1, .inr (10, [.ref y2])), (y2, aI k 252 q9), (h, .inr (5, [.ref jj, .ref dd, .int (nI n), .int (nI z)])), (jj, aI k 36 fj), (dd, aI k 6 fd)]) (st' := [.int (nI n)]) (cells' := 0) (slots' := 0) (g' := 0) (by decide) rfl rfl rfl rfl rfl ?_
  refine g_istore_n (pc := 4) C [(2, .int (nI n)), (0, .ref o9), (1, .ref h)] rfl dX9_countTrees_4 (by decide) rfl ?_
  refine g_iconst (pc := 5) (v := 0) C (by decide) dX9_countTrees_5 ?_
  refine g_istore_n (pc := 6) C [(3, .int 0), (2, .int (nI n)), (0, .ref o9), (1, .ref h)] rfl dX9_countTrees_6 (by decide) rfl ?_
  have key_7 : ∀ (fuel : Nat) (v : Nat), v ≤ n → n - v < fuel → G p9 l e9 { frames := 7, cells := 0, slots := 0, locals := 177 } s9 m9 ([.ref o9, .ref h] : List Value).toArray bl9 me9 co9 D 5 (va_A [(o9, .inr (11, [.ref y1])), (y1, .inr (10, [.ref y2])), (y2, aI k 252 q9), (h, .inr (5, [.ref jj, .ref dd, .int (nI n), .int (nI z)])), (jj, aI k 36 fj), (dd, aI k 6 fd)] s9.heap.size) (QM bl9 D ([.ref o9, .ref h] : List Value).toArray s9 [(o9, .inr (11, [.ref y1])), (y1, .inr (10, [.ref y2])), (y2, aI k 252 q9), (h, .inr (5, [.ref jj, .ref dd, .int (nI n), .int (nI z)])), (jj, aI k 36 fj), (dd, aI k 6 fd)] (is1 (some (.long ((clL n (ctB n fj q9 n)).1))) [(o9, .inr (11, [.ref y1])), (y1, .inr (10, [.ref y2])), (y2, aI k 252 ((clL n (ctB n fj q9 n)).2)), (h, .inr (5, [.ref jj, .ref dd, .int (nI n), .int (nI z)])), (jj, aI k 36 fj), (dd, aI k 6 fd)]) 0 0 0) [(o9, .inr (11, [.ref y1])), (y1, .inr (10, [.ref y2])), (y2, aI k 252 (ctB n fj q9 v)), (h, .inr (5, [.ref jj, .ref dd, .int (nI n), .int (nI z)])), (jj, aI k 36 fj), (dd, aI k 6 fd)] [(0, .ref o9), (1, .ref h), (2, .int (nI n)), (3, .int (nI v))] 0 0 0 7 [] := by
    intro fuel
    induction fuel with
    | zero => intro v hv hm; exact absurd hm (Nat.not_lt_zero _)
    | succ fuel ih =>
      intro v hv hm
      have ih_7 := ih
      refine g_iload_n (pc := 7) C 3 rfl rfl dX9_countTrees_7 ?_
      refine g_iload_n (pc := 8) C 2 rfl rfl dX9_countTrees_8 ?_
      refine g_icmp_ge (pc := 9) C 54 (by decide) dX9_countTrees_9 (fun c_9 => ?_) (fun c_9 => ?_)
      · have h3 : v = n := by { have := nle_ge (b := n) (a := v) (by omega) c_9; omega }
        refine G.fn (ctB n fj q9 n) 2 [(o9, .inr (11, [.ref y1])), (y1, .inr (10, [.ref y2])), (y2, aI k 252 (ctB n fj q9 n)), (h, .inr (5, [.ref jj, .ref dd, .int (nI n), .int (nI z)])), (jj, aI k 36 fj), (dd, aI k 6 fd)] rfl (fun j hj => by rw [h3]) rfl ?_
        refine g_aload_n (pc := 54) C 0 rfl rfl dX9_countTrees_54 ?_
        refine g_get (pc := 55) C (T := TX9) inX9 0 rfl rfl 0 (by decide) q_126 rfl rfl dX9_countTrees_55 ?_
        refine g_iload_n (pc := 58) C 2 rfl rfl dX9_countTrees_58 ?_
        refine g_callS (pc := 59) (cells := 0) (slots := 0) (g := 0) (As := [.ref y1, .int (nI n)]) (st := []) (b := 0) C (nA := 2) rfl (c_X9_countLeft y1 y2 (ctB n fj q9 n) n (by first | assumption | decide | omega)) q_315 q_316 q_162 q_314 (by decide +kernel) dX9_countTrees_59 ⟨Nat.le_of_ble_eq_true rfl, Nat.le_of_ble_eq_true rfl⟩ [1, 2] [0, 3, 4, 5] rfl (wr := [(o9, .inr (11, [.ref y1])), (h, .inr (5, [.ref jj, .ref dd, .int (nI n), .int (nI z)])), (jj, aI k 36 fj), (dd, aI k 6 fd)]) rfl (by decide) (by decide) (by decide) (Nat.le_of_ble_eq_true rfl) ⟨Nat.le_of_ble_eq_true rfl, Nat.le_of_ble_eq_true rfl⟩ (fun rv w1 h1 => ?_)
        obtain ⟨rfl, rfl⟩ := h1
        refine G.aft [0, 4, 5, 1, 2, 3] (ws' := [(o9, .inr (11, [.ref y1])), (y1, .inr (10, [.ref y2])), (y2, aI k 252 ((clL n (ctB n fj q9 n)).2)), (h, .inr (5, [.ref jj, .ref dd, .int (nI n), .int (nI z)])), (jj, aI k 36 fj), (dd, aI k 6 fd)]) (st' := [.long ((clL n (ctB n fj q9 n)).1)]) (cells' := 0) (slots' := 0) (g' := 0) (by decide) rfl rfl rfl rfl rfl ?_
        exact g_lret (pc := 62) C hr hlk (by first | decide | omega) (by first | decide | omega) (by first | decide | omega) dX9_countTrees_62 ⟨rfl, rfl⟩
      · have hl9 : v < n := nle_lt (by omega) c_9
        refine g_iconst (pc := 12) (v := 0) C (by decide) dX9_countTrees_12 ?_
        refine g_istore (pc := 13) C [(4, .int 0), (0, .ref o9), (1, .ref h), (2, .int (nI n)), (3, .int (nI v))] dX9_countTrees_13 (by decide) rfl ?_
        have key_15 : ∀ (fuel : Nat) (w : Nat), w ≤ n → n - w < fuel → G p9 l e9 { frames := 7, cells := 0, slots := 0, locals := 177 } s9 m9 ([.ref o9, .ref h] : List Value).toArray bl9 me9 co9 D 5 (va_A [(o9, .inr (11, [.ref y1])), (y1, .inr (10, [.ref y2])), (y2, aI k 252 q9), (h, .inr (5, [.ref jj, .ref dd, .int (nI n), .int (nI z)])), (jj, aI k 36 fj), (dd, aI k 6 fd)] s9.heap.size) (QM bl9 D ([.ref o9, .ref h] : List Value).toArray s9 [(o9, .inr (11, [.ref y1])), (y1, .inr (10, [.ref y2])), (y2, aI k 252 q9), (h, .inr (5, [.ref jj, .ref dd, .int (nI n), .int (nI z)])), (jj, aI k 36 fj), (dd, aI k 6 fd)] (is1 (some (.long ((clL n (ctB n fj q9 n)).1))) [(o9, .inr (11, [.ref y1])), (y1, .inr (10, [.ref y2])), (y2, aI k 252 ((clL n (ctB n fj q9 n)).2)), (h, .inr (5, [.ref jj, .ref dd, .int (nI n), .int (nI z)])), (jj, aI k 36 fj), (dd, aI k 6 fd)]) 0 0 0) [(o9, .inr (11, [.ref y1])), (y1, .inr (10, [.ref y2])), (y2, aI k 252 (ctA n fj v (ctB n fj q9 v) w)), (h, .inr (5, [.ref jj, .ref dd, .int (nI n), .int (nI z)])), (jj, aI k 36 fj), (dd, aI k 6 fd)] [(0, .ref o9), (1, .ref h), (2, .int (nI n)), (3, .int (nI v)), (4, .int (nI w))] 0 0 0 15 [] := by
          intro fuel
          induction fuel with
          | zero => intro w hw hm; exact absurd hm (Nat.not_lt_zero _)
          | succ fuel ih =>
            intro w hw hm
            have ih_15 := ih
            refine g_iload (pc := 15) C 4 rfl dX9_countTrees_15 ?_
            refine g_iload_n (pc := 17) C 2 rfl rfl dX9_countTrees_17 ?_
            refine g_icmp_ge (pc := 18) C 48 (by decide) dX9_countTrees_18 (fun c_18 => ?_) (fun c_18 => ?_)
            · have h4 : w = n := by { have := nle_ge (b := n) (a := w) (by omega) c_18; omega }
              refine g_iinc (pc := 48) (n := 1) (v := (nI (v + 1))) C 3 [(3, .int (nI (v + 1))), (0, .ref o9), (1, .ref h), (2, .int (nI n)), (4, .int (nI w))] rfl (nI_1 v) dX9_countTrees_48 (by decide) rfl ?_
              refine g_goto (pc := 51) C 7 (by decide) dX9_countTrees_51 ?_
              refine G.loc [1, 2, 3, 0] (lv' := [(0, .ref o9), (1, .ref h), (2, .int (nI n)), (3, .int (nI (v + 1)))]) rfl ?_
              refine G.fn (ctB n fj q9 (v + 1)) 2 [(o9, .inr (11, [.ref y1])), (y1, .inr (10, [.ref y2])), (y2, aI k 252 (ctB n fj q9 (v + 1))), (h, .inr (5, [.ref jj, .ref dd, .int (nI n), .int (nI z)])), (jj, aI k 36 fj), (dd, aI k 6 fd)] rfl (fun j hj => by rw [h4]; try rfl) rfl ?_
              exact ih_7 (v + 1) (by omega) (by omega)
            · have hl18 : w < n := nle_lt (by omega) c_18
              refine g_aload_n (pc := 21) C 0 rfl rfl dX9_countTrees_21 ?_
              refine g_get (pc := 22) C (T := TX9) inX9 0 rfl rfl 0 (by decide) q_126 rfl rfl dX9_countTrees_22 ?_
              refine g_iload_n (pc := 25) C 2 rfl rfl dX9_countTrees_25 ?_
              refine g_iload_n (pc := 26) C 3 rfl rfl dX9_countTrees_26 ?_
              refine g_iload (pc := 27) C 4 rfl dX9_countTrees_27 ?_
              refine g_callS (pc := 29) (cells := 0) (slots := 0) (g := 0) (As := [.int (nI n), .int (nI v), .int (nI w)]) (st := [.ref y1]) (b := 0) C (nA := 3) rfl (c_X9_cell n v w ) q_306 q_307 q_162 q_305 (by decide +kernel) dX9_countTrees_29 ⟨Nat.le_of_ble_eq_true rfl, Nat.le_of_ble_eq_true rfl⟩ [] [0, 1, 2, 3, 4, 5] rfl (wr := [(o9, .inr (11, [.ref y1])), (y1, .inr (10, [.ref y2])), (y2, aI k 252 (ctA n fj v (ctB n fj q9 v) w)), (h, .inr (5, [.ref jj, .ref dd, .int (nI n), .int (nI z)])), (jj, aI k 36 fj), (dd, aI k 6 fd)]) rfl (by decide) (by decide) (by decide) (Nat.le_of_ble_eq_true rfl) ⟨Nat.le_of_ble_eq_true rfl, Nat.le_of_ble_eq_true rfl⟩ (fun rv w1 h1 => ?_)
              obtain ⟨rfl, rfl⟩ := h1
              refine G.aft [0, 1, 2, 3, 4, 5] (ws' := [(o9, .inr (11, [.ref y1])), (y1, .inr (10, [.ref y2])), (y2, aI k 252 (ctA n fj v (ctB n fj q9 v) w)), (h, .inr (5, [.ref jj, .ref dd, .int (nI n), .int (nI z)])), (jj, aI k 36 fj), (dd, aI k 6 fd)]) (st' := [.int (nI ((n * 6 + v) * 6 + w)), .ref y1]) (cells' := 0) (slots' := 0) (g' := 0) (by decide) rfl rfl rfl rfl rfl ?_
              refine g_aload_n (pc := 32) C 1 rfl rfl dX9_countTrees_32 ?_
              refine g_iload_n (pc := 33) C 3 rfl rfl dX9_countTrees_33 ?_
              refine g_iload (pc := 34) C 4 rfl dX9_countTrees_34 ?_
              refine g_callV (pc := 36) (cells := 0) (slots := 0) (g := 0) (As := [.int (nI v), .int (nI w)]) (st := [.int (nI ((n * 6 + v) * 6 + w)), .ref y1]) (T := TX3) (q0 := 3) C (nA := 2) rfl (c_X3_between h jj dd n z fj fd v w (by first | assumption | decide | omega) (by first | assumption | decide | omega) (by first | assumption | decide | omega)) q_318 q_23 q_21 q_16 q_20 (by decide +kernel) rfl rfl dX9_countTrees_36 ⟨Nat.le_of_ble_eq_true rfl, Nat.le_of_ble_eq_true rfl⟩ [3, 4, 5] [0, 1, 2] rfl (wr := [(o9, .inr (11, [.ref y1])), (y1, .inr (10, [.ref y2])), (y2, aI k 252 (ctA n fj v (ctB n fj q9 v) w))]) rfl (by decide) (by decide) (by decide) (Nat.le_of_ble_eq_true rfl) ⟨Nat.le_of_ble_eq_true rfl, Nat.le_of_ble_eq_true rfl⟩ (fun rv w1 h1 => ?_)
              obtain ⟨rfl, rfl⟩ := h1
              refine G.aft [0, 1, 2, 3, 4, 5] (ws' := [(o9, .inr (11, [.ref y1])), (y1, .inr (10, [.ref y2])), (y2, aI k 252 (ctA n fj v (ctB n fj q9 v) w)), (h, .inr (5, [.ref jj, .ref dd, .int (nI n), .int (nI z)])), (jj, aI k 36 fj), (dd, aI k 6 fd)]) (st' := [.int (fj (v * 6 + w)), .int (nI ((n * 6 + v) * 6 + w)), .ref y1]) (cells' := 0) (slots' := 0) (g' := 0) (by decide) rfl rfl rfl rfl rfl ?_
              refine g_callV (pc := 39) (cells := 0) (slots := 0) (g := 0) (As := [.int (nI ((n * 6 + v) * 6 + w)), .int (fj (v * 6 + w))]) (st := []) (T := TX8) (q0 := 1) C (nA := 2) rfl (c_X8_write_n y1 y2 252 (ctA n fj v (ctB n fj q9 v) w) ((n * 6 + v) * 6 + w) (fj (v * 6 + w)) (by first | assumption | decide | omega) (by first | assumption | decide | omega)) q_310 q_202 q_200 q_6 q_199 (by decide +kernel) rfl rfl dX9_countTrees_39 ⟨Nat.le_of_ble_eq_true rfl, Nat.le_of_ble_eq_true rfl⟩ [1, 2] [0, 3, 4, 5] rfl (wr := [(o9, .inr (11, [.ref y1])), (h, .inr (5, [.ref jj, .ref dd, .int (nI n), .int (nI z)])), (jj, aI k 36 fj), (dd, aI k 6 fd)]) rfl (by decide) (by decide) (by decide) (Nat.le_of_ble_eq_true rfl) ⟨Nat.le_of_ble_eq_true rfl, Nat.le_of_ble_eq_true rfl⟩ (fun rv w1 h1 => ?_)
              obtain ⟨rfl, rfl⟩ := h1
              refine G.aft [0, 4, 5, 1, 2, 3] (ws' := [(o9, .inr (11, [.ref y1])), (y1, .inr (10, [.ref y2])), (y2, aI k 252 (upd (ctA n fj v (ctB n fj q9 v) w) ((n * 6 + v) * 6 + w) (fj (v * 6 + w)))), (h, .inr (5, [.ref jj, .ref dd, .int (nI n), .int (nI z)])), (jj, aI k 36 fj), (dd, aI k 6 fd)]) (st' := []) (cells' := 0) (slots' := 0) (g' := 0) (by decide) rfl rfl rfl rfl rfl ?_
              refine g_iinc (pc := 42) (n := 1) (v := (nI (w + 1))) C 4 [(4, .int (nI (w + 1))), (0, .ref o9), (1, .ref h), (2, .int (nI n)), (3, .int (nI v))] rfl (nI_1 w) dX9_countTrees_42 (by decide) rfl ?_
              refine g_goto (pc := 45) C 15 (by decide) dX9_countTrees_45 ?_
              refine G.loc [1, 2, 3, 4, 0] (lv' := [(0, .ref o9), (1, .ref h), (2, .int (nI n)), (3, .int (nI v)), (4, .int (nI (w + 1)))]) rfl ?_
              refine G.fn (ctA n fj v (ctB n fj q9 v) (w + 1)) 2 [(o9, .inr (11, [.ref y1])), (y1, .inr (10, [.ref y2])), (y2, aI k 252 (ctA n fj v (ctB n fj q9 v) (w + 1))), (h, .inr (5, [.ref jj, .ref dd, .int (nI n), .int (nI z)])), (jj, aI k 36 fj), (dd, aI k 6 fd)] rfl (fun j hj => by rfl) rfl ?_
              exact ih_15 (w + 1) (by omega) (by omega)
        refine G.loc [1, 2, 3, 4, 0] (lv' := [(0, .ref o9), (1, .ref h), (2, .int (nI n)), (3, .int (nI v)), (4, .int 0)]) rfl ?_
        refine G.fn (ctA n fj v (ctB n fj q9 v) 0) 2 [(o9, .inr (11, [.ref y1])), (y1, .inr (10, [.ref y2])), (y2, aI k 252 (ctA n fj v (ctB n fj q9 v) 0)), (h, .inr (5, [.ref jj, .ref dd, .int (nI n), .int (nI z)])), (jj, aI k 36 fj), (dd, aI k 6 fd)] rfl (fun j hj => by rfl) rfl ?_
        refine G.eql (lv' := [(0, .ref o9), (1, .ref h), (2, .int (nI n)), (3, .int (nI v)), (4, .int (nI 0))]) (congrArg (β := List (Nat × Value)) (fun z9 => [(0, .ref o9), (1, .ref h), (2, .int (nI n)), (3, .int (nI v)), (4, .int z9)]) (show (0 : Int32) = (nI 0) from by exact nI_0.symm)) ?_
        exact key_15 (n - 0 + 1) 0 (by omega) (Nat.lt_succ_self _)
  refine G.loc [2, 3, 1, 0] (lv' := [(0, .ref o9), (1, .ref h), (2, .int (nI n)), (3, .int 0)]) rfl ?_
  refine G.fn (ctB n fj q9 0) 2 [(o9, .inr (11, [.ref y1])), (y1, .inr (10, [.ref y2])), (y2, aI k 252 (ctB n fj q9 0)), (h, .inr (5, [.ref jj, .ref dd, .int (nI n), .int (nI z)])), (jj, aI k 36 fj), (dd, aI k 6 fd)] rfl (fun j hj => by rfl) rfl ?_
  refine G.eql (lv' := [(0, .ref o9), (1, .ref h), (2, .int (nI n)), (3, .int (nI 0))]) (congrArg (β := List (Nat × Value)) (fun z9 => [(0, .ref o9), (1, .ref h), (2, .int (nI n)), (3, .int z9)]) (show (0 : Int32) = (nI 0) from by exact nI_0.symm)) ?_
  exact key_7 (n - 0 + 1) 0 (by omega) (Nat.lt_succ_self _)
