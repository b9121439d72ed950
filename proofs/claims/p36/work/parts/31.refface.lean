theorem dX11_init_0 : decode cX11_init 0 = .ok (.aload_n 0, 1) := by decide +kernel
theorem dX11_init_1 : decode cX11_init 1 = .ok (.invokespecial 1, 3) := by decide +kernel
theorem q_261 : (Jvm.Cond.methodLink "ChipfoldModel" (1 : Nat) ({ cls := "java/lang/Object", name := "<init>", desc := "()V" } : Jvm.MethodName)) ∈ WG := wg_5 (List.mem_of_getElem? (i := 158) (by decide +kernel)) (by decide +kernel)
theorem dX11_init_4 : decode cX11_init 4 = .ok (.aload_n 0, 1) := by decide +kernel
theorem dX11_init_5 : decode cX11_init 5 = .ok (.bipush 6, 2) := by decide +kernel
theorem dX11_init_7 : decode cX11_init 7 = .ok (.bipush 6, 2) := by decide +kernel
theorem dX11_init_9 : decode cX11_init 9 = .ok (.multianewarray 7 2, 4) := by decide +kernel
theorem q_262 : (Jvm.Cond.classLink "ChipfoldModel" (7 : Nat) "[[I") ∈ WG := wg_5 (List.mem_of_getElem? (i := 159) (by decide +kernel)) (by decide +kernel)
theorem dX11_init_13 : decode cX11_init 13 = .ok (.putfield 9, 3) := by decide +kernel
theorem dX11_init_16 : decode cX11_init 16 = .ok (.aload_n 0, 1) := by decide +kernel
theorem dX11_init_17 : decode cX11_init 17 = .ok (.bipush 6, 2) := by decide +kernel
theorem dX11_init_19 : decode cX11_init 19 = .ok (.newarray .int, 2) := by decide +kernel
theorem dX11_init_21 : decode cX11_init 21 = .ok (.putfield 14, 3) := by decide +kernel
theorem dX11_init_24 : decode cX11_init 24 = .ok (.aload_n 0, 1) := by decide +kernel
theorem dX11_init_25 : decode cX11_init 25 = .ok (.bipush 6, 2) := by decide +kernel
theorem dX11_init_27 : decode cX11_init 27 = .ok (.newarray .int, 2) := by decide +kernel
theorem dX11_init_29 : decode cX11_init 29 = .ok (.putfield 18, 3) := by decide +kernel
theorem dX11_init_32 : decode cX11_init 32 = .ok (.aload_n 0, 1) := by decide +kernel
theorem dX11_init_33 : decode cX11_init 33 = .ok (.bipush 6, 2) := by decide +kernel
theorem dX11_init_35 : decode cX11_init 35 = .ok (.newarray .int, 2) := by decide +kernel
theorem dX11_init_37 : decode cX11_init 37 = .ok (.putfield 21, 3) := by decide +kernel
theorem dX11_init_40 : decode cX11_init 40 = .ok (.aload_n 0, 1) := by decide +kernel
theorem dX11_init_41 : decode cX11_init 41 = .ok (.bipush 6, 2) := by decide +kernel
theorem dX11_init_43 : decode cX11_init 43 = .ok (.newarray .int, 2) := by decide +kernel
theorem dX11_init_45 : decode cX11_init 45 = .ok (.putfield 24, 3) := by decide +kernel
theorem dX11_init_48 : decode cX11_init 48 = .ok (.aload_n 0, 1) := by decide +kernel
theorem dX11_init_49 : decode cX11_init 49 = .ok (.bipush 6, 2) := by decide +kernel
theorem dX11_init_51 : decode cX11_init 51 = .ok (.newarray .int, 2) := by decide +kernel
theorem dX11_init_53 : decode cX11_init 53 = .ok (.putfield 27, 3) := by decide +kernel
theorem dX11_init_56 : decode cX11_init 56 = .ok (.aload_n 0, 1) := by decide +kernel
theorem dX11_init_57 : decode cX11_init 57 = .ok (.aconst_null, 1) := by decide +kernel
theorem dX11_init_58 : decode cX11_init 58 = .ok (.putfield 30, 3) := by decide +kernel
theorem q_263 : (Jvm.Cond.fieldLink "ChipfoldModel" (30 : Nat) "ChipfoldModel" "cells" "[I") ∈ WG := wg_5 (List.mem_of_getElem? (i := 167) (by decide +kernel)) (by decide +kernel)
theorem dX11_init_61 : decode cX11_init 61 = .ok (.aload_n 0, 1) := by decide +kernel
theorem dX11_init_62 : decode cX11_init 62 = .ok (.iconst 0, 1) := by decide +kernel
theorem dX11_init_63 : decode cX11_init 63 = .ok (.putfield 33, 3) := by decide +kernel
theorem dX11_init_66 : decode cX11_init 66 = .ok (.aload_n 0, 1) := by decide +kernel
theorem dX11_init_67 : decode cX11_init 67 = .ok (.iconst 0, 1) := by decide +kernel
theorem dX11_init_68 : decode cX11_init 68 = .ok (.putfield 37, 3) := by decide +kernel
theorem dX11_init_71 : decode cX11_init 71 = .ok (.aload_n 0, 1) := by decide +kernel
theorem dX11_init_72 : decode cX11_init 72 = .ok (.iconst 0, 1) := by decide +kernel
theorem dX11_init_73 : decode cX11_init 73 = .ok (.putfield 40, 3) := by decide +kernel
theorem dX11_init_76 : decode cX11_init 76 = .ok (.aload_n 0, 1) := by decide +kernel
theorem dX11_init_77 : decode cX11_init 77 = .ok (.iconst 0, 1) := by decide +kernel
theorem dX11_init_78 : decode cX11_init 78 = .ok (.putfield 43, 3) := by decide +kernel
theorem q_264 : (Jvm.Cond.fieldLink "ChipfoldModel" (43 : Nat) "ChipfoldModel" "side" "I") ∈ WG := wg_5 (List.mem_of_getElem? (i := 171) (by decide +kernel)) (by decide +kernel)
theorem dX11_init_81 : decode cX11_init 81 = .ok (.aload_n 0, 1) := by decide +kernel
theorem dX11_init_82 : decode cX11_init 82 = .ok (.iconst 0, 1) := by decide +kernel
theorem dX11_init_83 : decode cX11_init 83 = .ok (.putfield 46, 3) := by decide +kernel
theorem q_265 : (Jvm.Cond.fieldLink "ChipfoldModel" (46 : Nat) "ChipfoldModel" "thrown" "I") ∈ WG := wg_5 (List.mem_of_getElem? (i := 172) (by decide +kernel)) (by decide +kernel)
theorem dX11_init_86 : decode cX11_init 86 = .ok (.return_, 1) := by decide +kernel
theorem dX11_vertex_0 : decode cX11_vertex 0 = .ok (.aload_n 0, 1) := by decide +kernel
theorem dX11_vertex_1 : decode cX11_vertex 1 = .ok (.aload_n 0, 1) := by decide +kernel
theorem dX11_vertex_2 : decode cX11_vertex 2 = .ok (.getfield 33, 3) := by decide +kernel
theorem dX11_vertex_5 : decode cX11_vertex 5 = .ok (.bipush 6, 2) := by decide +kernel
theorem dX11_vertex_7 : decode cX11_vertex 7 = .ok (.if_icmp .ne 7, 3) := by decide +kernel
theorem dX11_vertex_14 : decode cX11_vertex 14 = .ok (.iconst 0, 1) := by decide +kernel
theorem dX11_vertex_15 : decode cX11_vertex 15 = .ok (.putfield 46, 3) := by decide +kernel
theorem dX11_vertex_18 : decode cX11_vertex 18 = .ok (.aload_n 0, 1) := by decide +kernel
theorem dX11_vertex_19 : decode cX11_vertex 19 = .ok (.getfield 46, 3) := by decide +kernel
theorem dX11_vertex_22 : decode cX11_vertex 22 = .ok (.ifCond .le 5, 3) := by decide +kernel
theorem dX11_vertex_27 : decode cX11_vertex 27 = .ok (.aload_n 0, 1) := by decide +kernel
theorem dX11_vertex_28 : decode cX11_vertex 28 = .ok (.dup, 1) := by decide +kernel
theorem dX11_vertex_29 : decode cX11_vertex 29 = .ok (.getfield 33, 3) := by decide +kernel
theorem dX11_vertex_32 : decode cX11_vertex 32 = .ok (.iconst 1, 1) := by decide +kernel
theorem dX11_vertex_33 : decode cX11_vertex 33 = .ok (.iadd, 1) := by decide +kernel
theorem dX11_vertex_34 : decode cX11_vertex 34 = .ok (.putfield 33, 3) := by decide +kernel
theorem dX11_vertex_37 : decode cX11_vertex 37 = .ok (.aload_n 0, 1) := by decide +kernel
theorem dX11_vertex_38 : decode cX11_vertex 38 = .ok (.invokevirtual 57, 3) := by decide +kernel
theorem q_266 : (Jvm.Cond.code ({ cls := "ChipfoldModel", name := "begin", desc := "()V" } : Jvm.MethodName) prog_13_method_7_code (1 : Nat) (Option.none : Option Jvm.ClassFile.FieldType)) ∈ WG := wg_5 (List.mem_of_getElem? (i := 205) rfl) rfl
theorem q_267 : (Jvm.Cond.selects "ChipfoldModel" ({ cls := "ChipfoldModel", name := "begin", desc := "()V" } : Jvm.MethodName) ({ cls := "ChipfoldModel", name := "begin", desc := "()V" } : Jvm.MethodName)) ∈ WG := wg_0 (by decide +kernel) (by decide +kernel)
theorem q_268 : (Jvm.Cond.methodLink "ChipfoldModel" (57 : Nat) ({ cls := "ChipfoldModel", name := "begin", desc := "()V" } : Jvm.MethodName)) ∈ WG := wg_5 (List.mem_of_getElem? (i := 202) (by decide +kernel)) (by decide +kernel)
theorem q_269 : (Jvm.Cond.instanceMethod ({ cls := "ChipfoldModel", name := "begin", desc := "()V" } : Jvm.MethodName)) ∈ WG := wg_5 (List.mem_of_getElem? (i := 204) (by decide +kernel)) (by decide +kernel)
theorem dX11_vertex_41 : decode cX11_vertex 41 = .ok (.aload_n 0, 1) := by decide +kernel
theorem dX11_vertex_42 : decode cX11_vertex 42 = .ok (.getfield 33, 3) := by decide +kernel
theorem dX11_vertex_45 : decode cX11_vertex 45 = .ok (.iconst 1, 1) := by decide +kernel
theorem dX11_vertex_46 : decode cX11_vertex 46 = .ok (.isub, 1) := by decide +kernel
theorem dX11_vertex_47 : decode cX11_vertex 47 = .ok (.ireturn, 1) := by decide +kernel
theorem dX11_edges_0 : decode cX11_edges 0 = .ok (.aload_n 0, 1) := by decide +kernel
theorem dX11_edges_1 : decode cX11_edges 1 = .ok (.aload_n 0, 1) := by decide +kernel
theorem dX11_edges_2 : decode cX11_edges 2 = .ok (.iload_n 1, 1) := by decide +kernel
theorem dX11_edges_3 : decode cX11_edges 3 = .ok (.invokevirtual 53, 3) := by decide +kernel
theorem q_270 : (Jvm.Cond.code ({ cls := "ChipfoldModel", name := "isVertex", desc := "(I)Z" } : Jvm.MethodName) prog_13_method_4_code (2 : Nat) (Option.some Jvm.ClassFile.FieldType.boolean)) ∈ WG := wg_5 (List.mem_of_getElem? (i := 213) rfl) rfl
theorem q_271 : (Jvm.Cond.selects "ChipfoldModel" ({ cls := "ChipfoldModel", name := "isVertex", desc := "(I)Z" } : Jvm.MethodName) ({ cls := "ChipfoldModel", name := "isVertex", desc := "(I)Z" } : Jvm.MethodName)) ∈ WG := wg_0 (by decide +kernel) (by decide +kernel)
theorem q_272 : (Jvm.Cond.methodLink "ChipfoldModel" (53 : Nat) ({ cls := "ChipfoldModel", name := "isVertex", desc := "(I)Z" } : Jvm.MethodName)) ∈ WG := wg_5 (List.mem_of_getElem? (i := 210) (by decide +kernel)) (by decide +kernel)
theorem q_273 : (Jvm.Cond.instanceMethod ({ cls := "ChipfoldModel", name := "isVertex", desc := "(I)Z" } : Jvm.MethodName)) ∈ WG := wg_5 (List.mem_of_getElem? (i := 212) (by decide +kernel)) (by decide +kernel)
theorem dX11_edges_6 : decode cX11_edges 6 = .ok (.ifCond .eq 11, 3) := by decide +kernel
theorem dX11_edges_9 : decode cX11_edges 9 = .ok (.aload_n 0, 1) := by decide +kernel
theorem dX11_edges_10 : decode cX11_edges 10 = .ok (.iload_n 2, 1) := by decide +kernel
theorem dX11_edges_11 : decode cX11_edges 11 = .ok (.invokevirtual 53, 3) := by decide +kernel
theorem dX11_edges_14 : decode cX11_edges 14 = .ok (.ifCond .ne 7, 3) := by decide +kernel
theorem dX11_edges_21 : decode cX11_edges 21 = .ok (.iload_n 1, 1) := by decide +kernel
theorem dX11_edges_22 : decode cX11_edges 22 = .ok (.iload_n 2, 1) := by decide +kernel
theorem dX11_edges_23 : decode cX11_edges 23 = .ok (.if_icmp .eq 12, 3) := by decide +kernel
theorem dX11_edges_26 : decode cX11_edges 26 = .ok (.iload_n 3, 1) := by decide +kernel
theorem dX11_edges_27 : decode cX11_edges 27 = .ok (.iconst 0, 1) := by decide +kernel
theorem dX11_edges_28 : decode cX11_edges 28 = .ok (.iconst 3, 1) := by decide +kernel
theorem dX11_edges_29 : decode cX11_edges 29 = .ok (.invokestatic 49, 3) := by decide +kernel
theorem dX11_edges_32 : decode cX11_edges 32 = .ok (.ifCond .ne 7, 3) := by decide +kernel
theorem dX11_edges_39 : decode cX11_edges 39 = .ok (.iconst 0, 1) := by decide +kernel
theorem dX11_edges_40 : decode cX11_edges 40 = .ok (.putfield 46, 3) := by decide +kernel
theorem dX11_edges_43 : decode cX11_edges 43 = .ok (.aload_n 0, 1) := by decide +kernel
theorem dX11_edges_44 : decode cX11_edges 44 = .ok (.getfield 46, 3) := by decide +kernel
theorem dX11_edges_47 : decode cX11_edges 47 = .ok (.ifCond .le 5, 3) := by decide +kernel
theorem dX11_edges_52 : decode cX11_edges 52 = .ok (.aload_n 0, 1) := by decide +kernel
theorem dX11_edges_53 : decode cX11_edges 53 = .ok (.getfield 9, 3) := by decide +kernel
theorem dX11_edges_56 : decode cX11_edges 56 = .ok (.iload_n 1, 1) := by decide +kernel
theorem dX11_edges_57 : decode cX11_edges 57 = .ok (.aaload, 1) := by decide +kernel
theorem dX11_edges_58 : decode cX11_edges 58 = .ok (.iload_n 2, 1) := by decide +kernel
theorem dX11_edges_59 : decode cX11_edges 59 = .ok (.iaload, 1) := by decide +kernel
theorem dX11_edges_60 : decode cX11_edges 60 = .ok (.istore 4, 2) := by decide +kernel
theorem dX11_edges_62 : decode cX11_edges 62 = .ok (.iload 4, 2) := by decide +kernel
theorem dX11_edges_64 : decode cX11_edges 64 = .ok (.iload_n 3, 1) := by decide +kernel
theorem dX11_edges_65 : decode cX11_edges 65 = .ok (.if_icmp .ne 6, 3) := by decide +kernel
theorem dX11_edges_71 : decode cX11_edges 71 = .ok (.aload_n 0, 1) := by decide +kernel
theorem dX11_edges_72 : decode cX11_edges 72 = .ok (.getfield 9, 3) := by decide +kernel
theorem dX11_edges_75 : decode cX11_edges 75 = .ok (.iload_n 1, 1) := by decide +kernel
theorem dX11_edges_76 : decode cX11_edges 76 = .ok (.aaload, 1) := by decide +kernel
theorem dX11_edges_77 : decode cX11_edges 77 = .ok (.iload_n 2, 1) := by decide +kernel
theorem dX11_edges_78 : decode cX11_edges 78 = .ok (.iload_n 3, 1) := by decide +kernel
theorem dX11_edges_79 : decode cX11_edges 79 = .ok (.iastore, 1) := by decide +kernel
theorem dX11_edges_80 : decode cX11_edges 80 = .ok (.aload_n 0, 1) := by decide +kernel
theorem dX11_edges_81 : decode cX11_edges 81 = .ok (.getfield 9, 3) := by decide +kernel
theorem dX11_edges_84 : decode cX11_edges 84 = .ok (.iload_n 2, 1) := by decide +kernel
theorem dX11_edges_85 : decode cX11_edges 85 = .ok (.aaload, 1) := by decide +kernel
theorem dX11_edges_86 : decode cX11_edges 86 = .ok (.iload_n 1, 1) := by decide +kernel
theorem dX11_edges_87 : decode cX11_edges 87 = .ok (.iload_n 3, 1) := by decide +kernel
theorem dX11_edges_88 : decode cX11_edges 88 = .ok (.iastore, 1) := by decide +kernel
theorem dX11_edges_89 : decode cX11_edges 89 = .ok (.aload_n 0, 1) := by decide +kernel
theorem dX11_edges_90 : decode cX11_edges 90 = .ok (.invokevirtual 57, 3) := by decide +kernel
theorem dX11_edges_93 : decode cX11_edges 93 = .ok (.iload 4, 2) := by decide +kernel
theorem dX11_edges_95 : decode cX11_edges 95 = .ok (.ireturn, 1) := by decide +kernel
theorem dX11_put_0 : decode cX11_put 0 = .ok (.aload_n 0, 1) := by decide +kernel
theorem dX11_put_1 : decode cX11_put 1 = .ok (.aload_n 0, 1) := by decide +kernel
theorem dX11_put_2 : decode cX11_put 2 = .ok (.iload_n 1, 1) := by decide +kernel
theorem dX11_put_3 : decode cX11_put 3 = .ok (.invokevirtual 53, 3) := by decide +kernel
theorem dX11_put_6 : decode cX11_put 6 = .ok (.ifCond .ne 7, 3) := by decide +kernel
theorem dX11_put_13 : decode cX11_put 13 = .ok (.iload_n 2, 1) := by decide +kernel
theorem dX11_put_14 : decode cX11_put 14 = .ok (.iconst 1, 1) := by decide +kernel
theorem dX11_put_15 : decode cX11_put 15 = .ok (.sipush 200, 3) := by decide +kernel
theorem dX11_put_18 : decode cX11_put 18 = .ok (.invokestatic 49, 3) := by decide +kernel
theorem dX11_put_21 : decode cX11_put 21 = .ok (.ifCond .ne 7, 3) := by decide +kernel
theorem dX11_put_28 : decode cX11_put 28 = .ok (.iload_n 1, 1) := by decide +kernel
theorem dX11_put_29 : decode cX11_put 29 = .ok (.aload_n 0, 1) := by decide +kernel
theorem dX11_put_30 : decode cX11_put 30 = .ok (.getfield 37, 3) := by decide +kernel
theorem dX11_put_33 : decode cX11_put 33 = .ok (.if_icmp .eq 21, 3) := by decide +kernel
theorem dX11_put_36 : decode cX11_put 36 = .ok (.aload_n 0, 1) := by decide +kernel
theorem dX11_put_37 : decode cX11_put 37 = .ok (.getfield 14, 3) := by decide +kernel
theorem dX11_put_40 : decode cX11_put 40 = .ok (.iload_n 1, 1) := by decide +kernel
theorem dX11_put_41 : decode cX11_put 41 = .ok (.iaload, 1) := by decide +kernel
theorem dX11_put_42 : decode cX11_put 42 = .ok (.iload_n 2, 1) := by decide +kernel
theorem dX11_put_43 : decode cX11_put 43 = .ok (.iadd, 1) := by decide +kernel
theorem dX11_put_44 : decode cX11_put 44 = .ok (.sipush 2000, 3) := by decide +kernel
theorem dX11_put_47 : decode cX11_put 47 = .ok (.if_icmp .le 7, 3) := by decide +kernel
theorem dX11_put_54 : decode cX11_put 54 = .ok (.iconst 0, 1) := by decide +kernel
theorem dX11_put_55 : decode cX11_put 55 = .ok (.putfield 46, 3) := by decide +kernel
theorem dX11_put_58 : decode cX11_put 58 = .ok (.aload_n 0, 1) := by decide +kernel
theorem dX11_put_59 : decode cX11_put 59 = .ok (.getfield 46, 3) := by decide +kernel
theorem dX11_put_62 : decode cX11_put 62 = .ok (.ifCond .le 5, 3) := by decide +kernel
theorem dX11_put_67 : decode cX11_put 67 = .ok (.iload_n 1, 1) := by decide +kernel
theorem dX11_put_68 : decode cX11_put 68 = .ok (.aload_n 0, 1) := by decide +kernel
theorem dX11_put_69 : decode cX11_put 69 = .ok (.getfield 37, 3) := by decide +kernel
theorem dX11_put_72 : decode cX11_put 72 = .ok (.if_icmp .ne 15, 3) := by decide +kernel
theorem dX11_put_87 : decode cX11_put 87 = .ok (.aload_n 0, 1) := by decide +kernel
theorem dX11_put_88 : decode cX11_put 88 = .ok (.getfield 14, 3) := by decide +kernel
theorem dX11_put_91 : decode cX11_put 91 = .ok (.iload_n 1, 1) := by decide +kernel
theorem dX11_put_92 : decode cX11_put 92 = .ok (.dup2, 1) := by decide +kernel
theorem dX11_put_93 : decode cX11_put 93 = .ok (.iaload, 1) := by decide +kernel
theorem dX11_put_94 : decode cX11_put 94 = .ok (.iload_n 2, 1) := by decide +kernel
theorem dX11_put_95 : decode cX11_put 95 = .ok (.iadd, 1) := by decide +kernel
theorem dX11_put_96 : decode cX11_put 96 = .ok (.iastore, 1) := by decide +kernel
theorem dX11_put_97 : decode cX11_put 97 = .ok (.aload_n 0, 1) := by decide +kernel
theorem dX11_put_98 : decode cX11_put 98 = .ok (.getfield 14, 3) := by decide +kernel
theorem dX11_put_101 : decode cX11_put 101 = .ok (.iload_n 1, 1) := by decide +kernel
theorem dX11_put_102 : decode cX11_put 102 = .ok (.iaload, 1) := by decide +kernel
theorem dX11_put_103 : decode cX11_put 103 = .ok (.ireturn, 1) := by decide +kernel
theorem dX11_reach_0 : decode cX11_reach 0 = .ok (.aload_n 2, 1) := by decide +kernel
theorem dX11_reach_1 : decode cX11_reach 1 = .ok (.iload_n 1, 1) := by decide +kernel
theorem dX11_reach_2 : decode cX11_reach 2 = .ok (.iconst 1, 1) := by decide +kernel
theorem dX11_reach_3 : decode cX11_reach 3 = .ok (.bastore, 1) := by decide +kernel
theorem dX11_reach_4 : decode cX11_reach 4 = .ok (.iconst 0, 1) := by decide +kernel
theorem dX11_reach_5 : decode cX11_reach 5 = .ok (.istore_n 3, 1) := by decide +kernel
theorem dX11_reach_6 : decode cX11_reach 6 = .ok (.iload_n 3, 1) := by decide +kernel
theorem dX11_reach_7 : decode cX11_reach 7 = .ok (.aload_n 0, 1) := by decide +kernel
theorem dX11_reach_8 : decode cX11_reach 8 = .ok (.getfield 33, 3) := by decide +kernel
theorem dX11_reach_11 : decode cX11_reach 11 = .ok (.if_icmp .ge 32, 3) := by decide +kernel
theorem dX11_reach_43 : decode cX11_reach 43 = .ok (.return_, 1) := by decide +kernel
theorem dX11_reach_14 : decode cX11_reach 14 = .ok (.aload_n 0, 1) := by decide +kernel
theorem dX11_reach_15 : decode cX11_reach 15 = .ok (.getfield 9, 3) := by decide +kernel
theorem dX11_reach_18 : decode cX11_reach 18 = .ok (.iload_n 1, 1) := by decide +kernel
theorem dX11_reach_19 : decode cX11_reach 19 = .ok (.aaload, 1) := by decide +kernel
theorem dX11_reach_20 : decode cX11_reach 20 = .ok (.iload_n 3, 1) := by decide +kernel
theorem dX11_reach_21 : decode cX11_reach 21 = .ok (.iaload, 1) := by decide +kernel
theorem dX11_reach_22 : decode cX11_reach 22 = .ok (.ifCond .le 15, 3) := by decide +kernel
theorem dX11_reach_37 : decode cX11_reach 37 = .ok (.iinc 3 1, 3) := by decide +kernel
theorem dX11_reach_40 : decode cX11_reach 40 = .ok (.goto (-34), 3) := by decide +kernel
theorem dX11_reach_25 : decode cX11_reach 25 = .ok (.aload_n 2, 1) := by decide +kernel
theorem dX11_reach_26 : decode cX11_reach 26 = .ok (.iload_n 3, 1) := by decide +kernel
theorem dX11_reach_27 : decode cX11_reach 27 = .ok (.baload, 1) := by decide +kernel
theorem dX11_reach_28 : decode cX11_reach 28 = .ok (.ifCond .ne 9, 3) := by decide +kernel
theorem dX11_reach_31 : decode cX11_reach 31 = .ok (.aload_n 0, 1) := by decide +kernel
theorem dX11_reach_32 : decode cX11_reach 32 = .ok (.iload_n 3, 1) := by decide +kernel
theorem dX11_reach_33 : decode cX11_reach 33 = .ok (.aload_n 2, 1) := by decide +kernel
theorem dX11_reach_34 : decode cX11_reach 34 = .ok (.invokevirtual 67, 3) := by decide +kernel
theorem q_274 : (Jvm.Cond.code ({ cls := "ChipfoldModel", name := "reach", desc := "(I[Z)V" } : Jvm.MethodName) prog_13_method_13_code (4 : Nat) (Option.none : Option Jvm.ClassFile.FieldType)) ∈ WG := wg_6 (List.mem_of_getElem? (i := 4) rfl) rfl
theorem q_275 : (Jvm.Cond.selects "ChipfoldModel" ({ cls := "ChipfoldModel", name := "reach", desc := "(I[Z)V" } : Jvm.MethodName) ({ cls := "ChipfoldModel", name := "reach", desc := "(I[Z)V" } : Jvm.MethodName)) ∈ WG := wg_0 (by decide +kernel) (by decide +kernel)
theorem q_276 : (Jvm.Cond.methodLink "ChipfoldModel" (67 : Nat) ({ cls := "ChipfoldModel", name := "reach", desc := "(I[Z)V" } : Jvm.MethodName)) ∈ WG := wg_6 (List.mem_of_getElem? (i := 1) (by decide +kernel)) (by decide +kernel)
theorem q_277 : (Jvm.Cond.instanceMethod ({ cls := "ChipfoldModel", name := "reach", desc := "(I[Z)V" } : Jvm.MethodName)) ∈ WG := wg_6 (List.mem_of_getElem? (i := 3) (by decide +kernel)) (by decide +kernel)
theorem dX11_whole_0 : decode cX11_whole 0 = .ok (.aload_n 0, 1) := by decide +kernel
theorem dX11_whole_1 : decode cX11_whole 1 = .ok (.getfield 33, 3) := by decide +kernel
theorem dX11_whole_4 : decode cX11_whole 4 = .ok (.iconst 2, 1) := by decide +kernel
theorem dX11_whole_5 : decode cX11_whole 5 = .ok (.if_icmp .ge 5, 3) := by decide +kernel
theorem dX11_whole_10 : decode cX11_whole 10 = .ok (.bipush 6, 2) := by decide +kernel
theorem dX11_whole_12 : decode cX11_whole 12 = .ok (.newarray .boolean, 2) := by decide +kernel
theorem q_278 : (Jvm.Cond.arrayClass Jvm.ClassFile.FieldType.boolean) ∈ WG := wg_6 (List.mem_of_getElem? (i := 5) (by decide +kernel)) (by decide +kernel)
theorem dX11_whole_14 : decode cX11_whole 14 = .ok (.astore_n 1, 1) := by decide +kernel
theorem dX11_whole_15 : decode cX11_whole 15 = .ok (.aload_n 0, 1) := by decide +kernel
theorem dX11_whole_16 : decode cX11_whole 16 = .ok (.iconst 0, 1) := by decide +kernel
theorem dX11_whole_17 : decode cX11_whole 17 = .ok (.aload_n 1, 1) := by decide +kernel
theorem dX11_whole_18 : decode cX11_whole 18 = .ok (.invokevirtual 67, 3) := by decide +kernel
theorem dX11_whole_21 : decode cX11_whole 21 = .ok (.iconst 0, 1) := by decide +kernel
theorem dX11_whole_22 : decode cX11_whole 22 = .ok (.istore_n 2, 1) := by decide +kernel
theorem dX11_whole_23 : decode cX11_whole 23 = .ok (.iload_n 2, 1) := by decide +kernel
theorem dX11_whole_24 : decode cX11_whole 24 = .ok (.aload_n 0, 1) := by decide +kernel
theorem dX11_whole_25 : decode cX11_whole 25 = .ok (.getfield 33, 3) := by decide +kernel
theorem dX11_whole_28 : decode cX11_whole 28 = .ok (.if_icmp .ge 17, 3) := by decide +kernel
theorem dX11_whole_45 : decode cX11_whole 45 = .ok (.iconst 1, 1) := by decide +kernel
theorem dX11_whole_46 : decode cX11_whole 46 = .ok (.ireturn, 1) := by decide +kernel
theorem dX11_whole_31 : decode cX11_whole 31 = .ok (.aload_n 1, 1) := by decide +kernel
theorem dX11_whole_32 : decode cX11_whole 32 = .ok (.iload_n 2, 1) := by decide +kernel
theorem dX11_whole_33 : decode cX11_whole 33 = .ok (.baload, 1) := by decide +kernel
theorem dX11_whole_34 : decode cX11_whole 34 = .ok (.ifCond .ne 5, 3) := by decide +kernel
theorem dX11_whole_39 : decode cX11_whole 39 = .ok (.iinc 2 1, 3) := by decide +kernel
theorem dX11_whole_42 : decode cX11_whole 42 = .ok (.goto (-19), 3) := by decide +kernel
theorem dX11_wrongWhole_0 : decode cX11_wrongWhole 0 = .ok (.aload_n 0, 1) := by decide +kernel
theorem dX11_wrongWhole_1 : decode cX11_wrongWhole 1 = .ok (.aload_n 0, 1) := by decide +kernel
theorem dX11_wrongWhole_2 : decode cX11_wrongWhole 2 = .ok (.invokevirtual 71, 3) := by decide +kernel
theorem q_279 : (Jvm.Cond.code ({ cls := "ChipfoldModel", name := "whole", desc := "()Z" } : Jvm.MethodName) prog_13_method_14_code (3 : Nat) (Option.some Jvm.ClassFile.FieldType.boolean)) ∈ WG := wg_6 (List.mem_of_getElem? (i := 0) rfl) rfl
theorem q_280 : (Jvm.Cond.selects "ChipfoldModel" ({ cls := "ChipfoldModel", name := "whole", desc := "()Z" } : Jvm.MethodName) ({ cls := "ChipfoldModel", name := "whole", desc := "()Z" } : Jvm.MethodName)) ∈ WG := wg_0 (by decide +kernel) (by decide +kernel)
theorem q_281 : (Jvm.Cond.methodLink "ChipfoldModel" (71 : Nat) ({ cls := "ChipfoldModel", name := "whole", desc := "()Z" } : Jvm.MethodName)) ∈ WG := wg_5 (List.mem_of_getElem? (i := 237) (by decide +kernel)) (by decide +kernel)
theorem q_282 : (Jvm.Cond.instanceMethod ({ cls := "ChipfoldModel", name := "whole", desc := "()Z" } : Jvm.MethodName)) ∈ WG := wg_5 (List.mem_of_getElem? (i := 239) (by decide +kernel)) (by decide +kernel)
theorem dX11_wrongWhole_5 : decode cX11_wrongWhole 5 = .ok (.ifCond .eq 7, 3) := by decide +kernel
theorem dX11_wrongWhole_8 : decode cX11_wrongWhole 8 = .ok (.iconst 0, 1) := by decide +kernel
theorem dX11_wrongWhole_9 : decode cX11_wrongWhole 9 = .ok (.goto 4, 3) := by decide +kernel
theorem dX11_wrongWhole_13 : decode cX11_wrongWhole 13 = .ok (.putfield 46, 3) := by decide +kernel
theorem dX11_wrongWhole_16 : decode cX11_wrongWhole 16 = .ok (.aload_n 0, 1) := by decide +kernel
theorem dX11_wrongWhole_17 : decode cX11_wrongWhole 17 = .ok (.getfield 46, 3) := by decide +kernel
theorem dX11_wrongWhole_20 : decode cX11_wrongWhole 20 = .ok (.ireturn, 1) := by decide +kernel
theorem dX11_waves_0 : decode cX11_waves 0 = .ok (.aload_n 0, 1) := by decide +kernel
theorem dX11_waves_1 : decode cX11_waves 1 = .ok (.invokevirtual 86, 3) := by decide +kernel
theorem q_283 : (Jvm.Cond.code ({ cls := "ChipfoldModel", name := "wrongWhole", desc := "()I" } : Jvm.MethodName) prog_13_method_16_code (1 : Nat) (Option.some Jvm.ClassFile.FieldType.int)) ∈ WG := wg_6 (List.mem_of_getElem? (i := 37) rfl) rfl
theorem q_284 : (Jvm.Cond.selects "ChipfoldModel" ({ cls := "ChipfoldModel", name := "wrongWhole", desc := "()I" } : Jvm.MethodName) ({ cls := "ChipfoldModel", name := "wrongWhole", desc := "()I" } : Jvm.MethodName)) ∈ WG := wg_0 (by decide +kernel) (by decide +kernel)
theorem q_285 : (Jvm.Cond.methodLink "ChipfoldModel" (86 : Nat) ({ cls := "ChipfoldModel", name := "wrongWhole", desc := "()I" } : Jvm.MethodName)) ∈ WG := wg_6 (List.mem_of_getElem? (i := 34) (by decide +kernel)) (by decide +kernel)
theorem q_286 : (Jvm.Cond.instanceMethod ({ cls := "ChipfoldModel", name := "wrongWhole", desc := "()I" } : Jvm.MethodName)) ∈ WG := wg_6 (List.mem_of_getElem? (i := 36) (by decide +kernel)) (by decide +kernel)
theorem dX11_waves_4 : decode cX11_waves 4 = .ok (.ifCond .le 5, 3) := by decide +kernel
theorem dX11_waves_9 : decode cX11_waves 9 = .ok (.aload_n 0, 1) := by decide +kernel
theorem dX11_waves_10 : decode cX11_waves 10 = .ok (.getfield 14, 3) := by decide +kernel
theorem dX11_waves_13 : decode cX11_waves 13 = .ok (.invokevirtual 94, 3) := by decide +kernel
theorem q_287 : (Jvm.Cond.methodLink "ChipfoldModel" (94 : Nat) ({ cls := "[I", name := "clone", desc := "()Ljava/lang/Object;" } : Jvm.MethodName)) ∈ WG := wg_6 (List.mem_of_getElem? (i := 46) (by decide +kernel)) (by decide +kernel)
theorem q_288 : (Jvm.Cond.sameMethod "[I" "java/lang/Object" "clone" "()Ljava/lang/Object;") ∈ WG := wg_6 (List.mem_of_getElem? (i := 47) (by decide +kernel)) (by decide +kernel)
theorem q_289 : (Jvm.Cond.native ({ cls := "java/lang/Object", name := "clone", desc := "()Ljava/lang/Object;" } : Jvm.MethodName)) ∈ WG := wg_6 (List.mem_of_getElem? (i := 48) (by decide +kernel)) (by decide +kernel)
theorem q_290 : (Jvm.Cond.instanceMethod ({ cls := "java/lang/Object", name := "clone", desc := "()Ljava/lang/Object;" } : Jvm.MethodName)) ∈ WG := wg_6 (List.mem_of_getElem? (i := 49) (by decide +kernel)) (by decide +kernel)
theorem q_291 : (Jvm.Cond.selects "[I" ({ cls := "[I", name := "clone", desc := "()Ljava/lang/Object;" } : Jvm.MethodName) ({ cls := "java/lang/Object", name := "clone", desc := "()Ljava/lang/Object;" } : Jvm.MethodName)) ∈ WG := wg_6 (List.mem_of_getElem? (i := 50) (by decide +kernel)) (by decide +kernel)
theorem dX11_waves_16 : decode cX11_waves 16 = .ok (.checkcast 95, 3) := by decide +kernel
theorem q_292 : (Jvm.Cond.classLink "ChipfoldModel" (95 : Nat) "[I") ∈ WG := wg_6 (List.mem_of_getElem? (i := 52) (by decide +kernel)) (by decide +kernel)
theorem dX11_waves_19 : decode cX11_waves 19 = .ok (.astore_n 1, 1) := by decide +kernel
theorem dX11_waves_20 : decode cX11_waves 20 = .ok (.iconst 0, 1) := by decide +kernel
theorem dX11_waves_21 : decode cX11_waves 21 = .ok (.istore_n 2, 1) := by decide +kernel
theorem dX11_waves_22 : decode cX11_waves 22 = .ok (.iconst 1, 1) := by decide +kernel
theorem dX11_waves_23 : decode cX11_waves 23 = .ok (.istore_n 3, 1) := by decide +kernel
theorem dX11_waves_24 : decode cX11_waves 24 = .ok (.iload_n 3, 1) := by decide +kernel
theorem dX11_waves_25 : decode cX11_waves 25 = .ok (.ifCond .eq 98, 3) := by decide +kernel
theorem dX11_waves_123 : decode cX11_waves 123 = .ok (.iload_n 2, 1) := by decide +kernel
theorem dX11_waves_124 : decode cX11_waves 124 = .ok (.ireturn, 1) := by decide +kernel
theorem dX11_waves_28 : decode cX11_waves 28 = .ok (.bipush 6, 2) := by decide +kernel
theorem dX11_waves_30 : decode cX11_waves 30 = .ok (.newarray .boolean, 2) := by decide +kernel
theorem dX11_waves_32 : decode cX11_waves 32 = .ok (.astore 4, 2) := by decide +kernel
theorem dX11_waves_34 : decode cX11_waves 34 = .ok (.iconst 0, 1) := by decide +kernel
theorem dX11_waves_35 : decode cX11_waves 35 = .ok (.istore_n 3, 1) := by decide +kernel
theorem dX11_waves_36 : decode cX11_waves 36 = .ok (.iconst 0, 1) := by decide +kernel
theorem dX11_waves_37 : decode cX11_waves 37 = .ok (.istore 5, 2) := by decide +kernel
theorem dX11_waves_39 : decode cX11_waves 39 = .ok (.iload 5, 2) := by decide +kernel
theorem dX11_waves_41 : decode cX11_waves 41 = .ok (.aload_n 0, 1) := by decide +kernel
theorem dX11_waves_42 : decode cX11_waves 42 = .ok (.getfield 33, 3) := by decide +kernel
theorem dX11_waves_45 : decode cX11_waves 45 = .ok (.if_icmp .ge 29, 3) := by decide +kernel
theorem dX11_waves_74 : decode cX11_waves 74 = .ok (.iconst 0, 1) := by decide +kernel
theorem dX11_waves_75 : decode cX11_waves 75 = .ok (.istore 5, 2) := by decide +kernel
theorem dX11_waves_77 : decode cX11_waves 77 = .ok (.iload 5, 2) := by decide +kernel
theorem dX11_waves_79 : decode cX11_waves 79 = .ok (.aload_n 0, 1) := by decide +kernel
theorem dX11_waves_80 : decode cX11_waves 80 = .ok (.getfield 33, 3) := by decide +kernel
theorem dX11_waves_83 : decode cX11_waves 83 = .ok (.if_icmp .ge 25, 3) := by decide +kernel
theorem dX11_waves_108 : decode cX11_waves 108 = .ok (.iload_n 2, 1) := by decide +kernel
theorem dX11_waves_109 : decode cX11_waves 109 = .ok (.iload_n 3, 1) := by decide +kernel
theorem dX11_waves_110 : decode cX11_waves 110 = .ok (.ifCond .eq 7, 3) := by decide +kernel
theorem dX11_waves_117 : decode cX11_waves 117 = .ok (.iconst 0, 1) := by decide +kernel
theorem dX11_waves_118 : decode cX11_waves 118 = .ok (.iadd, 1) := by decide +kernel
theorem dX11_waves_119 : decode cX11_waves 119 = .ok (.istore_n 2, 1) := by decide +kernel
theorem dX11_waves_120 : decode cX11_waves 120 = .ok (.goto (-96), 3) := by decide +kernel
theorem dX11_waves_113 : decode cX11_waves 113 = .ok (.iconst 1, 1) := by decide +kernel
theorem dX11_waves_114 : decode cX11_waves 114 = .ok (.goto 4, 3) := by decide +kernel
theorem dX11_waves_86 : decode cX11_waves 86 = .ok (.aload 4, 2) := by decide +kernel
theorem dX11_waves_88 : decode cX11_waves 88 = .ok (.iload 5, 2) := by decide +kernel
theorem dX11_waves_90 : decode cX11_waves 90 = .ok (.baload, 1) := by decide +kernel
theorem dX11_waves_91 : decode cX11_waves 91 = .ok (.ifCond .eq 11, 3) := by decide +kernel
theorem dX11_waves_102 : decode cX11_waves 102 = .ok (.iinc 5 1, 3) := by decide +kernel
theorem dX11_waves_105 : decode cX11_waves 105 = .ok (.goto (-28), 3) := by decide +kernel
theorem dX11_waves_94 : decode cX11_waves 94 = .ok (.aload_n 0, 1) := by decide +kernel
theorem dX11_waves_95 : decode cX11_waves 95 = .ok (.aload_n 1, 1) := by decide +kernel
theorem dX11_waves_96 : decode cX11_waves 96 = .ok (.iload 5, 2) := by decide +kernel
theorem dX11_waves_98 : decode cX11_waves 98 = .ok (.iconst 1, 1) := by decide +kernel
theorem dX11_waves_99 : decode cX11_waves 99 = .ok (.invokevirtual 79, 3) := by decide +kernel
theorem q_293 : (Jvm.Cond.code ({ cls := "ChipfoldModel", name := "topples", desc := "([III)V" } : Jvm.MethodName) prog_13_method_20_code (5 : Nat) (Option.none : Option Jvm.ClassFile.FieldType)) ∈ WG := wg_6 (List.mem_of_getElem? (i := 25) rfl) rfl
theorem q_294 : (Jvm.Cond.selects "ChipfoldModel" ({ cls := "ChipfoldModel", name := "topples", desc := "([III)V" } : Jvm.MethodName) ({ cls := "ChipfoldModel", name := "topples", desc := "([III)V" } : Jvm.MethodName)) ∈ WG := wg_0 (by decide +kernel) (by decide +kernel)
theorem q_295 : (Jvm.Cond.methodLink "ChipfoldModel" (79 : Nat) ({ cls := "ChipfoldModel", name := "topples", desc := "([III)V" } : Jvm.MethodName)) ∈ WG := wg_6 (List.mem_of_getElem? (i := 22) (by decide +kernel)) (by decide +kernel)
theorem q_296 : (Jvm.Cond.instanceMethod ({ cls := "ChipfoldModel", name := "topples", desc := "([III)V" } : Jvm.MethodName)) ∈ WG := wg_6 (List.mem_of_getElem? (i := 24) (by decide +kernel)) (by decide +kernel)
theorem dX11_waves_48 : decode cX11_waves 48 = .ok (.aload 4, 2) := by decide +kernel
theorem dX11_waves_50 : decode cX11_waves 50 = .ok (.iload 5, 2) := by decide +kernel
theorem dX11_waves_52 : decode cX11_waves 52 = .ok (.aload_n 0, 1) := by decide +kernel
theorem dX11_waves_53 : decode cX11_waves 53 = .ok (.aload_n 1, 1) := by decide +kernel
theorem dX11_waves_54 : decode cX11_waves 54 = .ok (.iload 5, 2) := by decide +kernel
theorem dX11_waves_56 : decode cX11_waves 56 = .ok (.invokevirtual 75, 3) := by decide +kernel
theorem q_297 : (Jvm.Cond.code ({ cls := "ChipfoldModel", name := "can", desc := "([II)Z" } : Jvm.MethodName) prog_13_method_19_code (3 : Nat) (Option.some Jvm.ClassFile.FieldType.boolean)) ∈ WG := wg_6 (List.mem_of_getElem? (i := 21) rfl) rfl
theorem q_298 : (Jvm.Cond.selects "ChipfoldModel" ({ cls := "ChipfoldModel", name := "can", desc := "([II)Z" } : Jvm.MethodName) ({ cls := "ChipfoldModel", name := "can", desc := "([II)Z" } : Jvm.MethodName)) ∈ WG := wg_0 (by decide +kernel) (by decide +kernel)
theorem q_299 : (Jvm.Cond.methodLink "ChipfoldModel" (75 : Nat) ({ cls := "ChipfoldModel", name := "can", desc := "([II)Z" } : Jvm.MethodName)) ∈ WG := wg_6 (List.mem_of_getElem? (i := 18) (by decide +kernel)) (by decide +kernel)
theorem q_300 : (Jvm.Cond.instanceMethod ({ cls := "ChipfoldModel", name := "can", desc := "([II)Z" } : Jvm.MethodName)) ∈ WG := wg_6 (List.mem_of_getElem? (i := 20) (by decide +kernel)) (by decide +kernel)
theorem dX11_waves_59 : decode cX11_waves 59 = .ok (.bastore, 1) := by decide +kernel
theorem dX11_waves_60 : decode cX11_waves 60 = .ok (.iload_n 3, 1) := by decide +kernel
theorem dX11_waves_61 : decode cX11_waves 61 = .ok (.aload 4, 2) := by decide +kernel
theorem dX11_waves_63 : decode cX11_waves 63 = .ok (.iload 5, 2) := by decide +kernel
theorem dX11_waves_65 : decode cX11_waves 65 = .ok (.baload, 1) := by decide +kernel
theorem dX11_waves_66 : decode cX11_waves 66 = .ok (.ior, 1) := by decide +kernel
theorem dX11_waves_67 : decode cX11_waves 67 = .ok (.istore_n 3, 1) := by decide +kernel
theorem dX11_waves_68 : decode cX11_waves 68 = .ok (.iinc 5 1, 3) := by decide +kernel
theorem dX11_waves_71 : decode cX11_waves 71 = .ok (.goto (-32), 3) := by decide +kernel
set_option maxRecDepth 100000 in
set_option maxHeartbeats 400000 in
theorem c_X11_init {l : Launch} {D : va_G} {k : Nat → ClassId} (mo : Nat)  : CM l D k yX11_init cX11_init 1 none  1 12 [.ref mo] [(mo, .inr (15, [.null, .null, .null, .null, .null, .null, .null, .int 0, .int 0, .int 0, .int 0, .int 0]))] (fun rv9 w9 => rv9 = none ∧ ∃ (e0 : Nat) (er : Nat → Nat) (c1 : Nat) (c2 : Nat) (c3 : Nat) (c4 : Nat) (c5 : Nat), w9 = [(mo, .inr (15, [.ref e0, .ref c1, .ref c2, .ref c3, .ref c4, .ref c5, .null, .int (nI 0), .int (nI 0), .int 0, .int 0, .int 0])), (e0, aR k 3 6 (fun i9 => if i9 < 6 then some (er i9) else none)), ((er 0), aI k 6 (fun _ => 0)), ((er 1), aI k 6 (fun _ => 0)), ((er 2), aI k 6 (fun _ => 0)), ((er 3), aI k 6 (fun _ => 0)), ((er 4), aI k 6 (fun _ => 0)), ((er 5), aI k 6 (fun _ => 0)), (c1, aI k 6 (fun _ => 0)), (c2, aI k 6 (fun _ => 0)), (c3, aI k 6 (fun _ => 0)), (c4, aI k 6 (fun _ => 0)), (c5, aI k 6 (fun _ => 0))]) 12 72 5 := by
  refine CM.of (lv0 := [(0, .ref mo)]) (by decide +kernel) (Nat.le_of_ble_eq_true rfl) rfl ?_
  intro p e s m below meth c C hr hlk hin had
  refine g_aload_n (pc := 0) C 0 rfl rfl dX11_init_0 ?_
  refine g_obj (pc := 1) C q_261 q_2 q_3 (Nat.le_of_ble_eq_true rfl) (Nat.le_of_ble_eq_true rfl) dX11_init_1 ?_
  refine g_aload_n (pc := 4) C 0 rfl rfl dX11_init_4 ?_
  refine g_bipush (pc := 5) (v := 6) C (by decide) dX11_init_5 ?_
  refine g_bipush (pc := 7) (v := 6) C (by decide) dX11_init_7 ?_
  refine g_mnaI (pc := 9) (cells := 0) (slots := 0) (g := 0) C q_262 q_4 (Nat.le_of_ble_eq_true rfl) (Nat.le_of_ble_eq_true rfl) dX11_init_9 (fun q1 r2 => ?_)
  refine G.eqw (ws' := [(mo, .inr (15, [.null, .null, .null, .null, .null, .null, .null, .int 0, .int 0, .int 0, .int 0, .int 0])), (q1, aR k 3 6 (fun i9 => if i9 < 6 then some (r2 i9) else none)), ((r2 0), aI k 6 (fun _ => 0)), ((r2 1), aI k 6 (fun _ => 0)), ((r2 2), aI k 6 (fun _ => 0)), ((r2 3), aI k 6 (fun _ => 0)), ((r2 4), aI k 6 (fun _ => 0)), ((r2 5), aI k 6 (fun _ => 0))]) rfl ?_
  refine g_putF (pc := 13) C (T := TX11) inX11 0 rfl rfl 0 (by decide) q_255 rfl tyX11 tyX11_ok nmX11 rfl hin rfl [(mo, .inr (15, [.ref q1, .null, .null, .null, .null, .null, .null, .int 0, .int 0, .int 0, .int 0, .int 0])), (q1, aR k 3 6 (fun i9 => if i9 < 6 then some (r2 i9) else none)), ((r2 0), aI k 6 (fun _ => 0)), ((r2 1), aI k 6 (fun _ => 0)), ((r2 2), aI k 6 (fun _ => 0)), ((r2 3), aI k 6 (fun _ => 0)), ((r2 4), aI k 6 (fun _ => 0)), ((r2 5), aI k 6 (fun _ => 0))] (tyX11_ok 0 (by decide)) rfl rfl (Nat.le_of_ble_eq_true rfl) rfl dX11_init_13 ?_
  refine g_aload_n (pc := 16) C 0 rfl rfl dX11_init_16 ?_
  refine g_bipush (pc := 17) (v := 6) C (by decide) dX11_init_17 ?_
  refine g_newI (pc := 19) (cells := 7) (slots := 42) (g := 0) C 6 q_4 (by decide) (by decide) (Nat.le_of_ble_eq_true rfl) (Nat.le_of_ble_eq_true rfl) (Nat.le_of_ble_eq_true rfl) dX11_init_19 (fun q3 => ?_)
  refine G.eqw (ws' := [(mo, .inr (15, [.ref q1, .null, .null, .null, .null, .null, .null, .int 0, .int 0, .int 0, .int 0, .int 0])), (q1, aR k 3 6 (fun i9 => if i9 < 6 then some (r2 i9) else none)), ((r2 0), aI k 6 (fun _ => 0)), ((r2 1), aI k 6 (fun _ => 0)), ((r2 2), aI k 6 (fun _ => 0)), ((r2 3), aI k 6 (fun _ => 0)), ((r2 4), aI k 6 (fun _ => 0)), ((r2 5), aI k 6 (fun _ => 0)), (q3, aI k 6 (fun _ => 0))]) rfl ?_
  refine g_put (pc := 21) C (T := TX11) inX11 0 rfl rfl 1 (by decide) q_249 rfl tyX11 tyX11_ok nmX11 rfl [(mo, .inr (15, [.ref q1, .ref q3, .null, .null, .null, .null, .null, .int 0, .int 0, .int 0, .int 0, .int 0])), (q1, aR k 3 6 (fun i9 => if i9 < 6 then some (r2 i9) else none)), ((r2 0), aI k 6 (fun _ => 0)), ((r2 1), aI k 6 (fun _ => 0)), ((r2 2), aI k 6 (fun _ => 0)), ((r2 3), aI k 6 (fun _ => 0)), ((r2 4), aI k 6 (fun _ => 0)), ((r2 5), aI k 6 (fun _ => 0)), (q3, aI k 6 (fun _ => 0))] (tyX11_ok 1 (by decide)) rfl rfl (Nat.le_of_ble_eq_true rfl) rfl dX11_init_21 ?_
  refine g_aload_n (pc := 24) C 0 rfl rfl dX11_init_24 ?_
  refine g_bipush (pc := 25) (v := 6) C (by decide) dX11_init_25 ?_
  refine g_newI (pc := 27) (cells := 8) (slots := 48) (g := 1) C 6 q_4 (by decide) (by decide) (Nat.le_of_ble_eq_true rfl) (Nat.le_of_ble_eq_true rfl) (Nat.le_of_ble_eq_true rfl) dX11_init_27 (fun q4 => ?_)
  refine G.eqw (ws' := [(mo, .inr (15, [.ref q1, .ref q3, .null, .null, .null, .null, .null, .int 0, .int 0, .int 0, .int 0, .int 0])), (q1, aR k 3 6 (fun i9 => if i9 < 6 then some (r2 i9) else none)), ((r2 0), aI k 6 (fun _ => 0)), ((r2 1), aI k 6 (fun _ => 0)), ((r2 2), aI k 6 (fun _ => 0)), ((r2 3), aI k 6 (fun _ => 0)), ((r2 4), aI k 6 (fun _ => 0)), ((r2 5), aI k 6 (fun _ => 0)), (q3, aI k 6 (fun _ => 0)), (q4, aI k 6 (fun _ => 0))]) rfl ?_
  refine g_put (pc := 29) C (T := TX11) inX11 0 rfl rfl 2 (by decide) q_250 rfl tyX11 tyX11_ok nmX11 rfl [(mo, .inr (15, [.ref q1, .ref q3, .ref q4, .null, .null, .null, .null, .int 0, .int 0, .int 0, .int 0, .int 0])), (q1, aR k 3 6 (fun i9 => if i9 < 6 then some (r2 i9) else none)), ((r2 0), aI k 6 (fun _ => 0)), ((r2 1), aI k 6 (fun _ => 0)), ((r2 2), aI k 6 (fun _ => 0)), ((r2 3), aI k 6 (fun _ => 0)), ((r2 4), aI k 6 (fun _ => 0)), ((r2 5), aI k 6 (fun _ => 0)), (q3, aI k 6 (fun _ => 0)), (q4, aI k 6 (fun _ => 0))] (tyX11_ok 2 (by decide)) rfl rfl (Nat.le_of_ble_eq_true rfl) rfl dX11_init_29 ?_
  refine g_aload_n (pc := 32) C 0 rfl rfl dX11_init_32 ?_
  refine g_bipush (pc := 33) (v := 6) C (by decide) dX11_init_33 ?_
  refine g_newI (pc := 35) (cells := 9) (slots := 54) (g := 2) C 6 q_4 (by decide) (by decide) (Nat.le_of_ble_eq_true rfl) (Nat.le_of_ble_eq_true rfl) (Nat.le_of_ble_eq_true rfl) dX11_init_35 (fun q5 => ?_)
  refine G.eqw (ws' := [(mo, .inr (15, [.ref q1, .ref q3, .ref q4, .null, .null, .null, .null, .int 0, .int 0, .int 0, .int 0, .int 0])), (q1, aR k 3 6 (fun i9 => if i9 < 6 then some (r2 i9) else none)), ((r2 0), aI k 6 (fun _ => 0)), ((r2 1), aI k 6 (fun _ => 0)), ((r2 2), aI k 6 (fun _ => 0)), ((r2 3), aI k 6 (fun _ => 0)), ((r2 4), aI k 6 (fun _ => 0)), ((r2 5), aI k 6 (fun _ => 0)), (q3, aI k 6 (fun _ => 0)), (q4, aI k 6 (fun _ => 0)), (q5, aI k 6 (fun _ => 0))]) rfl ?_
  refine g_put (pc := 37) C (T := TX11) inX11 0 rfl rfl 3 (by decide) q_251 rfl tyX11 tyX11_ok nmX11 rfl [(mo, .inr (15, [.ref q1, .ref q3, .ref q4, .ref q5, .null, .null, .null, .int 0, .int 0, .int 0, .int 0, .int 0])), (q1, aR k 3 6 (fun i9 => if i9 < 6 then some (r2 i9) else none)), ((r2 0), aI k 6 (fun _ => 0)), ((r2 1), aI k 6 (fun _ => 0)), ((r2 2), aI k 6 (fun _ => 0)), ((r2 3), aI k 6 (fun _ => 0)), ((r2 4), aI k 6 (fun _ => 0)), ((r2 5), aI k 6 (fun _ => 0)), (q3, aI k 6 (fun _ => 0)), (q4, aI k 6 (fun _ => 0)), (q5, aI k 6 (fun _ => 0))] (tyX11_ok 3 (by decide)) rfl rfl (Nat.le_of_ble_eq_true rfl) rfl dX11_init_37 ?_
  refine g_aload_n (pc := 40) C 0 rfl rfl dX11_init_40 ?_
  refine g_bipush (pc := 41) (v := 6) C (by decide) dX11_init_41 ?_
  refine g_newI (pc := 43) (cells := 10) (slots := 60) (g := 3) C 6 q_4 (by decide) (by decide) (Nat.le_of_ble_eq_true rfl) (Nat.le_of_ble_eq_true rfl) (Nat.le_of_ble_eq_true rfl) dX11_init_43 (fun q6 => ?_)
  refine G.eqw (ws' := [(mo, .inr (15, [.ref q1, .ref q3, .ref q4, .ref q5, .null, .null, .null, .int 0, .int 0, .int 0, .int 0, .int 0])), (q1, aR k 3 6 (fun i9 => if i9 < 6 then some (r2 i9) else none)), ((r2 0), aI k 6 (fun _ => 0)), ((r2 1), aI k 6 (fun _ => 0)), ((r2 2), aI k 6 (fun _ => 0)), ((r2 3), aI k 6 (fun _ => 0)), ((r2 4), aI k 6 (fun _ => 0)), ((r2 5), aI k 6 (fun _ => 0)), (q3, aI k 6 (fun _ => 0)), (q4, aI k 6 (fun _ => 0)), (q5, aI k 6 (fun _ => 0)), (q6, aI k 6 (fun _ => 0))]) rfl ?_
  refine g_put (pc := 45) C (T := TX11) inX11 0 rfl rfl 4 (by decide) q_252 rfl tyX11 tyX11_ok nmX11 rfl [(mo, .inr (15, [.ref q1, .ref q3, .ref q4, .ref q5, .ref q6, .null, .null, .int 0, .int 0, .int 0, .int 0, .int 0])), (q1, aR k 3 6 (fun i9 => if i9 < 6 then some (r2 i9) else none)), ((r2 0), aI k 6 (fun _ => 0)), ((r2 1), aI k 6 (fun _ => 0)), ((r2 2), aI k 6 (fun _ => 0)), ((r2 3), aI k 6 (fun _ => 0)), ((r2 4), aI k 6 (fun _ => 0)), ((r2 5), aI k 6 (fun _ => 0)), (q3, aI k 6 (fun _ => 0)), (q4, aI k 6 (fun _ => 0)), (q5, aI k 6 (fun _ => 0)), (q6, aI k 6 (fun _ => 0))] (tyX11_ok 4 (by decide)) rfl rfl (Nat.le_of_ble_eq_true rfl) rfl dX11_init_45 ?_
  refine g_aload_n (pc := 48) C 0 rfl rfl dX11_init_48 ?_
  refine g_bipush (pc := 49) (v := 6) C (by decide) dX11_init_49 ?_
  refine g_newI (pc := 51) (cells := 11) (slots := 66) (g := 4) C 6 q_4 (by decide) (by decide) (Nat.le_of_ble_eq_true rfl) (Nat.le_of_ble_eq_true rfl) (Nat.le_of_ble_eq_true rfl) dX11_init_51 (fun q7 => ?_)
  refine G.eqw (ws' := [(mo, .inr (15, [.ref q1, .ref q3, .ref q4, .ref q5, .ref q6, .null, .null, .int 0, .int 0, .int 0, .int 0, .int 0])), (q1, aR k 3 6 (fun i9 => if i9 < 6 then some (r2 i9) else none)), ((r2 0), aI k 6 (fun _ => 0)), ((r2 1), aI k 6 (fun _ => 0)), ((r2 2), aI k 6 (fun _ => 0)), ((r2 3), aI k 6 (fun _ => 0)), ((r2 4), aI k 6 (fun _ => 0)), ((r2 5), aI k 6 (fun _ => 0)), (q3, aI k 6 (fun _ => 0)), (q4, aI k 6 (fun _ => 0)), (q5, aI k 6 (fun _ => 0)), (q6, aI k 6 (fun _ => 0)), (q7, aI k 6 (fun _ => 0))]) rfl ?_
  refine g_put (pc := 53) C (T := TX11) inX11 0 rfl rfl 5 (by decide) q_253 rfl tyX11 tyX11_ok nmX11 rfl [(mo, .inr (15, [.ref q1, .ref q3, .ref q4, .ref q5, .ref q6, .ref q7, .null, .int 0, .int 0, .int 0, .int 0, .int 0])), (q1, aR k 3 6 (fun i9 => if i9 < 6 then some (r2 i9) else none)), ((r2 0), aI k 6 (fun _ => 0)), ((r2 1), aI k 6 (fun _ => 0)), ((r2 2), aI k 6 (fun _ => 0)), ((r2 3), aI k 6 (fun _ => 0)), ((r2 4), aI k 6 (fun _ => 0)), ((r2 5), aI k 6 (fun _ => 0)), (q3, aI k 6 (fun _ => 0)), (q4, aI k 6 (fun _ => 0)), (q5, aI k 6 (fun _ => 0)), (q6, aI k 6 (fun _ => 0)), (q7, aI k 6 (fun _ => 0))] (tyX11_ok 5 (by decide)) rfl rfl (Nat.le_of_ble_eq_true rfl) rfl dX11_init_53 ?_
  refine g_aload_n (pc := 56) C 0 rfl rfl dX11_init_56 ?_
  refine g_null (pc := 57) C dX11_init_57 ?_
  refine g_put (pc := 58) C (T := TX11) inX11 0 rfl rfl 6 (by decide) q_263 rfl tyX11 tyX11_ok nmX11 rfl [(mo, .inr (15, [.ref q1, .ref q3, .ref q4, .ref q5, .ref q6, .ref q7, .null, .int 0, .int 0, .int 0, .int 0, .int 0])), (q1, aR k 3 6 (fun i9 => if i9 < 6 then some (r2 i9) else none)), ((r2 0), aI k 6 (fun _ => 0)), ((r2 1), aI k 6 (fun _ => 0)), ((r2 2), aI k 6 (fun _ => 0)), ((r2 3), aI k 6 (fun _ => 0)), ((r2 4), aI k 6 (fun _ => 0)), ((r2 5), aI k 6 (fun _ => 0)), (q3, aI k 6 (fun _ => 0)), (q4, aI k 6 (fun _ => 0)), (q5, aI k 6 (fun _ => 0)), (q6, aI k 6 (fun _ => 0)), (q7, aI k 6 (fun _ => 0))] (tyX11_ok 6 (by decide)) rfl rfl (Nat.le_of_ble_eq_true rfl) rfl dX11_init_58 ?_
  refine g_aload_n (pc := 61) C 0 rfl rfl dX11_init_61 ?_
  refine g_iconst (pc := 62) (v := 0) C (by decide) dX11_init_62 ?_
  refine g_put (pc := 63) C (T := TX11) inX11 0 rfl rfl 7 (by decide) q_244 rfl tyX11 tyX11_ok nmX11 rfl [(mo, .inr (15, [.ref q1, .ref q3, .ref q4, .ref q5, .ref q6, .ref q7, .null, .int 0, .int 0, .int 0, .int 0, .int 0])), (q1, aR k 3 6 (fun i9 => if i9 < 6 then some (r2 i9) else none)), ((r2 0), aI k 6 (fun _ => 0)), ((r2 1), aI k 6 (fun _ => 0)), ((r2 2), aI k 6 (fun _ => 0)), ((r2 3), aI k 6 (fun _ => 0)), ((r2 4), aI k 6 (fun _ => 0)), ((r2 5), aI k 6 (fun _ => 0)), (q3, aI k 6 (fun _ => 0)), (q4, aI k 6 (fun _ => 0)), (q5, aI k 6 (fun _ => 0)), (q6, aI k 6 (fun _ => 0)), (q7, aI k 6 (fun _ => 0))] (tyX11_ok 7 (by decide)) rfl (by rfl) (Nat.le_of_ble_eq_true rfl) rfl dX11_init_63 ?_
  refine g_aload_n (pc := 66) C 0 rfl rfl dX11_init_66 ?_
  refine g_iconst (pc := 67) (v := 0) C (by decide) dX11_init_67 ?_
  refine g_put (pc := 68) C (T := TX11) inX11 0 rfl rfl 8 (by decide) q_256 rfl tyX11 tyX11_ok nmX11 rfl [(mo, .inr (15, [.ref q1, .ref q3, .ref q4, .ref q5, .ref q6, .ref q7, .null, .int 0, .int 0, .int 0, .int 0, .int 0])), (q1, aR k 3 6 (fun i9 => if i9 < 6 then some (r2 i9) else none)), ((r2 0), aI k 6 (fun _ => 0)), ((r2 1), aI k 6 (fun _ => 0)), ((r2 2), aI k 6 (fun _ => 0)), ((r2 3), aI k 6 (fun _ => 0)), ((r2 4), aI k 6 (fun _ => 0)), ((r2 5), aI k 6 (fun _ => 0)), (q3, aI k 6 (fun _ => 0)), (q4, aI k 6 (fun _ => 0)), (q5, aI k 6 (fun _ => 0)), (q6, aI k 6 (fun _ => 0)), (q7, aI k 6 (fun _ => 0))] (tyX11_ok 8 (by decide)) rfl (by rfl) (Nat.le_of_ble_eq_true rfl) rfl dX11_init_68 ?_
  refine g_aload_n (pc := 71) C 0 rfl rfl dX11_init_71 ?_
  refine g_iconst (pc := 72) (v := 0) C (by decide) dX11_init_72 ?_
  refine g_put (pc := 73) C (T := TX11) inX11 0 rfl rfl 9 (by decide) q_254 rfl tyX11 tyX11_ok nmX11 rfl [(mo, .inr (15, [.ref q1, .ref q3, .ref q4, .ref q5, .ref q6, .ref q7, .null, .int 0, .int 0, .int 0, .int 0, .int 0])), (q1, aR k 3 6 (fun i9 => if i9 < 6 then some (r2 i9) else none)), ((r2 0), aI k 6 (fun _ => 0)), ((r2 1), aI k 6 (fun _ => 0)), ((r2 2), aI k 6 (fun _ => 0)), ((r2 3), aI k 6 (fun _ => 0)), ((r2 4), aI k 6 (fun _ => 0)), ((r2 5), aI k 6 (fun _ => 0)), (q3, aI k 6 (fun _ => 0)), (q4, aI k 6 (fun _ => 0)), (q5, aI k 6 (fun _ => 0)), (q6, aI k 6 (fun _ => 0)), (q7, aI k 6 (fun _ => 0))] (tyX11_ok 9 (by decide)) rfl (by rfl) (Nat.le_of_ble_eq_true rfl) rfl dX11_init_73 ?_
  refine g_aload_n (pc := 76) C 0 rfl rfl dX11_init_76 ?_
  refine g_iconst (pc := 77) (v := 0) C (by decide) dX11_init_77 ?_
  refine g_put (pc := 78) C (T := TX11) inX11 0 rfl rfl 10 (by decide) q_264 rfl tyX11 tyX11_ok nmX11 rfl [(mo, .inr (15, [.ref q1, .ref q3, .ref q4, .ref q5, .ref q6, .ref q7, .null, .int 0, .int 0, .int 0, .int 0, .int 0])), (q1, aR k 3 6 (fun i9 => if i9 < 6 then some (r2 i9) else none)), ((r2 0), aI k 6 (fun _ => 0)), ((r2 1), aI k 6 (fun _ => 0)), ((r2 2), aI k 6 (fun _ => 0)), ((r2 3), aI k 6 (fun _ => 0)), ((r2 4), aI k 6 (fun _ => 0)), ((r2 5), aI k 6 (fun _ => 0)), (q3, aI k 6 (fun _ => 0)), (q4, aI k 6 (fun _ => 0)), (q5, aI k 6 (fun _ => 0)), (q6, aI k 6 (fun _ => 0)), (q7, aI k 6 (fun _ => 0))] (tyX11_ok 10 (by decide)) rfl (by rfl) (Nat.le_of_ble_eq_true rfl) rfl dX11_init_78 ?_
  refine g_aload_n (pc := 81) C 0 rfl rfl dX11_init_81 ?_
  refine g_iconst (pc := 82) (v := 0) C (by decide) dX11_init_82 ?_
  refine g_put (pc := 83) C (T := TX11) inX11 0 rfl rfl 11 (by decide) q_265 rfl tyX11 tyX11_ok nmX11 rfl [(mo, .inr (15, [.ref q1, .ref q3, .ref q4, .ref q5, .ref q6, .ref q7, .null, .int 0, .int 0, .int 0, .int 0, .int 0])), (q1, aR k 3 6 (fun i9 => if i9 < 6 then some (r2 i9) else none)), ((r2 0), aI k 6 (fun _ => 0)), ((r2 1), aI k 6 (fun _ => 0)), ((r2 2), aI k 6 (fun _ => 0)), ((r2 3), aI k 6 (fun _ => 0)), ((r2 4), aI k 6 (fun _ => 0)), ((r2 5), aI k 6 (fun _ => 0)), (q3, aI k 6 (fun _ => 0)), (q4, aI k 6 (fun _ => 0)), (q5, aI k 6 (fun _ => 0)), (q6, aI k 6 (fun _ => 0)), (q7, aI k 6 (fun _ => 0))] (tyX11_ok 11 (by decide)) rfl (by rfl) (Nat.le_of_ble_eq_true rfl) rfl dX11_init_83 ?_
  refine G.eqw (ws' := [(mo, .inr (15, [.ref q1, .ref q3, .ref q4, .ref q5, .ref q6, .ref q7, .null, .int (nI 0), .int 0, .int 0, .int 0, .int 0])), (q1, aR k 3 6 (fun i9 => if i9 < 6 then some (r2 i9) else none)), ((r2 0), aI k 6 (fun _ => 0)), ((r2 1), aI k 6 (fun _ => 0)), ((r2 2), aI k 6 (fun _ => 0)), ((r2 3), aI k 6 (fun _ => 0)), ((r2 4), aI k 6 (fun _ => 0)), ((r2 5), aI k 6 (fun _ => 0)), (q3, aI k 6 (fun _ => 0)), (q4, aI k 6 (fun _ => 0)), (q5, aI k 6 (fun _ => 0)), (q6, aI k 6 (fun _ => 0)), (q7, aI k 6 (fun _ => 0))]) (congrArg (β := va_W) (fun z9 => [(mo, .inr (15, [.ref q1, .ref q3, .ref q4, .ref q5, .ref q6, .ref q7, .null, .int z9, .int 0, .int 0, .int 0, .int 0])), (q1, aR k 3 6 (fun i9 => if i9 < 6 then some (r2 i9) else none)), ((r2 0), aI k 6 (fun _ => 0)), ((r2 1), aI k 6 (fun _ => 0)), ((r2 2), aI k 6 (fun _ => 0)), ((r2 3), aI k 6 (fun _ => 0)), ((r2 4), aI k 6 (fun _ => 0)), ((r2 5), aI k 6 (fun _ => 0)), (q3, aI k 6 (fun _ => 0)), (q4, aI k 6 (fun _ => 0)), (q5, aI k 6 (fun _ => 0)), (q6, aI k 6 (fun _ => 0)), (q7, aI k 6 (fun _ => 0))]) (show (0 : Int32) = (nI 0) from by first | rfl | simp_all)) ?_
  refine G.eqw (ws' := [(mo, .inr (15, [.ref q1, .ref q3, .ref q4, .ref q5, .ref q6, .ref q7, .null, .int (nI 0), .int (nI 0), .int 0, .int 0, .int 0])), (q1, aR k 3 6 (fun i9 => if i9 < 6 then some (r2 i9) else none)), ((r2 0), aI k 6 (fun _ => 0)), ((r2 1), aI k 6 (fun _ => 0)), ((r2 2), aI k 6 (fun _ => 0)), ((r2 3), aI k 6 (fun _ => 0)), ((r2 4), aI k 6 (fun _ => 0)), ((r2 5), aI k 6 (fun _ => 0)), (q3, aI k 6 (fun _ => 0)), (q4, aI k 6 (fun _ => 0)), (q5, aI k 6 (fun _ => 0)), (q6, aI k 6 (fun _ => 0)), (q7, aI k 6 (fun _ => 0))]) (congrArg (β := va_W) (fun z9 => [(mo, .inr (15, [.ref q1, .ref q3, .ref q4, .ref q5, .ref q6, .ref q7, .null, .int (nI 0), .int z9, .int 0, .int 0, .int 0])), (q1, aR k 3 6 (fun i9 => if i9 < 6 then some (r2 i9) else none)), ((r2 0), aI k 6 (fun _ => 0)), ((r2 1), aI k 6 (fun _ => 0)), ((r2 2), aI k 6 (fun _ => 0)), ((r2 3), aI k 6 (fun _ => 0)), ((r2 4), aI k 6 (fun _ => 0)), ((r2 5), aI k 6 (fun _ => 0)), (q3, aI k 6 (fun _ => 0)), (q4, aI k 6 (fun _ => 0)), (q5, aI k 6 (fun _ => 0)), (q6, aI k 6 (fun _ => 0)), (q7, aI k 6 (fun _ => 0))]) (show (0 : Int32) = (nI 0) from by first | rfl | simp_all)) ?_
  exact g_vret (pc := 86) C hr hlk (by first | decide | omega) (by first | decide | omega) (by first | decide | omega) dX11_init_86 ⟨rfl, q1, r2, q3, q4, q5, q6, q7, rfl⟩
set_option maxRecDepth 100000 in
set_option maxHeartbeats 400000 in
theorem c_X11_vertex {l : Launch} {D : va_G} {k : Nat → ClassId} (mo : Nat) (e0 : Nat) (c1 : Nat) (c2 : Nat) (c3 : Nat) (c4 : Nat) (c5 : Nat) (n : Nat) (z : Nat) (sw : Int32) (sd : Int32) (th : Int32) (hn : n < 6) : CM l D k yX11_vertex cX11_vertex 1 (some .int)  1 20 [.ref mo] [(mo, .inr (15, [.ref e0, .ref c1, .ref c2, .ref c3, .ref c4, .ref c5, .null, .int (nI n), .int (nI z), .int sw, .int sd, .int th]))] (fun rv9 w9 => rv9 = (some (.int (nI n))) ∧ ∃ (b1 : Nat) (b2 : Nat) (b3 : Nat) (b4 : Nat) (b5 : Nat), w9 = [(mo, .inr (15, [.ref e0, .ref b1, .ref b2, .ref b3, .ref b4, .ref b5, .null, .int (nI (n + 1)), .int (nI z), .int 0, .int sd, .int 0])), (b1, aI k 6 (fun _ => 0)), (b2, aI k 6 (fun _ => 0)), (b3, aI k 6 (fun _ => 0)), (b4, aI k 6 (fun _ => 0)), (b5, aI k 6 (fun _ => 0))]) 5 30 5 := by
  refine CM.of (lv0 := [(0, .ref mo)]) (by decide +kernel) (Nat.le_of_ble_eq_true rfl) rfl ?_
  intro p e s m below meth c C hr hlk hin had
  refine g_aload_n (pc := 0) C 0 rfl rfl dX11_vertex_0 ?_
  refine g_aload_n (pc := 1) C 0 rfl rfl dX11_vertex_1 ?_
  refine g_get (pc := 2) C (T := TX11) inX11 0 rfl rfl 7 (by decide) q_244 rfl rfl dX11_vertex_2 ?_
  refine g_bipush (pc := 5) (v := 6) C (by decide) dX11_vertex_5 ?_
  refine g_icmp_ne (pc := 7) C 14 (by decide) dX11_vertex_7 (fun c_7 => ?_) (fun c_7 => ?_)
  · refine g_iconst (pc := 14) (v := 0) C (by decide) dX11_vertex_14 ?_
    refine g_put (pc := 15) C (T := TX11) inX11 0 rfl rfl 11 (by decide) q_265 rfl tyX11 tyX11_ok nmX11 rfl [(mo, .inr (15, [.ref e0, .ref c1, .ref c2, .ref c3, .ref c4, .ref c5, .null, .int (nI n), .int (nI z), .int sw, .int sd, .int 0]))] (tyX11_ok 11 (by decide)) rfl (by rfl) (Nat.le_of_ble_eq_true rfl) rfl dX11_vertex_15 ?_
    refine g_aload_n (pc := 18) C 0 rfl rfl dX11_vertex_18 ?_
    refine g_get (pc := 19) C (T := TX11) inX11 0 rfl rfl 11 (by decide) q_265 rfl rfl dX11_vertex_19 ?_
    refine g_if_le (pc := 22) C 27 (by decide) dX11_vertex_22 (fun c_22 => ?_) (fun c_22 => ?_)
    · refine g_aload_n (pc := 27) C 0 rfl rfl dX11_vertex_27 ?_
      refine g_dup (pc := 28) C rfl dX11_vertex_28 ?_
      refine g_get (pc := 29) C (T := TX11) inX11 0 rfl rfl 7 (by decide) q_244 rfl rfl dX11_vertex_29 ?_
      refine g_iconst (pc := 32) (v := 1) C (by decide) dX11_vertex_32 ?_
      refine g_iadd (pc := 33) C dX11_vertex_33 ?_
      refine G.eqs (st' := [.int (nI (n + 1)), .ref mo]) (congrArg (β := List Value) (fun z9 => [.int z9, .ref mo]) (show (((nI n) + 1) : Int32) = (nI (n + 1)) from nI_1 n)) ?_
      refine g_put (pc := 34) C (T := TX11) inX11 0 rfl rfl 7 (by decide) q_244 rfl tyX11 tyX11_ok nmX11 rfl [(mo, .inr (15, [.ref e0, .ref c1, .ref c2, .ref c3, .ref c4, .ref c5, .null, .int (nI (n + 1)), .int (nI z), .int sw, .int sd, .int 0]))] (tyX11_ok 7 (by decide)) rfl (by rfl) (Nat.le_of_ble_eq_true rfl) rfl dX11_vertex_34 ?_
      refine g_aload_n (pc := 37) C 0 rfl rfl dX11_vertex_37 ?_
      refine g_callV (pc := 38) (cells := 0) (slots := 0) (g := 0) (As := []) (st := []) (T := TX11) (q0 := 0) C (nA := 0) rfl (c_X11_begin mo e0 c1 c2 c3 c4 c5 (n + 1) z sw sd 0 ) q_268 q_269 q_267 q_246 q_266 (by decide +kernel) rfl rfl dX11_vertex_38 ⟨Nat.le_of_ble_eq_true rfl, Nat.le_of_ble_eq_true rfl⟩ [0] [] rfl (wr := []) rfl (by decide) (by decide) (by decide) (Nat.le_of_ble_eq_true rfl) ⟨Nat.le_of_ble_eq_true rfl, Nat.le_of_ble_eq_true rfl⟩ (fun rv w1 h1 => ?_)
      obtain ⟨rfl, q1, q2, q3, q4, q5, rfl⟩ := h1
      refine G.aft [0, 1, 2, 3, 4, 5] (ws' := [(mo, .inr (15, [.ref e0, .ref q1, .ref q2, .ref q3, .ref q4, .ref q5, .null, .int (nI (n + 1)), .int (nI z), .int 0, .int sd, .int 0])), (q1, aI k 6 (fun _ => 0)), (q2, aI k 6 (fun _ => 0)), (q3, aI k 6 (fun _ => 0)), (q4, aI k 6 (fun _ => 0)), (q5, aI k 6 (fun _ => 0))]) (st' := []) (cells' := 5) (slots' := 30) (g' := 5) (by decide) rfl rfl rfl rfl rfl ?_
      refine g_aload_n (pc := 41) C 0 rfl rfl dX11_vertex_41 ?_
      refine g_get (pc := 42) C (T := TX11) inX11 0 rfl rfl 7 (by decide) q_244 rfl rfl dX11_vertex_42 ?_
      refine g_iconst (pc := 45) (v := 1) C (by decide) dX11_vertex_45 ?_
      refine g_isub (pc := 46) C dX11_vertex_46 ?_
      refine G.eqs (st' := [.int (nI n)]) (congrArg (β := List Value) (fun z9 => [.int z9]) (show (((nI (n + 1)) - 1) : Int32) = (nI n) from nI_pred n)) ?_
      exact g_iret (pc := 47) C hr hlk (by first | decide | omega) (by first | decide | omega) (by first | decide | omega) dX11_vertex_47 ⟨rfl, q1, q2, q3, q4, q5, rfl⟩
    · exact absurd (show (0 : Int32) ≤ 0 by decide) c_22
  · exact absurd ((nI_eq (show n < 2 ^ 31 by omega) (show 6 < 2 ^ 31 by omega)).mp (show nI n = nI 6 from c_7)) (by omega)
/-- one number of the table of edges anew -/
def eU (M : Nat → Nat → Int32) (v w : Nat) (x : Int32) : Nat → Nat → Int32 := fun i => if i = v then upd (M v) w x else M i
theorem inR_y {a b y : Nat} (h1 : a ≤ y) (h2 : y ≤ b) (h3 : b < 1000) : inR (nI y) (nI a) (nI b) = true := by
  unfold inR
  rw [decide_eq_true_eq, nI_ltI (by omega) (by omega), nI_ltI (by omega) (by omega)]
  omega
set_option maxRecDepth 100000 in
set_option maxHeartbeats 400000 in
theorem c_X11_edges {l : Launch} {D : va_G} {k : Nat → ClassId} (mo : Nat) (e0 : Nat) (c1 : Nat) (c2 : Nat) (c3 : Nat) (c4 : Nat) (c5 : Nat) (er : Nat → Nat) (n : Nat) (z : Nat) (sw : Int32) (sd : Int32) (th : Int32) (M : Nat → Nat → Int32) (v : Nat) (w : Nat) (y : Nat) (hn : n ≤ 6) (hv : v < n) (hw : w < n) (hvw : ¬ v = w) (hy : y ≤ 3) (hch : ¬ M v w = nI y) : CM l D k yX11_edges cX11_edges 5 (some .int)  2 43 [.ref mo, .int (nI v), .int (nI w), .int (nI y)] [(mo, .inr (15, [.ref e0, .ref c1, .ref c2, .ref c3, .ref c4, .ref c5, .null, .int (nI n), .int (nI z), .int sw, .int sd, .int th])), (e0, aR k 3 6 (fun i9 => if i9 < 6 then some (er i9) else none)), ((er 0), aI k 6 (M 0)), ((er 1), aI k 6 (M 1)), ((er 2), aI k 6 (M 2)), ((er 3), aI k 6 (M 3)), ((er 4), aI k 6 (M 4)), ((er 5), aI k 6 (M 5))] (fun rv9 w9 => rv9 = (some (.int (M v w))) ∧ ∃ (b1 : Nat) (b2 : Nat) (b3 : Nat) (b4 : Nat) (b5 : Nat), w9 = [(mo, .inr (15, [.ref e0, .ref b1, .ref b2, .ref b3, .ref b4, .ref b5, .null, .int (nI n), .int (nI z), .int 0, .int sd, .int 0])), (e0, aR k 3 6 (fun i9 => if i9 < 6 then some (er i9) else none)), ((er 0), aI k 6 ((eU (eU M v w (nI y)) w v (nI y)) 0)), ((er 1), aI k 6 ((eU (eU M v w (nI y)) w v (nI y)) 1)), ((er 2), aI k 6 ((eU (eU M v w (nI y)) w v (nI y)) 2)), ((er 3), aI k 6 ((eU (eU M v w (nI y)) w v (nI y)) 3)), ((er 4), aI k 6 ((eU (eU M v w (nI y)) w v (nI y)) 4)), ((er 5), aI k 6 ((eU (eU M v w (nI y)) w v (nI y)) 5)), (b1, aI k 6 (fun _ => 0)), (b2, aI k 6 (fun _ => 0)), (b3, aI k 6 (fun _ => 0)), (b4, aI k 6 (fun _ => 0)), (b5, aI k 6 (fun _ => 0))]) 5 30 5 := by
  refine CM.of (lv0 := [(0, .ref mo), (1, .int (nI v)), (2, .int (nI w)), (3, .int (nI y))]) (by decide +kernel) (Nat.le_of_ble_eq_true rfl) rfl ?_
  intro p e s m below meth c C hr hlk hin had
  refine g_aload_n (pc := 0) C 0 rfl rfl dX11_edges_0 ?_
  refine g_aload_n (pc := 1) C 0 rfl rfl dX11_edges_1 ?_
  refine g_iload_n (pc := 2) C 1 rfl rfl dX11_edges_2 ?_
  refine g_callV (pc := 3) (cells := 0) (slots := 0) (g := 0) (As := [.int (nI v)]) (st := [.ref mo]) (T := TX11) (q0 := 0) C (nA := 1) rfl (c_X11_isVertex mo e0 c1 c2 c3 c4 c5 n z sw sd th v (by first | assumption | decide | omega) (by first | assumption | decide | omega)) q_272 q_273 q_271 q_246 q_270 (by decide +kernel) rfl rfl dX11_edges_3 ⟨Nat.le_of_ble_eq_true rfl, Nat.le_of_ble_eq_true rfl⟩ [0] [1, 2, 3, 4, 5, 6, 7] rfl (wr := [(e0, aR k 3 6 (fun i9 => if i9 < 6 then some (er i9) else none)), ((er 0), aI k 6 (M 0)), ((er 1), aI k 6 (M 1)), ((er 2), aI k 6 (M 2)), ((er 3), aI k 6 (M 3)), ((er 4), aI k 6 (M 4)), ((er 5), aI k 6 (M 5))]) rfl (by decide) (by decide) (by decide) (Nat.le_of_ble_eq_true rfl) ⟨Nat.le_of_ble_eq_true rfl, Nat.le_of_ble_eq_true rfl⟩ (fun rv w1 h1 => ?_)
  obtain ⟨rfl, rfl⟩ := h1
  refine G.aft [7, 0, 1, 2, 3, 4, 5, 6] (ws' := [(mo, .inr (15, [.ref e0, .ref c1, .ref c2, .ref c3, .ref c4, .ref c5, .null, .int (nI n), .int (nI z), .int sw, .int sd, .int th])), (e0, aR k 3 6 (fun i9 => if i9 < 6 then some (er i9) else none)), ((er 0), aI k 6 (M 0)), ((er 1), aI k 6 (M 1)), ((er 2), aI k 6 (M 2)), ((er 3), aI k 6 (M 3)), ((er 4), aI k 6 (M 4)), ((er 5), aI k 6 (M 5))]) (st' := [.int (bI (decide (v < n))), .ref mo]) (cells' := 0) (slots' := 0) (g' := 0) (by decide) rfl rfl rfl rfl rfl ?_
  refine g_if_eq (pc := 6) C 17 (by decide) dX11_edges_6 (fun c_6 => ?_) (fun c_6 => ?_)
  · exact absurd c_6 (by simp [bI_0, hv])
  · refine g_aload_n (pc := 9) C 0 rfl rfl dX11_edges_9 ?_
    refine g_iload_n (pc := 10) C 2 rfl rfl dX11_edges_10 ?_
    refine g_callV (pc := 11) (cells := 0) (slots := 0) (g := 0) (As := [.int (nI w)]) (st := [.ref mo]) (T := TX11) (q0 := 0) C (nA := 1) rfl (c_X11_isVertex mo e0 c1 c2 c3 c4 c5 n z sw sd th w (by first | assumption | decide | omega) (by first | assumption | decide | omega)) q_272 q_273 q_271 q_246 q_270 (by decide +kernel) rfl rfl dX11_edges_11 ⟨Nat.le_of_ble_eq_true rfl, Nat.le_of_ble_eq_true rfl⟩ [0] [1, 2, 3, 4, 5, 6, 7] rfl (wr := [(e0, aR k 3 6 (fun i9 => if i9 < 6 then some (er i9) else none)), ((er 0), aI k 6 (M 0)), ((er 1), aI k 6 (M 1)), ((er 2), aI k 6 (M 2)), ((er 3), aI k 6 (M 3)), ((er 4), aI k 6 (M 4)), ((er 5), aI k 6 (M 5))]) rfl (by decide) (by decide) (by decide) (Nat.le_of_ble_eq_true rfl) ⟨Nat.le_of_ble_eq_true rfl, Nat.le_of_ble_eq_true rfl⟩ (fun rv w1 h1 => ?_)
    obtain ⟨rfl, rfl⟩ := h1
    refine G.aft [7, 0, 1, 2, 3, 4, 5, 6] (ws' := [(mo, .inr (15, [.ref e0, .ref c1, .ref c2, .ref c3, .ref c4, .ref c5, .null, .int (nI n), .int (nI z), .int sw, .int sd, .int th])), (e0, aR k 3 6 (fun i9 => if i9 < 6 then some (er i9) else none)), ((er 0), aI k 6 (M 0)), ((er 1), aI k 6 (M 1)), ((er 2), aI k 6 (M 2)), ((er 3), aI k 6 (M 3)), ((er 4), aI k 6 (M 4)), ((er 5), aI k 6 (M 5))]) (st' := [.int (bI (decide (w < n))), .ref mo]) (cells' := 0) (slots' := 0) (g' := 0) (by decide) rfl rfl rfl rfl rfl ?_
    refine g_if_ne (pc := 14) C 21 (by decide) dX11_edges_14 (fun c_14 => ?_) (fun c_14 => ?_)
    · refine g_iload_n (pc := 21) C 1 rfl rfl dX11_edges_21 ?_
      refine g_iload_n (pc := 22) C 2 rfl rfl dX11_edges_22 ?_
      refine g_icmp_eq (pc := 23) C 35 (by decide) dX11_edges_23 (fun c_23 => ?_) (fun c_23 => ?_)
      · exact absurd ((nI_eq (by omega) (by omega)).mp c_23) hvw
      · refine g_iload_n (pc := 26) C 3 rfl rfl dX11_edges_26 ?_
        refine g_iconst (pc := 27) (v := 0) C (by decide) dX11_edges_27 ?_
        refine g_iconst (pc := 28) (v := 3) C (by decide) dX11_edges_28 ?_
        refine g_callS (pc := 29) (cells := 0) (slots := 0) (g := 0) (As := [.int (nI y), .int 0, .int 3]) (st := [.ref mo]) (b := 0) C (nA := 3) rfl (c_X11_in (nI y) 0 3 ) q_247 q_248 q_246 q_245 (by decide +kernel) dX11_edges_29 ⟨Nat.le_of_ble_eq_true rfl, Nat.le_of_ble_eq_true rfl⟩ [] [0, 1, 2, 3, 4, 5, 6, 7] rfl (wr := [(mo, .inr (15, [.ref e0, .ref c1, .ref c2, .ref c3, .ref c4, .ref c5, .null, .int (nI n), .int (nI z), .int sw, .int sd, .int th])), (e0, aR k 3 6 (fun i9 => if i9 < 6 then some (er i9) else none)), ((er 0), aI k 6 (M 0)), ((er 1), aI k 6 (M 1)), ((er 2), aI k 6 (M 2)), ((er 3), aI k 6 (M 3)), ((er 4), aI k 6 (M 4)), ((er 5), aI k 6 (M 5))]) rfl (by decide) (by decide) (by decide) (Nat.le_of_ble_eq_true rfl) ⟨Nat.le_of_ble_eq_true rfl, Nat.le_of_ble_eq_true rfl⟩ (fun rv w1 h1 => ?_)
        obtain ⟨rfl, rfl⟩ := h1
        refine G.aft [0, 1, 2, 3, 4, 5, 6, 7] (ws' := [(mo, .inr (15, [.ref e0, .ref c1, .ref c2, .ref c3, .ref c4, .ref c5, .null, .int (nI n), .int (nI z), .int sw, .int sd, .int th])), (e0, aR k 3 6 (fun i9 => if i9 < 6 then some (er i9) else none)), ((er 0), aI k 6 (M 0)), ((er 1), aI k 6 (M 1)), ((er 2), aI k 6 (M 2)), ((er 3), aI k 6 (M 3)), ((er 4), aI k 6 (M 4)), ((er 5), aI k 6 (M 5))]) (st' := [.int (bI (inR (nI y) 0 3)), .ref mo]) (cells' := 0) (slots' := 0) (g' := 0) (by decide) rfl rfl rfl rfl rfl ?_
        refine g_if_ne (pc := 32) C 39 (by decide) dX11_edges_32 (fun c_32 => ?_) (fun c_32 => ?_)
        · refine g_iconst (pc := 39) (v := 0) C (by decide) dX11_edges_39 ?_
          refine g_put (pc := 40) C (T := TX11) inX11 0 rfl rfl 11 (by decide) q_265 rfl tyX11 tyX11_ok nmX11 rfl [(mo, .inr (15, [.ref e0, .ref c1, .ref c2, .ref c3, .ref c4, .ref c5, .null, .int (nI n), .int (nI z), .int sw, .int sd, .int 0])), (e0, aR k 3 6 (fun i9 => if i9 < 6 then some (er i9) else none)), ((er 0), aI k 6 (M 0)), ((er 1), aI k 6 (M 1)), ((er 2), aI k 6 (M 2)), ((er 3), aI k 6 (M 3)), ((er 4), aI k 6 (M 4)), ((er 5), aI k 6 (M 5))] (tyX11_ok 11 (by decide)) rfl (by rfl) (Nat.le_of_ble_eq_true rfl) rfl dX11_edges_40 ?_
          refine g_aload_n (pc := 43) C 0 rfl rfl dX11_edges_43 ?_
          refine g_get (pc := 44) C (T := TX11) inX11 0 rfl rfl 11 (by decide) q_265 rfl rfl dX11_edges_44 ?_
          refine g_if_le (pc := 47) C 52 (by decide) dX11_edges_47 (fun c_47 => ?_) (fun c_47 => ?_)
          · refine g_aload_n (pc := 52) C 0 rfl rfl dX11_edges_52 ?_
            refine g_get (pc := 53) C (T := TX11) inX11 0 rfl rfl 0 (by decide) q_255 rfl rfl dX11_edges_53 ?_
            refine g_iload_n (pc := 56) C 1 rfl rfl dX11_edges_56 ?_
            refine g_aald (pc := 57) C (j := v) (b := er v) 1 rfl (by omega) (by decide) rfl (if_pos (by omega)) dX11_edges_57 ?_
            refine g_iload_n (pc := 58) C 2 rfl rfl dX11_edges_58 ?_
            refine g_iald_n (pc := 59) (a := (er v)) (n := 6) (f := (M v)) C (j := w) (2 + v) (by rcases (show v = 0 ∨ v = 1 ∨ v = 2 ∨ v = 3 ∨ v = 4 ∨ v = 5 by omega) with h9 | h9 | h9 | h9 | h9 | h9 <;> rw [h9] <;> rfl) (by omega) (by first | decide | omega) rfl dX11_edges_59 ?_
            refine g_istore (pc := 60) C [(4, .int ((M v) w)), (0, .ref mo), (1, .int (nI v)), (2, .int (nI w)), (3, .int (nI y))] dX11_edges_60 (by decide) rfl ?_
            refine g_iload (pc := 62) C 0 rfl dX11_edges_62 ?_
            refine g_iload_n (pc := 64) C 4 rfl rfl dX11_edges_64 ?_
            refine g_icmp_ne (pc := 65) C 71 (by decide) dX11_edges_65 (fun c_65 => ?_) (fun c_65 => ?_)
            · refine g_aload_n (pc := 71) C 1 rfl rfl dX11_edges_71 ?_
              refine g_get (pc := 72) C (T := TX11) inX11 0 rfl rfl 0 (by decide) q_255 rfl rfl dX11_edges_72 ?_
              refine g_iload_n (pc := 75) C 2 rfl rfl dX11_edges_75 ?_
              refine g_aald (pc := 76) C (j := v) (b := er v) 1 rfl (by omega) (by decide) rfl (if_pos (by omega)) dX11_edges_76 ?_
              refine g_iload_n (pc := 77) C 3 rfl rfl dX11_edges_77 ?_
              refine g_iload_n (pc := 78) C 4 rfl rfl dX11_edges_78 ?_
              refine g_iast_n (pc := 79) (a := (er v)) (n := 6) (f := M v) C (j := w) (2 + v) [(mo, .inr (15, [.ref e0, .ref c1, .ref c2, .ref c3, .ref c4, .ref c5, .null, .int (nI n), .int (nI z), .int sw, .int sd, .int 0])), (e0, aR k 3 6 (fun i9 => if i9 < 6 then some (er i9) else none)), ((er 0), aI k 6 ((eU M v w (nI y)) 0)), ((er 1), aI k 6 ((eU M v w (nI y)) 1)), ((er 2), aI k 6 ((eU M v w (nI y)) 2)), ((er 3), aI k 6 ((eU M v w (nI y)) 3)), ((er 4), aI k 6 ((eU M v w (nI y)) 4)), ((er 5), aI k 6 ((eU M v w (nI y)) 5))] (by rcases (show v = 0 ∨ v = 1 ∨ v = 2 ∨ v = 3 ∨ v = 4 ∨ v = 5 by omega) with h9 | h9 | h9 | h9 | h9 | h9 <;> rw [h9] <;> rfl) (by omega) (by decide) rfl (by rcases (show v = 0 ∨ v = 1 ∨ v = 2 ∨ v = 3 ∨ v = 4 ∨ v = 5 by omega) with h9 | h9 | h9 | h9 | h9 | h9 <;> rw [h9] <;> rfl) dX11_edges_79 ?_
              refine g_aload_n (pc := 80) C 1 rfl rfl dX11_edges_80 ?_
              refine g_get (pc := 81) C (T := TX11) inX11 0 rfl rfl 0 (by decide) q_255 rfl rfl dX11_edges_81 ?_
              refine g_iload_n (pc := 84) C 3 rfl rfl dX11_edges_84 ?_
              refine g_aald (pc := 85) C (j := w) (b := er w) 1 rfl (by omega) (by decide) rfl (if_pos (by omega)) dX11_edges_85 ?_
              refine g_iload_n (pc := 86) C 2 rfl rfl dX11_edges_86 ?_
              refine g_iload_n (pc := 87) C 4 rfl rfl dX11_edges_87 ?_
              refine g_iast_n (pc := 88) (a := (er w)) (n := 6) (f := (eU M v w (nI y)) w) C (j := v) (2 + w) [(mo, .inr (15, [.ref e0, .ref c1, .ref c2, .ref c3, .ref c4, .ref c5, .null, .int (nI n), .int (nI z), .int sw, .int sd, .int 0])), (e0, aR k 3 6 (fun i9 => if i9 < 6 then some (er i9) else none)), ((er 0), aI k 6 ((eU (eU M v w (nI y)) w v (nI y)) 0)), ((er 1), aI k 6 ((eU (eU M v w (nI y)) w v (nI y)) 1)), ((er 2), aI k 6 ((eU (eU M v w (nI y)) w v (nI y)) 2)), ((er 3), aI k 6 ((eU (eU M v w (nI y)) w v (nI y)) 3)), ((er 4), aI k 6 ((eU (eU M v w (nI y)) w v (nI y)) 4)), ((er 5), aI k 6 ((eU (eU M v w (nI y)) w v (nI y)) 5))] (by rcases (show w = 0 ∨ w = 1 ∨ w = 2 ∨ w = 3 ∨ w = 4 ∨ w = 5 by omega) with h9 | h9 | h9 | h9 | h9 | h9 <;> rw [h9] <;> rfl) (by omega) (by decide) rfl (by rcases (show w = 0 ∨ w = 1 ∨ w = 2 ∨ w = 3 ∨ w = 4 ∨ w = 5 by omega) with h9 | h9 | h9 | h9 | h9 | h9 <;> rw [h9] <;> rfl) dX11_edges_88 ?_
              refine g_aload_n (pc := 89) C 1 rfl rfl dX11_edges_89 ?_
              refine g_callV (pc := 90) (cells := 0) (slots := 0) (g := 0) (As := []) (st := []) (T := TX11) (q0 := 0) C (nA := 0) rfl (c_X11_begin mo e0 c1 c2 c3 c4 c5 n z sw sd 0 ) q_268 q_269 q_267 q_246 q_266 (by decide +kernel) rfl rfl dX11_edges_90 ⟨Nat.le_of_ble_eq_true rfl, Nat.le_of_ble_eq_true rfl⟩ [0] [1, 2, 3, 4, 5, 6, 7] rfl (wr := [(e0, aR k 3 6 (fun i9 => if i9 < 6 then some (er i9) else none)), ((er 0), aI k 6 ((eU (eU M v w (nI y)) w v (nI y)) 0)), ((er 1), aI k 6 ((eU (eU M v w (nI y)) w v (nI y)) 1)), ((er 2), aI k 6 ((eU (eU M v w (nI y)) w v (nI y)) 2)), ((er 3), aI k 6 ((eU (eU M v w (nI y)) w v (nI y)) 3)), ((er 4), aI k 6 ((eU (eU M v w (nI y)) w v (nI y)) 4)), ((er 5), aI k 6 ((eU (eU M v w (nI y)) w v (nI y)) 5))]) rfl (by decide) (by decide) (by decide) (Nat.le_of_ble_eq_true rfl) ⟨Nat.le_of_ble_eq_true rfl, Nat.le_of_ble_eq_true rfl⟩ (fun rv w1 h1 => ?_)
              obtain ⟨rfl, q1, q2, q3, q4, q5, rfl⟩ := h1
              refine G.aft [7, 0, 1, 2, 3, 4, 5, 6, 8, 9, 10, 11, 12] (ws' := [(mo, .inr (15, [.ref e0, .ref q1, .ref q2, .ref q3, .ref q4, .ref q5, .null, .int (nI n), .int (nI z), .int 0, .int sd, .int 0])), (e0, aR k 3 6 (fun i9 => if i9 < 6 then some (er i9) else none)), ((er 0), aI k 6 ((eU (eU M v w (nI y)) w v (nI y)) 0)), ((er 1), aI k 6 ((eU (eU M v w (nI y)) w v (nI y)) 1)), ((er 2), aI k 6 ((eU (eU M v w (nI y)) w v (nI y)) 2)), ((er 3), aI k 6 ((eU (eU M v w (nI y)) w v (nI y)) 3)), ((er 4), aI k 6 ((eU (eU M v w (nI y)) w v (nI y)) 4)), ((er 5), aI k 6 ((eU (eU M v w (nI y)) w v (nI y)) 5)), (q1, aI k 6 (fun _ => 0)), (q2, aI k 6 (fun _ => 0)), (q3, aI k 6 (fun _ => 0)), (q4, aI k 6 (fun _ => 0)), (q5, aI k 6 (fun _ => 0))]) (st' := []) (cells' := 5) (slots' := 30) (g' := 5) (by decide) rfl rfl rfl rfl rfl ?_
              refine g_iload (pc := 93) C 0 rfl dX11_edges_93 ?_
              exact g_iret (pc := 95) C hr hlk (by first | decide | omega) (by first | decide | omega) (by first | decide | omega) dX11_edges_95 ⟨rfl, q1, q2, q3, q4, q5, rfl⟩
            · exact absurd c_65 hch
          · exact absurd (show (0 : Int32) ≤ 0 by decide) c_47
        · exact absurd c_32 (by rw [bI_0, show inR (nI y) 0 3 = true from inR_y (a := 0) (b := 3) (by omega) hy (by omega)]; decide)
    · exact absurd c_14 (by simp [bI_0, hw])
set_option maxRecDepth 100000 in
set_option maxHeartbeats 400000 in
theorem c_X11_put {l : Launch} {D : va_G} {k : Nat → ClassId} (mo : Nat) (e0 : Nat) (c1 : Nat) (c2 : Nat) (c3 : Nat) (c4 : Nat) (c5 : Nat) (n : Nat) (z : Nat) (sw : Int32) (sd : Int32) (th : Int32) (f : Nat → Int32) (v : Nat) (y : Nat) (hn : n ≤ 6) (hv : v < n) (hz : z < 6) (hvz : ¬ v = z) (hy1 : 1 ≤ y) (hy2 : y ≤ 200) (hs : f v + nI y ≤ 2000) : CM l D k yX11_put cX11_put 3 (some .int)  2 43 [.ref mo, .int (nI v), .int (nI y)] [(mo, .inr (15, [.ref e0, .ref c1, .ref c2, .ref c3, .ref c4, .ref c5, .null, .int (nI n), .int (nI z), .int sw, .int sd, .int th])), (c1, aI k 6 f)] (is1 (some (.int (f v + nI y))) [(mo, .inr (15, [.ref e0, .ref c1, .ref c2, .ref c3, .ref c4, .ref c5, .null, .int (nI n), .int (nI z), .int sw, .int sd, .int 0])), (c1, aI k 6 (upd f v (f v + nI y)))]) 0 0 0 := by
  refine CM.of (lv0 := [(0, .ref mo), (1, .int (nI v)), (2, .int (nI y))]) (by decide +kernel) (Nat.le_of_ble_eq_true rfl) rfl ?_
  intro p e s m below meth c C hr hlk hin had
  refine g_aload_n (pc := 0) C 0 rfl rfl dX11_put_0 ?_
  refine g_aload_n (pc := 1) C 0 rfl rfl dX11_put_1 ?_
  refine g_iload_n (pc := 2) C 1 rfl rfl dX11_put_2 ?_
  refine g_callV (pc := 3) (cells := 0) (slots := 0) (g := 0) (As := [.int (nI v)]) (st := [.ref mo]) (T := TX11) (q0 := 0) C (nA := 1) rfl (c_X11_isVertex mo e0 c1 c2 c3 c4 c5 n z sw sd th v (by first | assumption | decide | omega) (by first | assumption | decide | omega)) q_272 q_273 q_271 q_246 q_270 (by decide +kernel) rfl rfl dX11_put_3 ⟨Nat.le_of_ble_eq_true rfl, Nat.le_of_ble_eq_true rfl⟩ [0] [1] rfl (wr := [(c1, aI k 6 f)]) rfl (by decide) (by decide) (by decide) (Nat.le_of_ble_eq_true rfl) ⟨Nat.le_of_ble_eq_true rfl, Nat.le_of_ble_eq_true rfl⟩ (fun rv w1 h1 => ?_)
  obtain ⟨rfl, rfl⟩ := h1
  refine G.aft [1, 0] (ws' := [(mo, .inr (15, [.ref e0, .ref c1, .ref c2, .ref c3, .ref c4, .ref c5, .null, .int (nI n), .int (nI z), .int sw, .int sd, .int th])), (c1, aI k 6 f)]) (st' := [.int (bI (decide (v < n))), .ref mo]) (cells' := 0) (slots' := 0) (g' := 0) (by decide) rfl rfl rfl rfl rfl ?_
  refine g_if_ne (pc := 6) C 13 (by decide) dX11_put_6 (fun c_6 => ?_) (fun c_6 => ?_)
  · refine g_iload_n (pc := 13) C 2 rfl rfl dX11_put_13 ?_
    refine g_iconst (pc := 14) (v := 1) C (by decide) dX11_put_14 ?_
    refine g_sipush (pc := 15) (v := 200) C (by decide) dX11_put_15 ?_
    refine g_callS (pc := 18) (cells := 0) (slots := 0) (g := 0) (As := [.int (nI y), .int 1, .int 200]) (st := [.ref mo]) (b := 0) C (nA := 3) rfl (c_X11_in (nI y) 1 200 ) q_247 q_248 q_246 q_245 (by decide +kernel) dX11_put_18 ⟨Nat.le_of_ble_eq_true rfl, Nat.le_of_ble_eq_true rfl⟩ [] [0, 1] rfl (wr := [(mo, .inr (15, [.ref e0, .ref c1, .ref c2, .ref c3, .ref c4, .ref c5, .null, .int (nI n), .int (nI z), .int sw, .int sd, .int th])), (c1, aI k 6 f)]) rfl (by decide) (by decide) (by decide) (Nat.le_of_ble_eq_true rfl) ⟨Nat.le_of_ble_eq_true rfl, Nat.le_of_ble_eq_true rfl⟩ (fun rv w1 h1 => ?_)
    obtain ⟨rfl, rfl⟩ := h1
    refine G.aft [0, 1] (ws' := [(mo, .inr (15, [.ref e0, .ref c1, .ref c2, .ref c3, .ref c4, .ref c5, .null, .int (nI n), .int (nI z), .int sw, .int sd, .int th])), (c1, aI k 6 f)]) (st' := [.int (bI (inR (nI y) 1 200)), .ref mo]) (cells' := 0) (slots' := 0) (g' := 0) (by decide) rfl rfl rfl rfl rfl ?_
    refine g_if_ne (pc := 21) C 28 (by decide) dX11_put_21 (fun c_21 => ?_) (fun c_21 => ?_)
    · refine g_iload_n (pc := 28) C 1 rfl rfl dX11_put_28 ?_
      refine g_aload_n (pc := 29) C 0 rfl rfl dX11_put_29 ?_
      refine g_get (pc := 30) C (T := TX11) inX11 0 rfl rfl 8 (by decide) q_256 rfl rfl dX11_put_30 ?_
      refine g_icmp_eq (pc := 33) C 54 (by decide) dX11_put_33 (fun c_33 => ?_) (fun c_33 => ?_)
      · exact absurd ((nI_eq (by omega) (by omega)).mp c_33) hvz
      · refine g_aload_n (pc := 36) C 0 rfl rfl dX11_put_36 ?_
        refine g_get (pc := 37) C (T := TX11) inX11 0 rfl rfl 1 (by decide) q_249 rfl rfl dX11_put_37 ?_
        refine g_iload_n (pc := 40) C 1 rfl rfl dX11_put_40 ?_
        refine g_iald_n (pc := 41) C (j := v) 1 rfl (by omega) (by first | decide | omega) rfl dX11_put_41 ?_
        refine g_iload_n (pc := 42) C 2 rfl rfl dX11_put_42 ?_
        refine g_iadd (pc := 43) C dX11_put_43 ?_
        refine g_sipush (pc := 44) (v := 2000) C (by decide) dX11_put_44 ?_
        refine g_icmp_le (pc := 47) C 54 (by decide) dX11_put_47 (fun c_47 => ?_) (fun c_47 => ?_)
        · refine g_iconst (pc := 54) (v := 0) C (by decide) dX11_put_54 ?_
          refine g_put (pc := 55) C (T := TX11) inX11 0 rfl rfl 11 (by decide) q_265 rfl tyX11 tyX11_ok nmX11 rfl [(mo, .inr (15, [.ref e0, .ref c1, .ref c2, .ref c3, .ref c4, .ref c5, .null, .int (nI n), .int (nI z), .int sw, .int sd, .int 0])), (c1, aI k 6 f)] (tyX11_ok 11 (by decide)) rfl (by rfl) (Nat.le_of_ble_eq_true rfl) rfl dX11_put_55 ?_
          refine g_aload_n (pc := 58) C 0 rfl rfl dX11_put_58 ?_
          refine g_get (pc := 59) C (T := TX11) inX11 0 rfl rfl 11 (by decide) q_265 rfl rfl dX11_put_59 ?_
          refine g_if_le (pc := 62) C 67 (by decide) dX11_put_62 (fun c_62 => ?_) (fun c_62 => ?_)
          · refine g_iload_n (pc := 67) C 1 rfl rfl dX11_put_67 ?_
            refine g_aload_n (pc := 68) C 0 rfl rfl dX11_put_68 ?_
            refine g_get (pc := 69) C (T := TX11) inX11 0 rfl rfl 8 (by decide) q_256 rfl rfl dX11_put_69 ?_
            refine g_icmp_ne (pc := 72) C 87 (by decide) dX11_put_72 (fun c_72 => ?_) (fun c_72 => ?_)
            · refine g_aload_n (pc := 87) C 0 rfl rfl dX11_put_87 ?_
              refine g_get (pc := 88) C (T := TX11) inX11 0 rfl rfl 1 (by decide) q_249 rfl rfl dX11_put_88 ?_
              refine g_iload_n (pc := 91) C 1 rfl rfl dX11_put_91 ?_
              refine g_dup2 (pc := 92) C rfl rfl dX11_put_92 ?_
              refine g_iald_n (pc := 93) C (j := v) 1 rfl (by omega) (by first | decide | omega) rfl dX11_put_93 ?_
              refine g_iload_n (pc := 94) C 2 rfl rfl dX11_put_94 ?_
              refine g_iadd (pc := 95) C dX11_put_95 ?_
              refine g_iast_n (pc := 96) C (j := v) 1 [(mo, .inr (15, [.ref e0, .ref c1, .ref c2, .ref c3, .ref c4, .ref c5, .null, .int (nI n), .int (nI z), .int sw, .int sd, .int 0])), (c1, aI k 6 (upd f v ((f v) + (nI y))))] rfl (by omega) (by first | decide | omega) rfl rfl dX11_put_96 ?_
              refine g_aload_n (pc := 97) C 0 rfl rfl dX11_put_97 ?_
              refine g_get (pc := 98) C (T := TX11) inX11 0 rfl rfl 1 (by decide) q_249 rfl rfl dX11_put_98 ?_
              refine g_iload_n (pc := 101) C 1 rfl rfl dX11_put_101 ?_
              refine g_iald_n (pc := 102) C (j := v) 1 rfl (by omega) (by first | decide | omega) rfl dX11_put_102 ?_
              refine G.eqs (st' := [.int (f v + nI y)]) (congrArg (fun z9 => [Value.int z9]) (show (((upd f v ((f v) + (nI y))) v) : Int32) = (f v + nI y) from by simp [upd])) ?_
              exact g_iret (pc := 103) C hr hlk (by first | decide | omega) (by first | decide | omega) (by first | decide | omega) dX11_put_103 ⟨rfl, rfl⟩
            · exact absurd ((nI_eq (by omega) (by omega)).mp c_72) hvz
          · exact absurd (show (0 : Int32) ≤ 0 by decide) c_62
        · exact absurd hs c_47
    · exact absurd c_21 (by rw [bI_0, show inR (nI y) 1 200 = true from inR_y (a := 1) (b := 200) hy1 hy2 (by omega)]; decide)
  · exact absurd c_6 (by simp [bI_0, hv])
set_option maxRecDepth 100000 in
set_option maxHeartbeats 400000 in
theorem c_X11_reach_l {l : Launch} {D : va_G} {k : Nat → ClassId} (mo : Nat) (e0 : Nat) (c1 : Nat) (c2 : Nat) (c3 : Nat) (c4 : Nat) (c5 : Nat) (er : Nat → Nat) (n : Nat) (z : Nat) (sw : Int32) (sd : Int32) (th : Int32) (M : Nat → Nat → Int32) (rb : Nat) (g : Nat → Int32) (v : Nat) (hn : n ≤ 6) (hv : v < n) (hall : ∀ i, i < n → ¬ upd g v 1 i = 0) : CM l D k yX11_reach cX11_reach 4 none  0 0 [.ref mo, .int (nI v), .ref rb] [(mo, .inr (15, [.ref e0, .ref c1, .ref c2, .ref c3, .ref c4, .ref c5, .null, .int (nI n), .int (nI z), .int sw, .int sd, .int th])), (e0, aR k 3 6 (fun i9 => if i9 < 6 then some (er i9) else none)), ((er 0), aI k 6 (M 0)), ((er 1), aI k 6 (M 1)), ((er 2), aI k 6 (M 2)), ((er 3), aI k 6 (M 3)), ((er 4), aI k 6 (M 4)), ((er 5), aI k 6 (M 5)), (rb, aZ k 6 g)] (is1 none [(mo, .inr (15, [.ref e0, .ref c1, .ref c2, .ref c3, .ref c4, .ref c5, .null, .int (nI n), .int (nI z), .int sw, .int sd, .int th])), (e0, aR k 3 6 (fun i9 => if i9 < 6 then some (er i9) else none)), ((er 0), aI k 6 (M 0)), ((er 1), aI k 6 (M 1)), ((er 2), aI k 6 (M 2)), ((er 3), aI k 6 (M 3)), ((er 4), aI k 6 (M 4)), ((er 5), aI k 6 (M 5)), (rb, aZ k 6 (upd g v 1))]) 0 0 0 := by
  refine CM.of (lv0 := [(0, .ref mo), (1, .int (nI v)), (2, .ref rb)]) (by decide +kernel) (Nat.le_of_ble_eq_true rfl) rfl ?_
  intro p e s m below meth c C hr hlk hin had
  refine g_aload_n (pc := 0) C 2 rfl rfl dX11_reach_0 ?_
  refine g_iload_n (pc := 1) C 1 rfl rfl dX11_reach_1 ?_
  refine g_iconst (pc := 2) (v := 1) C (by decide) dX11_reach_2 ?_
  refine g_zast_n (pc := 3) C (j := v) 8 [(mo, .inr (15, [.ref e0, .ref c1, .ref c2, .ref c3, .ref c4, .ref c5, .null, .int (nI n), .int (nI z), .int sw, .int sd, .int th])), (e0, aR k 3 6 (fun i9 => if i9 < 6 then some (er i9) else none)), ((er 0), aI k 6 (M 0)), ((er 1), aI k 6 (M 1)), ((er 2), aI k 6 (M 2)), ((er 3), aI k 6 (M 3)), ((er 4), aI k 6 (M 4)), ((er 5), aI k 6 (M 5)), (rb, aZ k 6 (upd g v 1))] rfl (by omega) (by first | decide | omega) rfl (by first | exact bI_vp _ | rfl) rfl dX11_reach_3 ?_
  refine g_iconst (pc := 4) (v := 0) C (by decide) dX11_reach_4 ?_
  refine g_istore_n (pc := 5) C [(3, .int 0), (0, .ref mo), (1, .int (nI v)), (2, .ref rb)] rfl dX11_reach_5 (by decide) rfl ?_
  have key_6 : ∀ (fuel : Nat) (i : Nat), i ≤ n → n - i < fuel → G p l e { frames := 0, cells := 0, slots := 0, locals := 0 } s m ([.ref mo, .int (nI v), .ref rb] : List Value).toArray below meth c D 4 (va_A [(mo, .inr (15, [.ref e0, .ref c1, .ref c2, .ref c3, .ref c4, .ref c5, .null, .int (nI n), .int (nI z), .int sw, .int sd, .int th])), (e0, aR k 3 6 (fun i9 => if i9 < 6 then some (er i9) else none)), ((er 0), aI k 6 (M 0)), ((er 1), aI k 6 (M 1)), ((er 2), aI k 6 (M 2)), ((er 3), aI k 6 (M 3)), ((er 4), aI k 6 (M 4)), ((er 5), aI k 6 (M 5)), (rb, aZ k 6 g)] s.heap.size) (QM below D ([.ref mo, .int (nI v), .ref rb] : List Value).toArray s [(mo, .inr (15, [.ref e0, .ref c1, .ref c2, .ref c3, .ref c4, .ref c5, .null, .int (nI n), .int (nI z), .int sw, .int sd, .int th])), (e0, aR k 3 6 (fun i9 => if i9 < 6 then some (er i9) else none)), ((er 0), aI k 6 (M 0)), ((er 1), aI k 6 (M 1)), ((er 2), aI k 6 (M 2)), ((er 3), aI k 6 (M 3)), ((er 4), aI k 6 (M 4)), ((er 5), aI k 6 (M 5)), (rb, aZ k 6 g)] (is1 none [(mo, .inr (15, [.ref e0, .ref c1, .ref c2, .ref c3, .ref c4, .ref c5, .null, .int (nI n), .int (nI z), .int sw, .int sd, .int th])), (e0, aR k 3 6 (fun i9 => if i9 < 6 then some (er i9) else none)), ((er 0), aI k 6 (M 0)), ((er 1), aI k 6 (M 1)), ((er 2), aI k 6 (M 2)), ((er 3), aI k 6 (M 3)), ((er 4), aI k 6 (M 4)), ((er 5), aI k 6 (M 5)), (rb, aZ k 6 (upd g v 1))]) 0 0 0) [(mo, .inr (15, [.ref e0, .ref c1, .ref c2, .ref c3, .ref c4, .ref c5, .null, .int (nI n), .int (nI z), .int sw, .int sd, .int th])), (e0, aR k 3 6 (fun i9 => if i9 < 6 then some (er i9) else none)), ((er 0), aI k 6 (M 0)), ((er 1), aI k 6 (M 1)), ((er 2), aI k 6 (M 2)), ((er 3), aI k 6 (M 3)), ((er 4), aI k 6 (M 4)), ((er 5), aI k 6 (M 5)), (rb, aZ k 6 (upd g v 1))] [(0, .ref mo), (1, .int (nI v)), (2, .ref rb), (3, .int (nI i))] 0 0 0 6 [] := by
    intro fuel
    induction fuel with
    | zero => intro i hi hm; exact absurd hm (Nat.not_lt_zero _)
    | succ fuel ih =>
      intro i hi hm
      have ih_6 := ih
      refine g_iload_n (pc := 6) C 3 rfl rfl dX11_reach_6 ?_
      refine g_aload_n (pc := 7) C 0 rfl rfl dX11_reach_7 ?_
      refine g_get (pc := 8) C (T := TX11) inX11 0 rfl rfl 7 (by decide) q_244 rfl rfl dX11_reach_8 ?_
      refine g_icmp_ge (pc := 11) C 43 (by decide) dX11_reach_11 (fun c_11 => ?_) (fun c_11 => ?_)
      · exact g_vret (pc := 43) C hr hlk (by first | decide | omega) (by first | decide | omega) (by first | decide | omega) dX11_reach_43 ⟨rfl, rfl⟩
      · have hl11 : i < n := by rcases Nat.lt_or_ge i n with q | q; exact q; exact absurd (nI_le q (by omega)) c_11
        refine g_aload_n (pc := 14) C 0 rfl rfl dX11_reach_14 ?_
        refine g_get (pc := 15) C (T := TX11) inX11 0 rfl rfl 0 (by decide) q_255 rfl rfl dX11_reach_15 ?_
        refine g_iload_n (pc := 18) C 1 rfl rfl dX11_reach_18 ?_
        refine g_aald (pc := 19) C (j := v) (b := er v) 1 rfl (by omega) (by decide) rfl (if_pos (by omega)) dX11_reach_19 ?_
        refine g_iload_n (pc := 20) C 3 rfl rfl dX11_reach_20 ?_
        refine g_iald_n (pc := 21) (a := (er v)) (n := 6) (f := (M v)) C (j := i) (2 + v) (by rcases (show v = 0 ∨ v = 1 ∨ v = 2 ∨ v = 3 ∨ v = 4 ∨ v = 5 by omega) with h9 | h9 | h9 | h9 | h9 | h9 <;> rw [h9] <;> rfl) (by omega) (by first | decide | omega) rfl dX11_reach_21 ?_
        refine g_if_le (pc := 22) C 37 (by decide) dX11_reach_22 (fun c_22 => ?_) (fun c_22 => ?_)
        · refine g_iinc (pc := 37) (n := 1) (v := (nI (i + 1))) C 3 [(3, .int (nI (i + 1))), (0, .ref mo), (1, .int (nI v)), (2, .ref rb)] rfl (nI_1 i) dX11_reach_37 (by decide) rfl ?_
          refine g_goto (pc := 40) C 6 (by decide) dX11_reach_40 ?_
          refine G.loc [1, 2, 3, 0] (lv' := [(0, .ref mo), (1, .int (nI v)), (2, .ref rb), (3, .int (nI (i + 1)))]) rfl ?_
          exact ih_6 (i + 1) (by omega) (by omega)
        · refine g_aload_n (pc := 25) C 2 rfl rfl dX11_reach_25 ?_
          refine g_iload_n (pc := 26) C 3 rfl rfl dX11_reach_26 ?_
          refine g_zald_n (pc := 27) C (j := i) 8 rfl (by omega) (by first | decide | omega) rfl dX11_reach_27 ?_
          refine g_if_ne (pc := 28) C 37 (by decide) dX11_reach_28 (fun c_28 => ?_) (fun c_28 => ?_)
          · refine g_iinc (pc := 37) (n := 1) (v := (nI (i + 1))) C 3 [(3, .int (nI (i + 1))), (0, .ref mo), (1, .int (nI v)), (2, .ref rb)] rfl (nI_1 i) dX11_reach_37 (by decide) rfl ?_
            refine g_goto (pc := 40) C 6 (by decide) dX11_reach_40 ?_
            refine G.loc [1, 2, 3, 0] (lv' := [(0, .ref mo), (1, .int (nI v)), (2, .ref rb), (3, .int (nI (i + 1)))]) rfl ?_
            exact ih_6 (i + 1) (by omega) (by omega)
          · exact absurd c_28 (hall i hl11)
  refine G.loc [1, 2, 3, 0] (lv' := [(0, .ref mo), (1, .int (nI v)), (2, .ref rb), (3, .int 0)]) rfl ?_
  refine G.eql (lv' := [(0, .ref mo), (1, .int (nI v)), (2, .ref rb), (3, .int (nI 0))]) (congrArg (β := List (Nat × Value)) (fun z9 => [(0, .ref mo), (1, .int (nI v)), (2, .ref rb), (3, .int z9)]) (show (0 : Int32) = (nI 0) from by exact nI_0.symm)) ?_
  exact key_6 (n - 0 + 1) 0 (by omega) (Nat.lt_succ_self _)
/-- two vertices, one edge: what is reached, step by step -/
def rG (i : Nat) : Nat → Int32 := if i ≤ 1 then upd (fun _ => 0) 0 1 else upd (upd (fun _ => 0) 0 1) 1 1
theorem rG_2 {j : Nat} (h : j < 2) : ¬ rG 2 j = 0 := by
  rcases (show j = 0 ∨ j = 1 by omega) with rfl | rfl <;> decide
set_option maxRecDepth 100000 in
set_option maxHeartbeats 400000 in
theorem c_X11_reach_0 {l : Launch} {D : va_G} {k : Nat → ClassId} (mo : Nat) (e0 : Nat) (c1 : Nat) (c2 : Nat) (c3 : Nat) (c4 : Nat) (c5 : Nat) (er : Nat → Nat) (z : Nat) (sw : Int32) (sd : Int32) (th : Int32) (M : Nat → Nat → Int32) (rb : Nat) (h00 : M 0 0 ≤ 0) (h01 : ¬ M 0 1 ≤ 0) : CM l D k yX11_reach cX11_reach 4 none  1 23 [.ref mo, .int (nI 0), .ref rb] [(mo, .inr (15, [.ref e0, .ref c1, .ref c2, .ref c3, .ref c4, .ref c5, .null, .int (nI 2), .int (nI z), .int sw, .int sd, .int th])), (e0, aR k 3 6 (fun i9 => if i9 < 6 then some (er i9) else none)), ((er 0), aI k 6 (M 0)), ((er 1), aI k 6 (M 1)), ((er 2), aI k 6 (M 2)), ((er 3), aI k 6 (M 3)), ((er 4), aI k 6 (M 4)), ((er 5), aI k 6 (M 5)), (rb, aZ k 6 (fun _ => 0))] (is1 none [(mo, .inr (15, [.ref e0, .ref c1, .ref c2, .ref c3, .ref c4, .ref c5, .null, .int (nI 2), .int (nI z), .int sw, .int sd, .int th])), (e0, aR k 3 6 (fun i9 => if i9 < 6 then some (er i9) else none)), ((er 0), aI k 6 (M 0)), ((er 1), aI k 6 (M 1)), ((er 2), aI k 6 (M 2)), ((er 3), aI k 6 (M 3)), ((er 4), aI k 6 (M 4)), ((er 5), aI k 6 (M 5)), (rb, aZ k 6 (rG 2))]) 0 0 0 := by
  refine CM.of (lv0 := [(0, .ref mo), (1, .int (nI 0)), (2, .ref rb)]) (by decide +kernel) (Nat.le_of_ble_eq_true rfl) rfl ?_
  intro p e s m below meth c C hr hlk hin had
  refine g_aload_n (pc := 0) C 2 rfl rfl dX11_reach_0 ?_
  refine g_iload_n (pc := 1) C 1 rfl rfl dX11_reach_1 ?_
  refine g_iconst (pc := 2) (v := 1) C (by decide) dX11_reach_2 ?_
  refine g_zast_n (pc := 3) C (j := 0) 8 [(mo, .inr (15, [.ref e0, .ref c1, .ref c2, .ref c3, .ref c4, .ref c5, .null, .int (nI 2), .int (nI z), .int sw, .int sd, .int th])), (e0, aR k 3 6 (fun i9 => if i9 < 6 then some (er i9) else none)), ((er 0), aI k 6 (M 0)), ((er 1), aI k 6 (M 1)), ((er 2), aI k 6 (M 2)), ((er 3), aI k 6 (M 3)), ((er 4), aI k 6 (M 4)), ((er 5), aI k 6 (M 5)), (rb, aZ k 6 (upd (fun _ => 0) 0 1))] rfl (by omega) (by first | decide | omega) rfl (by first | exact bI_vp _ | rfl) rfl dX11_reach_3 ?_
  refine g_iconst (pc := 4) (v := 0) C (by decide) dX11_reach_4 ?_
  refine g_istore_n (pc := 5) C [(3, .int 0), (0, .ref mo), (1, .int (nI 0)), (2, .ref rb)] rfl dX11_reach_5 (by decide) rfl ?_
  have key_6 : ∀ (fuel : Nat) (i : Nat), i ≤ 2 → 2 - i < fuel → G p l e { frames := 1, cells := 0, slots := 0, locals := 23 } s m ([.ref mo, .int (nI 0), .ref rb] : List Value).toArray below meth c D 4 (va_A [(mo, .inr (15, [.ref e0, .ref c1, .ref c2, .ref c3, .ref c4, .ref c5, .null, .int (nI 2), .int (nI z), .int sw, .int sd, .int th])), (e0, aR k 3 6 (fun i9 => if i9 < 6 then some (er i9) else none)), ((er 0), aI k 6 (M 0)), ((er 1), aI k 6 (M 1)), ((er 2), aI k 6 (M 2)), ((er 3), aI k 6 (M 3)), ((er 4), aI k 6 (M 4)), ((er 5), aI k 6 (M 5)), (rb, aZ k 6 (fun _ => 0))] s.heap.size) (QM below D ([.ref mo, .int (nI 0), .ref rb] : List Value).toArray s [(mo, .inr (15, [.ref e0, .ref c1, .ref c2, .ref c3, .ref c4, .ref c5, .null, .int (nI 2), .int (nI z), .int sw, .int sd, .int th])), (e0, aR k 3 6 (fun i9 => if i9 < 6 then some (er i9) else none)), ((er 0), aI k 6 (M 0)), ((er 1), aI k 6 (M 1)), ((er 2), aI k 6 (M 2)), ((er 3), aI k 6 (M 3)), ((er 4), aI k 6 (M 4)), ((er 5), aI k 6 (M 5)), (rb, aZ k 6 (fun _ => 0))] (is1 none [(mo, .inr (15, [.ref e0, .ref c1, .ref c2, .ref c3, .ref c4, .ref c5, .null, .int (nI 2), .int (nI z), .int sw, .int sd, .int th])), (e0, aR k 3 6 (fun i9 => if i9 < 6 then some (er i9) else none)), ((er 0), aI k 6 (M 0)), ((er 1), aI k 6 (M 1)), ((er 2), aI k 6 (M 2)), ((er 3), aI k 6 (M 3)), ((er 4), aI k 6 (M 4)), ((er 5), aI k 6 (M 5)), (rb, aZ k 6 (rG 2))]) 0 0 0) [(mo, .inr (15, [.ref e0, .ref c1, .ref c2, .ref c3, .ref c4, .ref c5, .null, .int (nI 2), .int (nI z), .int sw, .int sd, .int th])), (e0, aR k 3 6 (fun i9 => if i9 < 6 then some (er i9) else none)), ((er 0), aI k 6 (M 0)), ((er 1), aI k 6 (M 1)), ((er 2), aI k 6 (M 2)), ((er 3), aI k 6 (M 3)), ((er 4), aI k 6 (M 4)), ((er 5), aI k 6 (M 5)), (rb, aZ k 6 (rG i))] [(0, .ref mo), (1, .int (nI 0)), (2, .ref rb), (3, .int (nI i))] 0 0 0 6 [] := by
    intro fuel
    induction fuel with
    | zero => intro i hi hm; exact absurd hm (Nat.not_lt_zero _)
    | succ fuel ih =>
      intro i hi hm
      have ih_6 := ih
      refine g_iload_n (pc := 6) C 3 rfl rfl dX11_reach_6 ?_
      refine g_aload_n (pc := 7) C 0 rfl rfl dX11_reach_7 ?_
      refine g_get (pc := 8) C (T := TX11) inX11 0 rfl rfl 7 (by decide) q_244 rfl rfl dX11_reach_8 ?_
      refine g_icmp_ge (pc := 11) C 43 (by decide) dX11_reach_11 (fun c_11 => ?_) (fun c_11 => ?_)
      · refine G.fn (rG 2) 8 [(mo, .inr (15, [.ref e0, .ref c1, .ref c2, .ref c3, .ref c4, .ref c5, .null, .int (nI 2), .int (nI z), .int sw, .int sd, .int th])), (e0, aR k 3 6 (fun i9 => if i9 < 6 then some (er i9) else none)), ((er 0), aI k 6 (M 0)), ((er 1), aI k 6 (M 1)), ((er 2), aI k 6 (M 2)), ((er 3), aI k 6 (M 3)), ((er 4), aI k 6 (M 4)), ((er 5), aI k 6 (M 5)), (rb, aZ k 6 (rG 2))] rfl (fun j hj => by { have h3 : i = 2 := (by { rcases Nat.lt_or_ge i 2 with q | q; exact absurd c_11 (nI_ge q (by omega)); omega }); rw [h3] }) rfl ?_
        exact g_vret (pc := 43) C hr hlk (by first | decide | omega) (by first | decide | omega) (by first | decide | omega) dX11_reach_43 ⟨rfl, rfl⟩
      · have hl11 : i < 2 := by rcases Nat.lt_or_ge i 2 with q | q; exact q; exact absurd (nI_le q (by omega)) c_11
        refine g_aload_n (pc := 14) C 0 rfl rfl dX11_reach_14 ?_
        refine g_get (pc := 15) C (T := TX11) inX11 0 rfl rfl 0 (by decide) q_255 rfl rfl dX11_reach_15 ?_
        refine g_iload_n (pc := 18) C 1 rfl rfl dX11_reach_18 ?_
        refine g_aald (pc := 19) C (j := 0) (b := er 0) 1 rfl (by omega) (by decide) rfl (if_pos (by omega)) dX11_reach_19 ?_
        refine g_iload_n (pc := 20) C 3 rfl rfl dX11_reach_20 ?_
        refine g_iald_n (pc := 21) (a := (er 0)) (n := 6) (f := (M 0)) C (j := i) 2 rfl (by omega) (by first | decide | omega) rfl dX11_reach_21 ?_
        refine g_if_le (pc := 22) C 37 (by decide) dX11_reach_22 (fun c_22 => ?_) (fun c_22 => ?_)
        · have h5 : i = 0 := by { rcases (show i = 0 ∨ i = 1 by omega) with q | q; exact q; rw [q] at c_22; exact absurd c_22 h01 }
          refine g_iinc (pc := 37) (n := 1) (v := (nI (i + 1))) C 3 [(3, .int (nI (i + 1))), (0, .ref mo), (1, .int (nI 0)), (2, .ref rb)] rfl (nI_1 i) dX11_reach_37 (by decide) rfl ?_
          refine g_goto (pc := 40) C 6 (by decide) dX11_reach_40 ?_
          refine G.loc [1, 2, 3, 0] (lv' := [(0, .ref mo), (1, .int (nI 0)), (2, .ref rb), (3, .int (nI (i + 1)))]) rfl ?_
          refine G.fn (rG (i + 1)) 8 [(mo, .inr (15, [.ref e0, .ref c1, .ref c2, .ref c3, .ref c4, .ref c5, .null, .int (nI 2), .int (nI z), .int sw, .int sd, .int th])), (e0, aR k 3 6 (fun i9 => if i9 < 6 then some (er i9) else none)), ((er 0), aI k 6 (M 0)), ((er 1), aI k 6 (M 1)), ((er 2), aI k 6 (M 2)), ((er 3), aI k 6 (M 3)), ((er 4), aI k 6 (M 4)), ((er 5), aI k 6 (M 5)), (rb, aZ k 6 (rG (i + 1)))] rfl (fun j hj => by { rw [h5]; rfl }) rfl ?_
          exact ih_6 (i + 1) (by omega) (by omega)
        · have h5 : i = 1 := by { rcases (show i = 0 ∨ i = 1 by omega) with q | q; rw [q] at c_22; exact absurd h00 c_22; exact q }
          refine g_aload_n (pc := 25) C 2 rfl rfl dX11_reach_25 ?_
          refine g_iload_n (pc := 26) C 3 rfl rfl dX11_reach_26 ?_
          refine g_zald_n (pc := 27) C (j := i) 8 rfl (by omega) (by first | decide | omega) rfl dX11_reach_27 ?_
          refine g_if_ne (pc := 28) C 37 (by decide) dX11_reach_28 (fun c_28 => ?_) (fun c_28 => ?_)
          · exact absurd (show rG i i = 0 by rw [h5]; rfl) c_28
          · refine g_aload_n (pc := 31) C 0 rfl rfl dX11_reach_31 ?_
            refine g_iload_n (pc := 32) C 3 rfl rfl dX11_reach_32 ?_
            refine g_aload_n (pc := 33) C 2 rfl rfl dX11_reach_33 ?_
            refine g_callV (pc := 34) (cells := 0) (slots := 0) (g := 0) (As := [.int (nI i), .ref rb]) (st := []) (T := TX11) (q0 := 0) C (nA := 2) rfl (c_X11_reach_l mo e0 c1 c2 c3 c4 c5 er 2 z sw sd th M rb (rG i) i (by first | assumption | decide | omega) (by first | assumption | decide | omega) (by rw [h5]; intro j hj; rcases (show j = 0 ∨ j = 1 by omega) with q | q <;> rw [q] <;> decide)) q_276 q_277 q_275 q_246 q_274 (by decide +kernel) rfl rfl dX11_reach_34 ⟨Nat.le_of_ble_eq_true rfl, Nat.le_of_ble_eq_true rfl⟩ [0, 1, 2, 3, 4, 5, 6, 7, 8] [] rfl (wr := []) rfl (by decide) (by decide) (by decide) (Nat.le_of_ble_eq_true rfl) ⟨Nat.le_of_ble_eq_true rfl, Nat.le_of_ble_eq_true rfl⟩ (fun rv w1 h1 => ?_)
            obtain ⟨rfl, rfl⟩ := h1
            refine G.aft [0, 1, 2, 3, 4, 5, 6, 7, 8] (ws' := [(mo, .inr (15, [.ref e0, .ref c1, .ref c2, .ref c3, .ref c4, .ref c5, .null, .int (nI 2), .int (nI z), .int sw, .int sd, .int th])), (e0, aR k 3 6 (fun i9 => if i9 < 6 then some (er i9) else none)), ((er 0), aI k 6 (M 0)), ((er 1), aI k 6 (M 1)), ((er 2), aI k 6 (M 2)), ((er 3), aI k 6 (M 3)), ((er 4), aI k 6 (M 4)), ((er 5), aI k 6 (M 5)), (rb, aZ k 6 (upd (rG i) i 1))]) (st' := []) (cells' := 0) (slots' := 0) (g' := 0) (by decide) rfl rfl rfl rfl rfl ?_
            refine g_iinc (pc := 37) (n := 1) (v := (nI (i + 1))) C 3 [(3, .int (nI (i + 1))), (0, .ref mo), (1, .int (nI 0)), (2, .ref rb)] rfl (nI_1 i) dX11_reach_37 (by decide) rfl ?_
            refine g_goto (pc := 40) C 6 (by decide) dX11_reach_40 ?_
            refine G.loc [1, 2, 3, 0] (lv' := [(0, .ref mo), (1, .int (nI 0)), (2, .ref rb), (3, .int (nI (i + 1)))]) rfl ?_
            refine G.fn (rG (i + 1)) 8 [(mo, .inr (15, [.ref e0, .ref c1, .ref c2, .ref c3, .ref c4, .ref c5, .null, .int (nI 2), .int (nI z), .int sw, .int sd, .int th])), (e0, aR k 3 6 (fun i9 => if i9 < 6 then some (er i9) else none)), ((er 0), aI k 6 (M 0)), ((er 1), aI k 6 (M 1)), ((er 2), aI k 6 (M 2)), ((er 3), aI k 6 (M 3)), ((er 4), aI k 6 (M 4)), ((er 5), aI k 6 (M 5)), (rb, aZ k 6 (rG (i + 1)))] rfl (fun j hj => by { rw [h5]; rfl }) rfl ?_
            exact ih_6 (i + 1) (by omega) (by omega)
  refine G.loc [1, 2, 3, 0] (lv' := [(0, .ref mo), (1, .int (nI 0)), (2, .ref rb), (3, .int 0)]) rfl ?_
  refine G.fn (rG 0) 8 [(mo, .inr (15, [.ref e0, .ref c1, .ref c2, .ref c3, .ref c4, .ref c5, .null, .int (nI 2), .int (nI z), .int sw, .int sd, .int th])), (e0, aR k 3 6 (fun i9 => if i9 < 6 then some (er i9) else none)), ((er 0), aI k 6 (M 0)), ((er 1), aI k 6 (M 1)), ((er 2), aI k 6 (M 2)), ((er 3), aI k 6 (M 3)), ((er 4), aI k 6 (M 4)), ((er 5), aI k 6 (M 5)), (rb, aZ k 6 (rG 0))] rfl (fun j hj => by rfl) rfl ?_
  refine G.eql (lv' := [(0, .ref mo), (1, .int (nI 0)), (2, .ref rb), (3, .int (nI 0))]) (congrArg (β := List (Nat × Value)) (fun z9 => [(0, .ref mo), (1, .int (nI 0)), (2, .ref rb), (3, .int z9)]) (show (0 : Int32) = (nI 0) from by exact nI_0.symm)) ?_
  exact key_6 (2 - 0 + 1) 0 (by omega) (Nat.lt_succ_self _)
set_option maxRecDepth 100000 in
set_option maxHeartbeats 400000 in
theorem c_X11_whole_2 {l : Launch} {D : va_G} {k : Nat → ClassId} (mo : Nat) (e0 : Nat) (c1 : Nat) (c2 : Nat) (c3 : Nat) (c4 : Nat) (c5 : Nat) (er : Nat → Nat) (z : Nat) (sw : Int32) (sd : Int32) (th : Int32) (M : Nat → Nat → Int32) (h00 : M 0 0 ≤ 0) (h01 : ¬ M 0 1 ≤ 0) : CM l D k yX11_whole cX11_whole 3 (some .boolean)  2 46 [.ref mo] [(mo, .inr (15, [.ref e0, .ref c1, .ref c2, .ref c3, .ref c4, .ref c5, .null, .int (nI 2), .int (nI z), .int sw, .int sd, .int th])), (e0, aR k 3 6 (fun i9 => if i9 < 6 then some (er i9) else none)), ((er 0), aI k 6 (M 0)), ((er 1), aI k 6 (M 1)), ((er 2), aI k 6 (M 2)), ((er 3), aI k 6 (M 3)), ((er 4), aI k 6 (M 4)), ((er 5), aI k 6 (M 5))] (is1 (some (.int 1)) [(mo, .inr (15, [.ref e0, .ref c1, .ref c2, .ref c3, .ref c4, .ref c5, .null, .int (nI 2), .int (nI z), .int sw, .int sd, .int th])), (e0, aR k 3 6 (fun i9 => if i9 < 6 then some (er i9) else none)), ((er 0), aI k 6 (M 0)), ((er 1), aI k 6 (M 1)), ((er 2), aI k 6 (M 2)), ((er 3), aI k 6 (M 3)), ((er 4), aI k 6 (M 4)), ((er 5), aI k 6 (M 5))]) 1 6 1 := by
  refine CM.of (lv0 := [(0, .ref mo)]) (by decide +kernel) (Nat.le_of_ble_eq_true rfl) rfl ?_
  intro p e s m below meth c C hr hlk hin had
  refine g_aload_n (pc := 0) C 0 rfl rfl dX11_whole_0 ?_
  refine g_get (pc := 1) C (T := TX11) inX11 0 rfl rfl 7 (by decide) q_244 rfl rfl dX11_whole_1 ?_
  refine g_iconst (pc := 4) (v := 2) C (by decide) dX11_whole_4 ?_
  refine g_icmp_ge (pc := 5) C 10 (by decide) dX11_whole_5 (fun c_5 => ?_) (fun c_5 => ?_)
  · refine g_bipush (pc := 10) (v := 6) C (by decide) dX11_whole_10 ?_
    refine g_newZ (pc := 12) (cells := 0) (slots := 0) (g := 0) C 6 q_278 (by decide) (by decide) (Nat.le_of_ble_eq_true rfl) (Nat.le_of_ble_eq_true rfl) (Nat.le_of_ble_eq_true rfl) dX11_whole_12 (fun q1 => ?_)
    refine G.eqw (ws' := [(mo, .inr (15, [.ref e0, .ref c1, .ref c2, .ref c3, .ref c4, .ref c5, .null, .int (nI 2), .int (nI z), .int sw, .int sd, .int th])), (e0, aR k 3 6 (fun i9 => if i9 < 6 then some (er i9) else none)), ((er 0), aI k 6 (M 0)), ((er 1), aI k 6 (M 1)), ((er 2), aI k 6 (M 2)), ((er 3), aI k 6 (M 3)), ((er 4), aI k 6 (M 4)), ((er 5), aI k 6 (M 5)), (q1, aZ k 6 (fun _ => 0))]) rfl ?_
    refine g_astore_n (pc := 14) C [(1, .ref q1), (0, .ref mo)] rfl dX11_whole_14 (by decide) rfl ?_
    refine g_aload_n (pc := 15) C 1 rfl rfl dX11_whole_15 ?_
    refine g_iconst (pc := 16) (v := 0) C (by decide) dX11_whole_16 ?_
    refine G.eqs (st' := [.int (nI 0), .ref mo]) (congrArg (β := List Value) (fun z9 => [.int z9, .ref mo]) (show (0 : Int32) = (nI 0) from rfl)) ?_
    refine g_aload_n (pc := 17) C 0 rfl rfl dX11_whole_17 ?_
    refine g_callV (pc := 18) (cells := 1) (slots := 6) (g := 1) (As := [.int (nI 0), .ref q1]) (st := []) (T := TX11) (q0 := 0) C (nA := 2) rfl (c_X11_reach_0 mo e0 c1 c2 c3 c4 c5 er z sw sd th M q1 (by first | assumption | decide | omega) (by first | assumption | decide | omega)) q_276 q_277 q_275 q_246 q_274 (by decide +kernel) rfl rfl dX11_whole_18 ⟨Nat.le_of_ble_eq_true rfl, Nat.le_of_ble_eq_true rfl⟩ [0, 1, 2, 3, 4, 5, 6, 7, 8] [] rfl (wr := []) rfl (by decide) (by decide) (by decide) (Nat.le_of_ble_eq_true rfl) ⟨Nat.le_of_ble_eq_true rfl, Nat.le_of_ble_eq_true rfl⟩ (fun rv w1 h1 => ?_)
    obtain ⟨rfl, rfl⟩ := h1
    refine G.aft [0, 1, 2, 3, 4, 5, 6, 7, 8] (ws' := [(mo, .inr (15, [.ref e0, .ref c1, .ref c2, .ref c3, .ref c4, .ref c5, .null, .int (nI 2), .int (nI z), .int sw, .int sd, .int th])), (e0, aR k 3 6 (fun i9 => if i9 < 6 then some (er i9) else none)), ((er 0), aI k 6 (M 0)), ((er 1), aI k 6 (M 1)), ((er 2), aI k 6 (M 2)), ((er 3), aI k 6 (M 3)), ((er 4), aI k 6 (M 4)), ((er 5), aI k 6 (M 5)), (q1, aZ k 6 (rG 2))]) (st' := []) (cells' := 1) (slots' := 6) (g' := 1) (by decide) rfl rfl rfl rfl rfl ?_
    refine g_iconst (pc := 21) (v := 0) C (by decide) dX11_whole_21 ?_
    refine g_istore_n (pc := 22) C [(2, .int 0), (1, .ref q1), (0, .ref mo)] rfl dX11_whole_22 (by decide) rfl ?_
    have key_23 : ∀ (fuel : Nat) (i : Nat), i ≤ 2 → 2 - i < fuel → G p l e { frames := 2, cells := 1, slots := 6, locals := 46 } s m ([.ref mo] : List Value).toArray below meth c D 3 (va_A [(mo, .inr (15, [.ref e0, .ref c1, .ref c2, .ref c3, .ref c4, .ref c5, .null, .int (nI 2), .int (nI z), .int sw, .int sd, .int th])), (e0, aR k 3 6 (fun i9 => if i9 < 6 then some (er i9) else none)), ((er 0), aI k 6 (M 0)), ((er 1), aI k 6 (M 1)), ((er 2), aI k 6 (M 2)), ((er 3), aI k 6 (M 3)), ((er 4), aI k 6 (M 4)), ((er 5), aI k 6 (M 5))] s.heap.size) (QM below D ([.ref mo] : List Value).toArray s [(mo, .inr (15, [.ref e0, .ref c1, .ref c2, .ref c3, .ref c4, .ref c5, .null, .int (nI 2), .int (nI z), .int sw, .int sd, .int th])), (e0, aR k 3 6 (fun i9 => if i9 < 6 then some (er i9) else none)), ((er 0), aI k 6 (M 0)), ((er 1), aI k 6 (M 1)), ((er 2), aI k 6 (M 2)), ((er 3), aI k 6 (M 3)), ((er 4), aI k 6 (M 4)), ((er 5), aI k 6 (M 5))] (is1 (some (.int 1)) [(mo, .inr (15, [.ref e0, .ref c1, .ref c2, .ref c3, .ref c4, .ref c5, .null, .int (nI 2), .int (nI z), .int sw, .int sd, .int th])), (e0, aR k 3 6 (fun i9 => if i9 < 6 then some (er i9) else none)), ((er 0), aI k 6 (M 0)), ((er 1), aI k 6 (M 1)), ((er 2), aI k 6 (M 2)), ((er 3), aI k 6 (M 3)), ((er 4), aI k 6 (M 4)), ((er 5), aI k 6 (M 5))]) 1 6 1) [(mo, .inr (15, [.ref e0, .ref c1, .ref c2, .ref c3, .ref c4, .ref c5, .null, .int (nI 2), .int (nI z), .int sw, .int sd, .int th])), (e0, aR k 3 6 (fun i9 => if i9 < 6 then some (er i9) else none)), ((er 0), aI k 6 (M 0)), ((er 1), aI k 6 (M 1)), ((er 2), aI k 6 (M 2)), ((er 3), aI k 6 (M 3)), ((er 4), aI k 6 (M 4)), ((er 5), aI k 6 (M 5)), (q1, aZ k 6 (rG 2))] [(0, .ref mo), (1, .ref q1), (2, .int (nI i))] 1 6 1 23 [] := by
      intro fuel
      induction fuel with
      | zero => intro i hi hm; exact absurd hm (Nat.not_lt_zero _)
      | succ fuel ih =>
        intro i hi hm
        have ih_23 := ih
        refine g_iload_n (pc := 23) C 2 rfl rfl dX11_whole_23 ?_
        refine g_aload_n (pc := 24) C 0 rfl rfl dX11_whole_24 ?_
        refine g_get (pc := 25) C (T := TX11) inX11 0 rfl rfl 7 (by decide) q_244 rfl rfl dX11_whole_25 ?_
        refine g_icmp_ge (pc := 28) C 45 (by decide) dX11_whole_28 (fun c_28 => ?_) (fun c_28 => ?_)
        · refine g_iconst (pc := 45) (v := 1) C (by decide) dX11_whole_45 ?_
          refine G.re [0, 1, 2, 3, 4, 5, 6, 7] (ws' := [(mo, .inr (15, [.ref e0, .ref c1, .ref c2, .ref c3, .ref c4, .ref c5, .null, .int (nI 2), .int (nI z), .int sw, .int sd, .int th])), (e0, aR k 3 6 (fun i9 => if i9 < 6 then some (er i9) else none)), ((er 0), aI k 6 (M 0)), ((er 1), aI k 6 (M 1)), ((er 2), aI k 6 (M 2)), ((er 3), aI k 6 (M 3)), ((er 4), aI k 6 (M 4)), ((er 5), aI k 6 (M 5))]) (by decide) rfl ?_
          exact g_zret (pc := 46) C hr rfl hlk (by first | decide | omega) (by first | decide | omega) (by first | decide | omega) dX11_whole_46 ⟨rfl, rfl⟩
        · have hl28 : i < 2 := by rcases Nat.lt_or_ge i 2 with q | q; exact q; exact absurd (nI_le q (by omega)) c_28
          refine g_aload_n (pc := 31) C 1 rfl rfl dX11_whole_31 ?_
          refine g_iload_n (pc := 32) C 2 rfl rfl dX11_whole_32 ?_
          refine g_zald_n (pc := 33) C (j := i) 8 rfl (by omega) (by first | decide | omega) rfl dX11_whole_33 ?_
          refine g_if_ne (pc := 34) C 39 (by decide) dX11_whole_34 (fun c_34 => ?_) (fun c_34 => ?_)
          · refine g_iinc (pc := 39) (n := 1) (v := (nI (i + 1))) C 2 [(2, .int (nI (i + 1))), (0, .ref mo), (1, .ref q1)] rfl (nI_1 i) dX11_whole_39 (by decide) rfl ?_
            refine g_goto (pc := 42) C 23 (by decide) dX11_whole_42 ?_
            refine G.loc [1, 2, 0] (lv' := [(0, .ref mo), (1, .ref q1), (2, .int (nI (i + 1)))]) rfl ?_
            exact ih_23 (i + 1) (by omega) (by omega)
          · exact absurd c_34 (rG_2 hl28)
    refine G.loc [2, 1, 0] (lv' := [(0, .ref mo), (1, .ref q1), (2, .int 0)]) rfl ?_
    refine G.eql (lv' := [(0, .ref mo), (1, .ref q1), (2, .int (nI 0))]) (congrArg (β := List (Nat × Value)) (fun z9 => [(0, .ref mo), (1, .ref q1), (2, .int z9)]) (show (0 : Int32) = (nI 0) from by exact nI_0.symm)) ?_
    exact key_23 (2 - 0 + 1) 0 (by omega) (Nat.lt_succ_self _)
  · exact absurd (show nI 2 ≤ nI 2 from nI_le (by omega) (by omega)) c_5
set_option maxRecDepth 100000 in
set_option maxHeartbeats 400000 in
theorem c_X11_wrongWhole_2 {l : Launch} {D : va_G} {k : Nat → ClassId} (mo : Nat) (e0 : Nat) (c1 : Nat) (c2 : Nat) (c3 : Nat) (c4 : Nat) (c5 : Nat) (er : Nat → Nat) (z : Nat) (sw : Int32) (sd : Int32) (th : Int32) (M : Nat → Nat → Int32) (h00 : M 0 0 ≤ 0) (h01 : ¬ M 0 1 ≤ 0) : CM l D k yX11_wrongWhole cX11_wrongWhole 1 (some .int)  3 68 [.ref mo] [(mo, .inr (15, [.ref e0, .ref c1, .ref c2, .ref c3, .ref c4, .ref c5, .null, .int (nI 2), .int (nI z), .int sw, .int sd, .int th])), (e0, aR k 3 6 (fun i9 => if i9 < 6 then some (er i9) else none)), ((er 0), aI k 6 (M 0)), ((er 1), aI k 6 (M 1)), ((er 2), aI k 6 (M 2)), ((er 3), aI k 6 (M 3)), ((er 4), aI k 6 (M 4)), ((er 5), aI k 6 (M 5))] (is1 (some (.int 0)) [(mo, .inr (15, [.ref e0, .ref c1, .ref c2, .ref c3, .ref c4, .ref c5, .null, .int (nI 2), .int (nI z), .int sw, .int sd, .int 0])), (e0, aR k 3 6 (fun i9 => if i9 < 6 then some (er i9) else none)), ((er 0), aI k 6 (M 0)), ((er 1), aI k 6 (M 1)), ((er 2), aI k 6 (M 2)), ((er 3), aI k 6 (M 3)), ((er 4), aI k 6 (M 4)), ((er 5), aI k 6 (M 5))]) 1 6 1 := by
  refine CM.of (lv0 := [(0, .ref mo)]) (by decide +kernel) (Nat.le_of_ble_eq_true rfl) rfl ?_
  intro p e s m below meth c C hr hlk hin had
  refine g_aload_n (pc := 0) C 0 rfl rfl dX11_wrongWhole_0 ?_
  refine g_aload_n (pc := 1) C 0 rfl rfl dX11_wrongWhole_1 ?_
  refine g_callV (pc := 2) (cells := 0) (slots := 0) (g := 0) (As := []) (st := [.ref mo]) (T := TX11) (q0 := 0) C (nA := 0) rfl (c_X11_whole_2 mo e0 c1 c2 c3 c4 c5 er z sw sd th M (by first | assumption | decide | omega) (by first | assumption | decide | omega)) q_281 q_282 q_280 q_246 q_279 (by decide +kernel) rfl rfl dX11_wrongWhole_2 ⟨Nat.le_of_ble_eq_true rfl, Nat.le_of_ble_eq_true rfl⟩ [0, 1, 2, 3, 4, 5, 6, 7] [] rfl (wr := []) rfl (by decide) (by decide) (by decide) (Nat.le_of_ble_eq_true rfl) ⟨Nat.le_of_ble_eq_true rfl, Nat.le_of_ble_eq_true rfl⟩ (fun rv w1 h1 => ?_)
  obtain ⟨rfl, rfl⟩ := h1
  refine G.aft [0, 1, 2, 3, 4, 5, 6, 7] (ws' := [(mo, .inr (15, [.ref e0, .ref c1, .ref c2, .ref c3, .ref c4, .ref c5, .null, .int (nI 2), .int (nI z), .int sw, .int sd, .int th])), (e0, aR k 3 6 (fun i9 => if i9 < 6 then some (er i9) else none)), ((er 0), aI k 6 (M 0)), ((er 1), aI k 6 (M 1)), ((er 2), aI k 6 (M 2)), ((er 3), aI k 6 (M 3)), ((er 4), aI k 6 (M 4)), ((er 5), aI k 6 (M 5))]) (st' := [.int 1, .ref mo]) (cells' := 1) (slots' := 6) (g' := 1) (by decide) rfl rfl rfl rfl rfl ?_
  refine g_if_eq (pc := 5) C 12 (by decide) dX11_wrongWhole_5 (fun c_5 => ?_) (fun c_5 => ?_)
  · exact absurd c_5 (by decide)
  · refine g_iconst (pc := 8) (v := 0) C (by decide) dX11_wrongWhole_8 ?_
    refine g_goto (pc := 9) C 13 (by decide) dX11_wrongWhole_9 ?_
    refine g_put (pc := 13) C (T := TX11) inX11 0 rfl rfl 11 (by decide) q_265 rfl tyX11 tyX11_ok nmX11 rfl [(mo, .inr (15, [.ref e0, .ref c1, .ref c2, .ref c3, .ref c4, .ref c5, .null, .int (nI 2), .int (nI z), .int sw, .int sd, .int 0])), (e0, aR k 3 6 (fun i9 => if i9 < 6 then some (er i9) else none)), ((er 0), aI k 6 (M 0)), ((er 1), aI k 6 (M 1)), ((er 2), aI k 6 (M 2)), ((er 3), aI k 6 (M 3)), ((er 4), aI k 6 (M 4)), ((er 5), aI k 6 (M 5))] (tyX11_ok 11 (by decide)) rfl (by rfl) (Nat.le_of_ble_eq_true rfl) rfl dX11_wrongWhole_13 ?_
    refine g_aload_n (pc := 16) C 0 rfl rfl dX11_wrongWhole_16 ?_
    refine g_get (pc := 17) C (T := TX11) inX11 0 rfl rfl 11 (by decide) q_265 rfl rfl dX11_wrongWhole_17 ?_
    exact g_iret (pc := 20) C hr hlk (by first | decide | omega) (by first | decide | omega) (by first | decide | omega) dX11_wrongWhole_20 ⟨rfl, rfl⟩
/-- the reference's wave: who can, whether any, what then is -/
def rwA (z : Nat) (M : Nat → Nat → Int32) (f : Nat → Int32) : Nat → (Nat → Int32)
  | 0 => fun _ => 0
  | v + 1 => upd (rwA z M f v) v (bI (rCan z M f v))
def rwM (z : Nat) (M : Nat → Nat → Int32) (f : Nat → Int32) : Nat → Int32
  | 0 => 0
  | v + 1 => rwM z M f v ||| upd (rwA z M f v) v (bI (rCan z M f v)) v
def rwS (n : Nat) (M : Nat → Nat → Int32) (f A : Nat → Int32) : Nat → (Nat → Int32)
  | 0 => f
  | v + 1 => if A v = 0 then rwS n M f A v else rTp M 1 v (rwS n M f A v) n
def rwI (n z : Nat) (M : Nat → Nat → Int32) (f : Nat → Int32) : Nat → (Nat → Int32)
  | 0 => f
  | i + 1 => rwS n M (rwI n z M f i) (rwA z M (rwI n z M f i) n) n
def rwB (n z : Nat) (M : Nat → Nat → Int32) (f : Nat → Int32) : Nat → Int32
  | 0 => 1
  | i + 1 => rwM z M (rwI n z M f i) n
set_option maxRecDepth 100000 in
set_option maxHeartbeats 400000 in
theorem c_X11_waves_2 {l : Launch} {D : va_G} {k : Nat → ClassId} (mo : Nat) (e0 : Nat) (c1 : Nat) (c2 : Nat) (c3 : Nat) (c4 : Nat) (c5 : Nat) (er : Nat → Nat) (z : Nat) (sw : Int32) (sd : Int32) (th : Int32) (M : Nat → Nat → Int32) (f : Nat → Int32) (N : Nat) (h00 : M 0 0 ≤ 0) (h01 : ¬ M 0 1 ≤ 0) (hz : z < 6) (hN : N < 1000000) (hs1 : ∀ i, i < N → ¬ rwM z M (rwI 2 z M f i) 2 = 0) (hs2 : rwM z M (rwI 2 z M f N) 2 = 0) : CM l D k yX11_waves cX11_waves 6 (some .int)  4 88 [.ref mo] [(mo, .inr (15, [.ref e0, .ref c1, .ref c2, .ref c3, .ref c4, .ref c5, .null, .int (nI 2), .int (nI z), .int sw, .int sd, .int th])), (e0, aR k 3 6 (fun i9 => if i9 < 6 then some (er i9) else none)), ((er 0), aI k 6 (M 0)), ((er 1), aI k 6 (M 1)), ((er 2), aI k 6 (M 2)), ((er 3), aI k 6 (M 3)), ((er 4), aI k 6 (M 4)), ((er 5), aI k 6 (M 5)), (c1, aI k 6 f)] (is1 (some (.int (nI N))) [(mo, .inr (15, [.ref e0, .ref c1, .ref c2, .ref c3, .ref c4, .ref c5, .null, .int (nI 2), .int (nI z), .int sw, .int sd, .int 0])), (e0, aR k 3 6 (fun i9 => if i9 < 6 then some (er i9) else none)), ((er 0), aI k 6 (M 0)), ((er 1), aI k 6 (M 1)), ((er 2), aI k 6 (M 2)), ((er 3), aI k 6 (M 3)), ((er 4), aI k 6 (M 4)), ((er 5), aI k 6 (M 5)), (c1, aI k 6 f)]) (N + 3) (6 * (N + 3)) (N + 2) := by
  refine CM.of (lv0 := [(0, .ref mo)]) (by decide +kernel) (Nat.le_of_ble_eq_true rfl) rfl ?_
  intro p e s m below meth c C hr hlk hin had
  refine g_aload_n (pc := 0) C 0 rfl rfl dX11_waves_0 ?_
  refine g_callV (pc := 1) (cells := 0) (slots := 0) (g := 0) (As := []) (st := []) (T := TX11) (q0 := 0) C (nA := 0) rfl (c_X11_wrongWhole_2 mo e0 c1 c2 c3 c4 c5 er z sw sd th M (by first | assumption | decide | omega) (by first | assumption | decide | omega)) q_285 q_286 q_284 q_246 q_283 (by decide +kernel) rfl rfl dX11_waves_1 ⟨Nat.le_of_ble_eq_true rfl, Nat.le_of_ble_eq_true rfl⟩ [0, 1, 2, 3, 4, 5, 6, 7] [8] rfl (wr := [(c1, aI k 6 f)]) rfl (by decide) (by decide) (by decide) (Nat.le_of_ble_eq_true rfl) ⟨(by dsimp only; omega), (by dsimp only; omega)⟩ (fun rv w1 h1 => ?_)
  obtain ⟨rfl, rfl⟩ := h1
  refine G.aft [1, 2, 3, 4, 5, 6, 7, 8, 0] (ws' := [(mo, .inr (15, [.ref e0, .ref c1, .ref c2, .ref c3, .ref c4, .ref c5, .null, .int (nI 2), .int (nI z), .int sw, .int sd, .int 0])), (e0, aR k 3 6 (fun i9 => if i9 < 6 then some (er i9) else none)), ((er 0), aI k 6 (M 0)), ((er 1), aI k 6 (M 1)), ((er 2), aI k 6 (M 2)), ((er 3), aI k 6 (M 3)), ((er 4), aI k 6 (M 4)), ((er 5), aI k 6 (M 5)), (c1, aI k 6 f)]) (st' := [.int 0]) (cells' := 1) (slots' := 6) (g' := 1) (by decide) rfl rfl rfl rfl rfl ?_
  refine g_if_le (pc := 4) C 9 (by decide) dX11_waves_4 (fun c_4 => ?_) (fun c_4 => ?_)
  · refine g_aload_n (pc := 9) C 0 rfl rfl dX11_waves_9 ?_
    refine g_get (pc := 10) C (T := TX11) inX11 0 rfl rfl 1 (by decide) q_249 rfl rfl dX11_waves_10 ?_
    refine g_cloneI (pc := 13) (cells := 1) (slots := 6) (g := 1) C 8 rfl q_287 q_288 q_289 q_290 q_291 (Nat.le_of_ble_eq_true rfl) (Nat.le_of_ble_eq_true rfl) (by dsimp only; omega) (by dsimp only; omega) dX11_waves_13 (fun q1 => ?_)
    refine G.eqw (ws' := [(mo, .inr (15, [.ref e0, .ref c1, .ref c2, .ref c3, .ref c4, .ref c5, .null, .int (nI 2), .int (nI z), .int sw, .int sd, .int 0])), (e0, aR k 3 6 (fun i9 => if i9 < 6 then some (er i9) else none)), ((er 0), aI k 6 (M 0)), ((er 1), aI k 6 (M 1)), ((er 2), aI k 6 (M 2)), ((er 3), aI k 6 (M 3)), ((er 4), aI k 6 (M 4)), ((er 5), aI k 6 (M 5)), (c1, aI k 6 f), (q1, aI k 6 f)]) rfl ?_
    refine g_castI (pc := 16) C 9 rfl q_292 dX11_waves_16 ?_
    refine g_astore_n (pc := 19) C [(1, .ref q1), (0, .ref mo)] rfl dX11_waves_19 (by decide) rfl ?_
    refine g_iconst (pc := 20) (v := 0) C (by decide) dX11_waves_20 ?_
    refine g_istore_n (pc := 21) C [(2, .int 0), (1, .ref q1), (0, .ref mo)] rfl dX11_waves_21 (by decide) rfl ?_
    refine g_iconst (pc := 22) (v := 1) C (by decide) dX11_waves_22 ?_
    refine g_istore_n (pc := 23) C [(3, .int 1), (2, .int 0), (1, .ref q1), (0, .ref mo)] rfl dX11_waves_23 (by decide) rfl ?_
    have key_24 : ∀ (fuel : Nat) (j : Nat), j ≤ N + 1 → N + 1 - j < fuel → G p l e { frames := 4, cells := (N + 3), slots := (6 * (N + 3)), locals := 88 } s m ([.ref mo] : List Value).toArray below meth c D 6 (va_A [(mo, .inr (15, [.ref e0, .ref c1, .ref c2, .ref c3, .ref c4, .ref c5, .null, .int (nI 2), .int (nI z), .int sw, .int sd, .int th])), (e0, aR k 3 6 (fun i9 => if i9 < 6 then some (er i9) else none)), ((er 0), aI k 6 (M 0)), ((er 1), aI k 6 (M 1)), ((er 2), aI k 6 (M 2)), ((er 3), aI k 6 (M 3)), ((er 4), aI k 6 (M 4)), ((er 5), aI k 6 (M 5)), (c1, aI k 6 f)] s.heap.size) (QM below D ([.ref mo] : List Value).toArray s [(mo, .inr (15, [.ref e0, .ref c1, .ref c2, .ref c3, .ref c4, .ref c5, .null, .int (nI 2), .int (nI z), .int sw, .int sd, .int th])), (e0, aR k 3 6 (fun i9 => if i9 < 6 then some (er i9) else none)), ((er 0), aI k 6 (M 0)), ((er 1), aI k 6 (M 1)), ((er 2), aI k 6 (M 2)), ((er 3), aI k 6 (M 3)), ((er 4), aI k 6 (M 4)), ((er 5), aI k 6 (M 5)), (c1, aI k 6 f)] (is1 (some (.int (nI N))) [(mo, .inr (15, [.ref e0, .ref c1, .ref c2, .ref c3, .ref c4, .ref c5, .null, .int (nI 2), .int (nI z), .int sw, .int sd, .int 0])), (e0, aR k 3 6 (fun i9 => if i9 < 6 then some (er i9) else none)), ((er 0), aI k 6 (M 0)), ((er 1), aI k 6 (M 1)), ((er 2), aI k 6 (M 2)), ((er 3), aI k 6 (M 3)), ((er 4), aI k 6 (M 4)), ((er 5), aI k 6 (M 5)), (c1, aI k 6 f)]) (N + 3) (6 * (N + 3)) (N + 2)) [(mo, .inr (15, [.ref e0, .ref c1, .ref c2, .ref c3, .ref c4, .ref c5, .null, .int (nI 2), .int (nI z), .int sw, .int sd, .int 0])), (e0, aR k 3 6 (fun i9 => if i9 < 6 then some (er i9) else none)), ((er 0), aI k 6 (M 0)), ((er 1), aI k 6 (M 1)), ((er 2), aI k 6 (M 2)), ((er 3), aI k 6 (M 3)), ((er 4), aI k 6 (M 4)), ((er 5), aI k 6 (M 5)), (c1, aI k 6 f), (q1, aI k 6 (rwI 2 z M f j))] [(0, .ref mo), (1, .ref q1), (2, .int (nI (min j N))), (3, .int (rwB 2 z M f j))] (2 + j) (12 + 6 * j) (1 + j) 24 [] := by
      intro fuel
      induction fuel with
      | zero => intro j hj hm; exact absurd hm (Nat.not_lt_zero _)
      | succ fuel ih =>
        intro j hj hm
        have ih_24 := ih
        refine g_iload_n (pc := 24) C 3 rfl rfl dX11_waves_24 ?_
        refine g_if_eq (pc := 25) C 123 (by decide) dX11_waves_25 (fun c_25 => ?_) (fun c_25 => ?_)
        · have hj1 : j = N + 1 := by { rcases Nat.lt_or_ge j (N + 1) with q | q; { rcases j with _ | j; exact absurd c_25 (show ¬ (1 : Int32) = 0 by decide); exact absurd c_25 (hs1 j (by omega)) }; omega }
          refine g_iload_n (pc := 123) C 2 rfl rfl dX11_waves_123 ?_
          refine G.re [0, 1, 2, 3, 4, 5, 6, 7, 8] (ws' := [(mo, .inr (15, [.ref e0, .ref c1, .ref c2, .ref c3, .ref c4, .ref c5, .null, .int (nI 2), .int (nI z), .int sw, .int sd, .int 0])), (e0, aR k 3 6 (fun i9 => if i9 < 6 then some (er i9) else none)), ((er 0), aI k 6 (M 0)), ((er 1), aI k 6 (M 1)), ((er 2), aI k 6 (M 2)), ((er 3), aI k 6 (M 3)), ((er 4), aI k 6 (M 4)), ((er 5), aI k 6 (M 5)), (c1, aI k 6 f)]) (by decide) rfl ?_
          refine G.eqs (st' := [.int (nI N)]) (congrArg (fun z9 => [Value.int z9]) (show ((nI (min j N)) : Int32) = (nI N) from by rw [hj1, Nat.min_eq_right (by omega)])) ?_
          exact g_iret (pc := 124) C hr hlk (by first | decide | omega) (by first | decide | omega) (by first | decide | omega) dX11_waves_124 ⟨rfl, rfl⟩
        · have hjN : j ≤ N := by { rcases Nat.lt_or_ge j (N + 1) with q | q; omega; have h7 : j = N + 1 := (by omega); subst h7; exact absurd hs2 c_25 }
          refine g_bipush (pc := 28) (v := 6) C (by decide) dX11_waves_28 ?_
          refine g_newZ (pc := 30) (cells := 2 + j) (slots := 12 + 6 * j) (g := 1 + j) C 6 q_278 (by decide) (by decide) (Nat.le_of_ble_eq_true rfl) (by dsimp only; omega) (by dsimp only; omega) dX11_waves_30 (fun q2 => ?_)
          refine G.eqw (ws' := [(mo, .inr (15, [.ref e0, .ref c1, .ref c2, .ref c3, .ref c4, .ref c5, .null, .int (nI 2), .int (nI z), .int sw, .int sd, .int 0])), (e0, aR k 3 6 (fun i9 => if i9 < 6 then some (er i9) else none)), ((er 0), aI k 6 (M 0)), ((er 1), aI k 6 (M 1)), ((er 2), aI k 6 (M 2)), ((er 3), aI k 6 (M 3)), ((er 4), aI k 6 (M 4)), ((er 5), aI k 6 (M 5)), (c1, aI k 6 f), (q1, aI k 6 (rwI 2 z M f j)), (q2, aZ k 6 (fun _ => 0))]) rfl ?_
          refine g_astore (pc := 32) C [(4, .ref q2), (0, .ref mo), (1, .ref q1), (2, .int (nI (min j N))), (3, .int (rwB 2 z M f j))] dX11_waves_32 (by decide) rfl ?_
          refine g_iconst (pc := 34) (v := 0) C (by decide) dX11_waves_34 ?_
          refine g_istore_n (pc := 35) C [(3, .int 0), (4, .ref q2), (0, .ref mo), (1, .ref q1), (2, .int (nI (min j N)))] rfl dX11_waves_35 (by decide) rfl ?_
          refine g_iconst (pc := 36) (v := 0) C (by decide) dX11_waves_36 ?_
          refine g_istore (pc := 37) C [(5, .int 0), (3, .int 0), (4, .ref q2), (0, .ref mo), (1, .ref q1), (2, .int (nI (min j N)))] dX11_waves_37 (by decide) rfl ?_
          have key_39 : ∀ (fuel : Nat) (i : Nat), i ≤ 2 → 2 - i < fuel → G p l e { frames := 4, cells := (N + 3), slots := (6 * (N + 3)), locals := 88 } s m ([.ref mo] : List Value).toArray below meth c D 6 (va_A [(mo, .inr (15, [.ref e0, .ref c1, .ref c2, .ref c3, .ref c4, .ref c5, .null, .int (nI 2), .int (nI z), .int sw, .int sd, .int th])), (e0, aR k 3 6 (fun i9 => if i9 < 6 then some (er i9) else none)), ((er 0), aI k 6 (M 0)), ((er 1), aI k 6 (M 1)), ((er 2), aI k 6 (M 2)), ((er 3), aI k 6 (M 3)), ((er 4), aI k 6 (M 4)), ((er 5), aI k 6 (M 5)), (c1, aI k 6 f)] s.heap.size) (QM below D ([.ref mo] : List Value).toArray s [(mo, .inr (15, [.ref e0, .ref c1, .ref c2, .ref c3, .ref c4, .ref c5, .null, .int (nI 2), .int (nI z), .int sw, .int sd, .int th])), (e0, aR k 3 6 (fun i9 => if i9 < 6 then some (er i9) else none)), ((er 0), aI k 6 (M 0)), ((er 1), aI k 6 (M 1)), ((er 2), aI k 6 (M 2)), ((er 3), aI k 6 (M 3)), ((er 4), aI k 6 (M 4)), ((er 5), aI k 6 (M 5)), (c1, aI k 6 f)] (is1 (some (.int (nI N))) [(mo, .inr (15, [.ref e0, .ref c1, .ref c2, .ref c3, .ref c4, .ref c5, .null, .int (nI 2), .int (nI z), .int sw, .int sd, .int 0])), (e0, aR k 3 6 (fun i9 => if i9 < 6 then some (er i9) else none)), ((er 0), aI k 6 (M 0)), ((er 1), aI k 6 (M 1)), ((er 2), aI k 6 (M 2)), ((er 3), aI k 6 (M 3)), ((er 4), aI k 6 (M 4)), ((er 5), aI k 6 (M 5)), (c1, aI k 6 f)]) (N + 3) (6 * (N + 3)) (N + 2)) [(mo, .inr (15, [.ref e0, .ref c1, .ref c2, .ref c3, .ref c4, .ref c5, .null, .int (nI 2), .int (nI z), .int sw, .int sd, .int 0])), (e0, aR k 3 6 (fun i9 => if i9 < 6 then some (er i9) else none)), ((er 0), aI k 6 (M 0)), ((er 1), aI k 6 (M 1)), ((er 2), aI k 6 (M 2)), ((er 3), aI k 6 (M 3)), ((er 4), aI k 6 (M 4)), ((er 5), aI k 6 (M 5)), (c1, aI k 6 f), (q1, aI k 6 (rwI 2 z M f j)), (q2, aZ k 6 (rwA z M (rwI 2 z M f j) i))] [(0, .ref mo), (1, .ref q1), (2, .int (nI (min j N))), (3, .int (rwM z M (rwI 2 z M f j) i)), (4, .ref q2), (5, .int (nI i))] (2 + j + 1) (12 + 6 * j + 6) (1 + j + 1) 39 [] := by
            intro fuel
            induction fuel with
            | zero => intro i hi hm; exact absurd hm (Nat.not_lt_zero _)
            | succ fuel ih =>
              intro i hi hm
              have ih_39 := ih
              refine g_iload (pc := 39) C 5 rfl dX11_waves_39 ?_
              refine g_aload_n (pc := 41) C 0 rfl rfl dX11_waves_41 ?_
              refine g_get (pc := 42) C (T := TX11) inX11 0 rfl rfl 7 (by decide) q_244 rfl rfl dX11_waves_42 ?_
              refine g_icmp_ge (pc := 45) C 74 (by decide) dX11_waves_45 (fun c_45 => ?_) (fun c_45 => ?_)
              · have h39 : i = 2 := by { rcases Nat.lt_or_ge i 2 with q | q; exact absurd c_45 (nI_ge q (by omega)); omega }
                refine g_iconst (pc := 74) (v := 0) C (by decide) dX11_waves_74 ?_
                refine g_istore (pc := 75) C [(5, .int 0), (0, .ref mo), (1, .ref q1), (2, .int (nI (min j N))), (3, .int (rwM z M (rwI 2 z M f j) i)), (4, .ref q2)] dX11_waves_75 (by decide) rfl ?_
                have key_77 : ∀ (fuel : Nat) (u : Nat), u ≤ 2 → 2 - u < fuel → G p l e { frames := 4, cells := (N + 3), slots := (6 * (N + 3)), locals := 88 } s m ([.ref mo] : List Value).toArray below meth c D 6 (va_A [(mo, .inr (15, [.ref e0, .ref c1, .ref c2, .ref c3, .ref c4, .ref c5, .null, .int (nI 2), .int (nI z), .int sw, .int sd, .int th])), (e0, aR k 3 6 (fun i9 => if i9 < 6 then some (er i9) else none)), ((er 0), aI k 6 (M 0)), ((er 1), aI k 6 (M 1)), ((er 2), aI k 6 (M 2)), ((er 3), aI k 6 (M 3)), ((er 4), aI k 6 (M 4)), ((er 5), aI k 6 (M 5)), (c1, aI k 6 f)] s.heap.size) (QM below D ([.ref mo] : List Value).toArray s [(mo, .inr (15, [.ref e0, .ref c1, .ref c2, .ref c3, .ref c4, .ref c5, .null, .int (nI 2), .int (nI z), .int sw, .int sd, .int th])), (e0, aR k 3 6 (fun i9 => if i9 < 6 then some (er i9) else none)), ((er 0), aI k 6 (M 0)), ((er 1), aI k 6 (M 1)), ((er 2), aI k 6 (M 2)), ((er 3), aI k 6 (M 3)), ((er 4), aI k 6 (M 4)), ((er 5), aI k 6 (M 5)), (c1, aI k 6 f)] (is1 (some (.int (nI N))) [(mo, .inr (15, [.ref e0, .ref c1, .ref c2, .ref c3, .ref c4, .ref c5, .null, .int (nI 2), .int (nI z), .int sw, .int sd, .int 0])), (e0, aR k 3 6 (fun i9 => if i9 < 6 then some (er i9) else none)), ((er 0), aI k 6 (M 0)), ((er 1), aI k 6 (M 1)), ((er 2), aI k 6 (M 2)), ((er 3), aI k 6 (M 3)), ((er 4), aI k 6 (M 4)), ((er 5), aI k 6 (M 5)), (c1, aI k 6 f)]) (N + 3) (6 * (N + 3)) (N + 2)) [(mo, .inr (15, [.ref e0, .ref c1, .ref c2, .ref c3, .ref c4, .ref c5, .null, .int (nI 2), .int (nI z), .int sw, .int sd, .int 0])), (e0, aR k 3 6 (fun i9 => if i9 < 6 then some (er i9) else none)), ((er 0), aI k 6 (M 0)), ((er 1), aI k 6 (M 1)), ((er 2), aI k 6 (M 2)), ((er 3), aI k 6 (M 3)), ((er 4), aI k 6 (M 4)), ((er 5), aI k 6 (M 5)), (c1, aI k 6 f), (q1, aI k 6 (rwS 2 M (rwI 2 z M f j) (rwA z M (rwI 2 z M f j) 2) u)), (q2, aZ k 6 (rwA z M (rwI 2 z M f j) 2))] [(0, .ref mo), (1, .ref q1), (2, .int (nI (min j N))), (3, .int (rwM z M (rwI 2 z M f j) 2)), (4, .ref q2), (5, .int (nI u))] (2 + j + 1) (12 + 6 * j + 6) (1 + j + 1) 77 [] := by
                  intro fuel
                  induction fuel with
                  | zero => intro u hu hm; exact absurd hm (Nat.not_lt_zero _)
                  | succ fuel ih =>
                    intro u hu hm
                    have ih_77 := ih
                    refine g_iload (pc := 77) C 5 rfl dX11_waves_77 ?_
                    refine g_aload_n (pc := 79) C 0 rfl rfl dX11_waves_79 ?_
                    refine g_get (pc := 80) C (T := TX11) inX11 0 rfl rfl 7 (by decide) q_244 rfl rfl dX11_waves_80 ?_
                    refine g_icmp_ge (pc := 83) C 108 (by decide) dX11_waves_83 (fun c_83 => ?_) (fun c_83 => ?_)
                    · have h77 : u = 2 := by { rcases Nat.lt_or_ge u 2 with q | q; exact absurd c_83 (nI_ge q (by omega)); omega }
                      refine g_iload_n (pc := 108) C 2 rfl rfl dX11_waves_108 ?_
                      refine g_iload_n (pc := 109) C 3 rfl rfl dX11_waves_109 ?_
                      refine g_if_eq (pc := 110) C 117 (by decide) dX11_waves_110 (fun c_110 => ?_) (fun c_110 => ?_)
                      · have h8 : j = N := by { rcases Nat.lt_or_ge j N with q | q; exact absurd c_110 (hs1 j q); omega }
                        have hmin : (nI (min j N) + 0 : Int32) = nI (min (j + 1) N) := by { rw [h8, Nat.min_self, Nat.min_eq_right (by omega)]; exact Int32.add_zero _ }
                        refine g_iconst (pc := 117) (v := 0) C (by decide) dX11_waves_117 ?_
                        refine g_iadd (pc := 118) C dX11_waves_118 ?_
                        refine g_istore_n (pc := 119) C [(2, .int ((nI (min j N)) + 0)), (0, .ref mo), (1, .ref q1), (3, .int (rwM z M (rwI 2 z M f j) 2)), (4, .ref q2), (5, .int (nI u))] rfl dX11_waves_119 (by decide) rfl ?_
                        refine g_goto (pc := 120) C 24 (by decide) dX11_waves_120 ?_
                        refine G.re [0, 1, 2, 3, 4, 5, 6, 7, 8, 9] (ws' := [(mo, .inr (15, [.ref e0, .ref c1, .ref c2, .ref c3, .ref c4, .ref c5, .null, .int (nI 2), .int (nI z), .int sw, .int sd, .int 0])), (e0, aR k 3 6 (fun i9 => if i9 < 6 then some (er i9) else none)), ((er 0), aI k 6 (M 0)), ((er 1), aI k 6 (M 1)), ((er 2), aI k 6 (M 2)), ((er 3), aI k 6 (M 3)), ((er 4), aI k 6 (M 4)), ((er 5), aI k 6 (M 5)), (c1, aI k 6 f), (q1, aI k 6 (rwS 2 M (rwI 2 z M f j) (rwA z M (rwI 2 z M f j) 2) u))]) (by decide) rfl ?_
                        refine G.loc [1, 2, 0, 3] (lv' := [(0, .ref mo), (1, .ref q1), (2, .int ((nI (min j N)) + 0)), (3, .int (rwM z M (rwI 2 z M f j) 2))]) rfl ?_
                        refine G.widen (k' := 2 + (j + 1)) (n' := 12 + 6 * (j + 1)) (g' := 1 + (j + 1)) (by omega) (by omega) (by omega) ?_
                        refine G.fn (rwI 2 z M f (j + 1)) 9 [(mo, .inr (15, [.ref e0, .ref c1, .ref c2, .ref c3, .ref c4, .ref c5, .null, .int (nI 2), .int (nI z), .int sw, .int sd, .int 0])), (e0, aR k 3 6 (fun i9 => if i9 < 6 then some (er i9) else none)), ((er 0), aI k 6 (M 0)), ((er 1), aI k 6 (M 1)), ((er 2), aI k 6 (M 2)), ((er 3), aI k 6 (M 3)), ((er 4), aI k 6 (M 4)), ((er 5), aI k 6 (M 5)), (c1, aI k 6 f), (q1, aI k 6 (rwI 2 z M f (j + 1)))] rfl (fun j hj => by first | rfl | (rw [h77]; rfl)) rfl ?_
                        refine G.eql (lv' := [(0, .ref mo), (1, .ref q1), (2, .int (nI (min (j + 1) N))), (3, .int (rwB 2 z M f (j + 1)))]) ((congrArg (β := List (Nat × Value)) (fun z9 => [(0, .ref mo), (1, .ref q1), (2, .int z9), (3, .int (rwM z M (rwI 2 z M f j) 2))]) (show (((nI (min j N)) + 0) : Int32) = (nI (min (j + 1) N)) from by first | rfl | exact hmin)).trans (congrArg (β := List (Nat × Value)) (fun z9 => [(0, .ref mo), (1, .ref q1), (2, .int (nI (min (j + 1) N))), (3, .int z9)]) (show ((rwM z M (rwI 2 z M f j) 2) : Int32) = (rwB 2 z M f (j + 1)) from by first | rfl | exact hmin))) ?_
                        exact ih_24 (j + 1) (by omega) (by omega)
                      · have h8 : j < N := by { rcases Nat.lt_or_ge j N with q | q; exact q; have h9 : j = N := (by omega); rw [h9] at c_110; exact absurd hs2 c_110 }
                        have hmin : (nI (min j N) + 1 : Int32) = nI (min (j + 1) N) := by { rw [Nat.min_eq_left (by omega), Nat.min_eq_left (by omega)]; exact nI_1 j }
                        refine g_iconst (pc := 113) (v := 1) C (by decide) dX11_waves_113 ?_
                        refine g_goto (pc := 114) C 118 (by decide) dX11_waves_114 ?_
                        refine g_iadd (pc := 118) C dX11_waves_118 ?_
                        refine g_istore_n (pc := 119) C [(2, .int ((nI (min j N)) + 1)), (0, .ref mo), (1, .ref q1), (3, .int (rwM z M (rwI 2 z M f j) 2)), (4, .ref q2), (5, .int (nI u))] rfl dX11_waves_119 (by decide) rfl ?_
                        refine g_goto (pc := 120) C 24 (by decide) dX11_waves_120 ?_
                        refine G.re [0, 1, 2, 3, 4, 5, 6, 7, 8, 9] (ws' := [(mo, .inr (15, [.ref e0, .ref c1, .ref c2, .ref c3, .ref c4, .ref c5, .null, .int (nI 2), .int (nI z), .int sw, .int sd, .int 0])), (e0, aR k 3 6 (fun i9 => if i9 < 6 then some (er i9) else none)), ((er 0), aI k 6 (M 0)), ((er 1), aI k 6 (M 1)), ((er 2), aI k 6 (M 2)), ((er 3), aI k 6 (M 3)), ((er 4), aI k 6 (M 4)), ((er 5), aI k 6 (M 5)), (c1, aI k 6 f), (q1, aI k 6 (rwS 2 M (rwI 2 z M f j) (rwA z M (rwI 2 z M f j) 2) u))]) (by decide) rfl ?_
                        refine G.loc [1, 2, 0, 3] (lv' := [(0, .ref mo), (1, .ref q1), (2, .int ((nI (min j N)) + 1)), (3, .int (rwM z M (rwI 2 z M f j) 2))]) rfl ?_
                        refine G.widen (k' := 2 + (j + 1)) (n' := 12 + 6 * (j + 1)) (g' := 1 + (j + 1)) (by omega) (by omega) (by omega) ?_
                        refine G.fn (rwI 2 z M f (j + 1)) 9 [(mo, .inr (15, [.ref e0, .ref c1, .ref c2, .ref c3, .ref c4, .ref c5, .null, .int (nI 2), .int (nI z), .int sw, .int sd, .int 0])), (e0, aR k 3 6 (fun i9 => if i9 < 6 then some (er i9) else none)), ((er 0), aI k 6 (M 0)), ((er 1), aI k 6 (M 1)), ((er 2), aI k 6 (M 2)), ((er 3), aI k 6 (M 3)), ((er 4), aI k 6 (M 4)), ((er 5), aI k 6 (M 5)), (c1, aI k 6 f), (q1, aI k 6 (rwI 2 z M f (j + 1)))] rfl (fun j hj => by first | rfl | (rw [h77]; rfl)) rfl ?_
                        refine G.eql (lv' := [(0, .ref mo), (1, .ref q1), (2, .int (nI (min (j + 1) N))), (3, .int (rwB 2 z M f (j + 1)))]) ((congrArg (β := List (Nat × Value)) (fun z9 => [(0, .ref mo), (1, .ref q1), (2, .int z9), (3, .int (rwM z M (rwI 2 z M f j) 2))]) (show (((nI (min j N)) + 1) : Int32) = (nI (min (j + 1) N)) from by first | rfl | exact hmin)).trans (congrArg (β := List (Nat × Value)) (fun z9 => [(0, .ref mo), (1, .ref q1), (2, .int (nI (min (j + 1) N))), (3, .int z9)]) (show ((rwM z M (rwI 2 z M f j) 2) : Int32) = (rwB 2 z M f (j + 1)) from by first | rfl | exact hmin))) ?_
                        exact ih_24 (j + 1) (by omega) (by omega)
                    · have hl83 : u < 2 := by rcases Nat.lt_or_ge u 2 with q | q; exact q; exact absurd (nI_le q (by omega)) c_83
                      refine g_aload (pc := 86) C 4 rfl dX11_waves_86 ?_
                      refine g_iload (pc := 88) C 5 rfl dX11_waves_88 ?_
                      refine g_zald_n (pc := 90) C (j := u) 10 rfl (by omega) (by first | decide | omega) rfl dX11_waves_90 ?_
                      refine g_if_eq (pc := 91) C 102 (by decide) dX11_waves_91 (fun c_91 => ?_) (fun c_91 => ?_)
                      · refine g_iinc (pc := 102) (n := 1) (v := (nI (u + 1))) C 5 [(5, .int (nI (u + 1))), (0, .ref mo), (1, .ref q1), (2, .int (nI (min j N))), (3, .int (rwM z M (rwI 2 z M f j) 2)), (4, .ref q2)] rfl (nI_1 u) dX11_waves_102 (by decide) rfl ?_
                        refine g_goto (pc := 105) C 77 (by decide) dX11_waves_105 ?_
                        refine G.loc [1, 2, 3, 4, 5, 0] (lv' := [(0, .ref mo), (1, .ref q1), (2, .int (nI (min j N))), (3, .int (rwM z M (rwI 2 z M f j) 2)), (4, .ref q2), (5, .int (nI (u + 1)))]) rfl ?_
                        refine G.fn (rwS 2 M (rwI 2 z M f j) (rwA z M (rwI 2 z M f j) 2) (u + 1)) 9 [(mo, .inr (15, [.ref e0, .ref c1, .ref c2, .ref c3, .ref c4, .ref c5, .null, .int (nI 2), .int (nI z), .int sw, .int sd, .int 0])), (e0, aR k 3 6 (fun i9 => if i9 < 6 then some (er i9) else none)), ((er 0), aI k 6 (M 0)), ((er 1), aI k 6 (M 1)), ((er 2), aI k 6 (M 2)), ((er 3), aI k 6 (M 3)), ((er 4), aI k 6 (M 4)), ((er 5), aI k 6 (M 5)), (c1, aI k 6 f), (q1, aI k 6 (rwS 2 M (rwI 2 z M f j) (rwA z M (rwI 2 z M f j) 2) (u + 1))), (q2, aZ k 6 (rwA z M (rwI 2 z M f j) 2))] rfl (fun j hj => by simp [rwS, c_91]) rfl ?_
                        exact ih_77 (u + 1) (by omega) (by omega)
                      · refine g_aload_n (pc := 94) C 0 rfl rfl dX11_waves_94 ?_
                        refine g_aload_n (pc := 95) C 1 rfl rfl dX11_waves_95 ?_
                        refine g_iload (pc := 96) C 5 rfl dX11_waves_96 ?_
                        refine g_iconst (pc := 98) (v := 1) C (by decide) dX11_waves_98 ?_
                        refine g_callV (pc := 99) (cells := 2 + j + 1) (slots := 12 + 6 * j + 6) (g := 1 + j + 1) (As := [.ref q1, .int (nI u), .int 1]) (st := []) (T := TX11) (q0 := 0) C (nA := 3) rfl (c_X11_topples mo e0 c1 c2 c3 c4 c5 er 2 z sw sd 0 M q1 (rwS 2 M (rwI 2 z M f j) (rwA z M (rwI 2 z M f j) 2) u) u 1 (by first | assumption | decide | omega) (by first | assumption | decide | omega)) q_295 q_296 q_294 q_246 q_293 (by decide +kernel) rfl rfl dX11_waves_99 ⟨Nat.le_of_ble_eq_true rfl, Nat.le_of_ble_eq_true rfl⟩ [0, 1, 2, 3, 4, 5, 6, 7, 9] [8, 10] rfl (wr := [(c1, aI k 6 f), (q2, aZ k 6 (rwA z M (rwI 2 z M f j) 2))]) rfl (by decide) (by decide) (by decide) (Nat.le_of_ble_eq_true rfl) ⟨(by dsimp only; omega), (by dsimp only; omega)⟩ (fun rv w1 h1 => ?_)
                        obtain ⟨rfl, rfl⟩ := h1
                        refine G.aft [2, 3, 4, 5, 6, 7, 8, 9, 0, 10, 1] (ws' := [(mo, .inr (15, [.ref e0, .ref c1, .ref c2, .ref c3, .ref c4, .ref c5, .null, .int (nI 2), .int (nI z), .int sw, .int sd, .int 0])), (e0, aR k 3 6 (fun i9 => if i9 < 6 then some (er i9) else none)), ((er 0), aI k 6 (M 0)), ((er 1), aI k 6 (M 1)), ((er 2), aI k 6 (M 2)), ((er 3), aI k 6 (M 3)), ((er 4), aI k 6 (M 4)), ((er 5), aI k 6 (M 5)), (c1, aI k 6 f), (q1, aI k 6 (rTp M 1 u (rwS 2 M (rwI 2 z M f j) (rwA z M (rwI 2 z M f j) 2) u) 2)), (q2, aZ k 6 (rwA z M (rwI 2 z M f j) 2))]) (st' := []) (cells' := 2 + j + 1) (slots' := 12 + 6 * j + 6) (g' := 1 + j + 1) (by decide) rfl rfl rfl rfl rfl ?_
                        refine g_iinc (pc := 102) (n := 1) (v := (nI (u + 1))) C 5 [(5, .int (nI (u + 1))), (0, .ref mo), (1, .ref q1), (2, .int (nI (min j N))), (3, .int (rwM z M (rwI 2 z M f j) 2)), (4, .ref q2)] rfl (nI_1 u) dX11_waves_102 (by decide) rfl ?_
                        refine g_goto (pc := 105) C 77 (by decide) dX11_waves_105 ?_
                        refine G.loc [1, 2, 3, 4, 5, 0] (lv' := [(0, .ref mo), (1, .ref q1), (2, .int (nI (min j N))), (3, .int (rwM z M (rwI 2 z M f j) 2)), (4, .ref q2), (5, .int (nI (u + 1)))]) rfl ?_
                        refine G.fn (rwS 2 M (rwI 2 z M f j) (rwA z M (rwI 2 z M f j) 2) (u + 1)) 9 [(mo, .inr (15, [.ref e0, .ref c1, .ref c2, .ref c3, .ref c4, .ref c5, .null, .int (nI 2), .int (nI z), .int sw, .int sd, .int 0])), (e0, aR k 3 6 (fun i9 => if i9 < 6 then some (er i9) else none)), ((er 0), aI k 6 (M 0)), ((er 1), aI k 6 (M 1)), ((er 2), aI k 6 (M 2)), ((er 3), aI k 6 (M 3)), ((er 4), aI k 6 (M 4)), ((er 5), aI k 6 (M 5)), (c1, aI k 6 f), (q1, aI k 6 (rwS 2 M (rwI 2 z M f j) (rwA z M (rwI 2 z M f j) 2) (u + 1))), (q2, aZ k 6 (rwA z M (rwI 2 z M f j) 2))] rfl (fun j hj => by simp [rwS, c_91]) rfl ?_
                        exact ih_77 (u + 1) (by omega) (by omega)
                refine G.loc [1, 2, 3, 4, 5, 0] (lv' := [(0, .ref mo), (1, .ref q1), (2, .int (nI (min j N))), (3, .int (rwM z M (rwI 2 z M f j) i)), (4, .ref q2), (5, .int 0)]) rfl ?_
                refine G.fn (rwS 2 M (rwI 2 z M f j) (rwA z M (rwI 2 z M f j) 2) 0) 9 [(mo, .inr (15, [.ref e0, .ref c1, .ref c2, .ref c3, .ref c4, .ref c5, .null, .int (nI 2), .int (nI z), .int sw, .int sd, .int 0])), (e0, aR k 3 6 (fun i9 => if i9 < 6 then some (er i9) else none)), ((er 0), aI k 6 (M 0)), ((er 1), aI k 6 (M 1)), ((er 2), aI k 6 (M 2)), ((er 3), aI k 6 (M 3)), ((er 4), aI k 6 (M 4)), ((er 5), aI k 6 (M 5)), (c1, aI k 6 f), (q1, aI k 6 (rwS 2 M (rwI 2 z M f j) (rwA z M (rwI 2 z M f j) 2) 0)), (q2, aZ k 6 (rwA z M (rwI 2 z M f j) i))] rfl (fun j hj => by first | rfl | (rw [h39])) rfl ?_
                refine G.fn (rwA z M (rwI 2 z M f j) 2) 10 [(mo, .inr (15, [.ref e0, .ref c1, .ref c2, .ref c3, .ref c4, .ref c5, .null, .int (nI 2), .int (nI z), .int sw, .int sd, .int 0])), (e0, aR k 3 6 (fun i9 => if i9 < 6 then some (er i9) else none)), ((er 0), aI k 6 (M 0)), ((er 1), aI k 6 (M 1)), ((er 2), aI k 6 (M 2)), ((er 3), aI k 6 (M 3)), ((er 4), aI k 6 (M 4)), ((er 5), aI k 6 (M 5)), (c1, aI k 6 f), (q1, aI k 6 (rwS 2 M (rwI 2 z M f j) (rwA z M (rwI 2 z M f j) 2) 0)), (q2, aZ k 6 (rwA z M (rwI 2 z M f j) 2))] rfl (fun j hj => by first | rfl | (rw [h39])) rfl ?_
                refine G.eql (lv' := [(0, .ref mo), (1, .ref q1), (2, .int (nI (min j N))), (3, .int (rwM z M (rwI 2 z M f j) 2)), (4, .ref q2), (5, .int (nI 0))]) ((congrArg (β := List (Nat × Value)) (fun z9 => [(0, .ref mo), (1, .ref q1), (2, .int (nI (min j N))), (3, .int z9), (4, .ref q2), (5, .int 0)]) (show ((rwM z M (rwI 2 z M f j) i) : Int32) = (rwM z M (rwI 2 z M f j) 2) from by first | rfl | exact nI_0.symm | (rw [h39]))).trans (congrArg (β := List (Nat × Value)) (fun z9 => [(0, .ref mo), (1, .ref q1), (2, .int (nI (min j N))), (3, .int (rwM z M (rwI 2 z M f j) 2)), (4, .ref q2), (5, .int z9)]) (show (0 : Int32) = (nI 0) from by first | rfl | exact nI_0.symm | (rw [h39])))) ?_
                exact key_77 (2 - 0 + 1) 0 (by omega) (Nat.lt_succ_self _)
              · have hl45 : i < 2 := by rcases Nat.lt_or_ge i 2 with q | q; exact q; exact absurd (nI_le q (by omega)) c_45
                refine g_aload (pc := 48) C 4 rfl dX11_waves_48 ?_
                refine g_iload (pc := 50) C 5 rfl dX11_waves_50 ?_
                refine g_aload_n (pc := 52) C 0 rfl rfl dX11_waves_52 ?_
                refine g_aload_n (pc := 53) C 1 rfl rfl dX11_waves_53 ?_
                refine g_iload (pc := 54) C 5 rfl dX11_waves_54 ?_
                refine g_callV (pc := 56) (cells := 2 + j + 1) (slots := 12 + 6 * j + 6) (g := 1 + j + 1) (As := [.ref q1, .int (nI i)]) (st := [.int (nI i), .ref q2]) (T := TX11) (q0 := 0) C (nA := 2) rfl (c_X11_can mo e0 c1 c2 c3 c4 c5 er 2 z sw sd 0 M q1 (rwI 2 z M f j) i (by first | assumption | decide | omega) (by first | assumption | decide | omega)) q_299 q_300 q_298 q_246 q_297 (by decide +kernel) rfl rfl dX11_waves_56 ⟨Nat.le_of_ble_eq_true rfl, Nat.le_of_ble_eq_true rfl⟩ [0, 1, 2, 3, 4, 5, 6, 7, 9] [8, 10] rfl (wr := [(c1, aI k 6 f), (q2, aZ k 6 (rwA z M (rwI 2 z M f j) i))]) rfl (by decide) (by decide) (by decide) (Nat.le_of_ble_eq_true rfl) ⟨(by dsimp only; omega), (by dsimp only; omega)⟩ (fun rv w1 h1 => ?_)
                obtain ⟨rfl, rfl⟩ := h1
                refine G.aft [2, 3, 4, 5, 6, 7, 8, 9, 0, 10, 1] (ws' := [(mo, .inr (15, [.ref e0, .ref c1, .ref c2, .ref c3, .ref c4, .ref c5, .null, .int (nI 2), .int (nI z), .int sw, .int sd, .int 0])), (e0, aR k 3 6 (fun i9 => if i9 < 6 then some (er i9) else none)), ((er 0), aI k 6 (M 0)), ((er 1), aI k 6 (M 1)), ((er 2), aI k 6 (M 2)), ((er 3), aI k 6 (M 3)), ((er 4), aI k 6 (M 4)), ((er 5), aI k 6 (M 5)), (c1, aI k 6 f), (q1, aI k 6 (rwI 2 z M f j)), (q2, aZ k 6 (rwA z M (rwI 2 z M f j) i))]) (st' := [.int (bI (rCan z M (rwI 2 z M f j) i)), .int (nI i), .ref q2]) (cells' := 2 + j + 1) (slots' := 12 + 6 * j + 6) (g' := 1 + j + 1) (by decide) rfl rfl rfl rfl rfl ?_
                refine g_zast_n (pc := 59) C (j := i) 10 [(mo, .inr (15, [.ref e0, .ref c1, .ref c2, .ref c3, .ref c4, .ref c5, .null, .int (nI 2), .int (nI z), .int sw, .int sd, .int 0])), (e0, aR k 3 6 (fun i9 => if i9 < 6 then some (er i9) else none)), ((er 0), aI k 6 (M 0)), ((er 1), aI k 6 (M 1)), ((er 2), aI k 6 (M 2)), ((er 3), aI k 6 (M 3)), ((er 4), aI k 6 (M 4)), ((er 5), aI k 6 (M 5)), (c1, aI k 6 f), (q1, aI k 6 (rwI 2 z M f j)), (q2, aZ k 6 (upd (rwA z M (rwI 2 z M f j) i) i (bI (rCan z M (rwI 2 z M f j) i))))] rfl (by omega) (by first | decide | omega) rfl (by first | exact bI_vp _ | rfl) rfl dX11_waves_59 ?_
                refine g_iload_n (pc := 60) C 3 rfl rfl dX11_waves_60 ?_
                refine g_aload (pc := 61) C 4 rfl dX11_waves_61 ?_
                refine g_iload (pc := 63) C 5 rfl dX11_waves_63 ?_
                refine g_zald_n (pc := 65) C (j := i) 10 rfl (by omega) (by first | decide | omega) rfl dX11_waves_65 ?_
                refine g_ior (pc := 66) C dX11_waves_66 ?_
                refine g_istore_n (pc := 67) C [(3, .int ((rwM z M (rwI 2 z M f j) i) ||| ((upd (rwA z M (rwI 2 z M f j) i) i (bI (rCan z M (rwI 2 z M f j) i))) i))), (0, .ref mo), (1, .ref q1), (2, .int (nI (min j N))), (4, .ref q2), (5, .int (nI i))] rfl dX11_waves_67 (by decide) rfl ?_
                refine g_iinc (pc := 68) (n := 1) (v := (nI (i + 1))) C 5 [(5, .int (nI (i + 1))), (3, .int ((rwM z M (rwI 2 z M f j) i) ||| ((upd (rwA z M (rwI 2 z M f j) i) i (bI (rCan z M (rwI 2 z M f j) i))) i))), (0, .ref mo), (1, .ref q1), (2, .int (nI (min j N))), (4, .ref q2)] rfl (nI_1 i) dX11_waves_68 (by decide) rfl ?_
                refine g_goto (pc := 71) C 39 (by decide) dX11_waves_71 ?_
                refine G.loc [2, 3, 4, 1, 5, 0] (lv' := [(0, .ref mo), (1, .ref q1), (2, .int (nI (min j N))), (3, .int ((rwM z M (rwI 2 z M f j) i) ||| ((upd (rwA z M (rwI 2 z M f j) i) i (bI (rCan z M (rwI 2 z M f j) i))) i))), (4, .ref q2), (5, .int (nI (i + 1)))]) rfl ?_
                refine G.fn (rwA z M (rwI 2 z M f j) (i + 1)) 10 [(mo, .inr (15, [.ref e0, .ref c1, .ref c2, .ref c3, .ref c4, .ref c5, .null, .int (nI 2), .int (nI z), .int sw, .int sd, .int 0])), (e0, aR k 3 6 (fun i9 => if i9 < 6 then some (er i9) else none)), ((er 0), aI k 6 (M 0)), ((er 1), aI k 6 (M 1)), ((er 2), aI k 6 (M 2)), ((er 3), aI k 6 (M 3)), ((er 4), aI k 6 (M 4)), ((er 5), aI k 6 (M 5)), (c1, aI k 6 f), (q1, aI k 6 (rwI 2 z M f j)), (q2, aZ k 6 (rwA z M (rwI 2 z M f j) (i + 1)))] rfl (fun j hj => by rfl) rfl ?_
                refine G.eql (lv' := [(0, .ref mo), (1, .ref q1), (2, .int (nI (min j N))), (3, .int (rwM z M (rwI 2 z M f j) (i + 1))), (4, .ref q2), (5, .int (nI (i + 1)))]) (congrArg (β := List (Nat × Value)) (fun z9 => [(0, .ref mo), (1, .ref q1), (2, .int (nI (min j N))), (3, .int z9), (4, .ref q2), (5, .int (nI (i + 1)))]) (show (((rwM z M (rwI 2 z M f j) i) ||| ((upd (rwA z M (rwI 2 z M f j) i) i (bI (rCan z M (rwI 2 z M f j) i))) i)) : Int32) = (rwM z M (rwI 2 z M f j) (i + 1)) from by rfl)) ?_
                exact ih_39 (i + 1) (by omega) (by omega)
          refine G.loc [3, 4, 5, 1, 2, 0] (lv' := [(0, .ref mo), (1, .ref q1), (2, .int (nI (min j N))), (3, .int 0), (4, .ref q2), (5, .int 0)]) rfl ?_
          refine G.fn (rwA z M (rwI 2 z M f j) 0) 10 [(mo, .inr (15, [.ref e0, .ref c1, .ref c2, .ref c3, .ref c4, .ref c5, .null, .int (nI 2), .int (nI z), .int sw, .int sd, .int 0])), (e0, aR k 3 6 (fun i9 => if i9 < 6 then some (er i9) else none)), ((er 0), aI k 6 (M 0)), ((er 1), aI k 6 (M 1)), ((er 2), aI k 6 (M 2)), ((er 3), aI k 6 (M 3)), ((er 4), aI k 6 (M 4)), ((er 5), aI k 6 (M 5)), (c1, aI k 6 f), (q1, aI k 6 (rwI 2 z M f j)), (q2, aZ k 6 (rwA z M (rwI 2 z M f j) 0))] rfl (fun j hj => by rfl) rfl ?_
          refine G.eql (lv' := [(0, .ref mo), (1, .ref q1), (2, .int (nI (min j N))), (3, .int (rwM z M (rwI 2 z M f j) 0)), (4, .ref q2), (5, .int (nI 0))]) ((congrArg (β := List (Nat × Value)) (fun z9 => [(0, .ref mo), (1, .ref q1), (2, .int (nI (min j N))), (3, .int z9), (4, .ref q2), (5, .int 0)]) (show (0 : Int32) = (rwM z M (rwI 2 z M f j) 0) from by first | rfl | exact nI_0.symm)).trans (congrArg (β := List (Nat × Value)) (fun z9 => [(0, .ref mo), (1, .ref q1), (2, .int (nI (min j N))), (3, .int (rwM z M (rwI 2 z M f j) 0)), (4, .ref q2), (5, .int z9)]) (show (0 : Int32) = (nI 0) from by first | rfl | exact nI_0.symm))) ?_
          exact key_39 (2 - 0 + 1) 0 (by omega) (Nat.lt_succ_self _)
    refine G.loc [3, 2, 1, 0] (lv' := [(0, .ref mo), (1, .ref q1), (2, .int 0), (3, .int 1)]) rfl ?_
    refine G.fn (rwI 2 z M f 0) 9 [(mo, .inr (15, [.ref e0, .ref c1, .ref c2, .ref c3, .ref c4, .ref c5, .null, .int (nI 2), .int (nI z), .int sw, .int sd, .int 0])), (e0, aR k 3 6 (fun i9 => if i9 < 6 then some (er i9) else none)), ((er 0), aI k 6 (M 0)), ((er 1), aI k 6 (M 1)), ((er 2), aI k 6 (M 2)), ((er 3), aI k 6 (M 3)), ((er 4), aI k 6 (M 4)), ((er 5), aI k 6 (M 5)), (c1, aI k 6 f), (q1, aI k 6 (rwI 2 z M f 0))] rfl (fun j hj => by rfl) rfl ?_
    refine G.eql (lv' := [(0, .ref mo), (1, .ref q1), (2, .int (nI (min 0 N))), (3, .int (rwB 2 z M f 0))]) ((congrArg (β := List (Nat × Value)) (fun z9 => [(0, .ref mo), (1, .ref q1), (2, .int z9), (3, .int 1)]) (show (0 : Int32) = (nI (min 0 N)) from by first | rfl | (rw [Nat.zero_min]; exact nI_0.symm))).trans (congrArg (β := List (Nat × Value)) (fun z9 => [(0, .ref mo), (1, .ref q1), (2, .int (nI (min 0 N))), (3, .int z9)]) (show (1 : Int32) = (rwB 2 z M f 0) from by first | rfl | (rw [Nat.zero_min]; exact nI_0.symm)))) ?_
    exact key_24 (N + 1 - 0 + 1) 0 (by omega) (Nat.lt_succ_self _)
  · exact absurd (show (0 : Int32) ≤ 0 by decide) c_4
