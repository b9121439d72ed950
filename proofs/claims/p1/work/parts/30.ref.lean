theorem dX11_in_0 : decode cX11_in 0 = .ok (.iload_n 0, 1) := by decide +kernel
theorem dX11_in_1 : decode cX11_in 1 = .ok (.iload_n 1, 1) := by decide +kernel
theorem dX11_in_2 : decode cX11_in 2 = .ok (.if_icmp .lt 12, 3) := by decide +kernel
theorem dX11_in_14 : decode cX11_in 14 = .ok (.iconst 0, 1) := by decide +kernel
theorem dX11_in_15 : decode cX11_in 15 = .ok (.ireturn, 1) := by decide +kernel
theorem dX11_in_5 : decode cX11_in 5 = .ok (.iload_n 0, 1) := by decide +kernel
theorem dX11_in_6 : decode cX11_in 6 = .ok (.iload_n 2, 1) := by decide +kernel
theorem dX11_in_7 : decode cX11_in 7 = .ok (.if_icmp .gt 7, 3) := by decide +kernel
theorem dX11_in_10 : decode cX11_in 10 = .ok (.iconst 1, 1) := by decide +kernel
theorem dX11_in_11 : decode cX11_in 11 = .ok (.goto 4, 3) := by decide +kernel
theorem dX11_thrown_0 : decode cX11_thrown 0 = .ok (.aload_n 0, 1) := by decide +kernel
theorem dX11_thrown_1 : decode cX11_thrown 1 = .ok (.getfield 46, 3) := by decide +kernel
theorem q_262 : (Jvm.Cond.fieldLink "ChipfoldModel" (46 : Nat) "ChipfoldModel" "thrown" "I") ∈ WG := wg_5 (List.mem_of_getElem? (i := 172) (by decide +kernel)) (by decide +kernel)
theorem inX11 : ∀ w ∈ u_ws RX11 TX11 12, w ∈ WG := by decide +kernel
theorem dX11_thrown_4 : decode cX11_thrown 4 = .ok (.ireturn, 1) := by decide +kernel
theorem dX11_isVertex_0 : decode cX11_isVertex 0 = .ok (.iload_n 1, 1) := by decide +kernel
theorem dX11_isVertex_1 : decode cX11_isVertex 1 = .ok (.iconst 0, 1) := by decide +kernel
theorem dX11_isVertex_2 : decode cX11_isVertex 2 = .ok (.aload_n 0, 1) := by decide +kernel
theorem dX11_isVertex_3 : decode cX11_isVertex 3 = .ok (.getfield 33, 3) := by decide +kernel
theorem q_263 : (Jvm.Cond.fieldLink "ChipfoldModel" (33 : Nat) "ChipfoldModel" "size" "I") ∈ WG := wg_5 (List.mem_of_getElem? (i := 168) (by decide +kernel)) (by decide +kernel)
theorem dX11_isVertex_6 : decode cX11_isVertex 6 = .ok (.iconst 1, 1) := by decide +kernel
theorem dX11_isVertex_7 : decode cX11_isVertex 7 = .ok (.isub, 1) := by decide +kernel
theorem dX11_isVertex_8 : decode cX11_isVertex 8 = .ok (.invokestatic 49, 3) := by decide +kernel
theorem q_264 : (Jvm.Cond.code ({ cls := "ChipfoldModel", name := "in", desc := "(III)Z" } : Jvm.MethodName) prog_13_method_3_code (3 : Nat) (Option.some Jvm.ClassFile.FieldType.boolean)) ∈ WG := wg_5 (List.mem_of_getElem? (i := 220) rfl) rfl
theorem q_265 : (Jvm.Cond.initialized "ChipfoldModel") ∈ WG := wg_1 (List.mem_of_getElem? (i := 12) (by decide +kernel)) (by decide +kernel)
theorem q_266 : (Jvm.Cond.methodLink "ChipfoldModel" (49 : Nat) ({ cls := "ChipfoldModel", name := "in", desc := "(III)Z" } : Jvm.MethodName)) ∈ WG := wg_5 (List.mem_of_getElem? (i := 218) (by decide +kernel)) (by decide +kernel)
theorem q_267 : (Jvm.Cond.static ({ cls := "ChipfoldModel", name := "in", desc := "(III)Z" } : Jvm.MethodName)) ∈ WG := wg_5 (List.mem_of_getElem? (i := 219) (by decide +kernel)) (by decide +kernel)
theorem dX11_isVertex_11 : decode cX11_isVertex 11 = .ok (.ireturn, 1) := by decide +kernel
theorem dX11_wrongVertex_0 : decode cX11_wrongVertex 0 = .ok (.aload_n 0, 1) := by decide +kernel
theorem dX11_wrongVertex_1 : decode cX11_wrongVertex 1 = .ok (.aload_n 0, 1) := by decide +kernel
theorem dX11_wrongVertex_2 : decode cX11_wrongVertex 2 = .ok (.iload_n 1, 1) := by decide +kernel
theorem dX11_wrongVertex_3 : decode cX11_wrongVertex 3 = .ok (.invokevirtual 53, 3) := by decide +kernel
theorem q_268 : (Jvm.Cond.code ({ cls := "ChipfoldModel", name := "isVertex", desc := "(I)Z" } : Jvm.MethodName) prog_13_method_4_code (2 : Nat) (Option.some Jvm.ClassFile.FieldType.boolean)) ∈ WG := wg_5 (List.mem_of_getElem? (i := 217) rfl) rfl
theorem q_269 : (Jvm.Cond.selects "ChipfoldModel" ({ cls := "ChipfoldModel", name := "isVertex", desc := "(I)Z" } : Jvm.MethodName) ({ cls := "ChipfoldModel", name := "isVertex", desc := "(I)Z" } : Jvm.MethodName)) ∈ WG := wg_0 (by decide +kernel) (by decide +kernel)
theorem q_270 : (Jvm.Cond.methodLink "ChipfoldModel" (53 : Nat) ({ cls := "ChipfoldModel", name := "isVertex", desc := "(I)Z" } : Jvm.MethodName)) ∈ WG := wg_5 (List.mem_of_getElem? (i := 214) (by decide +kernel)) (by decide +kernel)
theorem q_271 : (Jvm.Cond.instanceMethod ({ cls := "ChipfoldModel", name := "isVertex", desc := "(I)Z" } : Jvm.MethodName)) ∈ WG := wg_5 (List.mem_of_getElem? (i := 216) (by decide +kernel)) (by decide +kernel)
theorem dX11_wrongVertex_6 : decode cX11_wrongVertex 6 = .ok (.ifCond .eq 7, 3) := by decide +kernel
theorem dX11_wrongVertex_13 : decode cX11_wrongVertex 13 = .ok (.iconst 1, 1) := by decide +kernel
theorem dX11_wrongVertex_14 : decode cX11_wrongVertex 14 = .ok (.putfield 46, 3) := by decide +kernel
theorem dX11_wrongVertex_17 : decode cX11_wrongVertex 17 = .ok (.aload_n 0, 1) := by decide +kernel
theorem dX11_wrongVertex_18 : decode cX11_wrongVertex 18 = .ok (.getfield 46, 3) := by decide +kernel
theorem dX11_wrongVertex_21 : decode cX11_wrongVertex 21 = .ok (.ireturn, 1) := by decide +kernel
theorem dX11_whole_0 : decode cX11_whole 0 = .ok (.aload_n 0, 1) := by decide +kernel
theorem dX11_whole_1 : decode cX11_whole 1 = .ok (.getfield 33, 3) := by decide +kernel
theorem dX11_whole_4 : decode cX11_whole 4 = .ok (.iconst 2, 1) := by decide +kernel
theorem dX11_whole_5 : decode cX11_whole 5 = .ok (.if_icmp .ge 5, 3) := by decide +kernel
theorem dX11_whole_8 : decode cX11_whole 8 = .ok (.iconst 0, 1) := by decide +kernel
theorem dX11_whole_9 : decode cX11_whole 9 = .ok (.ireturn, 1) := by decide +kernel
theorem dX11_wrongWhole_0 : decode cX11_wrongWhole 0 = .ok (.aload_n 0, 1) := by decide +kernel
theorem dX11_wrongWhole_1 : decode cX11_wrongWhole 1 = .ok (.aload_n 0, 1) := by decide +kernel
theorem dX11_wrongWhole_2 : decode cX11_wrongWhole 2 = .ok (.invokevirtual 71, 3) := by decide +kernel
theorem q_272 : (Jvm.Cond.code ({ cls := "ChipfoldModel", name := "whole", desc := "()Z" } : Jvm.MethodName) prog_13_method_14_code (3 : Nat) (Option.some Jvm.ClassFile.FieldType.boolean)) ∈ WG := wg_6 (List.mem_of_getElem? (i := 4) rfl) rfl
theorem q_273 : (Jvm.Cond.selects "ChipfoldModel" ({ cls := "ChipfoldModel", name := "whole", desc := "()Z" } : Jvm.MethodName) ({ cls := "ChipfoldModel", name := "whole", desc := "()Z" } : Jvm.MethodName)) ∈ WG := wg_0 (by decide +kernel) (by decide +kernel)
theorem q_274 : (Jvm.Cond.methodLink "ChipfoldModel" (71 : Nat) ({ cls := "ChipfoldModel", name := "whole", desc := "()Z" } : Jvm.MethodName)) ∈ WG := wg_6 (List.mem_of_getElem? (i := 1) (by decide +kernel)) (by decide +kernel)
theorem q_275 : (Jvm.Cond.instanceMethod ({ cls := "ChipfoldModel", name := "whole", desc := "()Z" } : Jvm.MethodName)) ∈ WG := wg_6 (List.mem_of_getElem? (i := 3) (by decide +kernel)) (by decide +kernel)
theorem dX11_wrongWhole_5 : decode cX11_wrongWhole 5 = .ok (.ifCond .eq 7, 3) := by decide +kernel
theorem dX11_wrongWhole_12 : decode cX11_wrongWhole 12 = .ok (.iconst 1, 1) := by decide +kernel
theorem dX11_wrongWhole_13 : decode cX11_wrongWhole 13 = .ok (.putfield 46, 3) := by decide +kernel
theorem dX11_wrongWhole_16 : decode cX11_wrongWhole 16 = .ok (.aload_n 0, 1) := by decide +kernel
theorem dX11_wrongWhole_17 : decode cX11_wrongWhole 17 = .ok (.getfield 46, 3) := by decide +kernel
theorem dX11_wrongWhole_20 : decode cX11_wrongWhole 20 = .ok (.ireturn, 1) := by decide +kernel
theorem dX11_plain_0 : decode cX11_plain 0 = .ok (.aload_n 0, 1) := by decide +kernel
theorem dX11_plain_1 : decode cX11_plain 1 = .ok (.iconst 0, 1) := by decide +kernel
theorem dX11_plain_2 : decode cX11_plain 2 = .ok (.putfield 46, 3) := by decide +kernel
theorem dX11_plain_5 : decode cX11_plain 5 = .ok (.iload_n 1, 1) := by decide +kernel
theorem dX11_plain_6 : decode cX11_plain 6 = .ok (.ireturn, 1) := by decide +kernel
theorem dX11_allTrees_0 : decode cX11_allTrees 0 = .ok (.aload_n 0, 1) := by decide +kernel
theorem dX11_allTrees_1 : decode cX11_allTrees 1 = .ok (.getfield 33, 3) := by decide +kernel
theorem dX11_allTrees_4 : decode cX11_allTrees 4 = .ok (.iconst 1, 1) := by decide +kernel
theorem dX11_allTrees_5 : decode cX11_allTrees 5 = .ok (.if_icmp .ne 5, 3) := by decide +kernel
theorem dX11_allTrees_10 : decode cX11_allTrees 10 = .ok (.aload_n 0, 1) := by decide +kernel
theorem dX11_allTrees_11 : decode cX11_allTrees 11 = .ok (.invokevirtual 71, 3) := by decide +kernel
theorem dX11_allTrees_14 : decode cX11_allTrees 14 = .ok (.ifCond .ne 5, 3) := by decide +kernel
theorem dX11_allTrees_17 : decode cX11_allTrees 17 = .ok (.lconst 0, 1) := by decide +kernel
theorem dX11_allTrees_18 : decode cX11_allTrees 18 = .ok (.lreturn, 1) := by decide +kernel
theorem dX11_edges_0 : decode cX11_edges 0 = .ok (.aload_n 0, 1) := by decide +kernel
theorem dX11_edges_1 : decode cX11_edges 1 = .ok (.aload_n 0, 1) := by decide +kernel
theorem dX11_edges_2 : decode cX11_edges 2 = .ok (.iload_n 1, 1) := by decide +kernel
theorem dX11_edges_3 : decode cX11_edges 3 = .ok (.invokevirtual 53, 3) := by decide +kernel
theorem dX11_edges_6 : decode cX11_edges 6 = .ok (.ifCond .eq 11, 3) := by decide +kernel
theorem dX11_edges_17 : decode cX11_edges 17 = .ok (.iconst 1, 1) := by decide +kernel
theorem dX11_edges_18 : decode cX11_edges 18 = .ok (.goto 22, 3) := by decide +kernel
theorem dX11_edges_40 : decode cX11_edges 40 = .ok (.putfield 46, 3) := by decide +kernel
theorem dX11_edges_43 : decode cX11_edges 43 = .ok (.aload_n 0, 1) := by decide +kernel
theorem dX11_edges_44 : decode cX11_edges 44 = .ok (.getfield 46, 3) := by decide +kernel
theorem dX11_edges_47 : decode cX11_edges 47 = .ok (.ifCond .le 5, 3) := by decide +kernel
theorem dX11_edges_50 : decode cX11_edges 50 = .ok (.iconst 0, 1) := by decide +kernel
theorem dX11_edges_51 : decode cX11_edges 51 = .ok (.ireturn, 1) := by decide +kernel
theorem dX11_setSink_0 : decode cX11_setSink 0 = .ok (.aload_n 0, 1) := by decide +kernel
theorem dX11_setSink_1 : decode cX11_setSink 1 = .ok (.iload_n 1, 1) := by decide +kernel
theorem dX11_setSink_2 : decode cX11_setSink 2 = .ok (.invokevirtual 60, 3) := by decide +kernel
theorem q_276 : (Jvm.Cond.code ({ cls := "ChipfoldModel", name := "wrongVertex", desc := "(I)I" } : Jvm.MethodName) prog_13_method_5_code (2 : Nat) (Option.some Jvm.ClassFile.FieldType.int)) ∈ WG := wg_5 (List.mem_of_getElem? (i := 228) rfl) rfl
theorem q_277 : (Jvm.Cond.selects "ChipfoldModel" ({ cls := "ChipfoldModel", name := "wrongVertex", desc := "(I)I" } : Jvm.MethodName) ({ cls := "ChipfoldModel", name := "wrongVertex", desc := "(I)I" } : Jvm.MethodName)) ∈ WG := wg_0 (by decide +kernel) (by decide +kernel)
theorem q_278 : (Jvm.Cond.methodLink "ChipfoldModel" (60 : Nat) ({ cls := "ChipfoldModel", name := "wrongVertex", desc := "(I)I" } : Jvm.MethodName)) ∈ WG := wg_5 (List.mem_of_getElem? (i := 225) (by decide +kernel)) (by decide +kernel)
theorem q_279 : (Jvm.Cond.instanceMethod ({ cls := "ChipfoldModel", name := "wrongVertex", desc := "(I)I" } : Jvm.MethodName)) ∈ WG := wg_5 (List.mem_of_getElem? (i := 227) (by decide +kernel)) (by decide +kernel)
theorem dX11_setSink_5 : decode cX11_setSink 5 = .ok (.ifCond .le 5, 3) := by decide +kernel
theorem dX11_setSink_8 : decode cX11_setSink 8 = .ok (.iconst 0, 1) := by decide +kernel
theorem dX11_setSink_9 : decode cX11_setSink 9 = .ok (.ireturn, 1) := by decide +kernel
theorem dX11_degree_0 : decode cX11_degree 0 = .ok (.aload_n 0, 1) := by decide +kernel
theorem dX11_degree_1 : decode cX11_degree 1 = .ok (.iload_n 1, 1) := by decide +kernel
theorem dX11_degree_2 : decode cX11_degree 2 = .ok (.invokevirtual 60, 3) := by decide +kernel
theorem dX11_degree_5 : decode cX11_degree 5 = .ok (.ifCond .le 7, 3) := by decide +kernel
theorem dX11_degree_8 : decode cX11_degree 8 = .ok (.iconst 0, 1) := by decide +kernel
theorem dX11_degree_9 : decode cX11_degree 9 = .ok (.goto 8, 3) := by decide +kernel
theorem dX11_degree_17 : decode cX11_degree 17 = .ok (.ireturn, 1) := by decide +kernel
theorem dX11_put_0 : decode cX11_put 0 = .ok (.aload_n 0, 1) := by decide +kernel
theorem dX11_put_1 : decode cX11_put 1 = .ok (.aload_n 0, 1) := by decide +kernel
theorem dX11_put_2 : decode cX11_put 2 = .ok (.iload_n 1, 1) := by decide +kernel
theorem dX11_put_3 : decode cX11_put 3 = .ok (.invokevirtual 53, 3) := by decide +kernel
theorem dX11_put_6 : decode cX11_put 6 = .ok (.ifCond .ne 7, 3) := by decide +kernel
theorem dX11_put_9 : decode cX11_put 9 = .ok (.iconst 1, 1) := by decide +kernel
theorem dX11_put_10 : decode cX11_put 10 = .ok (.goto 45, 3) := by decide +kernel
theorem dX11_put_55 : decode cX11_put 55 = .ok (.putfield 46, 3) := by decide +kernel
theorem dX11_put_58 : decode cX11_put 58 = .ok (.aload_n 0, 1) := by decide +kernel
theorem dX11_put_59 : decode cX11_put 59 = .ok (.getfield 46, 3) := by decide +kernel
theorem dX11_put_62 : decode cX11_put 62 = .ok (.ifCond .le 5, 3) := by decide +kernel
theorem dX11_put_65 : decode cX11_put 65 = .ok (.iconst 0, 1) := by decide +kernel
theorem dX11_put_66 : decode cX11_put 66 = .ok (.ireturn, 1) := by decide +kernel
theorem dX11_chips_0 : decode cX11_chips 0 = .ok (.aload_n 0, 1) := by decide +kernel
theorem dX11_chips_1 : decode cX11_chips 1 = .ok (.iload_n 1, 1) := by decide +kernel
theorem dX11_chips_2 : decode cX11_chips 2 = .ok (.invokevirtual 60, 3) := by decide +kernel
theorem dX11_chips_5 : decode cX11_chips 5 = .ok (.ifCond .gt 11, 3) := by decide +kernel
theorem dX11_chips_16 : decode cX11_chips 16 = .ok (.iconst 0, 1) := by decide +kernel
theorem dX11_chips_17 : decode cX11_chips 17 = .ok (.goto 9, 3) := by decide +kernel
theorem dX11_chips_26 : decode cX11_chips 26 = .ok (.ireturn, 1) := by decide +kernel
theorem dX11_topple_0 : decode cX11_topple 0 = .ok (.aload_n 0, 1) := by decide +kernel
theorem dX11_topple_1 : decode cX11_topple 1 = .ok (.iload_n 1, 1) := by decide +kernel
theorem dX11_topple_2 : decode cX11_topple 2 = .ok (.invokevirtual 60, 3) := by decide +kernel
theorem dX11_topple_5 : decode cX11_topple 5 = .ok (.ifCond .ne 20, 3) := by decide +kernel
theorem dX11_topple_25 : decode cX11_topple 25 = .ok (.aload_n 0, 1) := by decide +kernel
theorem dX11_topple_26 : decode cX11_topple 26 = .ok (.getfield 46, 3) := by decide +kernel
theorem dX11_topple_29 : decode cX11_topple 29 = .ok (.ifCond .le 5, 3) := by decide +kernel
theorem dX11_topple_32 : decode cX11_topple 32 = .ok (.iconst 0, 1) := by decide +kernel
theorem dX11_topple_33 : decode cX11_topple 33 = .ok (.ireturn, 1) := by decide +kernel
theorem dX11_count_0 : decode cX11_count 0 = .ok (.aload_n 0, 1) := by decide +kernel
theorem dX11_count_1 : decode cX11_count 1 = .ok (.iload_n 1, 1) := by decide +kernel
theorem dX11_count_2 : decode cX11_count 2 = .ok (.invokevirtual 60, 3) := by decide +kernel
theorem dX11_count_5 : decode cX11_count 5 = .ok (.ifCond .le 7, 3) := by decide +kernel
theorem dX11_count_8 : decode cX11_count 8 = .ok (.iconst 0, 1) := by decide +kernel
theorem dX11_count_9 : decode cX11_count 9 = .ok (.goto 9, 3) := by decide +kernel
theorem dX11_count_18 : decode cX11_count 18 = .ok (.ireturn, 1) := by decide +kernel
theorem dX11_burns_0 : decode cX11_burns 0 = .ok (.aload_n 0, 1) := by decide +kernel
theorem dX11_burns_1 : decode cX11_burns 1 = .ok (.iload_n 1, 1) := by decide +kernel
theorem dX11_burns_2 : decode cX11_burns 2 = .ok (.invokevirtual 60, 3) := by decide +kernel
theorem dX11_burns_5 : decode cX11_burns 5 = .ok (.ifCond .le 7, 3) := by decide +kernel
theorem dX11_burns_8 : decode cX11_burns 8 = .ok (.iconst 0, 1) := by decide +kernel
theorem dX11_burns_9 : decode cX11_burns 9 = .ok (.goto 13, 3) := by decide +kernel
theorem dX11_burns_22 : decode cX11_burns 22 = .ok (.ireturn, 1) := by decide +kernel
theorem dX11_unit_0 : decode cX11_unit 0 = .ok (.aload_n 0, 1) := by decide +kernel
theorem dX11_unit_1 : decode cX11_unit 1 = .ok (.iload_n 1, 1) := by decide +kernel
theorem dX11_unit_2 : decode cX11_unit 2 = .ok (.invokevirtual 60, 3) := by decide +kernel
theorem dX11_unit_5 : decode cX11_unit 5 = .ok (.ifCond .ne 15, 3) := by decide +kernel
theorem dX11_unit_20 : decode cX11_unit 20 = .ok (.aload_n 0, 1) := by decide +kernel
theorem dX11_unit_21 : decode cX11_unit 21 = .ok (.getfield 46, 3) := by decide +kernel
theorem dX11_unit_24 : decode cX11_unit 24 = .ok (.ifCond .gt 11, 3) := by decide +kernel
theorem dX11_unit_35 : decode cX11_unit 35 = .ok (.iconst 0, 1) := by decide +kernel
theorem dX11_unit_36 : decode cX11_unit 36 = .ok (.goto 9, 3) := by decide +kernel
theorem dX11_unit_45 : decode cX11_unit 45 = .ok (.ireturn, 1) := by decide +kernel
theorem dX11_walk_0 : decode cX11_walk 0 = .ok (.aload_n 0, 1) := by decide +kernel
theorem dX11_walk_1 : decode cX11_walk 1 = .ok (.iload_n 1, 1) := by decide +kernel
theorem dX11_walk_2 : decode cX11_walk 2 = .ok (.invokevirtual 60, 3) := by decide +kernel
theorem dX11_walk_5 : decode cX11_walk 5 = .ok (.ifCond .ne 15, 3) := by decide +kernel
theorem dX11_walk_20 : decode cX11_walk 20 = .ok (.aload_n 0, 1) := by decide +kernel
theorem dX11_walk_21 : decode cX11_walk 21 = .ok (.getfield 46, 3) := by decide +kernel
theorem dX11_walk_24 : decode cX11_walk 24 = .ok (.ifCond .le 5, 3) := by decide +kernel
theorem dX11_walk_27 : decode cX11_walk 27 = .ok (.iconst 0, 1) := by decide +kernel
theorem dX11_walk_28 : decode cX11_walk 28 = .ok (.ireturn, 1) := by decide +kernel
theorem dX11_rotor_0 : decode cX11_rotor 0 = .ok (.aload_n 0, 1) := by decide +kernel
theorem dX11_rotor_1 : decode cX11_rotor 1 = .ok (.iload_n 1, 1) := by decide +kernel
theorem dX11_rotor_2 : decode cX11_rotor 2 = .ok (.invokevirtual 60, 3) := by decide +kernel
theorem dX11_rotor_5 : decode cX11_rotor 5 = .ok (.ifCond .ne 24, 3) := by decide +kernel
theorem dX11_rotor_29 : decode cX11_rotor 29 = .ok (.aload_n 0, 1) := by decide +kernel
theorem dX11_rotor_30 : decode cX11_rotor 30 = .ok (.getfield 46, 3) := by decide +kernel
theorem dX11_rotor_33 : decode cX11_rotor 33 = .ok (.ifCond .le 7, 3) := by decide +kernel
theorem dX11_rotor_36 : decode cX11_rotor 36 = .ok (.iconst 0, 1) := by decide +kernel
theorem dX11_rotor_37 : decode cX11_rotor 37 = .ok (.goto 8, 3) := by decide +kernel
theorem dX11_rotor_45 : decode cX11_rotor 45 = .ok (.ireturn, 1) := by decide +kernel
theorem dX11_visits_0 : decode cX11_visits 0 = .ok (.aload_n 0, 1) := by decide +kernel
theorem dX11_visits_1 : decode cX11_visits 1 = .ok (.iload_n 1, 1) := by decide +kernel
theorem dX11_visits_2 : decode cX11_visits 2 = .ok (.invokevirtual 60, 3) := by decide +kernel
theorem dX11_visits_5 : decode cX11_visits 5 = .ok (.ifCond .le 7, 3) := by decide +kernel
theorem dX11_visits_8 : decode cX11_visits 8 = .ok (.iconst 0, 1) := by decide +kernel
theorem dX11_visits_9 : decode cX11_visits 9 = .ok (.goto 9, 3) := by decide +kernel
theorem dX11_visits_18 : decode cX11_visits 18 = .ok (.ireturn, 1) := by decide +kernel
theorem dX11_setDebt_0 : decode cX11_setDebt 0 = .ok (.aload_n 0, 1) := by decide +kernel
theorem dX11_setDebt_1 : decode cX11_setDebt 1 = .ok (.aload_n 0, 1) := by decide +kernel
theorem dX11_setDebt_2 : decode cX11_setDebt 2 = .ok (.iload_n 1, 1) := by decide +kernel
theorem dX11_setDebt_3 : decode cX11_setDebt 3 = .ok (.invokevirtual 53, 3) := by decide +kernel
theorem dX11_setDebt_6 : decode cX11_setDebt 6 = .ok (.ifCond .ne 7, 3) := by decide +kernel
theorem dX11_setDebt_9 : decode cX11_setDebt 9 = .ok (.iconst 1, 1) := by decide +kernel
theorem dX11_setDebt_10 : decode cX11_setDebt 10 = .ok (.goto 19, 3) := by decide +kernel
theorem dX11_setDebt_29 : decode cX11_setDebt 29 = .ok (.putfield 46, 3) := by decide +kernel
theorem dX11_setDebt_32 : decode cX11_setDebt 32 = .ok (.aload_n 0, 1) := by decide +kernel
theorem dX11_setDebt_33 : decode cX11_setDebt 33 = .ok (.getfield 46, 3) := by decide +kernel
theorem dX11_setDebt_36 : decode cX11_setDebt 36 = .ok (.ifCond .le 5, 3) := by decide +kernel
theorem dX11_setDebt_39 : decode cX11_setDebt 39 = .ok (.iconst 0, 1) := by decide +kernel
theorem dX11_setDebt_40 : decode cX11_setDebt 40 = .ok (.ireturn, 1) := by decide +kernel
theorem dX11_deal_0 : decode cX11_deal 0 = .ok (.aload_n 0, 1) := by decide +kernel
theorem dX11_deal_1 : decode cX11_deal 1 = .ok (.iload_n 1, 1) := by decide +kernel
theorem dX11_deal_2 : decode cX11_deal 2 = .ok (.invokevirtual 60, 3) := by decide +kernel
theorem dX11_deal_5 : decode cX11_deal 5 = .ok (.ifCond .le 5, 3) := by decide +kernel
theorem dX11_deal_8 : decode cX11_deal 8 = .ok (.iconst 0, 1) := by decide +kernel
theorem dX11_deal_9 : decode cX11_deal 9 = .ok (.ireturn, 1) := by decide +kernel
theorem dX11_debt_0 : decode cX11_debt 0 = .ok (.aload_n 0, 1) := by decide +kernel
theorem dX11_debt_1 : decode cX11_debt 1 = .ok (.iload_n 1, 1) := by decide +kernel
theorem dX11_debt_2 : decode cX11_debt 2 = .ok (.invokevirtual 60, 3) := by decide +kernel
theorem dX11_debt_5 : decode cX11_debt 5 = .ok (.ifCond .le 7, 3) := by decide +kernel
theorem dX11_debt_8 : decode cX11_debt 8 = .ok (.iconst 0, 1) := by decide +kernel
theorem dX11_debt_9 : decode cX11_debt 9 = .ok (.goto 9, 3) := by decide +kernel
theorem dX11_debt_18 : decode cX11_debt 18 = .ok (.ireturn, 1) := by decide +kernel
theorem dX11_reduced_0 : decode cX11_reduced 0 = .ok (.aload_n 0, 1) := by decide +kernel
theorem dX11_reduced_1 : decode cX11_reduced 1 = .ok (.iload_n 1, 1) := by decide +kernel
theorem dX11_reduced_2 : decode cX11_reduced 2 = .ok (.invokevirtual 60, 3) := by decide +kernel
theorem dX11_reduced_5 : decode cX11_reduced 5 = .ok (.ifCond .ne 15, 3) := by decide +kernel
theorem dX11_reduced_20 : decode cX11_reduced 20 = .ok (.aload_n 0, 1) := by decide +kernel
theorem dX11_reduced_21 : decode cX11_reduced 21 = .ok (.getfield 46, 3) := by decide +kernel
theorem dX11_reduced_24 : decode cX11_reduced 24 = .ok (.ifCond .le 7, 3) := by decide +kernel
theorem dX11_reduced_27 : decode cX11_reduced 27 = .ok (.iconst 0, 1) := by decide +kernel
theorem dX11_reduced_28 : decode cX11_reduced 28 = .ok (.goto 13, 3) := by decide +kernel
theorem dX11_reduced_41 : decode cX11_reduced 41 = .ok (.ireturn, 1) := by decide +kernel
theorem dX11_settle_0 : decode cX11_settle 0 = .ok (.aload_n 0, 1) := by decide +kernel
theorem dX11_settle_1 : decode cX11_settle 1 = .ok (.invokevirtual 86, 3) := by decide +kernel
theorem q_280 : (Jvm.Cond.code ({ cls := "ChipfoldModel", name := "wrongWhole", desc := "()I" } : Jvm.MethodName) prog_13_method_16_code (1 : Nat) (Option.some Jvm.ClassFile.FieldType.int)) ∈ WG := wg_6 (List.mem_of_getElem? (i := 41) rfl) rfl
theorem q_281 : (Jvm.Cond.selects "ChipfoldModel" ({ cls := "ChipfoldModel", name := "wrongWhole", desc := "()I" } : Jvm.MethodName) ({ cls := "ChipfoldModel", name := "wrongWhole", desc := "()I" } : Jvm.MethodName)) ∈ WG := wg_0 (by decide +kernel) (by decide +kernel)
theorem q_282 : (Jvm.Cond.methodLink "ChipfoldModel" (86 : Nat) ({ cls := "ChipfoldModel", name := "wrongWhole", desc := "()I" } : Jvm.MethodName)) ∈ WG := wg_6 (List.mem_of_getElem? (i := 38) (by decide +kernel)) (by decide +kernel)
theorem q_283 : (Jvm.Cond.instanceMethod ({ cls := "ChipfoldModel", name := "wrongWhole", desc := "()I" } : Jvm.MethodName)) ∈ WG := wg_6 (List.mem_of_getElem? (i := 40) (by decide +kernel)) (by decide +kernel)
theorem dX11_settle_4 : decode cX11_settle 4 = .ok (.ifCond .le 5, 3) := by decide +kernel
theorem dX11_settle_7 : decode cX11_settle 7 = .ok (.iconst 0, 1) := by decide +kernel
theorem dX11_settle_8 : decode cX11_settle 8 = .ok (.ireturn, 1) := by decide +kernel
theorem dX11_waves_0 : decode cX11_waves 0 = .ok (.aload_n 0, 1) := by decide +kernel
theorem dX11_waves_1 : decode cX11_waves 1 = .ok (.invokevirtual 86, 3) := by decide +kernel
theorem dX11_waves_4 : decode cX11_waves 4 = .ok (.ifCond .le 5, 3) := by decide +kernel
theorem dX11_waves_7 : decode cX11_waves 7 = .ok (.iconst 0, 1) := by decide +kernel
theorem dX11_waves_8 : decode cX11_waves 8 = .ok (.ireturn, 1) := by decide +kernel
theorem dX11_isAgain_0 : decode cX11_isAgain 0 = .ok (.aload_n 0, 1) := by decide +kernel
theorem dX11_isAgain_1 : decode cX11_isAgain 1 = .ok (.invokevirtual 86, 3) := by decide +kernel
theorem dX11_isAgain_4 : decode cX11_isAgain 4 = .ok (.ifCond .le 5, 3) := by decide +kernel
theorem dX11_isAgain_7 : decode cX11_isAgain 7 = .ok (.iconst 0, 1) := by decide +kernel
theorem dX11_isAgain_8 : decode cX11_isAgain 8 = .ok (.ireturn, 1) := by decide +kernel
theorem dX11_square_0 : decode cX11_square 0 = .ok (.aload_n 0, 1) := by decide +kernel
theorem dX11_square_1 : decode cX11_square 1 = .ok (.invokevirtual 86, 3) := by decide +kernel
theorem dX11_square_4 : decode cX11_square 4 = .ok (.ifCond .ne 38, 3) := by decide +kernel
theorem dX11_square_42 : decode cX11_square 42 = .ok (.aload_n 0, 1) := by decide +kernel
theorem dX11_square_43 : decode cX11_square 43 = .ok (.getfield 46, 3) := by decide +kernel
theorem dX11_square_46 : decode cX11_square 46 = .ok (.ifCond .le 5, 3) := by decide +kernel
theorem dX11_square_49 : decode cX11_square 49 = .ok (.iconst 0, 1) := by decide +kernel
theorem dX11_square_50 : decode cX11_square 50 = .ok (.ireturn, 1) := by decide +kernel
theorem dX11_factors_0 : decode cX11_factors 0 = .ok (.aload_n 0, 1) := by decide +kernel
theorem dX11_factors_1 : decode cX11_factors 1 = .ok (.invokevirtual 86, 3) := by decide +kernel
theorem dX11_factors_4 : decode cX11_factors 4 = .ok (.ifCond .le 7, 3) := by decide +kernel
theorem dX11_factors_7 : decode cX11_factors 7 = .ok (.iconst 0, 1) := by decide +kernel
theorem dX11_factors_8 : decode cX11_factors 8 = .ok (.goto 10, 3) := by decide +kernel
theorem dX11_factors_18 : decode cX11_factors 18 = .ok (.ireturn, 1) := by decide +kernel
theorem dX11_factorAt_0 : decode cX11_factorAt 0 = .ok (.aload_n 0, 1) := by decide +kernel
theorem dX11_factorAt_1 : decode cX11_factorAt 1 = .ok (.invokevirtual 86, 3) := by decide +kernel
theorem dX11_factorAt_4 : decode cX11_factorAt 4 = .ok (.ifCond .ne 25, 3) := by decide +kernel
theorem dX11_factorAt_29 : decode cX11_factorAt 29 = .ok (.aload_n 0, 1) := by decide +kernel
theorem dX11_factorAt_30 : decode cX11_factorAt 30 = .ok (.getfield 46, 3) := by decide +kernel
theorem dX11_factorAt_33 : decode cX11_factorAt 33 = .ok (.ifCond .le 7, 3) := by decide +kernel
theorem dX11_factorAt_36 : decode cX11_factorAt 36 = .ok (.lconst 0, 1) := by decide +kernel
theorem dX11_factorAt_37 : decode cX11_factorAt 37 = .ok (.goto 17, 3) := by decide +kernel
theorem dX11_factorAt_54 : decode cX11_factorAt 54 = .ok (.lreturn, 1) := by decide +kernel
theorem dX11_order_0 : decode cX11_order 0 = .ok (.aload_n 0, 1) := by decide +kernel
theorem dX11_order_1 : decode cX11_order 1 = .ok (.invokevirtual 86, 3) := by decide +kernel
theorem dX11_order_4 : decode cX11_order 4 = .ok (.ifCond .le 5, 3) := by decide +kernel
theorem dX11_order_7 : decode cX11_order 7 = .ok (.lconst 0, 1) := by decide +kernel
theorem dX11_order_8 : decode cX11_order 8 = .ok (.lreturn, 1) := by decide +kernel
theorem dX11_areTree_0 : decode cX11_areTree 0 = .ok (.aload_n 0, 1) := by decide +kernel
theorem dX11_areTree_1 : decode cX11_areTree 1 = .ok (.invokevirtual 86, 3) := by decide +kernel
theorem dX11_areTree_4 : decode cX11_areTree 4 = .ok (.ifCond .le 5, 3) := by decide +kernel
theorem dX11_areTree_7 : decode cX11_areTree 7 = .ok (.iconst 0, 1) := by decide +kernel
theorem dX11_areTree_8 : decode cX11_areTree 8 = .ok (.ireturn, 1) := by decide +kernel
theorem dX11_canPay_0 : decode cX11_canPay 0 = .ok (.aload_n 0, 1) := by decide +kernel
theorem dX11_canPay_1 : decode cX11_canPay 1 = .ok (.invokevirtual 86, 3) := by decide +kernel
theorem dX11_canPay_4 : decode cX11_canPay 4 = .ok (.ifCond .ne 18, 3) := by decide +kernel
theorem dX11_canPay_22 : decode cX11_canPay 22 = .ok (.iconst 0, 1) := by decide +kernel
theorem dX11_canPay_23 : decode cX11_canPay 23 = .ok (.ireturn, 1) := by decide +kernel
theorem dX11_rank_0 : decode cX11_rank 0 = .ok (.aload_n 0, 1) := by decide +kernel
theorem dX11_rank_1 : decode cX11_rank 1 = .ok (.invokevirtual 86, 3) := by decide +kernel
theorem dX11_rank_4 : decode cX11_rank 4 = .ok (.ifCond .ne 20, 3) := by decide +kernel
theorem dX11_rank_24 : decode cX11_rank 24 = .ok (.aload_n 0, 1) := by decide +kernel
theorem dX11_rank_25 : decode cX11_rank 25 = .ok (.getfield 46, 3) := by decide +kernel
theorem dX11_rank_28 : decode cX11_rank 28 = .ok (.ifCond .le 5, 3) := by decide +kernel
theorem dX11_rank_31 : decode cX11_rank 31 = .ok (.iconst 0, 1) := by decide +kernel
theorem dX11_rank_32 : decode cX11_rank 32 = .ok (.ireturn, 1) := by decide +kernel
theorem dX11_isWhole_0 : decode cX11_isWhole 0 = .ok (.aload_n 0, 1) := by decide +kernel
theorem dX11_isWhole_1 : decode cX11_isWhole 1 = .ok (.iconst 0, 1) := by decide +kernel
theorem dX11_isWhole_2 : decode cX11_isWhole 2 = .ok (.putfield 46, 3) := by decide +kernel
theorem dX11_isWhole_5 : decode cX11_isWhole 5 = .ok (.aload_n 0, 1) := by decide +kernel
theorem dX11_isWhole_6 : decode cX11_isWhole 6 = .ok (.invokevirtual 71, 3) := by decide +kernel
theorem dX11_isWhole_9 : decode cX11_isWhole 9 = .ok (.ireturn, 1) := by decide +kernel
theorem dX11_swallowed_0 : decode cX11_swallowed 0 = .ok (.aload_n 0, 1) := by decide +kernel
theorem dX11_swallowed_1 : decode cX11_swallowed 1 = .ok (.aload_n 0, 1) := by decide +kernel
theorem dX11_swallowed_2 : decode cX11_swallowed 2 = .ok (.getfield 40, 3) := by decide +kernel
theorem q_284 : (Jvm.Cond.fieldLink "ChipfoldModel" (40 : Nat) "ChipfoldModel" "swallowed" "I") ∈ WG := wg_5 (List.mem_of_getElem? (i := 170) (by decide +kernel)) (by decide +kernel)
theorem dX11_swallowed_5 : decode cX11_swallowed 5 = .ok (.invokevirtual 99, 3) := by decide +kernel
theorem q_285 : (Jvm.Cond.code ({ cls := "ChipfoldModel", name := "plain", desc := "(I)I" } : Jvm.MethodName) prog_13_method_6_code (2 : Nat) (Option.some Jvm.ClassFile.FieldType.int)) ∈ WG := wg_6 (List.mem_of_getElem? (i := 68) rfl) rfl
theorem q_286 : (Jvm.Cond.selects "ChipfoldModel" ({ cls := "ChipfoldModel", name := "plain", desc := "(I)I" } : Jvm.MethodName) ({ cls := "ChipfoldModel", name := "plain", desc := "(I)I" } : Jvm.MethodName)) ∈ WG := wg_0 (by decide +kernel) (by decide +kernel)
theorem q_287 : (Jvm.Cond.methodLink "ChipfoldModel" (99 : Nat) ({ cls := "ChipfoldModel", name := "plain", desc := "(I)I" } : Jvm.MethodName)) ∈ WG := wg_6 (List.mem_of_getElem? (i := 65) (by decide +kernel)) (by decide +kernel)
theorem q_288 : (Jvm.Cond.instanceMethod ({ cls := "ChipfoldModel", name := "plain", desc := "(I)I" } : Jvm.MethodName)) ∈ WG := wg_6 (List.mem_of_getElem? (i := 67) (by decide +kernel)) (by decide +kernel)
theorem dX11_swallowed_8 : decode cX11_swallowed 8 = .ok (.ireturn, 1) := by decide +kernel
theorem dX11_trees_0 : decode cX11_trees 0 = .ok (.aload_n 0, 1) := by decide +kernel
theorem dX11_trees_1 : decode cX11_trees 1 = .ok (.iconst 0, 1) := by decide +kernel
theorem dX11_trees_2 : decode cX11_trees 2 = .ok (.putfield 46, 3) := by decide +kernel
theorem dX11_trees_5 : decode cX11_trees 5 = .ok (.aload_n 0, 1) := by decide +kernel
theorem dX11_trees_6 : decode cX11_trees 6 = .ok (.invokevirtual 148, 3) := by decide +kernel
theorem q_289 : (Jvm.Cond.code ({ cls := "ChipfoldModel", name := "allTrees", desc := "()J" } : Jvm.MethodName) prog_13_method_41_code (8 : Nat) (Option.some Jvm.ClassFile.FieldType.long)) ∈ WG := wg_6 (List.mem_of_getElem? (i := 111) rfl) rfl
theorem q_290 : (Jvm.Cond.selects "ChipfoldModel" ({ cls := "ChipfoldModel", name := "allTrees", desc := "()J" } : Jvm.MethodName) ({ cls := "ChipfoldModel", name := "allTrees", desc := "()J" } : Jvm.MethodName)) ∈ WG := wg_0 (by decide +kernel) (by decide +kernel)
theorem q_291 : (Jvm.Cond.methodLink "ChipfoldModel" (148 : Nat) ({ cls := "ChipfoldModel", name := "allTrees", desc := "()J" } : Jvm.MethodName)) ∈ WG := wg_6 (List.mem_of_getElem? (i := 108) (by decide +kernel)) (by decide +kernel)
theorem q_292 : (Jvm.Cond.instanceMethod ({ cls := "ChipfoldModel", name := "allTrees", desc := "()J" } : Jvm.MethodName)) ∈ WG := wg_6 (List.mem_of_getElem? (i := 110) (by decide +kernel)) (by decide +kernel)
theorem dX11_trees_9 : decode cX11_trees 9 = .ok (.lreturn, 1) := by decide +kernel
theorem dX11_settledShare_0 : decode cX11_settledShare 0 = .ok (.aload_n 0, 1) := by decide +kernel
theorem dX11_settledShare_1 : decode cX11_settledShare 1 = .ok (.aload_n 0, 1) := by decide +kernel
theorem dX11_settledShare_2 : decode cX11_settledShare 2 = .ok (.getfield 33, 3) := by decide +kernel
theorem dX11_settledShare_5 : decode cX11_settledShare 5 = .ok (.iconst 2, 1) := by decide +kernel
theorem dX11_settledShare_6 : decode cX11_settledShare 6 = .ok (.if_icmp .ge 7, 3) := by decide +kernel
theorem dX11_settledShare_9 : decode cX11_settledShare 9 = .ok (.iconst 1, 1) := by decide +kernel
theorem dX11_settledShare_10 : decode cX11_settledShare 10 = .ok (.goto 4, 3) := by decide +kernel
theorem dX11_settledShare_14 : decode cX11_settledShare 14 = .ok (.putfield 46, 3) := by decide +kernel
theorem dX11_settledShare_17 : decode cX11_settledShare 17 = .ok (.aload_n 0, 1) := by decide +kernel
theorem dX11_settledShare_18 : decode cX11_settledShare 18 = .ok (.getfield 46, 3) := by decide +kernel
theorem dX11_settledShare_21 : decode cX11_settledShare 21 = .ok (.ifCond .le 5, 3) := by decide +kernel
theorem dX11_settledShare_24 : decode cX11_settledShare 24 = .ok (.fconst 0, 1) := by decide +kernel
theorem dX11_settledShare_25 : decode cX11_settledShare 25 = .ok (.freturn, 1) := by decide +kernel
theorem dX11_meanChips_0 : decode cX11_meanChips 0 = .ok (.aload_n 0, 1) := by decide +kernel
theorem dX11_meanChips_1 : decode cX11_meanChips 1 = .ok (.aload_n 0, 1) := by decide +kernel
theorem dX11_meanChips_2 : decode cX11_meanChips 2 = .ok (.getfield 33, 3) := by decide +kernel
theorem dX11_meanChips_5 : decode cX11_meanChips 5 = .ok (.iconst 2, 1) := by decide +kernel
theorem dX11_meanChips_6 : decode cX11_meanChips 6 = .ok (.if_icmp .ge 7, 3) := by decide +kernel
theorem dX11_meanChips_9 : decode cX11_meanChips 9 = .ok (.iconst 1, 1) := by decide +kernel
theorem dX11_meanChips_10 : decode cX11_meanChips 10 = .ok (.goto 4, 3) := by decide +kernel
theorem dX11_meanChips_14 : decode cX11_meanChips 14 = .ok (.putfield 46, 3) := by decide +kernel
theorem dX11_meanChips_17 : decode cX11_meanChips 17 = .ok (.aload_n 0, 1) := by decide +kernel
theorem dX11_meanChips_18 : decode cX11_meanChips 18 = .ok (.getfield 46, 3) := by decide +kernel
theorem dX11_meanChips_21 : decode cX11_meanChips 21 = .ok (.ifCond .le 5, 3) := by decide +kernel
theorem dX11_meanChips_24 : decode cX11_meanChips 24 = .ok (.dconst 0, 1) := by decide +kernel
theorem dX11_meanChips_25 : decode cX11_meanChips 25 = .ok (.dreturn, 1) := by decide +kernel
theorem dX11_isSound_0 : decode cX11_isSound 0 = .ok (.aload_n 0, 1) := by decide +kernel
theorem dX11_isSound_1 : decode cX11_isSound 1 = .ok (.iconst 0, 1) := by decide +kernel
theorem dX11_isSound_2 : decode cX11_isSound 2 = .ok (.putfield 46, 3) := by decide +kernel
theorem dX11_isSound_5 : decode cX11_isSound 5 = .ok (.iconst 1, 1) := by decide +kernel
theorem dX11_isSound_6 : decode cX11_isSound 6 = .ok (.ireturn, 1) := by decide +kernel
theorem dX11_pixel_0 : decode cX11_pixel 0 = .ok (.aload_n 0, 1) := by decide +kernel
theorem dX11_pixel_1 : decode cX11_pixel 1 = .ok (.aload_n 0, 1) := by decide +kernel
theorem dX11_pixel_2 : decode cX11_pixel 2 = .ok (.getfield 30, 3) := by decide +kernel
theorem q_293 : (Jvm.Cond.fieldLink "ChipfoldModel" (30 : Nat) "ChipfoldModel" "cells" "[I") ∈ WG := wg_5 (List.mem_of_getElem? (i := 167) (by decide +kernel)) (by decide +kernel)
theorem dX11_pixel_5 : decode cX11_pixel 5 = .ok (.ifnonnull 7, 3) := by decide +kernel
theorem dX11_pixel_8 : decode cX11_pixel 8 = .ok (.iconst 1, 1) := by decide +kernel
theorem dX11_pixel_9 : decode cX11_pixel 9 = .ok (.goto 23, 3) := by decide +kernel
theorem dX11_pixel_32 : decode cX11_pixel 32 = .ok (.putfield 46, 3) := by decide +kernel
theorem dX11_pixel_35 : decode cX11_pixel 35 = .ok (.aload_n 0, 1) := by decide +kernel
theorem dX11_pixel_36 : decode cX11_pixel 36 = .ok (.getfield 46, 3) := by decide +kernel
theorem dX11_pixel_39 : decode cX11_pixel 39 = .ok (.ifCond .le 7, 3) := by decide +kernel
theorem dX11_pixel_42 : decode cX11_pixel 42 = .ok (.iconst 0, 1) := by decide +kernel
theorem dX11_pixel_43 : decode cX11_pixel 43 = .ok (.goto 9, 3) := by decide +kernel
theorem dX11_pixel_52 : decode cX11_pixel 52 = .ok (.ireturn, 1) := by decide +kernel
theorem dX11_init_0 : decode cX11_init 0 = .ok (.aload_n 0, 1) := by decide +kernel
theorem dX11_init_1 : decode cX11_init 1 = .ok (.invokespecial 1, 3) := by decide +kernel
theorem q_294 : (Jvm.Cond.methodLink "ChipfoldModel" (1 : Nat) ({ cls := "java/lang/Object", name := "<init>", desc := "()V" } : Jvm.MethodName)) ∈ WG := wg_5 (List.mem_of_getElem? (i := 158) (by decide +kernel)) (by decide +kernel)
theorem dX11_init_4 : decode cX11_init 4 = .ok (.aload_n 0, 1) := by decide +kernel
theorem dX11_init_5 : decode cX11_init 5 = .ok (.bipush 6, 2) := by decide +kernel
theorem dX11_init_7 : decode cX11_init 7 = .ok (.bipush 6, 2) := by decide +kernel
theorem dX11_init_9 : decode cX11_init 9 = .ok (.multianewarray 7 2, 4) := by decide +kernel
theorem q_295 : (Jvm.Cond.classLink "ChipfoldModel" (7 : Nat) "[[I") ∈ WG := wg_5 (List.mem_of_getElem? (i := 159) (by decide +kernel)) (by decide +kernel)
theorem dX11_init_13 : decode cX11_init 13 = .ok (.putfield 9, 3) := by decide +kernel
theorem q_296 : (Jvm.Cond.fieldLink "ChipfoldModel" (9 : Nat) "ChipfoldModel" "edges" "[[I") ∈ WG := wg_5 (List.mem_of_getElem? (i := 161) (by decide +kernel)) (by decide +kernel)
theorem dX11_init_16 : decode cX11_init 16 = .ok (.aload_n 0, 1) := by decide +kernel
theorem dX11_init_17 : decode cX11_init 17 = .ok (.bipush 6, 2) := by decide +kernel
theorem dX11_init_19 : decode cX11_init 19 = .ok (.newarray .int, 2) := by decide +kernel
theorem dX11_init_21 : decode cX11_init 21 = .ok (.putfield 14, 3) := by decide +kernel
theorem q_297 : (Jvm.Cond.fieldLink "ChipfoldModel" (14 : Nat) "ChipfoldModel" "chips" "[I") ∈ WG := wg_5 (List.mem_of_getElem? (i := 162) (by decide +kernel)) (by decide +kernel)
theorem dX11_init_24 : decode cX11_init 24 = .ok (.aload_n 0, 1) := by decide +kernel
theorem dX11_init_25 : decode cX11_init 25 = .ok (.bipush 6, 2) := by decide +kernel
theorem dX11_init_27 : decode cX11_init 27 = .ok (.newarray .int, 2) := by decide +kernel
theorem dX11_init_29 : decode cX11_init 29 = .ok (.putfield 18, 3) := by decide +kernel
theorem q_298 : (Jvm.Cond.fieldLink "ChipfoldModel" (18 : Nat) "ChipfoldModel" "counts" "[I") ∈ WG := wg_5 (List.mem_of_getElem? (i := 163) (by decide +kernel)) (by decide +kernel)
theorem dX11_init_32 : decode cX11_init 32 = .ok (.aload_n 0, 1) := by decide +kernel
theorem dX11_init_33 : decode cX11_init 33 = .ok (.bipush 6, 2) := by decide +kernel
theorem dX11_init_35 : decode cX11_init 35 = .ok (.newarray .int, 2) := by decide +kernel
theorem dX11_init_37 : decode cX11_init 37 = .ok (.putfield 21, 3) := by decide +kernel
theorem q_299 : (Jvm.Cond.fieldLink "ChipfoldModel" (21 : Nat) "ChipfoldModel" "rotors" "[I") ∈ WG := wg_5 (List.mem_of_getElem? (i := 164) (by decide +kernel)) (by decide +kernel)
theorem dX11_init_40 : decode cX11_init 40 = .ok (.aload_n 0, 1) := by decide +kernel
theorem dX11_init_41 : decode cX11_init 41 = .ok (.bipush 6, 2) := by decide +kernel
theorem dX11_init_43 : decode cX11_init 43 = .ok (.newarray .int, 2) := by decide +kernel
theorem dX11_init_45 : decode cX11_init 45 = .ok (.putfield 24, 3) := by decide +kernel
theorem q_300 : (Jvm.Cond.fieldLink "ChipfoldModel" (24 : Nat) "ChipfoldModel" "visits" "[I") ∈ WG := wg_5 (List.mem_of_getElem? (i := 165) (by decide +kernel)) (by decide +kernel)
theorem dX11_init_48 : decode cX11_init 48 = .ok (.aload_n 0, 1) := by decide +kernel
theorem dX11_init_49 : decode cX11_init 49 = .ok (.bipush 6, 2) := by decide +kernel
theorem dX11_init_51 : decode cX11_init 51 = .ok (.newarray .int, 2) := by decide +kernel
theorem dX11_init_53 : decode cX11_init 53 = .ok (.putfield 27, 3) := by decide +kernel
theorem q_301 : (Jvm.Cond.fieldLink "ChipfoldModel" (27 : Nat) "ChipfoldModel" "debts" "[I") ∈ WG := wg_5 (List.mem_of_getElem? (i := 166) (by decide +kernel)) (by decide +kernel)
theorem dX11_init_56 : decode cX11_init 56 = .ok (.aload_n 0, 1) := by decide +kernel
theorem dX11_init_57 : decode cX11_init 57 = .ok (.aconst_null, 1) := by decide +kernel
theorem dX11_init_58 : decode cX11_init 58 = .ok (.putfield 30, 3) := by decide +kernel
theorem dX11_init_61 : decode cX11_init 61 = .ok (.aload_n 0, 1) := by decide +kernel
theorem dX11_init_62 : decode cX11_init 62 = .ok (.iconst 0, 1) := by decide +kernel
theorem dX11_init_63 : decode cX11_init 63 = .ok (.putfield 33, 3) := by decide +kernel
theorem dX11_init_66 : decode cX11_init 66 = .ok (.aload_n 0, 1) := by decide +kernel
theorem dX11_init_67 : decode cX11_init 67 = .ok (.iconst 0, 1) := by decide +kernel
theorem dX11_init_68 : decode cX11_init 68 = .ok (.putfield 37, 3) := by decide +kernel
theorem q_302 : (Jvm.Cond.fieldLink "ChipfoldModel" (37 : Nat) "ChipfoldModel" "sink" "I") ∈ WG := wg_5 (List.mem_of_getElem? (i := 169) (by decide +kernel)) (by decide +kernel)
theorem dX11_init_71 : decode cX11_init 71 = .ok (.aload_n 0, 1) := by decide +kernel
theorem dX11_init_72 : decode cX11_init 72 = .ok (.iconst 0, 1) := by decide +kernel
theorem dX11_init_73 : decode cX11_init 73 = .ok (.putfield 40, 3) := by decide +kernel
theorem dX11_init_76 : decode cX11_init 76 = .ok (.aload_n 0, 1) := by decide +kernel
theorem dX11_init_77 : decode cX11_init 77 = .ok (.iconst 0, 1) := by decide +kernel
theorem dX11_init_78 : decode cX11_init 78 = .ok (.putfield 43, 3) := by decide +kernel
theorem q_303 : (Jvm.Cond.fieldLink "ChipfoldModel" (43 : Nat) "ChipfoldModel" "side" "I") ∈ WG := wg_5 (List.mem_of_getElem? (i := 171) (by decide +kernel)) (by decide +kernel)
theorem dX11_init_81 : decode cX11_init 81 = .ok (.aload_n 0, 1) := by decide +kernel
theorem dX11_init_82 : decode cX11_init 82 = .ok (.iconst 0, 1) := by decide +kernel
theorem dX11_init_83 : decode cX11_init 83 = .ok (.putfield 46, 3) := by decide +kernel
theorem dX11_init_86 : decode cX11_init 86 = .ok (.return_, 1) := by decide +kernel
theorem dX11_begin_0 : decode cX11_begin 0 = .ok (.aload_n 0, 1) := by decide +kernel
theorem dX11_begin_1 : decode cX11_begin 1 = .ok (.bipush 6, 2) := by decide +kernel
theorem dX11_begin_3 : decode cX11_begin 3 = .ok (.newarray .int, 2) := by decide +kernel
theorem dX11_begin_5 : decode cX11_begin 5 = .ok (.putfield 14, 3) := by decide +kernel
theorem dX11_begin_8 : decode cX11_begin 8 = .ok (.aload_n 0, 1) := by decide +kernel
theorem dX11_begin_9 : decode cX11_begin 9 = .ok (.bipush 6, 2) := by decide +kernel
theorem dX11_begin_11 : decode cX11_begin 11 = .ok (.newarray .int, 2) := by decide +kernel
theorem dX11_begin_13 : decode cX11_begin 13 = .ok (.putfield 18, 3) := by decide +kernel
theorem dX11_begin_16 : decode cX11_begin 16 = .ok (.aload_n 0, 1) := by decide +kernel
theorem dX11_begin_17 : decode cX11_begin 17 = .ok (.bipush 6, 2) := by decide +kernel
theorem dX11_begin_19 : decode cX11_begin 19 = .ok (.newarray .int, 2) := by decide +kernel
theorem dX11_begin_21 : decode cX11_begin 21 = .ok (.putfield 21, 3) := by decide +kernel
theorem dX11_begin_24 : decode cX11_begin 24 = .ok (.aload_n 0, 1) := by decide +kernel
theorem dX11_begin_25 : decode cX11_begin 25 = .ok (.bipush 6, 2) := by decide +kernel
theorem dX11_begin_27 : decode cX11_begin 27 = .ok (.newarray .int, 2) := by decide +kernel
theorem dX11_begin_29 : decode cX11_begin 29 = .ok (.putfield 24, 3) := by decide +kernel
theorem dX11_begin_32 : decode cX11_begin 32 = .ok (.aload_n 0, 1) := by decide +kernel
theorem dX11_begin_33 : decode cX11_begin 33 = .ok (.bipush 6, 2) := by decide +kernel
theorem dX11_begin_35 : decode cX11_begin 35 = .ok (.newarray .int, 2) := by decide +kernel
theorem dX11_begin_37 : decode cX11_begin 37 = .ok (.putfield 27, 3) := by decide +kernel
theorem dX11_begin_40 : decode cX11_begin 40 = .ok (.aload_n 0, 1) := by decide +kernel
theorem dX11_begin_41 : decode cX11_begin 41 = .ok (.iconst 0, 1) := by decide +kernel
theorem dX11_begin_42 : decode cX11_begin 42 = .ok (.putfield 40, 3) := by decide +kernel
theorem dX11_begin_45 : decode cX11_begin 45 = .ok (.return_, 1) := by decide +kernel
theorem dX11_vertex_0 : decode cX11_vertex 0 = .ok (.aload_n 0, 1) := by decide +kernel
theorem dX11_vertex_1 : decode cX11_vertex 1 = .ok (.aload_n 0, 1) := by decide +kernel
theorem dX11_vertex_2 : decode cX11_vertex 2 = .ok (.getfield 33, 3) := by decide +kernel
theorem dX11_vertex_5 : decode cX11_vertex 5 = .ok (.bipush 6, 2) := by decide +kernel
theorem dX11_vertex_7 : decode cX11_vertex 7 = .ok (.if_icmp .ne 7, 3) := by decide +kernel
theorem dX11_vertex_14 : decode cX11_vertex 14 = .ok (.iconst 0, 1) := by decide +kernel
theorem dX11_vertex_15 : decode cX11_vertex 15 = .ok (.putfield 46, 3) := by decide +kernel
theorem dX11_vertex_18 : decode cX11_vertex 18 = .ok (.aload_n 0, 1) := by decide +kernel
theorem dX11_vertex_19 : decode cX11_vertex 19 = .ok (.getfield 46, 3) := by decide +kernel
theorem dX11_vertex_22 : decode cX11_vertex 22 = .ok (.ifCond .le 5, 3) := by decide +kernel
theorem dX11_vertex_27 : decode cX11_vertex 27 = .ok (.aload_n 0, 1) := by decide +kernel
theorem dX11_vertex_28 : decode cX11_vertex 28 = .ok (.dup, 1) := by decide +kernel
theorem dX11_vertex_29 : decode cX11_vertex 29 = .ok (.getfield 33, 3) := by decide +kernel
theorem dX11_vertex_32 : decode cX11_vertex 32 = .ok (.iconst 1, 1) := by decide +kernel
theorem dX11_vertex_33 : decode cX11_vertex 33 = .ok (.iadd, 1) := by decide +kernel
theorem dX11_vertex_34 : decode cX11_vertex 34 = .ok (.putfield 33, 3) := by decide +kernel
theorem dX11_vertex_37 : decode cX11_vertex 37 = .ok (.aload_n 0, 1) := by decide +kernel
theorem dX11_vertex_38 : decode cX11_vertex 38 = .ok (.invokevirtual 57, 3) := by decide +kernel
theorem q_304 : (Jvm.Cond.code ({ cls := "ChipfoldModel", name := "begin", desc := "()V" } : Jvm.MethodName) prog_13_method_7_code (1 : Nat) (Option.none : Option Jvm.ClassFile.FieldType)) ∈ WG := wg_5 (List.mem_of_getElem? (i := 209) rfl) rfl
theorem q_305 : (Jvm.Cond.selects "ChipfoldModel" ({ cls := "ChipfoldModel", name := "begin", desc := "()V" } : Jvm.MethodName) ({ cls := "ChipfoldModel", name := "begin", desc := "()V" } : Jvm.MethodName)) ∈ WG := wg_0 (by decide +kernel) (by decide +kernel)
theorem q_306 : (Jvm.Cond.methodLink "ChipfoldModel" (57 : Nat) ({ cls := "ChipfoldModel", name := "begin", desc := "()V" } : Jvm.MethodName)) ∈ WG := wg_5 (List.mem_of_getElem? (i := 206) (by decide +kernel)) (by decide +kernel)
theorem q_307 : (Jvm.Cond.instanceMethod ({ cls := "ChipfoldModel", name := "begin", desc := "()V" } : Jvm.MethodName)) ∈ WG := wg_5 (List.mem_of_getElem? (i := 208) (by decide +kernel)) (by decide +kernel)
theorem dX11_vertex_41 : decode cX11_vertex 41 = .ok (.aload_n 0, 1) := by decide +kernel
theorem dX11_vertex_42 : decode cX11_vertex 42 = .ok (.getfield 33, 3) := by decide +kernel
theorem dX11_vertex_45 : decode cX11_vertex 45 = .ok (.iconst 1, 1) := by decide +kernel
theorem dX11_vertex_46 : decode cX11_vertex 46 = .ok (.isub, 1) := by decide +kernel
theorem dX11_vertex_47 : decode cX11_vertex 47 = .ok (.ireturn, 1) := by decide +kernel
def inR (v lo hi : Int32) : Bool := decide (¬ v < lo ∧ ¬ hi < v)
theorem inR_0 (v : Int32) : inR v 0 (nI 0 - 1) = false := by
  unfold inR
  rw [decide_eq_false_iff_not]
  rintro ⟨h1, h2⟩
  rw [Int32.lt_iff_toInt_lt] at h1 h2
  have h3 : (nI 0 - 1 : Int32).toInt = -1 := by decide
  have h4 : (0 : Int32).toInt = 0 := by decide
  omega
set_option maxRecDepth 100000 in
set_option maxHeartbeats 400000 in
theorem c_X11_in {l : Launch} {D : va_G} {k : Nat → ClassId} (v : Int32) (lo : Int32) (hi : Int32)  : CM l D k yX11_in cX11_in 3 (some .boolean)  0 0 [.int v, .int lo, .int hi] [] (is1 (some (.int (bI (inR v lo hi)))) []) 0 0 0 := by
  refine CM.of (lv0 := [(0, .int v), (1, .int lo), (2, .int hi)]) (by decide +kernel) (Nat.le_of_ble_eq_true rfl) rfl ?_
  intro p9 e9 s9 m9 bl9 me9 co9 C hr hlk hin had
  refine g_iload_n (pc := 0) C 0 rfl rfl dX11_in_0 ?_
  refine g_iload_n (pc := 1) C 1 rfl rfl dX11_in_1 ?_
  refine g_icmp_lt (pc := 2) C 14 (by decide) dX11_in_2 (fun c_2 => ?_) (fun c_2 => ?_)
  · refine g_iconst (pc := 14) (v := 0) C (by decide) dX11_in_14 ?_
    refine G.eqs (st' := [.int (bI (inR v lo hi))]) (congrArg (fun z9 => [Value.int z9]) (show (0 : Int32) = (bI (inR v lo hi)) from by simp [inR, bI, *])) ?_
    exact g_zret (pc := 15) C hr (by first | rfl | exact bI_nar _) hlk (by first | decide | omega) (by first | decide | omega) (by first | decide | omega) dX11_in_15 ⟨rfl, rfl⟩
  · refine g_iload_n (pc := 5) C 0 rfl rfl dX11_in_5 ?_
    refine g_iload_n (pc := 6) C 2 rfl rfl dX11_in_6 ?_
    refine g_icmp_gt (pc := 7) C 14 (by decide) dX11_in_7 (fun c_7 => ?_) (fun c_7 => ?_)
    · refine g_iconst (pc := 14) (v := 0) C (by decide) dX11_in_14 ?_
      refine G.eqs (st' := [.int (bI (inR v lo hi))]) (congrArg (fun z9 => [Value.int z9]) (show (0 : Int32) = (bI (inR v lo hi)) from by simp [inR, bI, *])) ?_
      exact g_zret (pc := 15) C hr (by first | rfl | exact bI_nar _) hlk (by first | decide | omega) (by first | decide | omega) (by first | decide | omega) dX11_in_15 ⟨rfl, rfl⟩
    · refine g_iconst (pc := 10) (v := 1) C (by decide) dX11_in_10 ?_
      refine g_goto (pc := 11) C 15 (by decide) dX11_in_11 ?_
      refine G.eqs (st' := [.int (bI (inR v lo hi))]) (congrArg (fun z9 => [Value.int z9]) (show (1 : Int32) = (bI (inR v lo hi)) from by simp [inR, bI, *])) ?_
      exact g_zret (pc := 15) C hr (by first | rfl | exact bI_nar _) hlk (by first | decide | omega) (by first | decide | omega) (by first | decide | omega) dX11_in_15 ⟨rfl, rfl⟩
set_option maxRecDepth 100000 in
set_option maxHeartbeats 400000 in
theorem c_X11_thrown {l : Launch} {D : va_G} {k : Nat → ClassId} (mo : Nat) (e0 : Nat) (c1 : Nat) (c2 : Nat) (c3 : Nat) (c4 : Nat) (c5 : Nat) (th : Int32) (sz : Int32) (zz : Int32) (sw : Int32) (sd : Int32)  : CM l D k yX11_thrown cX11_thrown 1 (some .int)  0 0 [.ref mo] [(mo, .inr (15, [.ref e0, .ref c1, .ref c2, .ref c3, .ref c4, .ref c5, .null, .int sz, .int zz, .int sw, .int sd, .int th]))] (is1 (some (.int th)) [(mo, .inr (15, [.ref e0, .ref c1, .ref c2, .ref c3, .ref c4, .ref c5, .null, .int sz, .int zz, .int sw, .int sd, .int th]))]) 0 0 0 := by
  refine CM.of (lv0 := [(0, .ref mo)]) (by decide +kernel) (Nat.le_of_ble_eq_true rfl) rfl ?_
  intro p9 e9 s9 m9 bl9 me9 co9 C hr hlk hin had
  refine g_aload_n (pc := 0) C 0 rfl rfl dX11_thrown_0 ?_
  refine g_get (pc := 1) C (T := TX11) inX11 0 rfl rfl 11 (by decide) q_262 rfl rfl dX11_thrown_1 ?_
  exact g_iret (pc := 4) C hr hlk (by first | decide | omega) (by first | decide | omega) (by first | decide | omega) dX11_thrown_4 ⟨rfl, rfl⟩
set_option maxRecDepth 100000 in
set_option maxHeartbeats 400000 in
theorem c_X11_thrown_p {l : Launch} {D : va_G} {k : Nat → ClassId} (mo : Nat) (e0 : Nat) (c1 : Nat) (c2 : Nat) (c3 : Nat) (c4 : Nat) (c5 : Nat) (th : Int32) (sz : Int32) (zz : Int32) (sw : Int32) (sd : Int32) (qq : Nat)  : CM l D k yX11_thrown cX11_thrown 1 (some .int)  0 0 [.ref mo] [(mo, .inr (15, [.ref e0, .ref c1, .ref c2, .ref c3, .ref c4, .ref c5, .ref qq, .int sz, .int zz, .int sw, .int sd, .int th]))] (is1 (some (.int th)) [(mo, .inr (15, [.ref e0, .ref c1, .ref c2, .ref c3, .ref c4, .ref c5, .ref qq, .int sz, .int zz, .int sw, .int sd, .int th]))]) 0 0 0 := by
  refine CM.of (lv0 := [(0, .ref mo)]) (by decide +kernel) (Nat.le_of_ble_eq_true rfl) rfl ?_
  intro p9 e9 s9 m9 bl9 me9 co9 C hr hlk hin had
  refine g_aload_n (pc := 0) C 0 rfl rfl dX11_thrown_0 ?_
  refine g_get (pc := 1) C (T := TX11) inX11 0 rfl rfl 11 (by decide) q_262 rfl rfl dX11_thrown_1 ?_
  exact g_iret (pc := 4) C hr hlk (by first | decide | omega) (by first | decide | omega) (by first | decide | omega) dX11_thrown_4 ⟨rfl, rfl⟩
set_option maxRecDepth 100000 in
set_option maxHeartbeats 400000 in
theorem c_X11_isVertex_z {l : Launch} {D : va_G} {k : Nat → ClassId} (mo : Nat) (e0 : Nat) (c1 : Nat) (c2 : Nat) (c3 : Nat) (c4 : Nat) (c5 : Nat) (th : Int32) (v : Int32)  : CM l D k yX11_isVertex cX11_isVertex 2 (some .boolean)  1 22 [.ref mo, .int v] [(mo, .inr (15, [.ref e0, .ref c1, .ref c2, .ref c3, .ref c4, .ref c5, .null, .int (nI 0), .int (nI 0), .int 0, .int 0, .int th]))] (is1 (some (.int 0)) [(mo, .inr (15, [.ref e0, .ref c1, .ref c2, .ref c3, .ref c4, .ref c5, .null, .int (nI 0), .int (nI 0), .int 0, .int 0, .int th]))]) 0 0 0 := by
  refine CM.of (lv0 := [(0, .ref mo), (1, .int v)]) (by decide +kernel) (Nat.le_of_ble_eq_true rfl) rfl ?_
  intro p9 e9 s9 m9 bl9 me9 co9 C hr hlk hin had
  refine g_iload_n (pc := 0) C 1 rfl rfl dX11_isVertex_0 ?_
  refine g_iconst (pc := 1) (v := 0) C (by decide) dX11_isVertex_1 ?_
  refine g_aload_n (pc := 2) C 0 rfl rfl dX11_isVertex_2 ?_
  refine g_get (pc := 3) C (T := TX11) inX11 0 rfl rfl 7 (by decide) q_263 rfl rfl dX11_isVertex_3 ?_
  refine g_iconst (pc := 6) (v := 1) C (by decide) dX11_isVertex_6 ?_
  refine g_isub (pc := 7) C dX11_isVertex_7 ?_
  refine g_callS (pc := 8) (cells := 0) (slots := 0) (g := 0) (As := [.int v, .int 0, .int ((nI 0) - 1)]) (st := []) (b := 0) C (nA := 3) rfl (c_X11_in v 0 ((nI 0) - 1) ) q_266 q_267 q_265 q_264 (by decide +kernel) dX11_isVertex_8 ⟨Nat.le_of_ble_eq_true rfl, Nat.le_of_ble_eq_true rfl⟩ [] [0] rfl (wr := [(mo, .inr (15, [.ref e0, .ref c1, .ref c2, .ref c3, .ref c4, .ref c5, .null, .int (nI 0), .int (nI 0), .int 0, .int 0, .int th]))]) rfl (by decide) (by decide) (by decide) (Nat.le_of_ble_eq_true rfl) ⟨Nat.le_of_ble_eq_true rfl, Nat.le_of_ble_eq_true rfl⟩ (fun rv w1 h1 => ?_)
  obtain ⟨rfl, rfl⟩ := h1
  refine G.aft [0] (ws' := [(mo, .inr (15, [.ref e0, .ref c1, .ref c2, .ref c3, .ref c4, .ref c5, .null, .int (nI 0), .int (nI 0), .int 0, .int 0, .int th]))]) (st' := [.int (bI (inR v 0 ((nI 0) - 1)))]) (cells' := 0) (slots' := 0) (g' := 0) (by decide) rfl rfl rfl rfl rfl ?_
  refine G.eqs (st' := [.int 0]) (congrArg (fun z9 => [Value.int z9]) (show ((bI (inR v 0 ((nI 0) - 1))) : Int32) = 0 from by rw [inR_0]; rfl)) ?_
  exact g_zret (pc := 11) C hr (by first | rfl | exact bI_nar _) hlk (by first | decide | omega) (by first | decide | omega) (by first | decide | omega) dX11_isVertex_11 ⟨rfl, rfl⟩
set_option maxRecDepth 100000 in
set_option maxHeartbeats 400000 in
theorem c_X11_wrongVertex_z {l : Launch} {D : va_G} {k : Nat → ClassId} (mo : Nat) (e0 : Nat) (c1 : Nat) (c2 : Nat) (c3 : Nat) (c4 : Nat) (c5 : Nat) (th : Int32) (v : Int32)  : CM l D k yX11_wrongVertex cX11_wrongVertex 2 (some .int)  2 43 [.ref mo, .int v] [(mo, .inr (15, [.ref e0, .ref c1, .ref c2, .ref c3, .ref c4, .ref c5, .null, .int (nI 0), .int (nI 0), .int 0, .int 0, .int th]))] (is1 (some (.int 1)) [(mo, .inr (15, [.ref e0, .ref c1, .ref c2, .ref c3, .ref c4, .ref c5, .null, .int (nI 0), .int (nI 0), .int 0, .int 0, .int 1]))]) 0 0 0 := by
  refine CM.of (lv0 := [(0, .ref mo), (1, .int v)]) (by decide +kernel) (Nat.le_of_ble_eq_true rfl) rfl ?_
  intro p9 e9 s9 m9 bl9 me9 co9 C hr hlk hin had
  refine g_aload_n (pc := 0) C 0 rfl rfl dX11_wrongVertex_0 ?_
  refine g_aload_n (pc := 1) C 0 rfl rfl dX11_wrongVertex_1 ?_
  refine g_iload_n (pc := 2) C 1 rfl rfl dX11_wrongVertex_2 ?_
  refine g_callV (pc := 3) (cells := 0) (slots := 0) (g := 0) (As := [.int v]) (st := [.ref mo]) (T := TX11) (q0 := 0) C (nA := 1) rfl (c_X11_isVertex_z mo e0 c1 c2 c3 c4 c5 th v ) q_270 q_271 q_269 q_265 q_268 (by decide +kernel) rfl rfl dX11_wrongVertex_3 ⟨Nat.le_of_ble_eq_true rfl, Nat.le_of_ble_eq_true rfl⟩ [0] [] rfl (wr := []) rfl (by decide) (by decide) (by decide) (Nat.le_of_ble_eq_true rfl) ⟨Nat.le_of_ble_eq_true rfl, Nat.le_of_ble_eq_true rfl⟩ (fun rv w1 h1 => ?_)
  obtain ⟨rfl, rfl⟩ := h1
  refine G.aft [0] (ws' := [(mo, .inr (15, [.ref e0, .ref c1, .ref c2, .ref c3, .ref c4, .ref c5, .null, .int (nI 0), .int (nI 0), .int 0, .int 0, .int th]))]) (st' := [.int 0, .ref mo]) (cells' := 0) (slots' := 0) (g' := 0) (by decide) rfl rfl rfl rfl rfl ?_
  refine g_if_eq (pc := 6) C 13 (by decide) dX11_wrongVertex_6 (fun c_6 => ?_) (fun c_6 => ?_)
  · refine g_iconst (pc := 13) (v := 1) C (by decide) dX11_wrongVertex_13 ?_
    refine g_put (pc := 14) C (T := TX11) inX11 0 rfl rfl 11 (by decide) q_262 rfl tyX11 tyX11_ok nmX11 rfl [(mo, .inr (15, [.ref e0, .ref c1, .ref c2, .ref c3, .ref c4, .ref c5, .null, .int (nI 0), .int (nI 0), .int 0, .int 0, .int 1]))] (tyX11_ok 11 (by decide)) rfl (by rfl) (Nat.le_of_ble_eq_true rfl) rfl dX11_wrongVertex_14 ?_
    refine g_aload_n (pc := 17) C 0 rfl rfl dX11_wrongVertex_17 ?_
    refine g_get (pc := 18) C (T := TX11) inX11 0 rfl rfl 11 (by decide) q_262 rfl rfl dX11_wrongVertex_18 ?_
    exact g_iret (pc := 21) C hr hlk (by first | decide | omega) (by first | decide | omega) (by first | decide | omega) dX11_wrongVertex_21 ⟨rfl, rfl⟩
  · exact absurd c_6 (by decide)
set_option maxRecDepth 100000 in
set_option maxHeartbeats 400000 in
theorem c_X11_whole_z {l : Launch} {D : va_G} {k : Nat → ClassId} (mo : Nat) (e0 : Nat) (c1 : Nat) (c2 : Nat) (c3 : Nat) (c4 : Nat) (c5 : Nat) (th : Int32)  : CM l D k yX11_whole cX11_whole 3 (some .boolean)  0 0 [.ref mo] [(mo, .inr (15, [.ref e0, .ref c1, .ref c2, .ref c3, .ref c4, .ref c5, .null, .int (nI 0), .int (nI 0), .int 0, .int 0, .int th]))] (is1 (some (.int 0)) [(mo, .inr (15, [.ref e0, .ref c1, .ref c2, .ref c3, .ref c4, .ref c5, .null, .int (nI 0), .int (nI 0), .int 0, .int 0, .int th]))]) 0 0 0 := by
  refine CM.of (lv0 := [(0, .ref mo)]) (by decide +kernel) (Nat.le_of_ble_eq_true rfl) rfl ?_
  intro p9 e9 s9 m9 bl9 me9 co9 C hr hlk hin had
  refine g_aload_n (pc := 0) C 0 rfl rfl dX11_whole_0 ?_
  refine g_get (pc := 1) C (T := TX11) inX11 0 rfl rfl 7 (by decide) q_263 rfl rfl dX11_whole_1 ?_
  refine g_iconst (pc := 4) (v := 2) C (by decide) dX11_whole_4 ?_
  refine g_icmp_ge (pc := 5) C 10 (by decide) dX11_whole_5 (fun c_5 => ?_) (fun c_5 => ?_)
  · exact absurd c_5 (by decide)
  · refine g_iconst (pc := 8) (v := 0) C (by decide) dX11_whole_8 ?_
    exact g_zret (pc := 9) C hr (by first | rfl | exact bI_nar _) hlk (by first | decide | omega) (by first | decide | omega) (by first | decide | omega) dX11_whole_9 ⟨rfl, rfl⟩
set_option maxRecDepth 100000 in
set_option maxHeartbeats 400000 in
theorem c_X11_wrongWhole_z {l : Launch} {D : va_G} {k : Nat → ClassId} (mo : Nat) (e0 : Nat) (c1 : Nat) (c2 : Nat) (c3 : Nat) (c4 : Nat) (c5 : Nat) (th : Int32)  : CM l D k yX11_wrongWhole cX11_wrongWhole 1 (some .int)  1 22 [.ref mo] [(mo, .inr (15, [.ref e0, .ref c1, .ref c2, .ref c3, .ref c4, .ref c5, .null, .int (nI 0), .int (nI 0), .int 0, .int 0, .int th]))] (is1 (some (.int 1)) [(mo, .inr (15, [.ref e0, .ref c1, .ref c2, .ref c3, .ref c4, .ref c5, .null, .int (nI 0), .int (nI 0), .int 0, .int 0, .int 1]))]) 0 0 0 := by
  refine CM.of (lv0 := [(0, .ref mo)]) (by decide +kernel) (Nat.le_of_ble_eq_true rfl) rfl ?_
  intro p9 e9 s9 m9 bl9 me9 co9 C hr hlk hin had
  refine g_aload_n (pc := 0) C 0 rfl rfl dX11_wrongWhole_0 ?_
  refine g_aload_n (pc := 1) C 0 rfl rfl dX11_wrongWhole_1 ?_
  refine g_callV (pc := 2) (cells := 0) (slots := 0) (g := 0) (As := []) (st := [.ref mo]) (T := TX11) (q0 := 0) C (nA := 0) rfl (c_X11_whole_z mo e0 c1 c2 c3 c4 c5 th ) q_274 q_275 q_273 q_265 q_272 (by decide +kernel) rfl rfl dX11_wrongWhole_2 ⟨Nat.le_of_ble_eq_true rfl, Nat.le_of_ble_eq_true rfl⟩ [0] [] rfl (wr := []) rfl (by decide) (by decide) (by decide) (Nat.le_of_ble_eq_true rfl) ⟨Nat.le_of_ble_eq_true rfl, Nat.le_of_ble_eq_true rfl⟩ (fun rv w1 h1 => ?_)
  obtain ⟨rfl, rfl⟩ := h1
  refine G.aft [0] (ws' := [(mo, .inr (15, [.ref e0, .ref c1, .ref c2, .ref c3, .ref c4, .ref c5, .null, .int (nI 0), .int (nI 0), .int 0, .int 0, .int th]))]) (st' := [.int 0, .ref mo]) (cells' := 0) (slots' := 0) (g' := 0) (by decide) rfl rfl rfl rfl rfl ?_
  refine g_if_eq (pc := 5) C 12 (by decide) dX11_wrongWhole_5 (fun c_5 => ?_) (fun c_5 => ?_)
  · refine g_iconst (pc := 12) (v := 1) C (by decide) dX11_wrongWhole_12 ?_
    refine g_put (pc := 13) C (T := TX11) inX11 0 rfl rfl 11 (by decide) q_262 rfl tyX11 tyX11_ok nmX11 rfl [(mo, .inr (15, [.ref e0, .ref c1, .ref c2, .ref c3, .ref c4, .ref c5, .null, .int (nI 0), .int (nI 0), .int 0, .int 0, .int 1]))] (tyX11_ok 11 (by decide)) rfl (by rfl) (Nat.le_of_ble_eq_true rfl) rfl dX11_wrongWhole_13 ?_
    refine g_aload_n (pc := 16) C 0 rfl rfl dX11_wrongWhole_16 ?_
    refine g_get (pc := 17) C (T := TX11) inX11 0 rfl rfl 11 (by decide) q_262 rfl rfl dX11_wrongWhole_17 ?_
    exact g_iret (pc := 20) C hr hlk (by first | decide | omega) (by first | decide | omega) (by first | decide | omega) dX11_wrongWhole_20 ⟨rfl, rfl⟩
  · exact absurd c_5 (by decide)
set_option maxRecDepth 100000 in
set_option maxHeartbeats 400000 in
theorem c_X11_plain_z {l : Launch} {D : va_G} {k : Nat → ClassId} (mo : Nat) (e0 : Nat) (c1 : Nat) (c2 : Nat) (c3 : Nat) (c4 : Nat) (c5 : Nat) (th : Int32) (v : Int32)  : CM l D k yX11_plain cX11_plain 2 (some .int)  0 0 [.ref mo, .int v] [(mo, .inr (15, [.ref e0, .ref c1, .ref c2, .ref c3, .ref c4, .ref c5, .null, .int (nI 0), .int (nI 0), .int 0, .int 0, .int th]))] (is1 (some (.int v)) [(mo, .inr (15, [.ref e0, .ref c1, .ref c2, .ref c3, .ref c4, .ref c5, .null, .int (nI 0), .int (nI 0), .int 0, .int 0, .int 0]))]) 0 0 0 := by
  refine CM.of (lv0 := [(0, .ref mo), (1, .int v)]) (by decide +kernel) (Nat.le_of_ble_eq_true rfl) rfl ?_
  intro p9 e9 s9 m9 bl9 me9 co9 C hr hlk hin had
  refine g_aload_n (pc := 0) C 0 rfl rfl dX11_plain_0 ?_
  refine g_iconst (pc := 1) (v := 0) C (by decide) dX11_plain_1 ?_
  refine g_put (pc := 2) C (T := TX11) inX11 0 rfl rfl 11 (by decide) q_262 rfl tyX11 tyX11_ok nmX11 rfl [(mo, .inr (15, [.ref e0, .ref c1, .ref c2, .ref c3, .ref c4, .ref c5, .null, .int (nI 0), .int (nI 0), .int 0, .int 0, .int 0]))] (tyX11_ok 11 (by decide)) rfl (by rfl) (Nat.le_of_ble_eq_true rfl) rfl dX11_plain_2 ?_
  refine g_iload_n (pc := 5) C 1 rfl rfl dX11_plain_5 ?_
  exact g_iret (pc := 6) C hr hlk (by first | decide | omega) (by first | decide | omega) (by first | decide | omega) dX11_plain_6 ⟨rfl, rfl⟩
set_option maxRecDepth 100000 in
set_option maxHeartbeats 400000 in
theorem c_X11_allTrees_z {l : Launch} {D : va_G} {k : Nat → ClassId} (mo : Nat) (e0 : Nat) (c1 : Nat) (c2 : Nat) (c3 : Nat) (c4 : Nat) (c5 : Nat) (th : Int32)  : CM l D k yX11_allTrees cX11_allTrees 8 (some .long)  1 22 [.ref mo] [(mo, .inr (15, [.ref e0, .ref c1, .ref c2, .ref c3, .ref c4, .ref c5, .null, .int (nI 0), .int (nI 0), .int 0, .int 0, .int th]))] (is1 (some (.long 0)) [(mo, .inr (15, [.ref e0, .ref c1, .ref c2, .ref c3, .ref c4, .ref c5, .null, .int (nI 0), .int (nI 0), .int 0, .int 0, .int th]))]) 0 0 0 := by
  refine CM.of (lv0 := [(0, .ref mo)]) (by decide +kernel) (Nat.le_of_ble_eq_true rfl) rfl ?_
  intro p9 e9 s9 m9 bl9 me9 co9 C hr hlk hin had
  refine g_aload_n (pc := 0) C 0 rfl rfl dX11_allTrees_0 ?_
  refine g_get (pc := 1) C (T := TX11) inX11 0 rfl rfl 7 (by decide) q_263 rfl rfl dX11_allTrees_1 ?_
  refine g_iconst (pc := 4) (v := 1) C (by decide) dX11_allTrees_4 ?_
  refine g_icmp_ne (pc := 5) C 10 (by decide) dX11_allTrees_5 (fun c_5 => ?_) (fun c_5 => ?_)
  · refine g_aload_n (pc := 10) C 0 rfl rfl dX11_allTrees_10 ?_
    refine g_callV (pc := 11) (cells := 0) (slots := 0) (g := 0) (As := []) (st := []) (T := TX11) (q0 := 0) C (nA := 0) rfl (c_X11_whole_z mo e0 c1 c2 c3 c4 c5 th ) q_274 q_275 q_273 q_265 q_272 (by decide +kernel) rfl rfl dX11_allTrees_11 ⟨Nat.le_of_ble_eq_true rfl, Nat.le_of_ble_eq_true rfl⟩ [0] [] rfl (wr := []) rfl (by decide) (by decide) (by decide) (Nat.le_of_ble_eq_true rfl) ⟨Nat.le_of_ble_eq_true rfl, Nat.le_of_ble_eq_true rfl⟩ (fun rv w1 h1 => ?_)
    obtain ⟨rfl, rfl⟩ := h1
    refine G.aft [0] (ws' := [(mo, .inr (15, [.ref e0, .ref c1, .ref c2, .ref c3, .ref c4, .ref c5, .null, .int (nI 0), .int (nI 0), .int 0, .int 0, .int th]))]) (st' := [.int 0]) (cells' := 0) (slots' := 0) (g' := 0) (by decide) rfl rfl rfl rfl rfl ?_
    refine g_if_ne (pc := 14) C 19 (by decide) dX11_allTrees_14 (fun c_14 => ?_) (fun c_14 => ?_)
    · exact absurd c_14 (by decide)
    · refine g_lconst (pc := 17) (v := 0) C (by decide) dX11_allTrees_17 ?_
      exact g_lret (pc := 18) C hr hlk (by first | decide | omega) (by first | decide | omega) (by first | decide | omega) dX11_allTrees_18 ⟨rfl, rfl⟩
  · exact absurd c_5 (by decide)
set_option maxRecDepth 100000 in
set_option maxHeartbeats 400000 in
theorem c_X11_edges_z {l : Launch} {D : va_G} {k : Nat → ClassId} (mo : Nat) (e0 : Nat) (c1 : Nat) (c2 : Nat) (c3 : Nat) (c4 : Nat) (c5 : Nat) (th : Int32) (v : Int32) (w : Int32) (y : Int32)  : CM l D k yX11_edges cX11_edges 5 (some .int)  2 43 [.ref mo, .int v, .int w, .int y] [(mo, .inr (15, [.ref e0, .ref c1, .ref c2, .ref c3, .ref c4, .ref c5, .null, .int (nI 0), .int (nI 0), .int 0, .int 0, .int th]))] (is1 (some (.int 0)) [(mo, .inr (15, [.ref e0, .ref c1, .ref c2, .ref c3, .ref c4, .ref c5, .null, .int (nI 0), .int (nI 0), .int 0, .int 0, .int 1]))]) 0 0 0 := by
  refine CM.of (lv0 := [(0, .ref mo), (1, .int v), (2, .int w), (3, .int y)]) (by decide +kernel) (Nat.le_of_ble_eq_true rfl) rfl ?_
  intro p9 e9 s9 m9 bl9 me9 co9 C hr hlk hin had
  refine g_aload_n (pc := 0) C 0 rfl rfl dX11_edges_0 ?_
  refine g_aload_n (pc := 1) C 0 rfl rfl dX11_edges_1 ?_
  refine g_iload_n (pc := 2) C 1 rfl rfl dX11_edges_2 ?_
  refine g_callV (pc := 3) (cells := 0) (slots := 0) (g := 0) (As := [.int v]) (st := [.ref mo]) (T := TX11) (q0 := 0) C (nA := 1) rfl (c_X11_isVertex_z mo e0 c1 c2 c3 c4 c5 th v ) q_270 q_271 q_269 q_265 q_268 (by decide +kernel) rfl rfl dX11_edges_3 ⟨Nat.le_of_ble_eq_true rfl, Nat.le_of_ble_eq_true rfl⟩ [0] [] rfl (wr := []) rfl (by decide) (by decide) (by decide) (Nat.le_of_ble_eq_true rfl) ⟨Nat.le_of_ble_eq_true rfl, Nat.le_of_ble_eq_true rfl⟩ (fun rv w1 h1 => ?_)
  obtain ⟨rfl, rfl⟩ := h1
  refine G.aft [0] (ws' := [(mo, .inr (15, [.ref e0, .ref c1, .ref c2, .ref c3, .ref c4, .ref c5, .null, .int (nI 0), .int (nI 0), .int 0, .int 0, .int th]))]) (st' := [.int 0, .ref mo]) (cells' := 0) (slots' := 0) (g' := 0) (by decide) rfl rfl rfl rfl rfl ?_
  refine g_if_eq (pc := 6) C 17 (by decide) dX11_edges_6 (fun c_6 => ?_) (fun c_6 => ?_)
  · refine g_iconst (pc := 17) (v := 1) C (by decide) dX11_edges_17 ?_
    refine g_goto (pc := 18) C 40 (by decide) dX11_edges_18 ?_
    refine g_put (pc := 40) C (T := TX11) inX11 0 rfl rfl 11 (by decide) q_262 rfl tyX11 tyX11_ok nmX11 rfl [(mo, .inr (15, [.ref e0, .ref c1, .ref c2, .ref c3, .ref c4, .ref c5, .null, .int (nI 0), .int (nI 0), .int 0, .int 0, .int 1]))] (tyX11_ok 11 (by decide)) rfl (by rfl) (Nat.le_of_ble_eq_true rfl) rfl dX11_edges_40 ?_
    refine g_aload_n (pc := 43) C 0 rfl rfl dX11_edges_43 ?_
    refine g_get (pc := 44) C (T := TX11) inX11 0 rfl rfl 11 (by decide) q_262 rfl rfl dX11_edges_44 ?_
    refine g_if_le (pc := 47) C 52 (by decide) dX11_edges_47 (fun c_47 => ?_) (fun c_47 => ?_)
    · exact absurd c_47 (by decide)
    · refine g_iconst (pc := 50) (v := 0) C (by decide) dX11_edges_50 ?_
      exact g_iret (pc := 51) C hr hlk (by first | decide | omega) (by first | decide | omega) (by first | decide | omega) dX11_edges_51 ⟨rfl, rfl⟩
  · exact absurd c_6 (by decide)
set_option maxRecDepth 100000 in
set_option maxHeartbeats 400000 in
theorem c_X11_setSink_z {l : Launch} {D : va_G} {k : Nat → ClassId} (mo : Nat) (e0 : Nat) (c1 : Nat) (c2 : Nat) (c3 : Nat) (c4 : Nat) (c5 : Nat) (th : Int32) (v : Int32)  : CM l D k yX11_setSink cX11_setSink 3 (some .int)  3 64 [.ref mo, .int v] [(mo, .inr (15, [.ref e0, .ref c1, .ref c2, .ref c3, .ref c4, .ref c5, .null, .int (nI 0), .int (nI 0), .int 0, .int 0, .int th]))] (is1 (some (.int 0)) [(mo, .inr (15, [.ref e0, .ref c1, .ref c2, .ref c3, .ref c4, .ref c5, .null, .int (nI 0), .int (nI 0), .int 0, .int 0, .int 1]))]) 0 0 0 := by
  refine CM.of (lv0 := [(0, .ref mo), (1, .int v)]) (by decide +kernel) (Nat.le_of_ble_eq_true rfl) rfl ?_
  intro p9 e9 s9 m9 bl9 me9 co9 C hr hlk hin had
  refine g_aload_n (pc := 0) C 0 rfl rfl dX11_setSink_0 ?_
  refine g_iload_n (pc := 1) C 1 rfl rfl dX11_setSink_1 ?_
  refine g_callV (pc := 2) (cells := 0) (slots := 0) (g := 0) (As := [.int v]) (st := []) (T := TX11) (q0 := 0) C (nA := 1) rfl (c_X11_wrongVertex_z mo e0 c1 c2 c3 c4 c5 th v ) q_278 q_279 q_277 q_265 q_276 (by decide +kernel) rfl rfl dX11_setSink_2 ⟨Nat.le_of_ble_eq_true rfl, Nat.le_of_ble_eq_true rfl⟩ [0] [] rfl (wr := []) rfl (by decide) (by decide) (by decide) (Nat.le_of_ble_eq_true rfl) ⟨Nat.le_of_ble_eq_true rfl, Nat.le_of_ble_eq_true rfl⟩ (fun rv w1 h1 => ?_)
  obtain ⟨rfl, rfl⟩ := h1
  refine G.aft [0] (ws' := [(mo, .inr (15, [.ref e0, .ref c1, .ref c2, .ref c3, .ref c4, .ref c5, .null, .int (nI 0), .int (nI 0), .int 0, .int 0, .int 1]))]) (st' := [.int 1]) (cells' := 0) (slots' := 0) (g' := 0) (by decide) rfl rfl rfl rfl rfl ?_
  refine g_if_le (pc := 5) C 10 (by decide) dX11_setSink_5 (fun c_5 => ?_) (fun c_5 => ?_)
  · exact absurd c_5 (by decide)
  · refine g_iconst (pc := 8) (v := 0) C (by decide) dX11_setSink_8 ?_
    exact g_iret (pc := 9) C hr hlk (by first | decide | omega) (by first | decide | omega) (by first | decide | omega) dX11_setSink_9 ⟨rfl, rfl⟩
set_option maxRecDepth 100000 in
set_option maxHeartbeats 400000 in
theorem c_X11_degree_z {l : Launch} {D : va_G} {k : Nat → ClassId} (mo : Nat) (e0 : Nat) (c1 : Nat) (c2 : Nat) (c3 : Nat) (c4 : Nat) (c5 : Nat) (th : Int32) (v : Int32)  : CM l D k yX11_degree cX11_degree 2 (some .int)  3 64 [.ref mo, .int v] [(mo, .inr (15, [.ref e0, .ref c1, .ref c2, .ref c3, .ref c4, .ref c5, .null, .int (nI 0), .int (nI 0), .int 0, .int 0, .int th]))] (is1 (some (.int 0)) [(mo, .inr (15, [.ref e0, .ref c1, .ref c2, .ref c3, .ref c4, .ref c5, .null, .int (nI 0), .int (nI 0), .int 0, .int 0, .int 1]))]) 0 0 0 := by
  refine CM.of (lv0 := [(0, .ref mo), (1, .int v)]) (by decide +kernel) (Nat.le_of_ble_eq_true rfl) rfl ?_
  intro p9 e9 s9 m9 bl9 me9 co9 C hr hlk hin had
  refine g_aload_n (pc := 0) C 0 rfl rfl dX11_degree_0 ?_
  refine g_iload_n (pc := 1) C 1 rfl rfl dX11_degree_1 ?_
  refine g_callV (pc := 2) (cells := 0) (slots := 0) (g := 0) (As := [.int v]) (st := []) (T := TX11) (q0 := 0) C (nA := 1) rfl (c_X11_wrongVertex_z mo e0 c1 c2 c3 c4 c5 th v ) q_278 q_279 q_277 q_265 q_276 (by decide +kernel) rfl rfl dX11_degree_2 ⟨Nat.le_of_ble_eq_true rfl, Nat.le_of_ble_eq_true rfl⟩ [0] [] rfl (wr := []) rfl (by decide) (by decide) (by decide) (Nat.le_of_ble_eq_true rfl) ⟨Nat.le_of_ble_eq_true rfl, Nat.le_of_ble_eq_true rfl⟩ (fun rv w1 h1 => ?_)
  obtain ⟨rfl, rfl⟩ := h1
  refine G.aft [0] (ws' := [(mo, .inr (15, [.ref e0, .ref c1, .ref c2, .ref c3, .ref c4, .ref c5, .null, .int (nI 0), .int (nI 0), .int 0, .int 0, .int 1]))]) (st' := [.int 1]) (cells' := 0) (slots' := 0) (g' := 0) (by decide) rfl rfl rfl rfl rfl ?_
  refine g_if_le (pc := 5) C 12 (by decide) dX11_degree_5 (fun c_5 => ?_) (fun c_5 => ?_)
  · exact absurd c_5 (by decide)
  · refine g_iconst (pc := 8) (v := 0) C (by decide) dX11_degree_8 ?_
    refine g_goto (pc := 9) C 17 (by decide) dX11_degree_9 ?_
    exact g_iret (pc := 17) C hr hlk (by first | decide | omega) (by first | decide | omega) (by first | decide | omega) dX11_degree_17 ⟨rfl, rfl⟩
set_option maxRecDepth 100000 in
set_option maxHeartbeats 400000 in
theorem c_X11_put_z {l : Launch} {D : va_G} {k : Nat → ClassId} (mo : Nat) (e0 : Nat) (c1 : Nat) (c2 : Nat) (c3 : Nat) (c4 : Nat) (c5 : Nat) (th : Int32) (v : Int32) (y : Int32)  : CM l D k yX11_put cX11_put 3 (some .int)  2 43 [.ref mo, .int v, .int y] [(mo, .inr (15, [.ref e0, .ref c1, .ref c2, .ref c3, .ref c4, .ref c5, .null, .int (nI 0), .int (nI 0), .int 0, .int 0, .int th]))] (is1 (some (.int 0)) [(mo, .inr (15, [.ref e0, .ref c1, .ref c2, .ref c3, .ref c4, .ref c5, .null, .int (nI 0), .int (nI 0), .int 0, .int 0, .int 1]))]) 0 0 0 := by
  refine CM.of (lv0 := [(0, .ref mo), (1, .int v), (2, .int y)]) (by decide +kernel) (Nat.le_of_ble_eq_true rfl) rfl ?_
  intro p9 e9 s9 m9 bl9 me9 co9 C hr hlk hin had
  refine g_aload_n (pc := 0) C 0 rfl rfl dX11_put_0 ?_
  refine g_aload_n (pc := 1) C 0 rfl rfl dX11_put_1 ?_
  refine g_iload_n (pc := 2) C 1 rfl rfl dX11_put_2 ?_
  refine g_callV (pc := 3) (cells := 0) (slots := 0) (g := 0) (As := [.int v]) (st := [.ref mo]) (T := TX11) (q0 := 0) C (nA := 1) rfl (c_X11_isVertex_z mo e0 c1 c2 c3 c4 c5 th v ) q_270 q_271 q_269 q_265 q_268 (by decide +kernel) rfl rfl dX11_put_3 ⟨Nat.le_of_ble_eq_true rfl, Nat.le_of_ble_eq_true rfl⟩ [0] [] rfl (wr := []) rfl (by decide) (by decide) (by decide) (Nat.le_of_ble_eq_true rfl) ⟨Nat.le_of_ble_eq_true rfl, Nat.le_of_ble_eq_true rfl⟩ (fun rv w1 h1 => ?_)
  obtain ⟨rfl, rfl⟩ := h1
  refine G.aft [0] (ws' := [(mo, .inr (15, [.ref e0, .ref c1, .ref c2, .ref c3, .ref c4, .ref c5, .null, .int (nI 0), .int (nI 0), .int 0, .int 0, .int th]))]) (st' := [.int 0, .ref mo]) (cells' := 0) (slots' := 0) (g' := 0) (by decide) rfl rfl rfl rfl rfl ?_
  refine g_if_ne (pc := 6) C 13 (by decide) dX11_put_6 (fun c_6 => ?_) (fun c_6 => ?_)
  · exact absurd c_6 (by decide)
  · refine g_iconst (pc := 9) (v := 1) C (by decide) dX11_put_9 ?_
    refine g_goto (pc := 10) C 55 (by decide) dX11_put_10 ?_
    refine g_put (pc := 55) C (T := TX11) inX11 0 rfl rfl 11 (by decide) q_262 rfl tyX11 tyX11_ok nmX11 rfl [(mo, .inr (15, [.ref e0, .ref c1, .ref c2, .ref c3, .ref c4, .ref c5, .null, .int (nI 0), .int (nI 0), .int 0, .int 0, .int 1]))] (tyX11_ok 11 (by decide)) rfl (by rfl) (Nat.le_of_ble_eq_true rfl) rfl dX11_put_55 ?_
    refine g_aload_n (pc := 58) C 0 rfl rfl dX11_put_58 ?_
    refine g_get (pc := 59) C (T := TX11) inX11 0 rfl rfl 11 (by decide) q_262 rfl rfl dX11_put_59 ?_
    refine g_if_le (pc := 62) C 67 (by decide) dX11_put_62 (fun c_62 => ?_) (fun c_62 => ?_)
    · exact absurd c_62 (by decide)
    · refine g_iconst (pc := 65) (v := 0) C (by decide) dX11_put_65 ?_
      exact g_iret (pc := 66) C hr hlk (by first | decide | omega) (by first | decide | omega) (by first | decide | omega) dX11_put_66 ⟨rfl, rfl⟩
set_option maxRecDepth 100000 in
set_option maxHeartbeats 400000 in
theorem c_X11_chips_z {l : Launch} {D : va_G} {k : Nat → ClassId} (mo : Nat) (e0 : Nat) (c1 : Nat) (c2 : Nat) (c3 : Nat) (c4 : Nat) (c5 : Nat) (th : Int32) (v : Int32)  : CM l D k yX11_chips cX11_chips 2 (some .int)  3 64 [.ref mo, .int v] [(mo, .inr (15, [.ref e0, .ref c1, .ref c2, .ref c3, .ref c4, .ref c5, .null, .int (nI 0), .int (nI 0), .int 0, .int 0, .int th]))] (is1 (some (.int 0)) [(mo, .inr (15, [.ref e0, .ref c1, .ref c2, .ref c3, .ref c4, .ref c5, .null, .int (nI 0), .int (nI 0), .int 0, .int 0, .int 1]))]) 0 0 0 := by
  refine CM.of (lv0 := [(0, .ref mo), (1, .int v)]) (by decide +kernel) (Nat.le_of_ble_eq_true rfl) rfl ?_
  intro p9 e9 s9 m9 bl9 me9 co9 C hr hlk hin had
  refine g_aload_n (pc := 0) C 0 rfl rfl dX11_chips_0 ?_
  refine g_iload_n (pc := 1) C 1 rfl rfl dX11_chips_1 ?_
  refine g_callV (pc := 2) (cells := 0) (slots := 0) (g := 0) (As := [.int v]) (st := []) (T := TX11) (q0 := 0) C (nA := 1) rfl (c_X11_wrongVertex_z mo e0 c1 c2 c3 c4 c5 th v ) q_278 q_279 q_277 q_265 q_276 (by decide +kernel) rfl rfl dX11_chips_2 ⟨Nat.le_of_ble_eq_true rfl, Nat.le_of_ble_eq_true rfl⟩ [0] [] rfl (wr := []) rfl (by decide) (by decide) (by decide) (Nat.le_of_ble_eq_true rfl) ⟨Nat.le_of_ble_eq_true rfl, Nat.le_of_ble_eq_true rfl⟩ (fun rv w1 h1 => ?_)
  obtain ⟨rfl, rfl⟩ := h1
  refine G.aft [0] (ws' := [(mo, .inr (15, [.ref e0, .ref c1, .ref c2, .ref c3, .ref c4, .ref c5, .null, .int (nI 0), .int (nI 0), .int 0, .int 0, .int 1]))]) (st' := [.int 1]) (cells' := 0) (slots' := 0) (g' := 0) (by decide) rfl rfl rfl rfl rfl ?_
  refine g_if_gt (pc := 5) C 16 (by decide) dX11_chips_5 (fun c_5 => ?_) (fun c_5 => ?_)
  · refine g_iconst (pc := 16) (v := 0) C (by decide) dX11_chips_16 ?_
    refine g_goto (pc := 17) C 26 (by decide) dX11_chips_17 ?_
    exact g_iret (pc := 26) C hr hlk (by first | decide | omega) (by first | decide | omega) (by first | decide | omega) dX11_chips_26 ⟨rfl, rfl⟩
  · exact absurd c_5 (by decide)
set_option maxRecDepth 100000 in
set_option maxHeartbeats 400000 in
theorem c_X11_topple_z {l : Launch} {D : va_G} {k : Nat → ClassId} (mo : Nat) (e0 : Nat) (c1 : Nat) (c2 : Nat) (c3 : Nat) (c4 : Nat) (c5 : Nat) (th : Int32) (v : Int32)  : CM l D k yX11_topple cX11_topple 2 (some .int)  3 64 [.ref mo, .int v] [(mo, .inr (15, [.ref e0, .ref c1, .ref c2, .ref c3, .ref c4, .ref c5, .null, .int (nI 0), .int (nI 0), .int 0, .int 0, .int th]))] (is1 (some (.int 0)) [(mo, .inr (15, [.ref e0, .ref c1, .ref c2, .ref c3, .ref c4, .ref c5, .null, .int (nI 0), .int (nI 0), .int 0, .int 0, .int 1]))]) 0 0 0 := by
  refine CM.of (lv0 := [(0, .ref mo), (1, .int v)]) (by decide +kernel) (Nat.le_of_ble_eq_true rfl) rfl ?_
  intro p9 e9 s9 m9 bl9 me9 co9 C hr hlk hin had
  refine g_aload_n (pc := 0) C 0 rfl rfl dX11_topple_0 ?_
  refine g_iload_n (pc := 1) C 1 rfl rfl dX11_topple_1 ?_
  refine g_callV (pc := 2) (cells := 0) (slots := 0) (g := 0) (As := [.int v]) (st := []) (T := TX11) (q0 := 0) C (nA := 1) rfl (c_X11_wrongVertex_z mo e0 c1 c2 c3 c4 c5 th v ) q_278 q_279 q_277 q_265 q_276 (by decide +kernel) rfl rfl dX11_topple_2 ⟨Nat.le_of_ble_eq_true rfl, Nat.le_of_ble_eq_true rfl⟩ [0] [] rfl (wr := []) rfl (by decide) (by decide) (by decide) (Nat.le_of_ble_eq_true rfl) ⟨Nat.le_of_ble_eq_true rfl, Nat.le_of_ble_eq_true rfl⟩ (fun rv w1 h1 => ?_)
  obtain ⟨rfl, rfl⟩ := h1
  refine G.aft [0] (ws' := [(mo, .inr (15, [.ref e0, .ref c1, .ref c2, .ref c3, .ref c4, .ref c5, .null, .int (nI 0), .int (nI 0), .int 0, .int 0, .int 1]))]) (st' := [.int 1]) (cells' := 0) (slots' := 0) (g' := 0) (by decide) rfl rfl rfl rfl rfl ?_
  refine g_if_ne (pc := 5) C 25 (by decide) dX11_topple_5 (fun c_5 => ?_) (fun c_5 => ?_)
  · refine g_aload_n (pc := 25) C 0 rfl rfl dX11_topple_25 ?_
    refine g_get (pc := 26) C (T := TX11) inX11 0 rfl rfl 11 (by decide) q_262 rfl rfl dX11_topple_26 ?_
    refine g_if_le (pc := 29) C 34 (by decide) dX11_topple_29 (fun c_29 => ?_) (fun c_29 => ?_)
    · exact absurd c_29 (by decide)
    · refine g_iconst (pc := 32) (v := 0) C (by decide) dX11_topple_32 ?_
      exact g_iret (pc := 33) C hr hlk (by first | decide | omega) (by first | decide | omega) (by first | decide | omega) dX11_topple_33 ⟨rfl, rfl⟩
  · exact absurd c_5 (by decide)
set_option maxRecDepth 100000 in
set_option maxHeartbeats 400000 in
theorem c_X11_count_z {l : Launch} {D : va_G} {k : Nat → ClassId} (mo : Nat) (e0 : Nat) (c1 : Nat) (c2 : Nat) (c3 : Nat) (c4 : Nat) (c5 : Nat) (th : Int32) (v : Int32)  : CM l D k yX11_count cX11_count 2 (some .int)  3 64 [.ref mo, .int v] [(mo, .inr (15, [.ref e0, .ref c1, .ref c2, .ref c3, .ref c4, .ref c5, .null, .int (nI 0), .int (nI 0), .int 0, .int 0, .int th]))] (is1 (some (.int 0)) [(mo, .inr (15, [.ref e0, .ref c1, .ref c2, .ref c3, .ref c4, .ref c5, .null, .int (nI 0), .int (nI 0), .int 0, .int 0, .int 1]))]) 0 0 0 := by
  refine CM.of (lv0 := [(0, .ref mo), (1, .int v)]) (by decide +kernel) (Nat.le_of_ble_eq_true rfl) rfl ?_
  intro p9 e9 s9 m9 bl9 me9 co9 C hr hlk hin had
  refine g_aload_n (pc := 0) C 0 rfl rfl dX11_count_0 ?_
  refine g_iload_n (pc := 1) C 1 rfl rfl dX11_count_1 ?_
  refine g_callV (pc := 2) (cells := 0) (slots := 0) (g := 0) (As := [.int v]) (st := []) (T := TX11) (q0 := 0) C (nA := 1) rfl (c_X11_wrongVertex_z mo e0 c1 c2 c3 c4 c5 th v ) q_278 q_279 q_277 q_265 q_276 (by decide +kernel) rfl rfl dX11_count_2 ⟨Nat.le_of_ble_eq_true rfl, Nat.le_of_ble_eq_true rfl⟩ [0] [] rfl (wr := []) rfl (by decide) (by decide) (by decide) (Nat.le_of_ble_eq_true rfl) ⟨Nat.le_of_ble_eq_true rfl, Nat.le_of_ble_eq_true rfl⟩ (fun rv w1 h1 => ?_)
  obtain ⟨rfl, rfl⟩ := h1
  refine G.aft [0] (ws' := [(mo, .inr (15, [.ref e0, .ref c1, .ref c2, .ref c3, .ref c4, .ref c5, .null, .int (nI 0), .int (nI 0), .int 0, .int 0, .int 1]))]) (st' := [.int 1]) (cells' := 0) (slots' := 0) (g' := 0) (by decide) rfl rfl rfl rfl rfl ?_
  refine g_if_le (pc := 5) C 12 (by decide) dX11_count_5 (fun c_5 => ?_) (fun c_5 => ?_)
  · exact absurd c_5 (by decide)
  · refine g_iconst (pc := 8) (v := 0) C (by decide) dX11_count_8 ?_
    refine g_goto (pc := 9) C 18 (by decide) dX11_count_9 ?_
    exact g_iret (pc := 18) C hr hlk (by first | decide | omega) (by first | decide | omega) (by first | decide | omega) dX11_count_18 ⟨rfl, rfl⟩
set_option maxRecDepth 100000 in
set_option maxHeartbeats 400000 in
theorem c_X11_burns_z {l : Launch} {D : va_G} {k : Nat → ClassId} (mo : Nat) (e0 : Nat) (c1 : Nat) (c2 : Nat) (c3 : Nat) (c4 : Nat) (c5 : Nat) (th : Int32) (v : Int32)  : CM l D k yX11_burns cX11_burns 2 (some .int)  3 64 [.ref mo, .int v] [(mo, .inr (15, [.ref e0, .ref c1, .ref c2, .ref c3, .ref c4, .ref c5, .null, .int (nI 0), .int (nI 0), .int 0, .int 0, .int th]))] (is1 (some (.int 0)) [(mo, .inr (15, [.ref e0, .ref c1, .ref c2, .ref c3, .ref c4, .ref c5, .null, .int (nI 0), .int (nI 0), .int 0, .int 0, .int 1]))]) 0 0 0 := by
  refine CM.of (lv0 := [(0, .ref mo), (1, .int v)]) (by decide +kernel) (Nat.le_of_ble_eq_true rfl) rfl ?_
  intro p9 e9 s9 m9 bl9 me9 co9 C hr hlk hin had
  refine g_aload_n (pc := 0) C 0 rfl rfl dX11_burns_0 ?_
  refine g_iload_n (pc := 1) C 1 rfl rfl dX11_burns_1 ?_
  refine g_callV (pc := 2) (cells := 0) (slots := 0) (g := 0) (As := [.int v]) (st := []) (T := TX11) (q0 := 0) C (nA := 1) rfl (c_X11_wrongVertex_z mo e0 c1 c2 c3 c4 c5 th v ) q_278 q_279 q_277 q_265 q_276 (by decide +kernel) rfl rfl dX11_burns_2 ⟨Nat.le_of_ble_eq_true rfl, Nat.le_of_ble_eq_true rfl⟩ [0] [] rfl (wr := []) rfl (by decide) (by decide) (by decide) (Nat.le_of_ble_eq_true rfl) ⟨Nat.le_of_ble_eq_true rfl, Nat.le_of_ble_eq_true rfl⟩ (fun rv w1 h1 => ?_)
  obtain ⟨rfl, rfl⟩ := h1
  refine G.aft [0] (ws' := [(mo, .inr (15, [.ref e0, .ref c1, .ref c2, .ref c3, .ref c4, .ref c5, .null, .int (nI 0), .int (nI 0), .int 0, .int 0, .int 1]))]) (st' := [.int 1]) (cells' := 0) (slots' := 0) (g' := 0) (by decide) rfl rfl rfl rfl rfl ?_
  refine g_if_le (pc := 5) C 12 (by decide) dX11_burns_5 (fun c_5 => ?_) (fun c_5 => ?_)
  · exact absurd c_5 (by decide)
  · refine g_iconst (pc := 8) (v := 0) C (by decide) dX11_burns_8 ?_
    refine g_goto (pc := 9) C 22 (by decide) dX11_burns_9 ?_
    exact g_iret (pc := 22) C hr hlk (by first | decide | omega) (by first | decide | omega) (by first | decide | omega) dX11_burns_22 ⟨rfl, rfl⟩
set_option maxRecDepth 100000 in
set_option maxHeartbeats 400000 in
theorem c_X11_unit_z {l : Launch} {D : va_G} {k : Nat → ClassId} (mo : Nat) (e0 : Nat) (c1 : Nat) (c2 : Nat) (c3 : Nat) (c4 : Nat) (c5 : Nat) (th : Int32) (v : Int32)  : CM l D k yX11_unit cX11_unit 2 (some .int)  3 64 [.ref mo, .int v] [(mo, .inr (15, [.ref e0, .ref c1, .ref c2, .ref c3, .ref c4, .ref c5, .null, .int (nI 0), .int (nI 0), .int 0, .int 0, .int th]))] (is1 (some (.int 0)) [(mo, .inr (15, [.ref e0, .ref c1, .ref c2, .ref c3, .ref c4, .ref c5, .null, .int (nI 0), .int (nI 0), .int 0, .int 0, .int 1]))]) 0 0 0 := by
  refine CM.of (lv0 := [(0, .ref mo), (1, .int v)]) (by decide +kernel) (Nat.le_of_ble_eq_true rfl) rfl ?_
  intro p9 e9 s9 m9 bl9 me9 co9 C hr hlk hin had
  refine g_aload_n (pc := 0) C 0 rfl rfl dX11_unit_0 ?_
  refine g_iload_n (pc := 1) C 1 rfl rfl dX11_unit_1 ?_
  refine g_callV (pc := 2) (cells := 0) (slots := 0) (g := 0) (As := [.int v]) (st := []) (T := TX11) (q0 := 0) C (nA := 1) rfl (c_X11_wrongVertex_z mo e0 c1 c2 c3 c4 c5 th v ) q_278 q_279 q_277 q_265 q_276 (by decide +kernel) rfl rfl dX11_unit_2 ⟨Nat.le_of_ble_eq_true rfl, Nat.le_of_ble_eq_true rfl⟩ [0] [] rfl (wr := []) rfl (by decide) (by decide) (by decide) (Nat.le_of_ble_eq_true rfl) ⟨Nat.le_of_ble_eq_true rfl, Nat.le_of_ble_eq_true rfl⟩ (fun rv w1 h1 => ?_)
  obtain ⟨rfl, rfl⟩ := h1
  refine G.aft [0] (ws' := [(mo, .inr (15, [.ref e0, .ref c1, .ref c2, .ref c3, .ref c4, .ref c5, .null, .int (nI 0), .int (nI 0), .int 0, .int 0, .int 1]))]) (st' := [.int 1]) (cells' := 0) (slots' := 0) (g' := 0) (by decide) rfl rfl rfl rfl rfl ?_
  refine g_if_ne (pc := 5) C 20 (by decide) dX11_unit_5 (fun c_5 => ?_) (fun c_5 => ?_)
  · refine g_aload_n (pc := 20) C 0 rfl rfl dX11_unit_20 ?_
    refine g_get (pc := 21) C (T := TX11) inX11 0 rfl rfl 11 (by decide) q_262 rfl rfl dX11_unit_21 ?_
    refine g_if_gt (pc := 24) C 35 (by decide) dX11_unit_24 (fun c_24 => ?_) (fun c_24 => ?_)
    · refine g_iconst (pc := 35) (v := 0) C (by decide) dX11_unit_35 ?_
      refine g_goto (pc := 36) C 45 (by decide) dX11_unit_36 ?_
      exact g_iret (pc := 45) C hr hlk (by first | decide | omega) (by first | decide | omega) (by first | decide | omega) dX11_unit_45 ⟨rfl, rfl⟩
    · exact absurd c_24 (by decide)
  · exact absurd c_5 (by decide)
set_option maxRecDepth 100000 in
set_option maxHeartbeats 400000 in
theorem c_X11_walk_z {l : Launch} {D : va_G} {k : Nat → ClassId} (mo : Nat) (e0 : Nat) (c1 : Nat) (c2 : Nat) (c3 : Nat) (c4 : Nat) (c5 : Nat) (th : Int32) (v : Int32)  : CM l D k yX11_walk cX11_walk 5 (some .int)  3 64 [.ref mo, .int v] [(mo, .inr (15, [.ref e0, .ref c1, .ref c2, .ref c3, .ref c4, .ref c5, .null, .int (nI 0), .int (nI 0), .int 0, .int 0, .int th]))] (is1 (some (.int 0)) [(mo, .inr (15, [.ref e0, .ref c1, .ref c2, .ref c3, .ref c4, .ref c5, .null, .int (nI 0), .int (nI 0), .int 0, .int 0, .int 1]))]) 0 0 0 := by
  refine CM.of (lv0 := [(0, .ref mo), (1, .int v)]) (by decide +kernel) (Nat.le_of_ble_eq_true rfl) rfl ?_
  intro p9 e9 s9 m9 bl9 me9 co9 C hr hlk hin had
  refine g_aload_n (pc := 0) C 0 rfl rfl dX11_walk_0 ?_
  refine g_iload_n (pc := 1) C 1 rfl rfl dX11_walk_1 ?_
  refine g_callV (pc := 2) (cells := 0) (slots := 0) (g := 0) (As := [.int v]) (st := []) (T := TX11) (q0 := 0) C (nA := 1) rfl (c_X11_wrongVertex_z mo e0 c1 c2 c3 c4 c5 th v ) q_278 q_279 q_277 q_265 q_276 (by decide +kernel) rfl rfl dX11_walk_2 ⟨Nat.le_of_ble_eq_true rfl, Nat.le_of_ble_eq_true rfl⟩ [0] [] rfl (wr := []) rfl (by decide) (by decide) (by decide) (Nat.le_of_ble_eq_true rfl) ⟨Nat.le_of_ble_eq_true rfl, Nat.le_of_ble_eq_true rfl⟩ (fun rv w1 h1 => ?_)
  obtain ⟨rfl, rfl⟩ := h1
  refine G.aft [0] (ws' := [(mo, .inr (15, [.ref e0, .ref c1, .ref c2, .ref c3, .ref c4, .ref c5, .null, .int (nI 0), .int (nI 0), .int 0, .int 0, .int 1]))]) (st' := [.int 1]) (cells' := 0) (slots' := 0) (g' := 0) (by decide) rfl rfl rfl rfl rfl ?_
  refine g_if_ne (pc := 5) C 20 (by decide) dX11_walk_5 (fun c_5 => ?_) (fun c_5 => ?_)
  · refine g_aload_n (pc := 20) C 0 rfl rfl dX11_walk_20 ?_
    refine g_get (pc := 21) C (T := TX11) inX11 0 rfl rfl 11 (by decide) q_262 rfl rfl dX11_walk_21 ?_
    refine g_if_le (pc := 24) C 29 (by decide) dX11_walk_24 (fun c_24 => ?_) (fun c_24 => ?_)
    · exact absurd c_24 (by decide)
    · refine g_iconst (pc := 27) (v := 0) C (by decide) dX11_walk_27 ?_
      exact g_iret (pc := 28) C hr hlk (by first | decide | omega) (by first | decide | omega) (by first | decide | omega) dX11_walk_28 ⟨rfl, rfl⟩
  · exact absurd c_5 (by decide)
set_option maxRecDepth 100000 in
set_option maxHeartbeats 400000 in
theorem c_X11_rotor_z {l : Launch} {D : va_G} {k : Nat → ClassId} (mo : Nat) (e0 : Nat) (c1 : Nat) (c2 : Nat) (c3 : Nat) (c4 : Nat) (c5 : Nat) (th : Int32) (v : Int32)  : CM l D k yX11_rotor cX11_rotor 2 (some .int)  3 64 [.ref mo, .int v] [(mo, .inr (15, [.ref e0, .ref c1, .ref c2, .ref c3, .ref c4, .ref c5, .null, .int (nI 0), .int (nI 0), .int 0, .int 0, .int th]))] (is1 (some (.int 0)) [(mo, .inr (15, [.ref e0, .ref c1, .ref c2, .ref c3, .ref c4, .ref c5, .null, .int (nI 0), .int (nI 0), .int 0, .int 0, .int 1]))]) 0 0 0 := by
  refine CM.of (lv0 := [(0, .ref mo), (1, .int v)]) (by decide +kernel) (Nat.le_of_ble_eq_true rfl) rfl ?_
  intro p9 e9 s9 m9 bl9 me9 co9 C hr hlk hin had
  refine g_aload_n (pc := 0) C 0 rfl rfl dX11_rotor_0 ?_
  refine g_iload_n (pc := 1) C 1 rfl rfl dX11_rotor_1 ?_
  refine g_callV (pc := 2) (cells := 0) (slots := 0) (g := 0) (As := [.int v]) (st := []) (T := TX11) (q0 := 0) C (nA := 1) rfl (c_X11_wrongVertex_z mo e0 c1 c2 c3 c4 c5 th v ) q_278 q_279 q_277 q_265 q_276 (by decide +kernel) rfl rfl dX11_rotor_2 ⟨Nat.le_of_ble_eq_true rfl, Nat.le_of_ble_eq_true rfl⟩ [0] [] rfl (wr := []) rfl (by decide) (by decide) (by decide) (Nat.le_of_ble_eq_true rfl) ⟨Nat.le_of_ble_eq_true rfl, Nat.le_of_ble_eq_true rfl⟩ (fun rv w1 h1 => ?_)
  obtain ⟨rfl, rfl⟩ := h1
  refine G.aft [0] (ws' := [(mo, .inr (15, [.ref e0, .ref c1, .ref c2, .ref c3, .ref c4, .ref c5, .null, .int (nI 0), .int (nI 0), .int 0, .int 0, .int 1]))]) (st' := [.int 1]) (cells' := 0) (slots' := 0) (g' := 0) (by decide) rfl rfl rfl rfl rfl ?_
  refine g_if_ne (pc := 5) C 29 (by decide) dX11_rotor_5 (fun c_5 => ?_) (fun c_5 => ?_)
  · refine g_aload_n (pc := 29) C 0 rfl rfl dX11_rotor_29 ?_
    refine g_get (pc := 30) C (T := TX11) inX11 0 rfl rfl 11 (by decide) q_262 rfl rfl dX11_rotor_30 ?_
    refine g_if_le (pc := 33) C 40 (by decide) dX11_rotor_33 (fun c_33 => ?_) (fun c_33 => ?_)
    · exact absurd c_33 (by decide)
    · refine g_iconst (pc := 36) (v := 0) C (by decide) dX11_rotor_36 ?_
      refine g_goto (pc := 37) C 45 (by decide) dX11_rotor_37 ?_
      exact g_iret (pc := 45) C hr hlk (by first | decide | omega) (by first | decide | omega) (by first | decide | omega) dX11_rotor_45 ⟨rfl, rfl⟩
  · exact absurd c_5 (by decide)
set_option maxRecDepth 100000 in
set_option maxHeartbeats 400000 in
theorem c_X11_visits_z {l : Launch} {D : va_G} {k : Nat → ClassId} (mo : Nat) (e0 : Nat) (c1 : Nat) (c2 : Nat) (c3 : Nat) (c4 : Nat) (c5 : Nat) (th : Int32) (v : Int32)  : CM l D k yX11_visits cX11_visits 2 (some .int)  3 64 [.ref mo, .int v] [(mo, .inr (15, [.ref e0, .ref c1, .ref c2, .ref c3, .ref c4, .ref c5, .null, .int (nI 0), .int (nI 0), .int 0, .int 0, .int th]))] (is1 (some (.int 0)) [(mo, .inr (15, [.ref e0, .ref c1, .ref c2, .ref c3, .ref c4, .ref c5, .null, .int (nI 0), .int (nI 0), .int 0, .int 0, .int 1]))]) 0 0 0 := by
  refine CM.of (lv0 := [(0, .ref mo), (1, .int v)]) (by decide +kernel) (Nat.le_of_ble_eq_true rfl) rfl ?_
  intro p9 e9 s9 m9 bl9 me9 co9 C hr hlk hin had
  refine g_aload_n (pc := 0) C 0 rfl rfl dX11_visits_0 ?_
  refine g_iload_n (pc := 1) C 1 rfl rfl dX11_visits_1 ?_
  refine g_callV (pc := 2) (cells := 0) (slots := 0) (g := 0) (As := [.int v]) (st := []) (T := TX11) (q0 := 0) C (nA := 1) rfl (c_X11_wrongVertex_z mo e0 c1 c2 c3 c4 c5 th v ) q_278 q_279 q_277 q_265 q_276 (by decide +kernel) rfl rfl dX11_visits_2 ⟨Nat.le_of_ble_eq_true rfl, Nat.le_of_ble_eq_true rfl⟩ [0] [] rfl (wr := []) rfl (by decide) (by decide) (by decide) (Nat.le_of_ble_eq_true rfl) ⟨Nat.le_of_ble_eq_true rfl, Nat.le_of_ble_eq_true rfl⟩ (fun rv w1 h1 => ?_)
  obtain ⟨rfl, rfl⟩ := h1
  refine G.aft [0] (ws' := [(mo, .inr (15, [.ref e0, .ref c1, .ref c2, .ref c3, .ref c4, .ref c5, .null, .int (nI 0), .int (nI 0), .int 0, .int 0, .int 1]))]) (st' := [.int 1]) (cells' := 0) (slots' := 0) (g' := 0) (by decide) rfl rfl rfl rfl rfl ?_
  refine g_if_le (pc := 5) C 12 (by decide) dX11_visits_5 (fun c_5 => ?_) (fun c_5 => ?_)
  · exact absurd c_5 (by decide)
  · refine g_iconst (pc := 8) (v := 0) C (by decide) dX11_visits_8 ?_
    refine g_goto (pc := 9) C 18 (by decide) dX11_visits_9 ?_
    exact g_iret (pc := 18) C hr hlk (by first | decide | omega) (by first | decide | omega) (by first | decide | omega) dX11_visits_18 ⟨rfl, rfl⟩
set_option maxRecDepth 100000 in
set_option maxHeartbeats 400000 in
theorem c_X11_setDebt_z {l : Launch} {D : va_G} {k : Nat → ClassId} (mo : Nat) (e0 : Nat) (c1 : Nat) (c2 : Nat) (c3 : Nat) (c4 : Nat) (c5 : Nat) (th : Int32) (v : Int32) (y : Int32)  : CM l D k yX11_setDebt cX11_setDebt 4 (some .int)  2 43 [.ref mo, .int v, .int y] [(mo, .inr (15, [.ref e0, .ref c1, .ref c2, .ref c3, .ref c4, .ref c5, .null, .int (nI 0), .int (nI 0), .int 0, .int 0, .int th]))] (is1 (some (.int 0)) [(mo, .inr (15, [.ref e0, .ref c1, .ref c2, .ref c3, .ref c4, .ref c5, .null, .int (nI 0), .int (nI 0), .int 0, .int 0, .int 1]))]) 0 0 0 := by
  refine CM.of (lv0 := [(0, .ref mo), (1, .int v), (2, .int y)]) (by decide +kernel) (Nat.le_of_ble_eq_true rfl) rfl ?_
  intro p9 e9 s9 m9 bl9 me9 co9 C hr hlk hin had
  refine g_aload_n (pc := 0) C 0 rfl rfl dX11_setDebt_0 ?_
  refine g_aload_n (pc := 1) C 0 rfl rfl dX11_setDebt_1 ?_
  refine g_iload_n (pc := 2) C 1 rfl rfl dX11_setDebt_2 ?_
  refine g_callV (pc := 3) (cells := 0) (slots := 0) (g := 0) (As := [.int v]) (st := [.ref mo]) (T := TX11) (q0 := 0) C (nA := 1) rfl (c_X11_isVertex_z mo e0 c1 c2 c3 c4 c5 th v ) q_270 q_271 q_269 q_265 q_268 (by decide +kernel) rfl rfl dX11_setDebt_3 ⟨Nat.le_of_ble_eq_true rfl, Nat.le_of_ble_eq_true rfl⟩ [0] [] rfl (wr := []) rfl (by decide) (by decide) (by decide) (Nat.le_of_ble_eq_true rfl) ⟨Nat.le_of_ble_eq_true rfl, Nat.le_of_ble_eq_true rfl⟩ (fun rv w1 h1 => ?_)
  obtain ⟨rfl, rfl⟩ := h1
  refine G.aft [0] (ws' := [(mo, .inr (15, [.ref e0, .ref c1, .ref c2, .ref c3, .ref c4, .ref c5, .null, .int (nI 0), .int (nI 0), .int 0, .int 0, .int th]))]) (st' := [.int 0, .ref mo]) (cells' := 0) (slots' := 0) (g' := 0) (by decide) rfl rfl rfl rfl rfl ?_
  refine g_if_ne (pc := 6) C 13 (by decide) dX11_setDebt_6 (fun c_6 => ?_) (fun c_6 => ?_)
  · exact absurd c_6 (by decide)
  · refine g_iconst (pc := 9) (v := 1) C (by decide) dX11_setDebt_9 ?_
    refine g_goto (pc := 10) C 29 (by decide) dX11_setDebt_10 ?_
    refine g_put (pc := 29) C (T := TX11) inX11 0 rfl rfl 11 (by decide) q_262 rfl tyX11 tyX11_ok nmX11 rfl [(mo, .inr (15, [.ref e0, .ref c1, .ref c2, .ref c3, .ref c4, .ref c5, .null, .int (nI 0), .int (nI 0), .int 0, .int 0, .int 1]))] (tyX11_ok 11 (by decide)) rfl (by rfl) (Nat.le_of_ble_eq_true rfl) rfl dX11_setDebt_29 ?_
    refine g_aload_n (pc := 32) C 0 rfl rfl dX11_setDebt_32 ?_
    refine g_get (pc := 33) C (T := TX11) inX11 0 rfl rfl 11 (by decide) q_262 rfl rfl dX11_setDebt_33 ?_
    refine g_if_le (pc := 36) C 41 (by decide) dX11_setDebt_36 (fun c_36 => ?_) (fun c_36 => ?_)
    · exact absurd c_36 (by decide)
    · refine g_iconst (pc := 39) (v := 0) C (by decide) dX11_setDebt_39 ?_
      exact g_iret (pc := 40) C hr hlk (by first | decide | omega) (by first | decide | omega) (by first | decide | omega) dX11_setDebt_40 ⟨rfl, rfl⟩
set_option maxRecDepth 100000 in
set_option maxHeartbeats 400000 in
theorem c_X11_deal_z {l : Launch} {D : va_G} {k : Nat → ClassId} (mo : Nat) (e0 : Nat) (c1 : Nat) (c2 : Nat) (c3 : Nat) (c4 : Nat) (c5 : Nat) (th : Int32) (v : Int32) (y : Int32)  : CM l D k yX11_deal cX11_deal 8 (some .int)  3 64 [.ref mo, .int v, .int y] [(mo, .inr (15, [.ref e0, .ref c1, .ref c2, .ref c3, .ref c4, .ref c5, .null, .int (nI 0), .int (nI 0), .int 0, .int 0, .int th]))] (is1 (some (.int 0)) [(mo, .inr (15, [.ref e0, .ref c1, .ref c2, .ref c3, .ref c4, .ref c5, .null, .int (nI 0), .int (nI 0), .int 0, .int 0, .int 1]))]) 0 0 0 := by
  refine CM.of (lv0 := [(0, .ref mo), (1, .int v), (2, .int y)]) (by decide +kernel) (Nat.le_of_ble_eq_true rfl) rfl ?_
  intro p9 e9 s9 m9 bl9 me9 co9 C hr hlk hin had
  refine g_aload_n (pc := 0) C 0 rfl rfl dX11_deal_0 ?_
  refine g_iload_n (pc := 1) C 1 rfl rfl dX11_deal_1 ?_
  refine g_callV (pc := 2) (cells := 0) (slots := 0) (g := 0) (As := [.int v]) (st := []) (T := TX11) (q0 := 0) C (nA := 1) rfl (c_X11_wrongVertex_z mo e0 c1 c2 c3 c4 c5 th v ) q_278 q_279 q_277 q_265 q_276 (by decide +kernel) rfl rfl dX11_deal_2 ⟨Nat.le_of_ble_eq_true rfl, Nat.le_of_ble_eq_true rfl⟩ [0] [] rfl (wr := []) rfl (by decide) (by decide) (by decide) (Nat.le_of_ble_eq_true rfl) ⟨Nat.le_of_ble_eq_true rfl, Nat.le_of_ble_eq_true rfl⟩ (fun rv w1 h1 => ?_)
  obtain ⟨rfl, rfl⟩ := h1
  refine G.aft [0] (ws' := [(mo, .inr (15, [.ref e0, .ref c1, .ref c2, .ref c3, .ref c4, .ref c5, .null, .int (nI 0), .int (nI 0), .int 0, .int 0, .int 1]))]) (st' := [.int 1]) (cells' := 0) (slots' := 0) (g' := 0) (by decide) rfl rfl rfl rfl rfl ?_
  refine g_if_le (pc := 5) C 10 (by decide) dX11_deal_5 (fun c_5 => ?_) (fun c_5 => ?_)
  · exact absurd c_5 (by decide)
  · refine g_iconst (pc := 8) (v := 0) C (by decide) dX11_deal_8 ?_
    exact g_iret (pc := 9) C hr hlk (by first | decide | omega) (by first | decide | omega) (by first | decide | omega) dX11_deal_9 ⟨rfl, rfl⟩
set_option maxRecDepth 100000 in
set_option maxHeartbeats 400000 in
theorem c_X11_debt_z {l : Launch} {D : va_G} {k : Nat → ClassId} (mo : Nat) (e0 : Nat) (c1 : Nat) (c2 : Nat) (c3 : Nat) (c4 : Nat) (c5 : Nat) (th : Int32) (v : Int32)  : CM l D k yX11_debt cX11_debt 2 (some .int)  3 64 [.ref mo, .int v] [(mo, .inr (15, [.ref e0, .ref c1, .ref c2, .ref c3, .ref c4, .ref c5, .null, .int (nI 0), .int (nI 0), .int 0, .int 0, .int th]))] (is1 (some (.int 0)) [(mo, .inr (15, [.ref e0, .ref c1, .ref c2, .ref c3, .ref c4, .ref c5, .null, .int (nI 0), .int (nI 0), .int 0, .int 0, .int 1]))]) 0 0 0 := by
  refine CM.of (lv0 := [(0, .ref mo), (1, .int v)]) (by decide +kernel) (Nat.le_of_ble_eq_true rfl) rfl ?_
  intro p9 e9 s9 m9 bl9 me9 co9 C hr hlk hin had
  refine g_aload_n (pc := 0) C 0 rfl rfl dX11_debt_0 ?_
  refine g_iload_n (pc := 1) C 1 rfl rfl dX11_debt_1 ?_
  refine g_callV (pc := 2) (cells := 0) (slots := 0) (g := 0) (As := [.int v]) (st := []) (T := TX11) (q0 := 0) C (nA := 1) rfl (c_X11_wrongVertex_z mo e0 c1 c2 c3 c4 c5 th v ) q_278 q_279 q_277 q_265 q_276 (by decide +kernel) rfl rfl dX11_debt_2 ⟨Nat.le_of_ble_eq_true rfl, Nat.le_of_ble_eq_true rfl⟩ [0] [] rfl (wr := []) rfl (by decide) (by decide) (by decide) (Nat.le_of_ble_eq_true rfl) ⟨Nat.le_of_ble_eq_true rfl, Nat.le_of_ble_eq_true rfl⟩ (fun rv w1 h1 => ?_)
  obtain ⟨rfl, rfl⟩ := h1
  refine G.aft [0] (ws' := [(mo, .inr (15, [.ref e0, .ref c1, .ref c2, .ref c3, .ref c4, .ref c5, .null, .int (nI 0), .int (nI 0), .int 0, .int 0, .int 1]))]) (st' := [.int 1]) (cells' := 0) (slots' := 0) (g' := 0) (by decide) rfl rfl rfl rfl rfl ?_
  refine g_if_le (pc := 5) C 12 (by decide) dX11_debt_5 (fun c_5 => ?_) (fun c_5 => ?_)
  · exact absurd c_5 (by decide)
  · refine g_iconst (pc := 8) (v := 0) C (by decide) dX11_debt_8 ?_
    refine g_goto (pc := 9) C 18 (by decide) dX11_debt_9 ?_
    exact g_iret (pc := 18) C hr hlk (by first | decide | omega) (by first | decide | omega) (by first | decide | omega) dX11_debt_18 ⟨rfl, rfl⟩
set_option maxRecDepth 100000 in
set_option maxHeartbeats 400000 in
theorem c_X11_reduced_z {l : Launch} {D : va_G} {k : Nat → ClassId} (mo : Nat) (e0 : Nat) (c1 : Nat) (c2 : Nat) (c3 : Nat) (c4 : Nat) (c5 : Nat) (th : Int32) (v : Int32)  : CM l D k yX11_reduced cX11_reduced 2 (some .int)  3 64 [.ref mo, .int v] [(mo, .inr (15, [.ref e0, .ref c1, .ref c2, .ref c3, .ref c4, .ref c5, .null, .int (nI 0), .int (nI 0), .int 0, .int 0, .int th]))] (is1 (some (.int 0)) [(mo, .inr (15, [.ref e0, .ref c1, .ref c2, .ref c3, .ref c4, .ref c5, .null, .int (nI 0), .int (nI 0), .int 0, .int 0, .int 1]))]) 0 0 0 := by
  refine CM.of (lv0 := [(0, .ref mo), (1, .int v)]) (by decide +kernel) (Nat.le_of_ble_eq_true rfl) rfl ?_
  intro p9 e9 s9 m9 bl9 me9 co9 C hr hlk hin had
  refine g_aload_n (pc := 0) C 0 rfl rfl dX11_reduced_0 ?_
  refine g_iload_n (pc := 1) C 1 rfl rfl dX11_reduced_1 ?_
  refine g_callV (pc := 2) (cells := 0) (slots := 0) (g := 0) (As := [.int v]) (st := []) (T := TX11) (q0 := 0) C (nA := 1) rfl (c_X11_wrongVertex_z mo e0 c1 c2 c3 c4 c5 th v ) q_278 q_279 q_277 q_265 q_276 (by decide +kernel) rfl rfl dX11_reduced_2 ⟨Nat.le_of_ble_eq_true rfl, Nat.le_of_ble_eq_true rfl⟩ [0] [] rfl (wr := []) rfl (by decide) (by decide) (by decide) (Nat.le_of_ble_eq_true rfl) ⟨Nat.le_of_ble_eq_true rfl, Nat.le_of_ble_eq_true rfl⟩ (fun rv w1 h1 => ?_)
  obtain ⟨rfl, rfl⟩ := h1
  refine G.aft [0] (ws' := [(mo, .inr (15, [.ref e0, .ref c1, .ref c2, .ref c3, .ref c4, .ref c5, .null, .int (nI 0), .int (nI 0), .int 0, .int 0, .int 1]))]) (st' := [.int 1]) (cells' := 0) (slots' := 0) (g' := 0) (by decide) rfl rfl rfl rfl rfl ?_
  refine g_if_ne (pc := 5) C 20 (by decide) dX11_reduced_5 (fun c_5 => ?_) (fun c_5 => ?_)
  · refine g_aload_n (pc := 20) C 0 rfl rfl dX11_reduced_20 ?_
    refine g_get (pc := 21) C (T := TX11) inX11 0 rfl rfl 11 (by decide) q_262 rfl rfl dX11_reduced_21 ?_
    refine g_if_le (pc := 24) C 31 (by decide) dX11_reduced_24 (fun c_24 => ?_) (fun c_24 => ?_)
    · exact absurd c_24 (by decide)
    · refine g_iconst (pc := 27) (v := 0) C (by decide) dX11_reduced_27 ?_
      refine g_goto (pc := 28) C 41 (by decide) dX11_reduced_28 ?_
      exact g_iret (pc := 41) C hr hlk (by first | decide | omega) (by first | decide | omega) (by first | decide | omega) dX11_reduced_41 ⟨rfl, rfl⟩
  · exact absurd c_5 (by decide)
set_option maxRecDepth 100000 in
set_option maxHeartbeats 400000 in
theorem c_X11_settle_z {l : Launch} {D : va_G} {k : Nat → ClassId} (mo : Nat) (e0 : Nat) (c1 : Nat) (c2 : Nat) (c3 : Nat) (c4 : Nat) (c5 : Nat) (th : Int32)  : CM l D k yX11_settle cX11_settle 2 (some .int)  2 42 [.ref mo] [(mo, .inr (15, [.ref e0, .ref c1, .ref c2, .ref c3, .ref c4, .ref c5, .null, .int (nI 0), .int (nI 0), .int 0, .int 0, .int th]))] (is1 (some (.int 0)) [(mo, .inr (15, [.ref e0, .ref c1, .ref c2, .ref c3, .ref c4, .ref c5, .null, .int (nI 0), .int (nI 0), .int 0, .int 0, .int 1]))]) 0 0 0 := by
  refine CM.of (lv0 := [(0, .ref mo)]) (by decide +kernel) (Nat.le_of_ble_eq_true rfl) rfl ?_
  intro p9 e9 s9 m9 bl9 me9 co9 C hr hlk hin had
  refine g_aload_n (pc := 0) C 0 rfl rfl dX11_settle_0 ?_
  refine g_callV (pc := 1) (cells := 0) (slots := 0) (g := 0) (As := []) (st := []) (T := TX11) (q0 := 0) C (nA := 0) rfl (c_X11_wrongWhole_z mo e0 c1 c2 c3 c4 c5 th ) q_282 q_283 q_281 q_265 q_280 (by decide +kernel) rfl rfl dX11_settle_1 ⟨Nat.le_of_ble_eq_true rfl, Nat.le_of_ble_eq_true rfl⟩ [0] [] rfl (wr := []) rfl (by decide) (by decide) (by decide) (Nat.le_of_ble_eq_true rfl) ⟨Nat.le_of_ble_eq_true rfl, Nat.le_of_ble_eq_true rfl⟩ (fun rv w1 h1 => ?_)
  obtain ⟨rfl, rfl⟩ := h1
  refine G.aft [0] (ws' := [(mo, .inr (15, [.ref e0, .ref c1, .ref c2, .ref c3, .ref c4, .ref c5, .null, .int (nI 0), .int (nI 0), .int 0, .int 0, .int 1]))]) (st' := [.int 1]) (cells' := 0) (slots' := 0) (g' := 0) (by decide) rfl rfl rfl rfl rfl ?_
  refine g_if_le (pc := 4) C 9 (by decide) dX11_settle_4 (fun c_4 => ?_) (fun c_4 => ?_)
  · exact absurd c_4 (by decide)
  · refine g_iconst (pc := 7) (v := 0) C (by decide) dX11_settle_7 ?_
    exact g_iret (pc := 8) C hr hlk (by first | decide | omega) (by first | decide | omega) (by first | decide | omega) dX11_settle_8 ⟨rfl, rfl⟩
set_option maxRecDepth 100000 in
set_option maxHeartbeats 400000 in
theorem c_X11_waves_z {l : Launch} {D : va_G} {k : Nat → ClassId} (mo : Nat) (e0 : Nat) (c1 : Nat) (c2 : Nat) (c3 : Nat) (c4 : Nat) (c5 : Nat) (th : Int32)  : CM l D k yX11_waves cX11_waves 6 (some .int)  2 42 [.ref mo] [(mo, .inr (15, [.ref e0, .ref c1, .ref c2, .ref c3, .ref c4, .ref c5, .null, .int (nI 0), .int (nI 0), .int 0, .int 0, .int th]))] (is1 (some (.int 0)) [(mo, .inr (15, [.ref e0, .ref c1, .ref c2, .ref c3, .ref c4, .ref c5, .null, .int (nI 0), .int (nI 0), .int 0, .int 0, .int 1]))]) 0 0 0 := by
  refine CM.of (lv0 := [(0, .ref mo)]) (by decide +kernel) (Nat.le_of_ble_eq_true rfl) rfl ?_
  intro p9 e9 s9 m9 bl9 me9 co9 C hr hlk hin had
  refine g_aload_n (pc := 0) C 0 rfl rfl dX11_waves_0 ?_
  refine g_callV (pc := 1) (cells := 0) (slots := 0) (g := 0) (As := []) (st := []) (T := TX11) (q0 := 0) C (nA := 0) rfl (c_X11_wrongWhole_z mo e0 c1 c2 c3 c4 c5 th ) q_282 q_283 q_281 q_265 q_280 (by decide +kernel) rfl rfl dX11_waves_1 ⟨Nat.le_of_ble_eq_true rfl, Nat.le_of_ble_eq_true rfl⟩ [0] [] rfl (wr := []) rfl (by decide) (by decide) (by decide) (Nat.le_of_ble_eq_true rfl) ⟨Nat.le_of_ble_eq_true rfl, Nat.le_of_ble_eq_true rfl⟩ (fun rv w1 h1 => ?_)
  obtain ⟨rfl, rfl⟩ := h1
  refine G.aft [0] (ws' := [(mo, .inr (15, [.ref e0, .ref c1, .ref c2, .ref c3, .ref c4, .ref c5, .null, .int (nI 0), .int (nI 0), .int 0, .int 0, .int 1]))]) (st' := [.int 1]) (cells' := 0) (slots' := 0) (g' := 0) (by decide) rfl rfl rfl rfl rfl ?_
  refine g_if_le (pc := 4) C 9 (by decide) dX11_waves_4 (fun c_4 => ?_) (fun c_4 => ?_)
  · exact absurd c_4 (by decide)
  · refine g_iconst (pc := 7) (v := 0) C (by decide) dX11_waves_7 ?_
    exact g_iret (pc := 8) C hr hlk (by first | decide | omega) (by first | decide | omega) (by first | decide | omega) dX11_waves_8 ⟨rfl, rfl⟩
set_option maxRecDepth 100000 in
set_option maxHeartbeats 400000 in
theorem c_X11_isAgain_z {l : Launch} {D : va_G} {k : Nat → ClassId} (mo : Nat) (e0 : Nat) (c1 : Nat) (c2 : Nat) (c3 : Nat) (c4 : Nat) (c5 : Nat) (th : Int32)  : CM l D k yX11_isAgain cX11_isAgain 2 (some .boolean)  2 42 [.ref mo] [(mo, .inr (15, [.ref e0, .ref c1, .ref c2, .ref c3, .ref c4, .ref c5, .null, .int (nI 0), .int (nI 0), .int 0, .int 0, .int th]))] (is1 (some (.int 0)) [(mo, .inr (15, [.ref e0, .ref c1, .ref c2, .ref c3, .ref c4, .ref c5, .null, .int (nI 0), .int (nI 0), .int 0, .int 0, .int 1]))]) 0 0 0 := by
  refine CM.of (lv0 := [(0, .ref mo)]) (by decide +kernel) (Nat.le_of_ble_eq_true rfl) rfl ?_
  intro p9 e9 s9 m9 bl9 me9 co9 C hr hlk hin had
  refine g_aload_n (pc := 0) C 0 rfl rfl dX11_isAgain_0 ?_
  refine g_callV (pc := 1) (cells := 0) (slots := 0) (g := 0) (As := []) (st := []) (T := TX11) (q0 := 0) C (nA := 0) rfl (c_X11_wrongWhole_z mo e0 c1 c2 c3 c4 c5 th ) q_282 q_283 q_281 q_265 q_280 (by decide +kernel) rfl rfl dX11_isAgain_1 ⟨Nat.le_of_ble_eq_true rfl, Nat.le_of_ble_eq_true rfl⟩ [0] [] rfl (wr := []) rfl (by decide) (by decide) (by decide) (Nat.le_of_ble_eq_true rfl) ⟨Nat.le_of_ble_eq_true rfl, Nat.le_of_ble_eq_true rfl⟩ (fun rv w1 h1 => ?_)
  obtain ⟨rfl, rfl⟩ := h1
  refine G.aft [0] (ws' := [(mo, .inr (15, [.ref e0, .ref c1, .ref c2, .ref c3, .ref c4, .ref c5, .null, .int (nI 0), .int (nI 0), .int 0, .int 0, .int 1]))]) (st' := [.int 1]) (cells' := 0) (slots' := 0) (g' := 0) (by decide) rfl rfl rfl rfl rfl ?_
  refine g_if_le (pc := 4) C 9 (by decide) dX11_isAgain_4 (fun c_4 => ?_) (fun c_4 => ?_)
  · exact absurd c_4 (by decide)
  · refine g_iconst (pc := 7) (v := 0) C (by decide) dX11_isAgain_7 ?_
    exact g_zret (pc := 8) C hr (by first | rfl | exact bI_nar _) hlk (by first | decide | omega) (by first | decide | omega) (by first | decide | omega) dX11_isAgain_8 ⟨rfl, rfl⟩
set_option maxRecDepth 100000 in
set_option maxHeartbeats 400000 in
theorem c_X11_square_z {l : Launch} {D : va_G} {k : Nat → ClassId} (mo : Nat) (e0 : Nat) (c1 : Nat) (c2 : Nat) (c3 : Nat) (c4 : Nat) (c5 : Nat) (th : Int32)  : CM l D k yX11_square cX11_square 2 (some .int)  2 42 [.ref mo] [(mo, .inr (15, [.ref e0, .ref c1, .ref c2, .ref c3, .ref c4, .ref c5, .null, .int (nI 0), .int (nI 0), .int 0, .int 0, .int th]))] (is1 (some (.int 0)) [(mo, .inr (15, [.ref e0, .ref c1, .ref c2, .ref c3, .ref c4, .ref c5, .null, .int (nI 0), .int (nI 0), .int 0, .int 0, .int 1]))]) 0 0 0 := by
  refine CM.of (lv0 := [(0, .ref mo)]) (by decide +kernel) (Nat.le_of_ble_eq_true rfl) rfl ?_
  intro p9 e9 s9 m9 bl9 me9 co9 C hr hlk hin had
  refine g_aload_n (pc := 0) C 0 rfl rfl dX11_square_0 ?_
  refine g_callV (pc := 1) (cells := 0) (slots := 0) (g := 0) (As := []) (st := []) (T := TX11) (q0 := 0) C (nA := 0) rfl (c_X11_wrongWhole_z mo e0 c1 c2 c3 c4 c5 th ) q_282 q_283 q_281 q_265 q_280 (by decide +kernel) rfl rfl dX11_square_1 ⟨Nat.le_of_ble_eq_true rfl, Nat.le_of_ble_eq_true rfl⟩ [0] [] rfl (wr := []) rfl (by decide) (by decide) (by decide) (Nat.le_of_ble_eq_true rfl) ⟨Nat.le_of_ble_eq_true rfl, Nat.le_of_ble_eq_true rfl⟩ (fun rv w1 h1 => ?_)
  obtain ⟨rfl, rfl⟩ := h1
  refine G.aft [0] (ws' := [(mo, .inr (15, [.ref e0, .ref c1, .ref c2, .ref c3, .ref c4, .ref c5, .null, .int (nI 0), .int (nI 0), .int 0, .int 0, .int 1]))]) (st' := [.int 1]) (cells' := 0) (slots' := 0) (g' := 0) (by decide) rfl rfl rfl rfl rfl ?_
  refine g_if_ne (pc := 4) C 42 (by decide) dX11_square_4 (fun c_4 => ?_) (fun c_4 => ?_)
  · refine g_aload_n (pc := 42) C 0 rfl rfl dX11_square_42 ?_
    refine g_get (pc := 43) C (T := TX11) inX11 0 rfl rfl 11 (by decide) q_262 rfl rfl dX11_square_43 ?_
    refine g_if_le (pc := 46) C 51 (by decide) dX11_square_46 (fun c_46 => ?_) (fun c_46 => ?_)
    · exact absurd c_46 (by decide)
    · refine g_iconst (pc := 49) (v := 0) C (by decide) dX11_square_49 ?_
      exact g_iret (pc := 50) C hr hlk (by first | decide | omega) (by first | decide | omega) (by first | decide | omega) dX11_square_50 ⟨rfl, rfl⟩
  · exact absurd c_4 (by decide)
set_option maxRecDepth 100000 in
set_option maxHeartbeats 400000 in
theorem c_X11_factors_z {l : Launch} {D : va_G} {k : Nat → ClassId} (mo : Nat) (e0 : Nat) (c1 : Nat) (c2 : Nat) (c3 : Nat) (c4 : Nat) (c5 : Nat) (th : Int32)  : CM l D k yX11_factors cX11_factors 1 (some .int)  2 42 [.ref mo] [(mo, .inr (15, [.ref e0, .ref c1, .ref c2, .ref c3, .ref c4, .ref c5, .null, .int (nI 0), .int (nI 0), .int 0, .int 0, .int th]))] (is1 (some (.int 0)) [(mo, .inr (15, [.ref e0, .ref c1, .ref c2, .ref c3, .ref c4, .ref c5, .null, .int (nI 0), .int (nI 0), .int 0, .int 0, .int 1]))]) 0 0 0 := by
  refine CM.of (lv0 := [(0, .ref mo)]) (by decide +kernel) (Nat.le_of_ble_eq_true rfl) rfl ?_
  intro p9 e9 s9 m9 bl9 me9 co9 C hr hlk hin had
  refine g_aload_n (pc := 0) C 0 rfl rfl dX11_factors_0 ?_
  refine g_callV (pc := 1) (cells := 0) (slots := 0) (g := 0) (As := []) (st := []) (T := TX11) (q0 := 0) C (nA := 0) rfl (c_X11_wrongWhole_z mo e0 c1 c2 c3 c4 c5 th ) q_282 q_283 q_281 q_265 q_280 (by decide +kernel) rfl rfl dX11_factors_1 ⟨Nat.le_of_ble_eq_true rfl, Nat.le_of_ble_eq_true rfl⟩ [0] [] rfl (wr := []) rfl (by decide) (by decide) (by decide) (Nat.le_of_ble_eq_true rfl) ⟨Nat.le_of_ble_eq_true rfl, Nat.le_of_ble_eq_true rfl⟩ (fun rv w1 h1 => ?_)
  obtain ⟨rfl, rfl⟩ := h1
  refine G.aft [0] (ws' := [(mo, .inr (15, [.ref e0, .ref c1, .ref c2, .ref c3, .ref c4, .ref c5, .null, .int (nI 0), .int (nI 0), .int 0, .int 0, .int 1]))]) (st' := [.int 1]) (cells' := 0) (slots' := 0) (g' := 0) (by decide) rfl rfl rfl rfl rfl ?_
  refine g_if_le (pc := 4) C 11 (by decide) dX11_factors_4 (fun c_4 => ?_) (fun c_4 => ?_)
  · exact absurd c_4 (by decide)
  · refine g_iconst (pc := 7) (v := 0) C (by decide) dX11_factors_7 ?_
    refine g_goto (pc := 8) C 18 (by decide) dX11_factors_8 ?_
    exact g_iret (pc := 18) C hr hlk (by first | decide | omega) (by first | decide | omega) (by first | decide | omega) dX11_factors_18 ⟨rfl, rfl⟩
set_option maxRecDepth 100000 in
set_option maxHeartbeats 400000 in
theorem c_X11_factorAt_z {l : Launch} {D : va_G} {k : Nat → ClassId} (mo : Nat) (e0 : Nat) (c1 : Nat) (c2 : Nat) (c3 : Nat) (c4 : Nat) (c5 : Nat) (th : Int32) (v : Int32)  : CM l D k yX11_factorAt cX11_factorAt 2 (some .long)  2 42 [.ref mo, .int v] [(mo, .inr (15, [.ref e0, .ref c1, .ref c2, .ref c3, .ref c4, .ref c5, .null, .int (nI 0), .int (nI 0), .int 0, .int 0, .int th]))] (is1 (some (.long 0)) [(mo, .inr (15, [.ref e0, .ref c1, .ref c2, .ref c3, .ref c4, .ref c5, .null, .int (nI 0), .int (nI 0), .int 0, .int 0, .int 1]))]) 0 0 0 := by
  refine CM.of (lv0 := [(0, .ref mo), (1, .int v)]) (by decide +kernel) (Nat.le_of_ble_eq_true rfl) rfl ?_
  intro p9 e9 s9 m9 bl9 me9 co9 C hr hlk hin had
  refine g_aload_n (pc := 0) C 0 rfl rfl dX11_factorAt_0 ?_
  refine g_callV (pc := 1) (cells := 0) (slots := 0) (g := 0) (As := []) (st := []) (T := TX11) (q0 := 0) C (nA := 0) rfl (c_X11_wrongWhole_z mo e0 c1 c2 c3 c4 c5 th ) q_282 q_283 q_281 q_265 q_280 (by decide +kernel) rfl rfl dX11_factorAt_1 ⟨Nat.le_of_ble_eq_true rfl, Nat.le_of_ble_eq_true rfl⟩ [0] [] rfl (wr := []) rfl (by decide) (by decide) (by decide) (Nat.le_of_ble_eq_true rfl) ⟨Nat.le_of_ble_eq_true rfl, Nat.le_of_ble_eq_true rfl⟩ (fun rv w1 h1 => ?_)
  obtain ⟨rfl, rfl⟩ := h1
  refine G.aft [0] (ws' := [(mo, .inr (15, [.ref e0, .ref c1, .ref c2, .ref c3, .ref c4, .ref c5, .null, .int (nI 0), .int (nI 0), .int 0, .int 0, .int 1]))]) (st' := [.int 1]) (cells' := 0) (slots' := 0) (g' := 0) (by decide) rfl rfl rfl rfl rfl ?_
  refine g_if_ne (pc := 4) C 29 (by decide) dX11_factorAt_4 (fun c_4 => ?_) (fun c_4 => ?_)
  · refine g_aload_n (pc := 29) C 0 rfl rfl dX11_factorAt_29 ?_
    refine g_get (pc := 30) C (T := TX11) inX11 0 rfl rfl 11 (by decide) q_262 rfl rfl dX11_factorAt_30 ?_
    refine g_if_le (pc := 33) C 40 (by decide) dX11_factorAt_33 (fun c_33 => ?_) (fun c_33 => ?_)
    · exact absurd c_33 (by decide)
    · refine g_lconst (pc := 36) (v := 0) C (by decide) dX11_factorAt_36 ?_
      refine g_goto (pc := 37) C 54 (by decide) dX11_factorAt_37 ?_
      exact g_lret (pc := 54) C hr hlk (by first | decide | omega) (by first | decide | omega) (by first | decide | omega) dX11_factorAt_54 ⟨rfl, rfl⟩
  · exact absurd c_4 (by decide)
set_option maxRecDepth 100000 in
set_option maxHeartbeats 400000 in
theorem c_X11_order_z {l : Launch} {D : va_G} {k : Nat → ClassId} (mo : Nat) (e0 : Nat) (c1 : Nat) (c2 : Nat) (c3 : Nat) (c4 : Nat) (c5 : Nat) (th : Int32)  : CM l D k yX11_order cX11_order 7 (some .long)  2 42 [.ref mo] [(mo, .inr (15, [.ref e0, .ref c1, .ref c2, .ref c3, .ref c4, .ref c5, .null, .int (nI 0), .int (nI 0), .int 0, .int 0, .int th]))] (is1 (some (.long 0)) [(mo, .inr (15, [.ref e0, .ref c1, .ref c2, .ref c3, .ref c4, .ref c5, .null, .int (nI 0), .int (nI 0), .int 0, .int 0, .int 1]))]) 0 0 0 := by
  refine CM.of (lv0 := [(0, .ref mo)]) (by decide +kernel) (Nat.le_of_ble_eq_true rfl) rfl ?_
  intro p9 e9 s9 m9 bl9 me9 co9 C hr hlk hin had
  refine g_aload_n (pc := 0) C 0 rfl rfl dX11_order_0 ?_
  refine g_callV (pc := 1) (cells := 0) (slots := 0) (g := 0) (As := []) (st := []) (T := TX11) (q0 := 0) C (nA := 0) rfl (c_X11_wrongWhole_z mo e0 c1 c2 c3 c4 c5 th ) q_282 q_283 q_281 q_265 q_280 (by decide +kernel) rfl rfl dX11_order_1 ⟨Nat.le_of_ble_eq_true rfl, Nat.le_of_ble_eq_true rfl⟩ [0] [] rfl (wr := []) rfl (by decide) (by decide) (by decide) (Nat.le_of_ble_eq_true rfl) ⟨Nat.le_of_ble_eq_true rfl, Nat.le_of_ble_eq_true rfl⟩ (fun rv w1 h1 => ?_)
  obtain ⟨rfl, rfl⟩ := h1
  refine G.aft [0] (ws' := [(mo, .inr (15, [.ref e0, .ref c1, .ref c2, .ref c3, .ref c4, .ref c5, .null, .int (nI 0), .int (nI 0), .int 0, .int 0, .int 1]))]) (st' := [.int 1]) (cells' := 0) (slots' := 0) (g' := 0) (by decide) rfl rfl rfl rfl rfl ?_
  refine g_if_le (pc := 4) C 9 (by decide) dX11_order_4 (fun c_4 => ?_) (fun c_4 => ?_)
  · exact absurd c_4 (by decide)
  · refine g_lconst (pc := 7) (v := 0) C (by decide) dX11_order_7 ?_
    exact g_lret (pc := 8) C hr hlk (by first | decide | omega) (by first | decide | omega) (by first | decide | omega) dX11_order_8 ⟨rfl, rfl⟩
set_option maxRecDepth 100000 in
set_option maxHeartbeats 400000 in
theorem c_X11_areTree_z {l : Launch} {D : va_G} {k : Nat → ClassId} (mo : Nat) (e0 : Nat) (c1 : Nat) (c2 : Nat) (c3 : Nat) (c4 : Nat) (c5 : Nat) (th : Int32)  : CM l D k yX11_areTree cX11_areTree 4 (some .boolean)  2 42 [.ref mo] [(mo, .inr (15, [.ref e0, .ref c1, .ref c2, .ref c3, .ref c4, .ref c5, .null, .int (nI 0), .int (nI 0), .int 0, .int 0, .int th]))] (is1 (some (.int 0)) [(mo, .inr (15, [.ref e0, .ref c1, .ref c2, .ref c3, .ref c4, .ref c5, .null, .int (nI 0), .int (nI 0), .int 0, .int 0, .int 1]))]) 0 0 0 := by
  refine CM.of (lv0 := [(0, .ref mo)]) (by decide +kernel) (Nat.le_of_ble_eq_true rfl) rfl ?_
  intro p9 e9 s9 m9 bl9 me9 co9 C hr hlk hin had
  refine g_aload_n (pc := 0) C 0 rfl rfl dX11_areTree_0 ?_
  refine g_callV (pc := 1) (cells := 0) (slots := 0) (g := 0) (As := []) (st := []) (T := TX11) (q0 := 0) C (nA := 0) rfl (c_X11_wrongWhole_z mo e0 c1 c2 c3 c4 c5 th ) q_282 q_283 q_281 q_265 q_280 (by decide +kernel) rfl rfl dX11_areTree_1 ⟨Nat.le_of_ble_eq_true rfl, Nat.le_of_ble_eq_true rfl⟩ [0] [] rfl (wr := []) rfl (by decide) (by decide) (by decide) (Nat.le_of_ble_eq_true rfl) ⟨Nat.le_of_ble_eq_true rfl, Nat.le_of_ble_eq_true rfl⟩ (fun rv w1 h1 => ?_)
  obtain ⟨rfl, rfl⟩ := h1
  refine G.aft [0] (ws' := [(mo, .inr (15, [.ref e0, .ref c1, .ref c2, .ref c3, .ref c4, .ref c5, .null, .int (nI 0), .int (nI 0), .int 0, .int 0, .int 1]))]) (st' := [.int 1]) (cells' := 0) (slots' := 0) (g' := 0) (by decide) rfl rfl rfl rfl rfl ?_
  refine g_if_le (pc := 4) C 9 (by decide) dX11_areTree_4 (fun c_4 => ?_) (fun c_4 => ?_)
  · exact absurd c_4 (by decide)
  · refine g_iconst (pc := 7) (v := 0) C (by decide) dX11_areTree_7 ?_
    exact g_zret (pc := 8) C hr (by first | rfl | exact bI_nar _) hlk (by first | decide | omega) (by first | decide | omega) (by first | decide | omega) dX11_areTree_8 ⟨rfl, rfl⟩
set_option maxRecDepth 100000 in
set_option maxHeartbeats 400000 in
theorem c_X11_canPay_z {l : Launch} {D : va_G} {k : Nat → ClassId} (mo : Nat) (e0 : Nat) (c1 : Nat) (c2 : Nat) (c3 : Nat) (c4 : Nat) (c5 : Nat) (th : Int32)  : CM l D k yX11_canPay cX11_canPay 1 (some .boolean)  2 42 [.ref mo] [(mo, .inr (15, [.ref e0, .ref c1, .ref c2, .ref c3, .ref c4, .ref c5, .null, .int (nI 0), .int (nI 0), .int 0, .int 0, .int th]))] (is1 (some (.int 0)) [(mo, .inr (15, [.ref e0, .ref c1, .ref c2, .ref c3, .ref c4, .ref c5, .null, .int (nI 0), .int (nI 0), .int 0, .int 0, .int 1]))]) 0 0 0 := by
  refine CM.of (lv0 := [(0, .ref mo)]) (by decide +kernel) (Nat.le_of_ble_eq_true rfl) rfl ?_
  intro p9 e9 s9 m9 bl9 me9 co9 C hr hlk hin had
  refine g_aload_n (pc := 0) C 0 rfl rfl dX11_canPay_0 ?_
  refine g_callV (pc := 1) (cells := 0) (slots := 0) (g := 0) (As := []) (st := []) (T := TX11) (q0 := 0) C (nA := 0) rfl (c_X11_wrongWhole_z mo e0 c1 c2 c3 c4 c5 th ) q_282 q_283 q_281 q_265 q_280 (by decide +kernel) rfl rfl dX11_canPay_1 ⟨Nat.le_of_ble_eq_true rfl, Nat.le_of_ble_eq_true rfl⟩ [0] [] rfl (wr := []) rfl (by decide) (by decide) (by decide) (Nat.le_of_ble_eq_true rfl) ⟨Nat.le_of_ble_eq_true rfl, Nat.le_of_ble_eq_true rfl⟩ (fun rv w1 h1 => ?_)
  obtain ⟨rfl, rfl⟩ := h1
  refine G.aft [0] (ws' := [(mo, .inr (15, [.ref e0, .ref c1, .ref c2, .ref c3, .ref c4, .ref c5, .null, .int (nI 0), .int (nI 0), .int 0, .int 0, .int 1]))]) (st' := [.int 1]) (cells' := 0) (slots' := 0) (g' := 0) (by decide) rfl rfl rfl rfl rfl ?_
  refine g_if_ne (pc := 4) C 22 (by decide) dX11_canPay_4 (fun c_4 => ?_) (fun c_4 => ?_)
  · refine g_iconst (pc := 22) (v := 0) C (by decide) dX11_canPay_22 ?_
    exact g_zret (pc := 23) C hr (by first | rfl | exact bI_nar _) hlk (by first | decide | omega) (by first | decide | omega) (by first | decide | omega) dX11_canPay_23 ⟨rfl, rfl⟩
  · exact absurd c_4 (by decide)
set_option maxRecDepth 100000 in
set_option maxHeartbeats 400000 in
theorem c_X11_rank_z {l : Launch} {D : va_G} {k : Nat → ClassId} (mo : Nat) (e0 : Nat) (c1 : Nat) (c2 : Nat) (c3 : Nat) (c4 : Nat) (c5 : Nat) (th : Int32)  : CM l D k yX11_rank cX11_rank 3 (some .int)  2 42 [.ref mo] [(mo, .inr (15, [.ref e0, .ref c1, .ref c2, .ref c3, .ref c4, .ref c5, .null, .int (nI 0), .int (nI 0), .int 0, .int 0, .int th]))] (is1 (some (.int 0)) [(mo, .inr (15, [.ref e0, .ref c1, .ref c2, .ref c3, .ref c4, .ref c5, .null, .int (nI 0), .int (nI 0), .int 0, .int 0, .int 1]))]) 0 0 0 := by
  refine CM.of (lv0 := [(0, .ref mo)]) (by decide +kernel) (Nat.le_of_ble_eq_true rfl) rfl ?_
  intro p9 e9 s9 m9 bl9 me9 co9 C hr hlk hin had
  refine g_aload_n (pc := 0) C 0 rfl rfl dX11_rank_0 ?_
  refine g_callV (pc := 1) (cells := 0) (slots := 0) (g := 0) (As := []) (st := []) (T := TX11) (q0 := 0) C (nA := 0) rfl (c_X11_wrongWhole_z mo e0 c1 c2 c3 c4 c5 th ) q_282 q_283 q_281 q_265 q_280 (by decide +kernel) rfl rfl dX11_rank_1 ⟨Nat.le_of_ble_eq_true rfl, Nat.le_of_ble_eq_true rfl⟩ [0] [] rfl (wr := []) rfl (by decide) (by decide) (by decide) (Nat.le_of_ble_eq_true rfl) ⟨Nat.le_of_ble_eq_true rfl, Nat.le_of_ble_eq_true rfl⟩ (fun rv w1 h1 => ?_)
  obtain ⟨rfl, rfl⟩ := h1
  refine G.aft [0] (ws' := [(mo, .inr (15, [.ref e0, .ref c1, .ref c2, .ref c3, .ref c4, .ref c5, .null, .int (nI 0), .int (nI 0), .int 0, .int 0, .int 1]))]) (st' := [.int 1]) (cells' := 0) (slots' := 0) (g' := 0) (by decide) rfl rfl rfl rfl rfl ?_
  refine g_if_ne (pc := 4) C 24 (by decide) dX11_rank_4 (fun c_4 => ?_) (fun c_4 => ?_)
  · refine g_aload_n (pc := 24) C 0 rfl rfl dX11_rank_24 ?_
    refine g_get (pc := 25) C (T := TX11) inX11 0 rfl rfl 11 (by decide) q_262 rfl rfl dX11_rank_25 ?_
    refine g_if_le (pc := 28) C 33 (by decide) dX11_rank_28 (fun c_28 => ?_) (fun c_28 => ?_)
    · exact absurd c_28 (by decide)
    · refine g_iconst (pc := 31) (v := 0) C (by decide) dX11_rank_31 ?_
      exact g_iret (pc := 32) C hr hlk (by first | decide | omega) (by first | decide | omega) (by first | decide | omega) dX11_rank_32 ⟨rfl, rfl⟩
  · exact absurd c_4 (by decide)
set_option maxRecDepth 100000 in
set_option maxHeartbeats 400000 in
theorem c_X11_isWhole_z {l : Launch} {D : va_G} {k : Nat → ClassId} (mo : Nat) (e0 : Nat) (c1 : Nat) (c2 : Nat) (c3 : Nat) (c4 : Nat) (c5 : Nat) (th : Int32)  : CM l D k yX11_isWhole cX11_isWhole 1 (some .boolean)  1 22 [.ref mo] [(mo, .inr (15, [.ref e0, .ref c1, .ref c2, .ref c3, .ref c4, .ref c5, .null, .int (nI 0), .int (nI 0), .int 0, .int 0, .int th]))] (is1 (some (.int 0)) [(mo, .inr (15, [.ref e0, .ref c1, .ref c2, .ref c3, .ref c4, .ref c5, .null, .int (nI 0), .int (nI 0), .int 0, .int 0, .int 0]))]) 0 0 0 := by
  refine CM.of (lv0 := [(0, .ref mo)]) (by decide +kernel) (Nat.le_of_ble_eq_true rfl) rfl ?_
  intro p9 e9 s9 m9 bl9 me9 co9 C hr hlk hin had
  refine g_aload_n (pc := 0) C 0 rfl rfl dX11_isWhole_0 ?_
  refine g_iconst (pc := 1) (v := 0) C (by decide) dX11_isWhole_1 ?_
  refine g_put (pc := 2) C (T := TX11) inX11 0 rfl rfl 11 (by decide) q_262 rfl tyX11 tyX11_ok nmX11 rfl [(mo, .inr (15, [.ref e0, .ref c1, .ref c2, .ref c3, .ref c4, .ref c5, .null, .int (nI 0), .int (nI 0), .int 0, .int 0, .int 0]))] (tyX11_ok 11 (by decide)) rfl (by rfl) (Nat.le_of_ble_eq_true rfl) rfl dX11_isWhole_2 ?_
  refine g_aload_n (pc := 5) C 0 rfl rfl dX11_isWhole_5 ?_
  refine g_callV (pc := 6) (cells := 0) (slots := 0) (g := 0) (As := []) (st := []) (T := TX11) (q0 := 0) C (nA := 0) rfl (c_X11_whole_z mo e0 c1 c2 c3 c4 c5 0 ) q_274 q_275 q_273 q_265 q_272 (by decide +kernel) rfl rfl dX11_isWhole_6 ⟨Nat.le_of_ble_eq_true rfl, Nat.le_of_ble_eq_true rfl⟩ [0] [] rfl (wr := []) rfl (by decide) (by decide) (by decide) (Nat.le_of_ble_eq_true rfl) ⟨Nat.le_of_ble_eq_true rfl, Nat.le_of_ble_eq_true rfl⟩ (fun rv w1 h1 => ?_)
  obtain ⟨rfl, rfl⟩ := h1
  refine G.aft [0] (ws' := [(mo, .inr (15, [.ref e0, .ref c1, .ref c2, .ref c3, .ref c4, .ref c5, .null, .int (nI 0), .int (nI 0), .int 0, .int 0, .int 0]))]) (st' := [.int 0]) (cells' := 0) (slots' := 0) (g' := 0) (by decide) rfl rfl rfl rfl rfl ?_
  exact g_zret (pc := 9) C hr (by first | rfl | exact bI_nar _) hlk (by first | decide | omega) (by first | decide | omega) (by first | decide | omega) dX11_isWhole_9 ⟨rfl, rfl⟩
set_option maxRecDepth 100000 in
set_option maxHeartbeats 400000 in
theorem c_X11_swallowed_z {l : Launch} {D : va_G} {k : Nat → ClassId} (mo : Nat) (e0 : Nat) (c1 : Nat) (c2 : Nat) (c3 : Nat) (c4 : Nat) (c5 : Nat) (th : Int32)  : CM l D k yX11_swallowed cX11_swallowed 1 (some .int)  1 21 [.ref mo] [(mo, .inr (15, [.ref e0, .ref c1, .ref c2, .ref c3, .ref c4, .ref c5, .null, .int (nI 0), .int (nI 0), .int 0, .int 0, .int th]))] (is1 (some (.int 0)) [(mo, .inr (15, [.ref e0, .ref c1, .ref c2, .ref c3, .ref c4, .ref c5, .null, .int (nI 0), .int (nI 0), .int 0, .int 0, .int 0]))]) 0 0 0 := by
  refine CM.of (lv0 := [(0, .ref mo)]) (by decide +kernel) (Nat.le_of_ble_eq_true rfl) rfl ?_
  intro p9 e9 s9 m9 bl9 me9 co9 C hr hlk hin had
  refine g_aload_n (pc := 0) C 0 rfl rfl dX11_swallowed_0 ?_
  refine g_aload_n (pc := 1) C 0 rfl rfl dX11_swallowed_1 ?_
  refine g_get (pc := 2) C (T := TX11) inX11 0 rfl rfl 9 (by decide) q_284 rfl rfl dX11_swallowed_2 ?_
  refine g_callV (pc := 5) (cells := 0) (slots := 0) (g := 0) (As := [.int 0]) (st := []) (T := TX11) (q0 := 0) C (nA := 1) rfl (c_X11_plain_z mo e0 c1 c2 c3 c4 c5 th 0 ) q_287 q_288 q_286 q_265 q_285 (by decide +kernel) rfl rfl dX11_swallowed_5 ⟨Nat.le_of_ble_eq_true rfl, Nat.le_of_ble_eq_true rfl⟩ [0] [] rfl (wr := []) rfl (by decide) (by decide) (by decide) (Nat.le_of_ble_eq_true rfl) ⟨Nat.le_of_ble_eq_true rfl, Nat.le_of_ble_eq_true rfl⟩ (fun rv w1 h1 => ?_)
  obtain ⟨rfl, rfl⟩ := h1
  refine G.aft [0] (ws' := [(mo, .inr (15, [.ref e0, .ref c1, .ref c2, .ref c3, .ref c4, .ref c5, .null, .int (nI 0), .int (nI 0), .int 0, .int 0, .int 0]))]) (st' := [.int 0]) (cells' := 0) (slots' := 0) (g' := 0) (by decide) rfl rfl rfl rfl rfl ?_
  exact g_iret (pc := 8) C hr hlk (by first | decide | omega) (by first | decide | omega) (by first | decide | omega) dX11_swallowed_8 ⟨rfl, rfl⟩
set_option maxRecDepth 100000 in
set_option maxHeartbeats 400000 in
theorem c_X11_trees_z {l : Launch} {D : va_G} {k : Nat → ClassId} (mo : Nat) (e0 : Nat) (c1 : Nat) (c2 : Nat) (c3 : Nat) (c4 : Nat) (c5 : Nat) (th : Int32)  : CM l D k yX11_trees cX11_trees 1 (some .long)  2 49 [.ref mo] [(mo, .inr (15, [.ref e0, .ref c1, .ref c2, .ref c3, .ref c4, .ref c5, .null, .int (nI 0), .int (nI 0), .int 0, .int 0, .int th]))] (is1 (some (.long 0)) [(mo, .inr (15, [.ref e0, .ref c1, .ref c2, .ref c3, .ref c4, .ref c5, .null, .int (nI 0), .int (nI 0), .int 0, .int 0, .int 0]))]) 0 0 0 := by
  refine CM.of (lv0 := [(0, .ref mo)]) (by decide +kernel) (Nat.le_of_ble_eq_true rfl) rfl ?_
  intro p9 e9 s9 m9 bl9 me9 co9 C hr hlk hin had
  refine g_aload_n (pc := 0) C 0 rfl rfl dX11_trees_0 ?_
  refine g_iconst (pc := 1) (v := 0) C (by decide) dX11_trees_1 ?_
  refine g_put (pc := 2) C (T := TX11) inX11 0 rfl rfl 11 (by decide) q_262 rfl tyX11 tyX11_ok nmX11 rfl [(mo, .inr (15, [.ref e0, .ref c1, .ref c2, .ref c3, .ref c4, .ref c5, .null, .int (nI 0), .int (nI 0), .int 0, .int 0, .int 0]))] (tyX11_ok 11 (by decide)) rfl (by rfl) (Nat.le_of_ble_eq_true rfl) rfl dX11_trees_2 ?_
  refine g_aload_n (pc := 5) C 0 rfl rfl dX11_trees_5 ?_
  refine g_callV (pc := 6) (cells := 0) (slots := 0) (g := 0) (As := []) (st := []) (T := TX11) (q0 := 0) C (nA := 0) rfl (c_X11_allTrees_z mo e0 c1 c2 c3 c4 c5 0 ) q_291 q_292 q_290 q_265 q_289 (by decide +kernel) rfl rfl dX11_trees_6 ⟨Nat.le_of_ble_eq_true rfl, Nat.le_of_ble_eq_true rfl⟩ [0] [] rfl (wr := []) rfl (by decide) (by decide) (by decide) (Nat.le_of_ble_eq_true rfl) ⟨Nat.le_of_ble_eq_true rfl, Nat.le_of_ble_eq_true rfl⟩ (fun rv w1 h1 => ?_)
  obtain ⟨rfl, rfl⟩ := h1
  refine G.aft [0] (ws' := [(mo, .inr (15, [.ref e0, .ref c1, .ref c2, .ref c3, .ref c4, .ref c5, .null, .int (nI 0), .int (nI 0), .int 0, .int 0, .int 0]))]) (st' := [.long 0]) (cells' := 0) (slots' := 0) (g' := 0) (by decide) rfl rfl rfl rfl rfl ?_
  exact g_lret (pc := 9) C hr hlk (by first | decide | omega) (by first | decide | omega) (by first | decide | omega) dX11_trees_9 ⟨rfl, rfl⟩
set_option maxRecDepth 100000 in
set_option maxHeartbeats 400000 in
theorem c_X11_settledShare_z {l : Launch} {D : va_G} {k : Nat → ClassId} (mo : Nat) (e0 : Nat) (c1 : Nat) (c2 : Nat) (c3 : Nat) (c4 : Nat) (c5 : Nat) (th : Int32)  : CM l D k yX11_settledShare cX11_settledShare 3 (some .float)  0 0 [.ref mo] [(mo, .inr (15, [.ref e0, .ref c1, .ref c2, .ref c3, .ref c4, .ref c5, .null, .int (nI 0), .int (nI 0), .int 0, .int 0, .int th]))] (is1 (some (.float 0)) [(mo, .inr (15, [.ref e0, .ref c1, .ref c2, .ref c3, .ref c4, .ref c5, .null, .int (nI 0), .int (nI 0), .int 0, .int 0, .int 1]))]) 0 0 0 := by
  refine CM.of (lv0 := [(0, .ref mo)]) (by decide +kernel) (Nat.le_of_ble_eq_true rfl) rfl ?_
  intro p9 e9 s9 m9 bl9 me9 co9 C hr hlk hin had
  refine g_aload_n (pc := 0) C 0 rfl rfl dX11_settledShare_0 ?_
  refine g_aload_n (pc := 1) C 0 rfl rfl dX11_settledShare_1 ?_
  refine g_get (pc := 2) C (T := TX11) inX11 0 rfl rfl 7 (by decide) q_263 rfl rfl dX11_settledShare_2 ?_
  refine g_iconst (pc := 5) (v := 2) C (by decide) dX11_settledShare_5 ?_
  refine g_icmp_ge (pc := 6) C 13 (by decide) dX11_settledShare_6 (fun c_6 => ?_) (fun c_6 => ?_)
  · exact absurd c_6 (by decide)
  · refine g_iconst (pc := 9) (v := 1) C (by decide) dX11_settledShare_9 ?_
    refine g_goto (pc := 10) C 14 (by decide) dX11_settledShare_10 ?_
    refine g_put (pc := 14) C (T := TX11) inX11 0 rfl rfl 11 (by decide) q_262 rfl tyX11 tyX11_ok nmX11 rfl [(mo, .inr (15, [.ref e0, .ref c1, .ref c2, .ref c3, .ref c4, .ref c5, .null, .int (nI 0), .int (nI 0), .int 0, .int 0, .int 1]))] (tyX11_ok 11 (by decide)) rfl (by rfl) (Nat.le_of_ble_eq_true rfl) rfl dX11_settledShare_14 ?_
    refine g_aload_n (pc := 17) C 0 rfl rfl dX11_settledShare_17 ?_
    refine g_get (pc := 18) C (T := TX11) inX11 0 rfl rfl 11 (by decide) q_262 rfl rfl dX11_settledShare_18 ?_
    refine g_if_le (pc := 21) C 26 (by decide) dX11_settledShare_21 (fun c_21 => ?_) (fun c_21 => ?_)
    · exact absurd c_21 (by decide)
    · refine g_fconst0 (pc := 24) C dX11_settledShare_24 ?_
      exact g_fret (pc := 25) C hr hlk (by first | decide | omega) (by first | decide | omega) (by first | decide | omega) dX11_settledShare_25 ⟨rfl, rfl⟩
set_option maxRecDepth 100000 in
set_option maxHeartbeats 400000 in
theorem c_X11_meanChips_z {l : Launch} {D : va_G} {k : Nat → ClassId} (mo : Nat) (e0 : Nat) (c1 : Nat) (c2 : Nat) (c3 : Nat) (c4 : Nat) (c5 : Nat) (th : Int32)  : CM l D k yX11_meanChips cX11_meanChips 3 (some .double)  0 0 [.ref mo] [(mo, .inr (15, [.ref e0, .ref c1, .ref c2, .ref c3, .ref c4, .ref c5, .null, .int (nI 0), .int (nI 0), .int 0, .int 0, .int th]))] (is1 (some (.double 0)) [(mo, .inr (15, [.ref e0, .ref c1, .ref c2, .ref c3, .ref c4, .ref c5, .null, .int (nI 0), .int (nI 0), .int 0, .int 0, .int 1]))]) 0 0 0 := by
  refine CM.of (lv0 := [(0, .ref mo)]) (by decide +kernel) (Nat.le_of_ble_eq_true rfl) rfl ?_
  intro p9 e9 s9 m9 bl9 me9 co9 C hr hlk hin had
  refine g_aload_n (pc := 0) C 0 rfl rfl dX11_meanChips_0 ?_
  refine g_aload_n (pc := 1) C 0 rfl rfl dX11_meanChips_1 ?_
  refine g_get (pc := 2) C (T := TX11) inX11 0 rfl rfl 7 (by decide) q_263 rfl rfl dX11_meanChips_2 ?_
  refine g_iconst (pc := 5) (v := 2) C (by decide) dX11_meanChips_5 ?_
  refine g_icmp_ge (pc := 6) C 13 (by decide) dX11_meanChips_6 (fun c_6 => ?_) (fun c_6 => ?_)
  · exact absurd c_6 (by decide)
  · refine g_iconst (pc := 9) (v := 1) C (by decide) dX11_meanChips_9 ?_
    refine g_goto (pc := 10) C 14 (by decide) dX11_meanChips_10 ?_
    refine g_put (pc := 14) C (T := TX11) inX11 0 rfl rfl 11 (by decide) q_262 rfl tyX11 tyX11_ok nmX11 rfl [(mo, .inr (15, [.ref e0, .ref c1, .ref c2, .ref c3, .ref c4, .ref c5, .null, .int (nI 0), .int (nI 0), .int 0, .int 0, .int 1]))] (tyX11_ok 11 (by decide)) rfl (by rfl) (Nat.le_of_ble_eq_true rfl) rfl dX11_meanChips_14 ?_
    refine g_aload_n (pc := 17) C 0 rfl rfl dX11_meanChips_17 ?_
    refine g_get (pc := 18) C (T := TX11) inX11 0 rfl rfl 11 (by decide) q_262 rfl rfl dX11_meanChips_18 ?_
    refine g_if_le (pc := 21) C 26 (by decide) dX11_meanChips_21 (fun c_21 => ?_) (fun c_21 => ?_)
    · exact absurd c_21 (by decide)
    · refine g_dconst0 (pc := 24) C dX11_meanChips_24 ?_
      exact g_dret (pc := 25) C hr hlk (by first | decide | omega) (by first | decide | omega) (by first | decide | omega) dX11_meanChips_25 ⟨rfl, rfl⟩
set_option maxRecDepth 100000 in
set_option maxHeartbeats 400000 in
theorem c_X11_isSound_z {l : Launch} {D : va_G} {k : Nat → ClassId} (mo : Nat) (e0 : Nat) (c1 : Nat) (c2 : Nat) (c3 : Nat) (c4 : Nat) (c5 : Nat) (th : Int32)  : CM l D k yX11_isSound cX11_isSound 1 (some .boolean)  0 0 [.ref mo] [(mo, .inr (15, [.ref e0, .ref c1, .ref c2, .ref c3, .ref c4, .ref c5, .null, .int (nI 0), .int (nI 0), .int 0, .int 0, .int th]))] (is1 (some (.int 1)) [(mo, .inr (15, [.ref e0, .ref c1, .ref c2, .ref c3, .ref c4, .ref c5, .null, .int (nI 0), .int (nI 0), .int 0, .int 0, .int 0]))]) 0 0 0 := by
  refine CM.of (lv0 := [(0, .ref mo)]) (by decide +kernel) (Nat.le_of_ble_eq_true rfl) rfl ?_
  intro p9 e9 s9 m9 bl9 me9 co9 C hr hlk hin had
  refine g_aload_n (pc := 0) C 0 rfl rfl dX11_isSound_0 ?_
  refine g_iconst (pc := 1) (v := 0) C (by decide) dX11_isSound_1 ?_
  refine g_put (pc := 2) C (T := TX11) inX11 0 rfl rfl 11 (by decide) q_262 rfl tyX11 tyX11_ok nmX11 rfl [(mo, .inr (15, [.ref e0, .ref c1, .ref c2, .ref c3, .ref c4, .ref c5, .null, .int (nI 0), .int (nI 0), .int 0, .int 0, .int 0]))] (tyX11_ok 11 (by decide)) rfl (by rfl) (Nat.le_of_ble_eq_true rfl) rfl dX11_isSound_2 ?_
  refine g_iconst (pc := 5) (v := 1) C (by decide) dX11_isSound_5 ?_
  exact g_zret (pc := 6) C hr (by first | rfl | exact bI_nar _) hlk (by first | decide | omega) (by first | decide | omega) (by first | decide | omega) dX11_isSound_6 ⟨rfl, rfl⟩
set_option maxRecDepth 100000 in
set_option maxHeartbeats 400000 in
theorem c_X11_pixel_z {l : Launch} {D : va_G} {k : Nat → ClassId} (mo : Nat) (e0 : Nat) (c1 : Nat) (c2 : Nat) (c3 : Nat) (c4 : Nat) (c5 : Nat) (th : Int32) (v : Int32)  : CM l D k yX11_pixel cX11_pixel 2 (some .int)  0 0 [.ref mo, .int v] [(mo, .inr (15, [.ref e0, .ref c1, .ref c2, .ref c3, .ref c4, .ref c5, .null, .int (nI 0), .int (nI 0), .int 0, .int 0, .int th]))] (is1 (some (.int 0)) [(mo, .inr (15, [.ref e0, .ref c1, .ref c2, .ref c3, .ref c4, .ref c5, .null, .int (nI 0), .int (nI 0), .int 0, .int 0, .int 1]))]) 0 0 0 := by
  refine CM.of (lv0 := [(0, .ref mo), (1, .int v)]) (by decide +kernel) (Nat.le_of_ble_eq_true rfl) rfl ?_
  intro p9 e9 s9 m9 bl9 me9 co9 C hr hlk hin had
  refine g_aload_n (pc := 0) C 0 rfl rfl dX11_pixel_0 ?_
  refine g_aload_n (pc := 1) C 0 rfl rfl dX11_pixel_1 ?_
  refine g_get (pc := 2) C (T := TX11) inX11 0 rfl rfl 6 (by decide) q_293 rfl rfl dX11_pixel_2 ?_
  refine g_ifnonnullN (pc := 5) C dX11_pixel_5 ?_
  refine g_iconst (pc := 8) (v := 1) C (by decide) dX11_pixel_8 ?_
  refine g_goto (pc := 9) C 32 (by decide) dX11_pixel_9 ?_
  refine g_put (pc := 32) C (T := TX11) inX11 0 rfl rfl 11 (by decide) q_262 rfl tyX11 tyX11_ok nmX11 rfl [(mo, .inr (15, [.ref e0, .ref c1, .ref c2, .ref c3, .ref c4, .ref c5, .null, .int (nI 0), .int (nI 0), .int 0, .int 0, .int 1]))] (tyX11_ok 11 (by decide)) rfl (by rfl) (Nat.le_of_ble_eq_true rfl) rfl dX11_pixel_32 ?_
  refine g_aload_n (pc := 35) C 0 rfl rfl dX11_pixel_35 ?_
  refine g_get (pc := 36) C (T := TX11) inX11 0 rfl rfl 11 (by decide) q_262 rfl rfl dX11_pixel_36 ?_
  refine g_if_le (pc := 39) C 46 (by decide) dX11_pixel_39 (fun c_39 => ?_) (fun c_39 => ?_)
  · exact absurd c_39 (by decide)
  · refine g_iconst (pc := 42) (v := 0) C (by decide) dX11_pixel_42 ?_
    refine g_goto (pc := 43) C 52 (by decide) dX11_pixel_43 ?_
    exact g_iret (pc := 52) C hr hlk (by first | decide | omega) (by first | decide | omega) (by first | decide | omega) dX11_pixel_52 ⟨rfl, rfl⟩
set_option maxRecDepth 100000 in
set_option maxHeartbeats 400000 in
theorem c_X11_init {l : Launch} {D : va_G} {k : Nat → ClassId} (mo : Nat)  : CM l D k yX11_init cX11_init 1 none  1 12 [.ref mo] [(mo, .inr (15, [.null, .null, .null, .null, .null, .null, .null, .int 0, .int 0, .int 0, .int 0, .int 0]))] (fun rv9 w9 => rv9 = none ∧ ∃ (e0 : Nat) (er : Nat → Nat) (c1 : Nat) (c2 : Nat) (c3 : Nat) (c4 : Nat) (c5 : Nat), w9 = [(mo, .inr (15, [.ref e0, .ref c1, .ref c2, .ref c3, .ref c4, .ref c5, .null, .int (nI 0), .int (nI 0), .int 0, .int 0, .int 0])), (e0, aR k 3 6 (fun i9 => if i9 < 6 then some (er i9) else none)), ((er 0), aI k 6 (fun _ => 0)), ((er 1), aI k 6 (fun _ => 0)), ((er 2), aI k 6 (fun _ => 0)), ((er 3), aI k 6 (fun _ => 0)), ((er 4), aI k 6 (fun _ => 0)), ((er 5), aI k 6 (fun _ => 0)), (c1, aI k 6 (fun _ => 0)), (c2, aI k 6 (fun _ => 0)), (c3, aI k 6 (fun _ => 0)), (c4, aI k 6 (fun _ => 0)), (c5, aI k 6 (fun _ => 0))]) 12 72 5 := by
  refine CM.of (lv0 := [(0, .ref mo)]) (by decide +kernel) (Nat.le_of_ble_eq_true rfl) rfl ?_
  intro p9 e9 s9 m9 bl9 me9 co9 C hr hlk hin had
  refine g_aload_n (pc := 0) C 0 rfl rfl dX11_init_0 ?_
  refine g_obj (pc := 1) C q_294 q_2 q_3 (Nat.le_of_ble_eq_true rfl) (Nat.le_of_ble_eq_true rfl) dX11_init_1 ?_
  refine g_aload_n (pc := 4) C 0 rfl rfl dX11_init_4 ?_
  refine g_bipush (pc := 5) (v := 6) C (by decide) dX11_init_5 ?_
  refine g_bipush (pc := 7) (v := 6) C (by decide) dX11_init_7 ?_
  refine g_mnaI (pc := 9) (cells := 0) (slots := 0) (g := 0) C q_295 q_4 (Nat.le_of_ble_eq_true rfl) (Nat.le_of_ble_eq_true rfl) dX11_init_9 (fun q1 r2 => ?_)
  refine G.eqw (ws' := [(mo, .inr (15, [.null, .null, .null, .null, .null, .null, .null, .int 0, .int 0, .int 0, .int 0, .int 0])), (q1, aR k 3 6 (fun i9 => if i9 < 6 then some (r2 i9) else none)), ((r2 0), aI k 6 (fun _ => 0)), ((r2 1), aI k 6 (fun _ => 0)), ((r2 2), aI k 6 (fun _ => 0)), ((r2 3), aI k 6 (fun _ => 0)), ((r2 4), aI k 6 (fun _ => 0)), ((r2 5), aI k 6 (fun _ => 0))]) rfl ?_
  refine g_putF (pc := 13) C (T := TX11) inX11 0 rfl rfl 0 (by decide) q_296 rfl tyX11 tyX11_ok nmX11 rfl hin rfl [(mo, .inr (15, [.ref q1, .null, .null, .null, .null, .null, .null, .int 0, .int 0, .int 0, .int 0, .int 0])), (q1, aR k 3 6 (fun i9 => if i9 < 6 then some (r2 i9) else none)), ((r2 0), aI k 6 (fun _ => 0)), ((r2 1), aI k 6 (fun _ => 0)), ((r2 2), aI k 6 (fun _ => 0)), ((r2 3), aI k 6 (fun _ => 0)), ((r2 4), aI k 6 (fun _ => 0)), ((r2 5), aI k 6 (fun _ => 0))] (tyX11_ok 0 (by decide)) rfl rfl (Nat.le_of_ble_eq_true rfl) rfl dX11_init_13 ?_
  refine g_aload_n (pc := 16) C 0 rfl rfl dX11_init_16 ?_
  refine g_bipush (pc := 17) (v := 6) C (by decide) dX11_init_17 ?_
  refine g_newI (pc := 19) (cells := 7) (slots := 42) (g := 0) C 6 q_4 (by decide) (by decide) (Nat.le_of_ble_eq_true rfl) (Nat.le_of_ble_eq_true rfl) (Nat.le_of_ble_eq_true rfl) dX11_init_19 (fun q3 => ?_)
  refine G.eqw (ws' := [(mo, .inr (15, [.ref q1, .null, .null, .null, .null, .null, .null, .int 0, .int 0, .int 0, .int 0, .int 0])), (q1, aR k 3 6 (fun i9 => if i9 < 6 then some (r2 i9) else none)), ((r2 0), aI k 6 (fun _ => 0)), ((r2 1), aI k 6 (fun _ => 0)), ((r2 2), aI k 6 (fun _ => 0)), ((r2 3), aI k 6 (fun _ => 0)), ((r2 4), aI k 6 (fun _ => 0)), ((r2 5), aI k 6 (fun _ => 0)), (q3, aI k 6 (fun _ => 0))]) rfl ?_
  refine g_put (pc := 21) C (T := TX11) inX11 0 rfl rfl 1 (by decide) q_297 rfl tyX11 tyX11_ok nmX11 rfl [(mo, .inr (15, [.ref q1, .ref q3, .null, .null, .null, .null, .null, .int 0, .int 0, .int 0, .int 0, .int 0])), (q1, aR k 3 6 (fun i9 => if i9 < 6 then some (r2 i9) else none)), ((r2 0), aI k 6 (fun _ => 0)), ((r2 1), aI k 6 (fun _ => 0)), ((r2 2), aI k 6 (fun _ => 0)), ((r2 3), aI k 6 (fun _ => 0)), ((r2 4), aI k 6 (fun _ => 0)), ((r2 5), aI k 6 (fun _ => 0)), (q3, aI k 6 (fun _ => 0))] (tyX11_ok 1 (by decide)) rfl rfl (Nat.le_of_ble_eq_true rfl) rfl dX11_init_21 ?_
  refine g_aload_n (pc := 24) C 0 rfl rfl dX11_init_24 ?_
  refine g_bipush (pc := 25) (v := 6) C (by decide) dX11_init_25 ?_
  refine g_newI (pc := 27) (cells := 8) (slots := 48) (g := 1) C 6 q_4 (by decide) (by decide) (Nat.le_of_ble_eq_true rfl) (Nat.le_of_ble_eq_true rfl) (Nat.le_of_ble_eq_true rfl) dX11_init_27 (fun q4 => ?_)
  refine G.eqw (ws' := [(mo, .inr (15, [.ref q1, .ref q3, .null, .null, .null, .null, .null, .int 0, .int 0, .int 0, .int 0, .int 0])), (q1, aR k 3 6 (fun i9 => if i9 < 6 then some (r2 i9) else none)), ((r2 0), aI k 6 (fun _ => 0)), ((r2 1), aI k 6 (fun _ => 0)), ((r2 2), aI k 6 (fun _ => 0)), ((r2 3), aI k 6 (fun _ => 0)), ((r2 4), aI k 6 (fun _ => 0)), ((r2 5), aI k 6 (fun _ => 0)), (q3, aI k 6 (fun _ => 0)), (q4, aI k 6 (fun _ => 0))]) rfl ?_
  refine g_put (pc := 29) C (T := TX11) inX11 0 rfl rfl 2 (by decide) q_298 rfl tyX11 tyX11_ok nmX11 rfl [(mo, .inr (15, [.ref q1, .ref q3, .ref q4, .null, .null, .null, .null, .int 0, .int 0, .int 0, .int 0, .int 0])), (q1, aR k 3 6 (fun i9 => if i9 < 6 then some (r2 i9) else none)), ((r2 0), aI k 6 (fun _ => 0)), ((r2 1), aI k 6 (fun _ => 0)), ((r2 2), aI k 6 (fun _ => 0)), ((r2 3), aI k 6 (fun _ => 0)), ((r2 4), aI k 6 (fun _ => 0)), ((r2 5), aI k 6 (fun _ => 0)), (q3, aI k 6 (fun _ => 0)), (q4, aI k 6 (fun _ => 0))] (tyX11_ok 2 (by decide)) rfl rfl (Nat.le_of_ble_eq_true rfl) rfl dX11_init_29 ?_
  refine g_aload_n (pc := 32) C 0 rfl rfl dX11_init_32 ?_
  refine g_bipush (pc := 33) (v := 6) C (by decide) dX11_init_33 ?_
  refine g_newI (pc := 35) (cells := 9) (slots := 54) (g := 2) C 6 q_4 (by decide) (by decide) (Nat.le_of_ble_eq_true rfl) (Nat.le_of_ble_eq_true rfl) (Nat.le_of_ble_eq_true rfl) dX11_init_35 (fun q5 => ?_)
  refine G.eqw (ws' := [(mo, .inr (15, [.ref q1, .ref q3, .ref q4, .null, .null, .null, .null, .int 0, .int 0, .int 0, .int 0, .int 0])), (q1, aR k 3 6 (fun i9 => if i9 < 6 then some (r2 i9) else none)), ((r2 0), aI k 6 (fun _ => 0)), ((r2 1), aI k 6 (fun _ => 0)), ((r2 2), aI k 6 (fun _ => 0)), ((r2 3), aI k 6 (fun _ => 0)), ((r2 4), aI k 6 (fun _ => 0)), ((r2 5), aI k 6 (fun _ => 0)), (q3, aI k 6 (fun _ => 0)), (q4, aI k 6 (fun _ => 0)), (q5, aI k 6 (fun _ => 0))]) rfl ?_
  refine g_put (pc := 37) C (T := TX11) inX11 0 rfl rfl 3 (by decide) q_299 rfl tyX11 tyX11_ok nmX11 rfl [(mo, .inr (15, [.ref q1, .ref q3, .ref q4, .ref q5, .null, .null, .null, .int 0, .int 0, .int 0, .int 0, .int 0])), (q1, aR k 3 6 (fun i9 => if i9 < 6 then some (r2 i9) else none)), ((r2 0), aI k 6 (fun _ => 0)), ((r2 1), aI k 6 (fun _ => 0)), ((r2 2), aI k 6 (fun _ => 0)), ((r2 3), aI k 6 (fun _ => 0)), ((r2 4), aI k 6 (fun _ => 0)), ((r2 5), aI k 6 (fun _ => 0)), (q3, aI k 6 (fun _ => 0)), (q4, aI k 6 (fun _ => 0)), (q5, aI k 6 (fun _ => 0))] (tyX11_ok 3 (by decide)) rfl rfl (Nat.le_of_ble_eq_true rfl) rfl dX11_init_37 ?_
  refine g_aload_n (pc := 40) C 0 rfl rfl dX11_init_40 ?_
  refine g_bipush (pc := 41) (v := 6) C (by decide) dX11_init_41 ?_
  refine g_newI (pc := 43) (cells := 10) (slots := 60) (g := 3) C 6 q_4 (by decide) (by decide) (Nat.le_of_ble_eq_true rfl) (Nat.le_of_ble_eq_true rfl) (Nat.le_of_ble_eq_true rfl) dX11_init_43 (fun q6 => ?_)
  refine G.eqw (ws' := [(mo, .inr (15, [.ref q1, .ref q3, .ref q4, .ref q5, .null, .null, .null, .int 0, .int 0, .int 0, .int 0, .int 0])), (q1, aR k 3 6 (fun i9 => if i9 < 6 then some (r2 i9) else none)), ((r2 0), aI k 6 (fun _ => 0)), ((r2 1), aI k 6 (fun _ => 0)), ((r2 2), aI k 6 (fun _ => 0)), ((r2 3), aI k 6 (fun _ => 0)), ((r2 4), aI k 6 (fun _ => 0)), ((r2 5), aI k 6 (fun _ => 0)), (q3, aI k 6 (fun _ => 0)), (q4, aI k 6 (fun _ => 0)), (q5, aI k 6 (fun _ => 0)), (q6, aI k 6 (fun _ => 0))]) rfl ?_
  refine g_put (pc := 45) C (T := TX11) inX11 0 rfl rfl 4 (by decide) q_300 rfl tyX11 tyX11_ok nmX11 rfl [(mo, .inr (15, [.ref q1, .ref q3, .ref q4, .ref q5, .ref q6, .null, .null, .int 0, .int 0, .int 0, .int 0, .int 0])), (q1, aR k 3 6 (fun i9 => if i9 < 6 then some (r2 i9) else none)), ((r2 0), aI k 6 (fun _ => 0)), ((r2 1), aI k 6 (fun _ => 0)), ((r2 2), aI k 6 (fun _ => 0)), ((r2 3), aI k 6 (fun _ => 0)), ((r2 4), aI k 6 (fun _ => 0)), ((r2 5), aI k 6 (fun _ => 0)), (q3, aI k 6 (fun _ => 0)), (q4, aI k 6 (fun _ => 0)), (q5, aI k 6 (fun _ => 0)), (q6, aI k 6 (fun _ => 0))] (tyX11_ok 4 (by decide)) rfl rfl (Nat.le_of_ble_eq_true rfl) rfl dX11_init_45 ?_
  refine g_aload_n (pc := 48) C 0 rfl rfl dX11_init_48 ?_
  refine g_bipush (pc := 49) (v := 6) C (by decide) dX11_init_49 ?_
  refine g_newI (pc := 51) (cells := 11) (slots := 66) (g := 4) C 6 q_4 (by decide) (by decide) (Nat.le_of_ble_eq_true rfl) (Nat.le_of_ble_eq_true rfl) (Nat.le_of_ble_eq_true rfl) dX11_init_51 (fun q7 => ?_)
  refine G.eqw (ws' := [(mo, .inr (15, [.ref q1, .ref q3, .ref q4, .ref q5, .ref q6, .null, .null, .int 0, .int 0, .int 0, .int 0, .int 0])), (q1, aR k 3 6 (fun i9 => if i9 < 6 then some (r2 i9) else none)), ((r2 0), aI k 6 (fun _ => 0)), ((r2 1), aI k 6 (fun _ => 0)), ((r2 2), aI k 6 (fun _ => 0)), ((r2 3), aI k 6 (fun _ => 0)), ((r2 4), aI k 6 (fun _ => 0)), ((r2 5), aI k 6 (fun _ => 0)), (q3, aI k 6 (fun _ => 0)), (q4, aI k 6 (fun _ => 0)), (q5, aI k 6 (fun _ => 0)), (q6, aI k 6 (fun _ => 0)), (q7, aI k 6 (fun _ => 0))]) rfl ?_
  refine g_put (pc := 53) C (T := TX11) inX11 0 rfl rfl 5 (by decide) q_301 rfl tyX11 tyX11_ok nmX11 rfl [(mo, .inr (15, [.ref q1, .ref q3, .ref q4, .ref q5, .ref q6, .ref q7, .null, .int 0, .int 0, .int 0, .int 0, .int 0])), (q1, aR k 3 6 (fun i9 => if i9 < 6 then some (r2 i9) else none)), ((r2 0), aI k 6 (fun _ => 0)), ((r2 1), aI k 6 (fun _ => 0)), ((r2 2), aI k 6 (fun _ => 0)), ((r2 3), aI k 6 (fun _ => 0)), ((r2 4), aI k 6 (fun _ => 0)), ((r2 5), aI k 6 (fun _ => 0)), (q3, aI k 6 (fun _ => 0)), (q4, aI k 6 (fun _ => 0)), (q5, aI k 6 (fun _ => 0)), (q6, aI k 6 (fun _ => 0)), (q7, aI k 6 (fun _ => 0))] (tyX11_ok 5 (by decide)) rfl rfl (Nat.le_of_ble_eq_true rfl) rfl dX11_init_53 ?_
  refine g_aload_n (pc := 56) C 0 rfl rfl dX11_init_56 ?_
  refine g_null (pc := 57) C dX11_init_57 ?_
  refine g_put (pc := 58) C (T := TX11) inX11 0 rfl rfl 6 (by decide) q_293 rfl tyX11 tyX11_ok nmX11 rfl [(mo, .inr (15, [.ref q1, .ref q3, .ref q4, .ref q5, .ref q6, .ref q7, .null, .int 0, .int 0, .int 0, .int 0, .int 0])), (q1, aR k 3 6 (fun i9 => if i9 < 6 then some (r2 i9) else none)), ((r2 0), aI k 6 (fun _ => 0)), ((r2 1), aI k 6 (fun _ => 0)), ((r2 2), aI k 6 (fun _ => 0)), ((r2 3), aI k 6 (fun _ => 0)), ((r2 4), aI k 6 (fun _ => 0)), ((r2 5), aI k 6 (fun _ => 0)), (q3, aI k 6 (fun _ => 0)), (q4, aI k 6 (fun _ => 0)), (q5, aI k 6 (fun _ => 0)), (q6, aI k 6 (fun _ => 0)), (q7, aI k 6 (fun _ => 0))] (tyX11_ok 6 (by decide)) rfl rfl (Nat.le_of_ble_eq_true rfl) rfl dX11_init_58 ?_
  refine g_aload_n (pc := 61) C 0 rfl rfl dX11_init_61 ?_
  refine g_iconst (pc := 62) (v := 0) C (by decide) dX11_init_62 ?_
  refine g_put (pc := 63) C (T := TX11) inX11 0 rfl rfl 7 (by decide) q_263 rfl tyX11 tyX11_ok nmX11 rfl [(mo, .inr (15, [.ref q1, .ref q3, .ref q4, .ref q5, .ref q6, .ref q7, .null, .int 0, .int 0, .int 0, .int 0, .int 0])), (q1, aR k 3 6 (fun i9 => if i9 < 6 then some (r2 i9) else none)), ((r2 0), aI k 6 (fun _ => 0)), ((r2 1), aI k 6 (fun _ => 0)), ((r2 2), aI k 6 (fun _ => 0)), ((r2 3), aI k 6 (fun _ => 0)), ((r2 4), aI k 6 (fun _ => 0)), ((r2 5), aI k 6 (fun _ => 0)), (q3, aI k 6 (fun _ => 0)), (q4, aI k 6 (fun _ => 0)), (q5, aI k 6 (fun _ => 0)), (q6, aI k 6 (fun _ => 0)), (q7, aI k 6 (fun _ => 0))] (tyX11_ok 7 (by decide)) rfl (by rfl) (Nat.le_of_ble_eq_true rfl) rfl dX11_init_63 ?_
  refine g_aload_n (pc := 66) C 0 rfl rfl dX11_init_66 ?_
  refine g_iconst (pc := 67) (v := 0) C (by decide) dX11_init_67 ?_
  refine g_put (pc := 68) C (T := TX11) inX11 0 rfl rfl 8 (by decide) q_302 rfl tyX11 tyX11_ok nmX11 rfl [(mo, .inr (15, [.ref q1, .ref q3, .ref q4, .ref q5, .ref q6, .ref q7, .null, .int 0, .int 0, .int 0, .int 0, .int 0])), (q1, aR k 3 6 (fun i9 => if i9 < 6 then some (r2 i9) else none)), ((r2 0), aI k 6 (fun _ => 0)), ((r2 1), aI k 6 (fun _ => 0)), ((r2 2), aI k 6 (fun _ => 0)), ((r2 3), aI k 6 (fun _ => 0)), ((r2 4), aI k 6 (fun _ => 0)), ((r2 5), aI k 6 (fun _ => 0)), (q3, aI k 6 (fun _ => 0)), (q4, aI k 6 (fun _ => 0)), (q5, aI k 6 (fun _ => 0)), (q6, aI k 6 (fun _ => 0)), (q7, aI k 6 (fun _ => 0))] (tyX11_ok 8 (by decide)) rfl (by rfl) (Nat.le_of_ble_eq_true rfl) rfl dX11_init_68 ?_
  refine g_aload_n (pc := 71) C 0 rfl rfl dX11_init_71 ?_
  refine g_iconst (pc := 72) (v := 0) C (by decide) dX11_init_72 ?_
  refine g_put (pc := 73) C (T := TX11) inX11 0 rfl rfl 9 (by decide) q_284 rfl tyX11 tyX11_ok nmX11 rfl [(mo, .inr (15, [.ref q1, .ref q3, .ref q4, .ref q5, .ref q6, .ref q7, .null, .int 0, .int 0, .int 0, .int 0, .int 0])), (q1, aR k 3 6 (fun i9 => if i9 < 6 then some (r2 i9) else none)), ((r2 0), aI k 6 (fun _ => 0)), ((r2 1), aI k 6 (fun _ => 0)), ((r2 2), aI k 6 (fun _ => 0)), ((r2 3), aI k 6 (fun _ => 0)), ((r2 4), aI k 6 (fun _ => 0)), ((r2 5), aI k 6 (fun _ => 0)), (q3, aI k 6 (fun _ => 0)), (q4, aI k 6 (fun _ => 0)), (q5, aI k 6 (fun _ => 0)), (q6, aI k 6 (fun _ => 0)), (q7, aI k 6 (fun _ => 0))] (tyX11_ok 9 (by decide)) rfl (by rfl) (Nat.le_of_ble_eq_true rfl) rfl dX11_init_73 ?_
  refine g_aload_n (pc := 76) C 0 rfl rfl dX11_init_76 ?_
  refine g_iconst (pc := 77) (v := 0) C (by decide) dX11_init_77 ?_
  refine g_put (pc := 78) C (T := TX11) inX11 0 rfl rfl 10 (by decide) q_303 rfl tyX11 tyX11_ok nmX11 rfl [(mo, .inr (15, [.ref q1, .ref q3, .ref q4, .ref q5, .ref q6, .ref q7, .null, .int 0, .int 0, .int 0, .int 0, .int 0])), (q1, aR k 3 6 (fun i9 => if i9 < 6 then some (r2 i9) else none)), ((r2 0), aI k 6 (fun _ => 0)), ((r2 1), aI k 6 (fun _ => 0)), ((r2 2), aI k 6 (fun _ => 0)), ((r2 3), aI k 6 (fun _ => 0)), ((r2 4), aI k 6 (fun _ => 0)), ((r2 5), aI k 6 (fun _ => 0)), (q3, aI k 6 (fun _ => 0)), (q4, aI k 6 (fun _ => 0)), (q5, aI k 6 (fun _ => 0)), (q6, aI k 6 (fun _ => 0)), (q7, aI k 6 (fun _ => 0))] (tyX11_ok 10 (by decide)) rfl (by rfl) (Nat.le_of_ble_eq_true rfl) rfl dX11_init_78 ?_
  refine g_aload_n (pc := 81) C 0 rfl rfl dX11_init_81 ?_
  refine g_iconst (pc := 82) (v := 0) C (by decide) dX11_init_82 ?_
  refine g_put (pc := 83) C (T := TX11) inX11 0 rfl rfl 11 (by decide) q_262 rfl tyX11 tyX11_ok nmX11 rfl [(mo, .inr (15, [.ref q1, .ref q3, .ref q4, .ref q5, .ref q6, .ref q7, .null, .int 0, .int 0, .int 0, .int 0, .int 0])), (q1, aR k 3 6 (fun i9 => if i9 < 6 then some (r2 i9) else none)), ((r2 0), aI k 6 (fun _ => 0)), ((r2 1), aI k 6 (fun _ => 0)), ((r2 2), aI k 6 (fun _ => 0)), ((r2 3), aI k 6 (fun _ => 0)), ((r2 4), aI k 6 (fun _ => 0)), ((r2 5), aI k 6 (fun _ => 0)), (q3, aI k 6 (fun _ => 0)), (q4, aI k 6 (fun _ => 0)), (q5, aI k 6 (fun _ => 0)), (q6, aI k 6 (fun _ => 0)), (q7, aI k 6 (fun _ => 0))] (tyX11_ok 11 (by decide)) rfl (by rfl) (Nat.le_of_ble_eq_true rfl) rfl dX11_init_83 ?_
  refine G.eqw (ws' := [(mo, .inr (15, [.ref q1, .ref q3, .ref q4, .ref q5, .ref q6, .ref q7, .null, .int (nI 0), .int 0, .int 0, .int 0, .int 0])), (q1, aR k 3 6 (fun i9 => if i9 < 6 then some (r2 i9) else none)), ((r2 0), aI k 6 (fun _ => 0)), ((r2 1), aI k 6 (fun _ => 0)), ((r2 2), aI k 6 (fun _ => 0)), ((r2 3), aI k 6 (fun _ => 0)), ((r2 4), aI k 6 (fun _ => 0)), ((r2 5), aI k 6 (fun _ => 0)), (q3, aI k 6 (fun _ => 0)), (q4, aI k 6 (fun _ => 0)), (q5, aI k 6 (fun _ => 0)), (q6, aI k 6 (fun _ => 0)), (q7, aI k 6 (fun _ => 0))]) (congrArg (β := va_W) (fun z9 => [(mo, .inr (15, [.ref q1, .ref q3, .ref q4, .ref q5, .ref q6, .ref q7, .null, .int z9, .int 0, .int 0, .int 0, .int 0])), (q1, aR k 3 6 (fun i9 => if i9 < 6 then some (r2 i9) else none)), ((r2 0), aI k 6 (fun _ => 0)), ((r2 1), aI k 6 (fun _ => 0)), ((r2 2), aI k 6 (fun _ => 0)), ((r2 3), aI k 6 (fun _ => 0)), ((r2 4), aI k 6 (fun _ => 0)), ((r2 5), aI k 6 (fun _ => 0)), (q3, aI k 6 (fun _ => 0)), (q4, aI k 6 (fun _ => 0)), (q5, aI k 6 (fun _ => 0)), (q6, aI k 6 (fun _ => 0)), (q7, aI k 6 (fun _ => 0))]) (show (0 : Int32) = (nI 0) from by first | rfl | simp_all)) ?_
  refine G.eqw (ws' := [(mo, .inr (15, [.ref q1, .ref q3, .ref q4, .ref q5, .ref q6, .ref q7, .null, .int (nI 0), .int (nI 0), .int 0, .int 0, .int 0])), (q1, aR k 3 6 (fun i9 => if i9 < 6 then some (r2 i9) else none)), ((r2 0), aI k 6 (fun _ => 0)), ((r2 1), aI k 6 (fun _ => 0)), ((r2 2), aI k 6 (fun _ => 0)), ((r2 3), aI k 6 (fun _ => 0)), ((r2 4), aI k 6 (fun _ => 0)), ((r2 5), aI k 6 (fun _ => 0)), (q3, aI k 6 (fun _ => 0)), (q4, aI k 6 (fun _ => 0)), (q5, aI k 6 (fun _ => 0)), (q6, aI k 6 (fun _ => 0)), (q7, aI k 6 (fun _ => 0))]) (congrArg (β := va_W) (fun z9 => [(mo, .inr (15, [.ref q1, .ref q3, .ref q4, .ref q5, .ref q6, .ref q7, .null, .int (nI 0), .int z9, .int 0, .int 0, .int 0])), (q1, aR k 3 6 (fun i9 => if i9 < 6 then some (r2 i9) else none)), ((r2 0), aI k 6 (fun _ => 0)), ((r2 1), aI k 6 (fun _ => 0)), ((r2 2), aI k 6 (fun _ => 0)), ((r2 3), aI k 6 (fun _ => 0)), ((r2 4), aI k 6 (fun _ => 0)), ((r2 5), aI k 6 (fun _ => 0)), (q3, aI k 6 (fun _ => 0)), (q4, aI k 6 (fun _ => 0)), (q5, aI k 6 (fun _ => 0)), (q6, aI k 6 (fun _ => 0)), (q7, aI k 6 (fun _ => 0))]) (show (0 : Int32) = (nI 0) from by first | rfl | simp_all)) ?_
  exact g_vret (pc := 86) C hr hlk (by first | decide | omega) (by first | decide | omega) (by first | decide | omega) dX11_init_86 ⟨rfl, q1, r2, q3, q4, q5, q6, q7, rfl⟩
set_option maxRecDepth 100000 in
set_option maxHeartbeats 400000 in
theorem c_X11_begin {l : Launch} {D : va_G} {k : Nat → ClassId} (mo : Nat) (e0 : Nat) (c1 : Nat) (c2 : Nat) (c3 : Nat) (c4 : Nat) (c5 : Nat) (th : Int32) (sz : Int32)  : CM l D k yX11_begin cX11_begin 1 none  0 0 [.ref mo] [(mo, .inr (15, [.ref e0, .ref c1, .ref c2, .ref c3, .ref c4, .ref c5, .null, .int sz, .int (nI 0), .int 0, .int 0, .int th]))] (fun rv9 w9 => rv9 = none ∧ ∃ (b1 : Nat) (b2 : Nat) (b3 : Nat) (b4 : Nat) (b5 : Nat), w9 = [(mo, .inr (15, [.ref e0, .ref b1, .ref b2, .ref b3, .ref b4, .ref b5, .null, .int sz, .int (nI 0), .int 0, .int 0, .int th])), (b1, aI k 6 (fun _ => 0)), (b2, aI k 6 (fun _ => 0)), (b3, aI k 6 (fun _ => 0)), (b4, aI k 6 (fun _ => 0)), (b5, aI k 6 (fun _ => 0))]) 5 30 5 := by
  refine CM.of (lv0 := [(0, .ref mo)]) (by decide +kernel) (Nat.le_of_ble_eq_true rfl) rfl ?_
  intro p9 e9 s9 m9 bl9 me9 co9 C hr hlk hin had
  refine g_aload_n (pc := 0) C 0 rfl rfl dX11_begin_0 ?_
  refine g_bipush (pc := 1) (v := 6) C (by decide) dX11_begin_1 ?_
  refine g_newI (pc := 3) (cells := 0) (slots := 0) (g := 0) C 6 q_4 (by decide) (by decide) (Nat.le_of_ble_eq_true rfl) (Nat.le_of_ble_eq_true rfl) (Nat.le_of_ble_eq_true rfl) dX11_begin_3 (fun q1 => ?_)
  refine G.eqw (ws' := [(mo, .inr (15, [.ref e0, .ref c1, .ref c2, .ref c3, .ref c4, .ref c5, .null, .int sz, .int (nI 0), .int 0, .int 0, .int th])), (q1, aI k 6 (fun _ => 0))]) rfl ?_
  refine g_put (pc := 5) C (T := TX11) inX11 0 rfl rfl 1 (by decide) q_297 rfl tyX11 tyX11_ok nmX11 rfl [(mo, .inr (15, [.ref e0, .ref q1, .ref c2, .ref c3, .ref c4, .ref c5, .null, .int sz, .int (nI 0), .int 0, .int 0, .int th])), (q1, aI k 6 (fun _ => 0))] (tyX11_ok 1 (by decide)) rfl rfl (Nat.le_of_ble_eq_true rfl) rfl dX11_begin_5 ?_
  refine g_aload_n (pc := 8) C 0 rfl rfl dX11_begin_8 ?_
  refine g_bipush (pc := 9) (v := 6) C (by decide) dX11_begin_9 ?_
  refine g_newI (pc := 11) (cells := 1) (slots := 6) (g := 1) C 6 q_4 (by decide) (by decide) (Nat.le_of_ble_eq_true rfl) (Nat.le_of_ble_eq_true rfl) (Nat.le_of_ble_eq_true rfl) dX11_begin_11 (fun q2 => ?_)
  refine G.eqw (ws' := [(mo, .inr (15, [.ref e0, .ref q1, .ref c2, .ref c3, .ref c4, .ref c5, .null, .int sz, .int (nI 0), .int 0, .int 0, .int th])), (q1, aI k 6 (fun _ => 0)), (q2, aI k 6 (fun _ => 0))]) rfl ?_
  refine g_put (pc := 13) C (T := TX11) inX11 0 rfl rfl 2 (by decide) q_298 rfl tyX11 tyX11_ok nmX11 rfl [(mo, .inr (15, [.ref e0, .ref q1, .ref q2, .ref c3, .ref c4, .ref c5, .null, .int sz, .int (nI 0), .int 0, .int 0, .int th])), (q1, aI k 6 (fun _ => 0)), (q2, aI k 6 (fun _ => 0))] (tyX11_ok 2 (by decide)) rfl rfl (Nat.le_of_ble_eq_true rfl) rfl dX11_begin_13 ?_
  refine g_aload_n (pc := 16) C 0 rfl rfl dX11_begin_16 ?_
  refine g_bipush (pc := 17) (v := 6) C (by decide) dX11_begin_17 ?_
  refine g_newI (pc := 19) (cells := 2) (slots := 12) (g := 2) C 6 q_4 (by decide) (by decide) (Nat.le_of_ble_eq_true rfl) (Nat.le_of_ble_eq_true rfl) (Nat.le_of_ble_eq_true rfl) dX11_begin_19 (fun q3 => ?_)
  refine G.eqw (ws' := [(mo, .inr (15, [.ref e0, .ref q1, .ref q2, .ref c3, .ref c4, .ref c5, .null, .int sz, .int (nI 0), .int 0, .int 0, .int th])), (q1, aI k 6 (fun _ => 0)), (q2, aI k 6 (fun _ => 0)), (q3, aI k 6 (fun _ => 0))]) rfl ?_
  refine g_put (pc := 21) C (T := TX11) inX11 0 rfl rfl 3 (by decide) q_299 rfl tyX11 tyX11_ok nmX11 rfl [(mo, .inr (15, [.ref e0, .ref q1, .ref q2, .ref q3, .ref c4, .ref c5, .null, .int sz, .int (nI 0), .int 0, .int 0, .int th])), (q1, aI k 6 (fun _ => 0)), (q2, aI k 6 (fun _ => 0)), (q3, aI k 6 (fun _ => 0))] (tyX11_ok 3 (by decide)) rfl rfl (Nat.le_of_ble_eq_true rfl) rfl dX11_begin_21 ?_
  refine g_aload_n (pc := 24) C 0 rfl rfl dX11_begin_24 ?_
  refine g_bipush (pc := 25) (v := 6) C (by decide) dX11_begin_25 ?_
  refine g_newI (pc := 27) (cells := 3) (slots := 18) (g := 3) C 6 q_4 (by decide) (by decide) (Nat.le_of_ble_eq_true rfl) (Nat.le_of_ble_eq_true rfl) (Nat.le_of_ble_eq_true rfl) dX11_begin_27 (fun q4 => ?_)
  refine G.eqw (ws' := [(mo, .inr (15, [.ref e0, .ref q1, .ref q2, .ref q3, .ref c4, .ref c5, .null, .int sz, .int (nI 0), .int 0, .int 0, .int th])), (q1, aI k 6 (fun _ => 0)), (q2, aI k 6 (fun _ => 0)), (q3, aI k 6 (fun _ => 0)), (q4, aI k 6 (fun _ => 0))]) rfl ?_
  refine g_put (pc := 29) C (T := TX11) inX11 0 rfl rfl 4 (by decide) q_300 rfl tyX11 tyX11_ok nmX11 rfl [(mo, .inr (15, [.ref e0, .ref q1, .ref q2, .ref q3, .ref q4, .ref c5, .null, .int sz, .int (nI 0), .int 0, .int 0, .int th])), (q1, aI k 6 (fun _ => 0)), (q2, aI k 6 (fun _ => 0)), (q3, aI k 6 (fun _ => 0)), (q4, aI k 6 (fun _ => 0))] (tyX11_ok 4 (by decide)) rfl rfl (Nat.le_of_ble_eq_true rfl) rfl dX11_begin_29 ?_
  refine g_aload_n (pc := 32) C 0 rfl rfl dX11_begin_32 ?_
  refine g_bipush (pc := 33) (v := 6) C (by decide) dX11_begin_33 ?_
  refine g_newI (pc := 35) (cells := 4) (slots := 24) (g := 4) C 6 q_4 (by decide) (by decide) (Nat.le_of_ble_eq_true rfl) (Nat.le_of_ble_eq_true rfl) (Nat.le_of_ble_eq_true rfl) dX11_begin_35 (fun q5 => ?_)
  refine G.eqw (ws' := [(mo, .inr (15, [.ref e0, .ref q1, .ref q2, .ref q3, .ref q4, .ref c5, .null, .int sz, .int (nI 0), .int 0, .int 0, .int th])), (q1, aI k 6 (fun _ => 0)), (q2, aI k 6 (fun _ => 0)), (q3, aI k 6 (fun _ => 0)), (q4, aI k 6 (fun _ => 0)), (q5, aI k 6 (fun _ => 0))]) rfl ?_
  refine g_put (pc := 37) C (T := TX11) inX11 0 rfl rfl 5 (by decide) q_301 rfl tyX11 tyX11_ok nmX11 rfl [(mo, .inr (15, [.ref e0, .ref q1, .ref q2, .ref q3, .ref q4, .ref q5, .null, .int sz, .int (nI 0), .int 0, .int 0, .int th])), (q1, aI k 6 (fun _ => 0)), (q2, aI k 6 (fun _ => 0)), (q3, aI k 6 (fun _ => 0)), (q4, aI k 6 (fun _ => 0)), (q5, aI k 6 (fun _ => 0))] (tyX11_ok 5 (by decide)) rfl rfl (Nat.le_of_ble_eq_true rfl) rfl dX11_begin_37 ?_
  refine g_aload_n (pc := 40) C 0 rfl rfl dX11_begin_40 ?_
  refine g_iconst (pc := 41) (v := 0) C (by decide) dX11_begin_41 ?_
  refine g_put (pc := 42) C (T := TX11) inX11 0 rfl rfl 9 (by decide) q_284 rfl tyX11 tyX11_ok nmX11 rfl [(mo, .inr (15, [.ref e0, .ref q1, .ref q2, .ref q3, .ref q4, .ref q5, .null, .int sz, .int (nI 0), .int 0, .int 0, .int th])), (q1, aI k 6 (fun _ => 0)), (q2, aI k 6 (fun _ => 0)), (q3, aI k 6 (fun _ => 0)), (q4, aI k 6 (fun _ => 0)), (q5, aI k 6 (fun _ => 0))] (tyX11_ok 9 (by decide)) rfl (by rfl) (Nat.le_of_ble_eq_true rfl) rfl dX11_begin_42 ?_
  exact g_vret (pc := 45) C hr hlk (by first | decide | omega) (by first | decide | omega) (by first | decide | omega) dX11_begin_45 ⟨rfl, q1, q2, q3, q4, q5, rfl⟩
set_option maxRecDepth 100000 in
set_option maxHeartbeats 400000 in
theorem c_X11_vertex {l : Launch} {D : va_G} {k : Nat → ClassId} (mo : Nat) (e0 : Nat) (c1 : Nat) (c2 : Nat) (c3 : Nat) (c4 : Nat) (c5 : Nat) (th : Int32)  : CM l D k yX11_vertex cX11_vertex 1 (some .int)  1 20 [.ref mo] [(mo, .inr (15, [.ref e0, .ref c1, .ref c2, .ref c3, .ref c4, .ref c5, .null, .int (nI 0), .int (nI 0), .int 0, .int 0, .int th]))] (fun rv9 w9 => rv9 = (some (.int (nI 0))) ∧ ∃ (b1 : Nat) (b2 : Nat) (b3 : Nat) (b4 : Nat) (b5 : Nat), w9 = [(mo, .inr (15, [.ref e0, .ref b1, .ref b2, .ref b3, .ref b4, .ref b5, .null, .int (nI 1), .int (nI 0), .int 0, .int 0, .int 0])), (b1, aI k 6 (fun _ => 0)), (b2, aI k 6 (fun _ => 0)), (b3, aI k 6 (fun _ => 0)), (b4, aI k 6 (fun _ => 0)), (b5, aI k 6 (fun _ => 0))]) 5 30 5 := by
  refine CM.of (lv0 := [(0, .ref mo)]) (by decide +kernel) (Nat.le_of_ble_eq_true rfl) rfl ?_
  intro p9 e9 s9 m9 bl9 me9 co9 C hr hlk hin had
  refine g_aload_n (pc := 0) C 0 rfl rfl dX11_vertex_0 ?_
  refine g_aload_n (pc := 1) C 0 rfl rfl dX11_vertex_1 ?_
  refine g_get (pc := 2) C (T := TX11) inX11 0 rfl rfl 7 (by decide) q_263 rfl rfl dX11_vertex_2 ?_
  refine g_bipush (pc := 5) (v := 6) C (by decide) dX11_vertex_5 ?_
  refine g_icmp_ne (pc := 7) C 14 (by decide) dX11_vertex_7 (fun c_7 => ?_) (fun c_7 => ?_)
  · refine g_iconst (pc := 14) (v := 0) C (by decide) dX11_vertex_14 ?_
    refine g_put (pc := 15) C (T := TX11) inX11 0 rfl rfl 11 (by decide) q_262 rfl tyX11 tyX11_ok nmX11 rfl [(mo, .inr (15, [.ref e0, .ref c1, .ref c2, .ref c3, .ref c4, .ref c5, .null, .int (nI 0), .int (nI 0), .int 0, .int 0, .int 0]))] (tyX11_ok 11 (by decide)) rfl (by rfl) (Nat.le_of_ble_eq_true rfl) rfl dX11_vertex_15 ?_
    refine g_aload_n (pc := 18) C 0 rfl rfl dX11_vertex_18 ?_
    refine g_get (pc := 19) C (T := TX11) inX11 0 rfl rfl 11 (by decide) q_262 rfl rfl dX11_vertex_19 ?_
    refine g_if_le (pc := 22) C 27 (by decide) dX11_vertex_22 (fun c_22 => ?_) (fun c_22 => ?_)
    · refine g_aload_n (pc := 27) C 0 rfl rfl dX11_vertex_27 ?_
      refine g_dup (pc := 28) C rfl dX11_vertex_28 ?_
      refine g_get (pc := 29) C (T := TX11) inX11 0 rfl rfl 7 (by decide) q_263 rfl rfl dX11_vertex_29 ?_
      refine g_iconst (pc := 32) (v := 1) C (by decide) dX11_vertex_32 ?_
      refine g_iadd (pc := 33) C dX11_vertex_33 ?_
      refine G.eqs (st' := [.int (nI 1), .ref mo]) (congrArg (β := List Value) (fun z9 => [.int z9, .ref mo]) (show (((nI 0) + 1) : Int32) = (nI 1) from by decide)) ?_
      refine g_put (pc := 34) C (T := TX11) inX11 0 rfl rfl 7 (by decide) q_263 rfl tyX11 tyX11_ok nmX11 rfl [(mo, .inr (15, [.ref e0, .ref c1, .ref c2, .ref c3, .ref c4, .ref c5, .null, .int (nI 1), .int (nI 0), .int 0, .int 0, .int 0]))] (tyX11_ok 7 (by decide)) rfl (by rfl) (Nat.le_of_ble_eq_true rfl) rfl dX11_vertex_34 ?_
      refine g_aload_n (pc := 37) C 0 rfl rfl dX11_vertex_37 ?_
      refine g_callV (pc := 38) (cells := 0) (slots := 0) (g := 0) (As := []) (st := []) (T := TX11) (q0 := 0) C (nA := 0) rfl (c_X11_begin mo e0 c1 c2 c3 c4 c5 0 (nI 1) ) q_306 q_307 q_305 q_265 q_304 (by decide +kernel) rfl rfl dX11_vertex_38 ⟨Nat.le_of_ble_eq_true rfl, Nat.le_of_ble_eq_true rfl⟩ [0] [] rfl (wr := []) rfl (by decide) (by decide) (by decide) (Nat.le_of_ble_eq_true rfl) ⟨Nat.le_of_ble_eq_true rfl, Nat.le_of_ble_eq_true rfl⟩ (fun rv w1 h1 => ?_)
      obtain ⟨rfl, q1, q2, q3, q4, q5, rfl⟩ := h1
      refine G.aft [0, 1, 2, 3, 4, 5] (ws' := [(mo, .inr (15, [.ref e0, .ref q1, .ref q2, .ref q3, .ref q4, .ref q5, .null, .int (nI 1), .int (nI 0), .int 0, .int 0, .int 0])), (q1, aI k 6 (fun _ => 0)), (q2, aI k 6 (fun _ => 0)), (q3, aI k 6 (fun _ => 0)), (q4, aI k 6 (fun _ => 0)), (q5, aI k 6 (fun _ => 0))]) (st' := []) (cells' := 5) (slots' := 30) (g' := 5) (by decide) rfl rfl rfl rfl rfl ?_
      refine g_aload_n (pc := 41) C 0 rfl rfl dX11_vertex_41 ?_
      refine g_get (pc := 42) C (T := TX11) inX11 0 rfl rfl 7 (by decide) q_263 rfl rfl dX11_vertex_42 ?_
      refine g_iconst (pc := 45) (v := 1) C (by decide) dX11_vertex_45 ?_
      refine g_isub (pc := 46) C dX11_vertex_46 ?_
      refine G.eqs (st' := [.int (nI 0)]) (congrArg (β := List Value) (fun z9 => [.int z9]) (show (((nI 1) - 1) : Int32) = (nI 0) from by decide)) ?_
      exact g_iret (pc := 47) C hr hlk (by first | decide | omega) (by first | decide | omega) (by first | decide | omega) dX11_vertex_47 ⟨rfl, q1, q2, q3, q4, q5, rfl⟩
    · exact absurd c_22 (by decide)
  · exact absurd c_7 (by decide)
