theorem dX10_needVertex_0 : decode cX10_needVertex 0 = .ok (.aload_n 0, 1) := by decide +kernel
theorem dX10_needVertex_1 : decode cX10_needVertex 1 = .ok (.getfield 15, 3) := by decide +kernel
theorem dX10_needVertex_4 : decode cX10_needVertex 4 = .ok (.iload_n 1, 1) := by decide +kernel
theorem dX10_needVertex_5 : decode cX10_needVertex 5 = .ok (.invokevirtual 300, 3) := by decide +kernel
theorem q_186 : (Jvm.Cond.code ({ cls := "Chipfold$Graph", name := "has", desc := "(I)Z" } : Jvm.MethodName) prog_5_method_3_code (2 : Nat) (Option.some Jvm.ClassFile.FieldType.boolean)) ∈ WG := wg_3 (List.mem_of_getElem? (i := 160) rfl) rfl
theorem q_187 : (Jvm.Cond.selects "Chipfold$Graph" ({ cls := "Chipfold$Graph", name := "has", desc := "(I)Z" } : Jvm.MethodName) ({ cls := "Chipfold$Graph", name := "has", desc := "(I)Z" } : Jvm.MethodName)) ∈ WG := wg_3 (List.mem_of_getElem? (i := 159) (by decide +kernel)) (by decide +kernel)
theorem q_188 : (Jvm.Cond.methodLink "Chipfold" (300 : Nat) ({ cls := "Chipfold$Graph", name := "has", desc := "(I)Z" } : Jvm.MethodName)) ∈ WG := wg_3 (List.mem_of_getElem? (i := 157) (by decide +kernel)) (by decide +kernel)
theorem q_189 : (Jvm.Cond.instanceMethod ({ cls := "Chipfold$Graph", name := "has", desc := "(I)Z" } : Jvm.MethodName)) ∈ WG := wg_3 (List.mem_of_getElem? (i := 158) (by decide +kernel)) (by decide +kernel)
theorem dX10_needVertex_8 : decode cX10_needVertex 8 = .ok (.ifCond .ne 14, 3) := by decide +kernel
theorem dX10_needVertex_11 : decode cX10_needVertex 11 = .ok (.new 201, 3) := by decide +kernel
theorem ex_0_1 : ∀ w ∈ (vx_atS "Chipfold" 205 "java/lang/IndexOutOfBoundsException" ["java/lang/RuntimeException", "java/lang/Exception"]).filter goodWord, w ∈ WG := by decide +kernel
theorem ex_0_2 : ∀ w ∈ (vx_atS "Chipfold" 205 "java/lang/IndexOutOfBoundsException" ["java/lang/RuntimeException", "java/lang/Exception"]).filter (fun w => !goodWord w), w = .castable "java/lang/IndexOutOfBoundsException" "java/lang/IndexOutOfBoundsException" ∨ ∃ y ∈ declW, w = .declares y := by decide +kernel
theorem exg_1 : ∀ w ∈ Cond.classLink "Chipfold" 201 "java/lang/IndexOutOfBoundsException" :: Cond.initialized "java/lang/IndexOutOfBoundsException" :: vx_atS "Chipfold" 205 "java/lang/IndexOutOfBoundsException" ["java/lang/RuntimeException", "java/lang/Exception"], vx_ot w = true := by decide +kernel
theorem q_192 : (Jvm.Cond.classLink "Chipfold" (201 : Nat) "java/lang/IndexOutOfBoundsException") ∈ WG := wg_3 (List.mem_of_getElem? (i := 161) (by decide +kernel)) (by decide +kernel)
theorem q_193 : (Jvm.Cond.initialized "java/lang/IndexOutOfBoundsException") ∈ WG := wg_1 (List.mem_of_getElem? (i := 17) (by decide +kernel)) (by decide +kernel)
theorem dX10_needVertex_14 : decode cX10_needVertex 14 = .ok (.dup, 1) := by decide +kernel
theorem dX10_needVertex_15 : decode cX10_needVertex 15 = .ok (.ldc_w 303, 3) := by decide +kernel
theorem dX10_needVertex_18 : decode cX10_needVertex 18 = .ok (.invokespecial 205, 3) := by decide +kernel
theorem dX10_needVertex_21 : decode cX10_needVertex 21 = .ok (.athrow, 1) := by decide +kernel
theorem dX10_needWhole_0 : decode cX10_needWhole 0 = .ok (.aload_n 0, 1) := by decide +kernel
theorem dX10_needWhole_1 : decode cX10_needWhole 1 = .ok (.getfield 15, 3) := by decide +kernel
theorem dX10_needWhole_4 : decode cX10_needWhole 4 = .ok (.invokevirtual 129, 3) := by decide +kernel
theorem q_194 : (Jvm.Cond.code ({ cls := "Chipfold$Graph", name := "isConnected", desc := "()Z" } : Jvm.MethodName) prog_5_method_15_code (4 : Nat) (Option.some Jvm.ClassFile.FieldType.boolean)) ∈ WG := wg_2 (List.mem_of_getElem? (i := 26) rfl) rfl
theorem q_195 : (Jvm.Cond.selects "Chipfold$Graph" ({ cls := "Chipfold$Graph", name := "isConnected", desc := "()Z" } : Jvm.MethodName) ({ cls := "Chipfold$Graph", name := "isConnected", desc := "()Z" } : Jvm.MethodName)) ∈ WG := wg_2 (List.mem_of_getElem? (i := 25) (by decide +kernel)) (by decide +kernel)
theorem q_196 : (Jvm.Cond.methodLink "Chipfold" (129 : Nat) ({ cls := "Chipfold$Graph", name := "isConnected", desc := "()Z" } : Jvm.MethodName)) ∈ WG := wg_2 (List.mem_of_getElem? (i := 23) (by decide +kernel)) (by decide +kernel)
theorem q_197 : (Jvm.Cond.instanceMethod ({ cls := "Chipfold$Graph", name := "isConnected", desc := "()Z" } : Jvm.MethodName)) ∈ WG := wg_2 (List.mem_of_getElem? (i := 24) (by decide +kernel)) (by decide +kernel)
theorem dX10_needWhole_7 : decode cX10_needWhole 7 = .ok (.ifCond .ne 14, 3) := by decide +kernel
theorem dX10_needWhole_10 : decode cX10_needWhole 10 = .ok (.new 151, 3) := by decide +kernel
theorem ex_2_1 : ∀ w ∈ (vx_atS "Chipfold" 155 "java/lang/UnsupportedOperationException" ["java/lang/RuntimeException", "java/lang/Exception"]).filter goodWord, w ∈ WG := by decide +kernel
theorem ex_2_2 : ∀ w ∈ (vx_atS "Chipfold" 155 "java/lang/UnsupportedOperationException" ["java/lang/RuntimeException", "java/lang/Exception"]).filter (fun w => !goodWord w), w = .castable "java/lang/UnsupportedOperationException" "java/lang/UnsupportedOperationException" ∨ ∃ y ∈ declW, w = .declares y := by decide +kernel
theorem exg_3 : ∀ w ∈ Cond.classLink "Chipfold" 151 "java/lang/UnsupportedOperationException" :: Cond.initialized "java/lang/UnsupportedOperationException" :: vx_atS "Chipfold" 155 "java/lang/UnsupportedOperationException" ["java/lang/RuntimeException", "java/lang/Exception"], vx_ot w = true := by decide +kernel
theorem q_200 : (Jvm.Cond.classLink "Chipfold" (151 : Nat) "java/lang/UnsupportedOperationException") ∈ WG := wg_4 (List.mem_of_getElem? (i := 11) (by decide +kernel)) (by decide +kernel)
theorem q_201 : (Jvm.Cond.initialized "java/lang/UnsupportedOperationException") ∈ WG := wg_1 (List.mem_of_getElem? (i := 21) (by decide +kernel)) (by decide +kernel)
theorem dX10_needWhole_13 : decode cX10_needWhole 13 = .ok (.dup, 1) := by decide +kernel
theorem dX10_needWhole_14 : decode cX10_needWhole 14 = .ok (.ldc_w 305, 3) := by decide +kernel
theorem dX10_needWhole_17 : decode cX10_needWhole 17 = .ok (.invokespecial 155, 3) := by decide +kernel
theorem dX10_needWhole_20 : decode cX10_needWhole 20 = .ok (.athrow, 1) := by decide +kernel
theorem dX10_edges_0 : decode cX10_edges 0 = .ok (.aload_n 0, 1) := by decide +kernel
theorem dX10_edges_1 : decode cX10_edges 1 = .ok (.iload_n 1, 1) := by decide +kernel
theorem dX10_edges_2 : decode cX10_edges 2 = .ok (.invokevirtual 101, 3) := by decide +kernel
theorem q_202 : (Jvm.Cond.code ({ cls := "Chipfold", name := "needVertex", desc := "(I)V" } : Jvm.MethodName) prog_1_method_39_code (2 : Nat) (Option.none : Option Jvm.ClassFile.FieldType)) ∈ WG := wg_3 (List.mem_of_getElem? (i := 156) rfl) rfl
theorem q_203 : (Jvm.Cond.initialized "Chipfold") ∈ WG := wg_1 (List.mem_of_getElem? (i := 1) (by decide +kernel)) (by decide +kernel)
theorem q_204 : (Jvm.Cond.methodLink "Chipfold" (101 : Nat) ({ cls := "Chipfold", name := "needVertex", desc := "(I)V" } : Jvm.MethodName)) ∈ WG := wg_3 (List.mem_of_getElem? (i := 153) (by decide +kernel)) (by decide +kernel)
theorem q_205 : (Jvm.Cond.selects "Chipfold" ({ cls := "Chipfold", name := "needVertex", desc := "(I)V" } : Jvm.MethodName) ({ cls := "Chipfold", name := "needVertex", desc := "(I)V" } : Jvm.MethodName)) ∈ WG := wg_0 (by decide +kernel) (by decide +kernel)
theorem q_206 : (Jvm.Cond.instanceMethod ({ cls := "Chipfold", name := "needVertex", desc := "(I)V" } : Jvm.MethodName)) ∈ WG := wg_3 (List.mem_of_getElem? (i := 155) (by decide +kernel)) (by decide +kernel)
theorem dX10_setSink_0 : decode cX10_setSink 0 = .ok (.aload_n 0, 1) := by decide +kernel
theorem dX10_setSink_1 : decode cX10_setSink 1 = .ok (.iload_n 1, 1) := by decide +kernel
theorem dX10_setSink_2 : decode cX10_setSink 2 = .ok (.invokevirtual 101, 3) := by decide +kernel
theorem dX10_degree_0 : decode cX10_degree 0 = .ok (.aload_n 0, 1) := by decide +kernel
theorem dX10_degree_1 : decode cX10_degree 1 = .ok (.iload_n 1, 1) := by decide +kernel
theorem dX10_degree_2 : decode cX10_degree 2 = .ok (.invokevirtual 101, 3) := by decide +kernel
theorem dX10_put_0 : decode cX10_put 0 = .ok (.aload_n 0, 1) := by decide +kernel
theorem dX10_put_1 : decode cX10_put 1 = .ok (.iload_n 1, 1) := by decide +kernel
theorem dX10_put_2 : decode cX10_put 2 = .ok (.invokevirtual 101, 3) := by decide +kernel
theorem dX10_chips_0 : decode cX10_chips 0 = .ok (.aload_n 0, 1) := by decide +kernel
theorem dX10_chips_1 : decode cX10_chips 1 = .ok (.iload_n 1, 1) := by decide +kernel
theorem dX10_chips_2 : decode cX10_chips 2 = .ok (.invokevirtual 101, 3) := by decide +kernel
theorem dX10_topple_0 : decode cX10_topple 0 = .ok (.aload_n 0, 1) := by decide +kernel
theorem dX10_topple_1 : decode cX10_topple 1 = .ok (.iload_n 1, 1) := by decide +kernel
theorem dX10_topple_2 : decode cX10_topple 2 = .ok (.invokevirtual 101, 3) := by decide +kernel
theorem dX10_count_0 : decode cX10_count 0 = .ok (.aload_n 0, 1) := by decide +kernel
theorem dX10_count_1 : decode cX10_count 1 = .ok (.iload_n 1, 1) := by decide +kernel
theorem dX10_count_2 : decode cX10_count 2 = .ok (.invokevirtual 101, 3) := by decide +kernel
theorem dX10_burns_0 : decode cX10_burns 0 = .ok (.aload_n 0, 1) := by decide +kernel
theorem dX10_burns_1 : decode cX10_burns 1 = .ok (.iload_n 1, 1) := by decide +kernel
theorem dX10_burns_2 : decode cX10_burns 2 = .ok (.invokevirtual 101, 3) := by decide +kernel
theorem dX10_unit_0 : decode cX10_unit 0 = .ok (.aload_n 0, 1) := by decide +kernel
theorem dX10_unit_1 : decode cX10_unit 1 = .ok (.iload_n 1, 1) := by decide +kernel
theorem dX10_unit_2 : decode cX10_unit 2 = .ok (.invokevirtual 101, 3) := by decide +kernel
theorem dX10_walk_0 : decode cX10_walk 0 = .ok (.aload_n 0, 1) := by decide +kernel
theorem dX10_walk_1 : decode cX10_walk 1 = .ok (.iload_n 1, 1) := by decide +kernel
theorem dX10_walk_2 : decode cX10_walk 2 = .ok (.invokevirtual 101, 3) := by decide +kernel
theorem dX10_rotor_0 : decode cX10_rotor 0 = .ok (.aload_n 0, 1) := by decide +kernel
theorem dX10_rotor_1 : decode cX10_rotor 1 = .ok (.iload_n 1, 1) := by decide +kernel
theorem dX10_rotor_2 : decode cX10_rotor 2 = .ok (.invokevirtual 101, 3) := by decide +kernel
theorem dX10_visits_0 : decode cX10_visits 0 = .ok (.aload_n 0, 1) := by decide +kernel
theorem dX10_visits_1 : decode cX10_visits 1 = .ok (.iload_n 1, 1) := by decide +kernel
theorem dX10_visits_2 : decode cX10_visits 2 = .ok (.invokevirtual 101, 3) := by decide +kernel
theorem dX10_setDebt_0 : decode cX10_setDebt 0 = .ok (.aload_n 0, 1) := by decide +kernel
theorem dX10_setDebt_1 : decode cX10_setDebt 1 = .ok (.iload_n 1, 1) := by decide +kernel
theorem dX10_setDebt_2 : decode cX10_setDebt 2 = .ok (.invokevirtual 101, 3) := by decide +kernel
theorem dX10_deal_0 : decode cX10_deal 0 = .ok (.aload_n 0, 1) := by decide +kernel
theorem dX10_deal_1 : decode cX10_deal 1 = .ok (.iload_n 1, 1) := by decide +kernel
theorem dX10_deal_2 : decode cX10_deal 2 = .ok (.invokevirtual 101, 3) := by decide +kernel
theorem dX10_debt_0 : decode cX10_debt 0 = .ok (.aload_n 0, 1) := by decide +kernel
theorem dX10_debt_1 : decode cX10_debt 1 = .ok (.iload_n 1, 1) := by decide +kernel
theorem dX10_debt_2 : decode cX10_debt 2 = .ok (.invokevirtual 101, 3) := by decide +kernel
theorem dX10_reduced_0 : decode cX10_reduced 0 = .ok (.aload_n 0, 1) := by decide +kernel
theorem dX10_reduced_1 : decode cX10_reduced 1 = .ok (.iload_n 1, 1) := by decide +kernel
theorem dX10_reduced_2 : decode cX10_reduced 2 = .ok (.invokevirtual 101, 3) := by decide +kernel
theorem dX10_settle_0 : decode cX10_settle 0 = .ok (.aload_n 0, 1) := by decide +kernel
theorem dX10_settle_1 : decode cX10_settle 1 = .ok (.invokevirtual 159, 3) := by decide +kernel
theorem q_207 : (Jvm.Cond.code ({ cls := "Chipfold", name := "needWhole", desc := "()V" } : Jvm.MethodName) prog_1_method_40_code (1 : Nat) (Option.none : Option Jvm.ClassFile.FieldType)) ∈ WG := wg_4 (List.mem_of_getElem? (i := 38) rfl) rfl
theorem q_208 : (Jvm.Cond.methodLink "Chipfold" (159 : Nat) ({ cls := "Chipfold", name := "needWhole", desc := "()V" } : Jvm.MethodName)) ∈ WG := wg_4 (List.mem_of_getElem? (i := 35) (by decide +kernel)) (by decide +kernel)
theorem q_209 : (Jvm.Cond.selects "Chipfold" ({ cls := "Chipfold", name := "needWhole", desc := "()V" } : Jvm.MethodName) ({ cls := "Chipfold", name := "needWhole", desc := "()V" } : Jvm.MethodName)) ∈ WG := wg_0 (by decide +kernel) (by decide +kernel)
theorem q_210 : (Jvm.Cond.instanceMethod ({ cls := "Chipfold", name := "needWhole", desc := "()V" } : Jvm.MethodName)) ∈ WG := wg_4 (List.mem_of_getElem? (i := 37) (by decide +kernel)) (by decide +kernel)
theorem dX10_waves_0 : decode cX10_waves 0 = .ok (.aload_n 0, 1) := by decide +kernel
theorem dX10_waves_1 : decode cX10_waves 1 = .ok (.invokevirtual 159, 3) := by decide +kernel
theorem dX10_isAgain_0 : decode cX10_isAgain 0 = .ok (.aload_n 0, 1) := by decide +kernel
theorem dX10_isAgain_1 : decode cX10_isAgain 1 = .ok (.invokevirtual 159, 3) := by decide +kernel
theorem dX10_square_0 : decode cX10_square 0 = .ok (.aload_n 0, 1) := by decide +kernel
theorem dX10_square_1 : decode cX10_square 1 = .ok (.invokevirtual 159, 3) := by decide +kernel
theorem dX10_factors_0 : decode cX10_factors 0 = .ok (.aload_n 0, 1) := by decide +kernel
theorem dX10_factors_1 : decode cX10_factors 1 = .ok (.invokevirtual 159, 3) := by decide +kernel
theorem dX10_factorAt_0 : decode cX10_factorAt 0 = .ok (.aload_n 0, 1) := by decide +kernel
theorem dX10_factorAt_1 : decode cX10_factorAt 1 = .ok (.invokevirtual 159, 3) := by decide +kernel
theorem dX10_order_0 : decode cX10_order 0 = .ok (.aload_n 0, 1) := by decide +kernel
theorem dX10_order_1 : decode cX10_order 1 = .ok (.invokevirtual 159, 3) := by decide +kernel
theorem dX10_areTree_0 : decode cX10_areTree 0 = .ok (.aload_n 0, 1) := by decide +kernel
theorem dX10_areTree_1 : decode cX10_areTree 1 = .ok (.invokevirtual 159, 3) := by decide +kernel
theorem dX10_canPay_0 : decode cX10_canPay 0 = .ok (.aload_n 0, 1) := by decide +kernel
theorem dX10_canPay_1 : decode cX10_canPay 1 = .ok (.invokevirtual 159, 3) := by decide +kernel
theorem dX10_rank_0 : decode cX10_rank 0 = .ok (.aload_n 0, 1) := by decide +kernel
theorem dX10_rank_1 : decode cX10_rank 1 = .ok (.invokevirtual 159, 3) := by decide +kernel
theorem dX10_isWhole_0 : decode cX10_isWhole 0 = .ok (.aload_n 0, 1) := by decide +kernel
theorem dX10_isWhole_1 : decode cX10_isWhole 1 = .ok (.getfield 15, 3) := by decide +kernel
theorem dX10_isWhole_4 : decode cX10_isWhole 4 = .ok (.invokevirtual 129, 3) := by decide +kernel
theorem dX10_isWhole_7 : decode cX10_isWhole 7 = .ok (.ireturn, 1) := by decide +kernel
theorem dX6_swallowedChips_0 : decode cX6_swallowedChips 0 = .ok (.aload_n 0, 1) := by decide +kernel
theorem dX6_swallowedChips_1 : decode cX6_swallowedChips 1 = .ok (.getfield 23, 3) := by decide +kernel
theorem dX6_swallowedChips_4 : decode cX6_swallowedChips 4 = .ok (.ireturn, 1) := by decide +kernel
theorem dX10_swallowed_0 : decode cX10_swallowed 0 = .ok (.aload_n 0, 1) := by decide +kernel
theorem dX10_swallowed_1 : decode cX10_swallowed 1 = .ok (.getfield 28, 3) := by decide +kernel
theorem dX10_swallowed_4 : decode cX10_swallowed 4 = .ok (.invokevirtual 177, 3) := by decide +kernel
theorem q_211 : (Jvm.Cond.code ({ cls := "Chipfold$Pile", name := "swallowedChips", desc := "()I" } : Jvm.MethodName) prog_8_method_7_code (1 : Nat) (Option.some Jvm.ClassFile.FieldType.int)) ∈ WG := wg_2 (List.mem_of_getElem? (i := 42) rfl) rfl
theorem q_212 : (Jvm.Cond.selects "Chipfold$Pile" ({ cls := "Chipfold$Pile", name := "swallowedChips", desc := "()I" } : Jvm.MethodName) ({ cls := "Chipfold$Pile", name := "swallowedChips", desc := "()I" } : Jvm.MethodName)) ∈ WG := wg_2 (List.mem_of_getElem? (i := 41) (by decide +kernel)) (by decide +kernel)
theorem q_213 : (Jvm.Cond.methodLink "Chipfold" (177 : Nat) ({ cls := "Chipfold$Pile", name := "swallowedChips", desc := "()I" } : Jvm.MethodName)) ∈ WG := wg_2 (List.mem_of_getElem? (i := 39) (by decide +kernel)) (by decide +kernel)
theorem q_214 : (Jvm.Cond.instanceMethod ({ cls := "Chipfold$Pile", name := "swallowedChips", desc := "()I" } : Jvm.MethodName)) ∈ WG := wg_2 (List.mem_of_getElem? (i := 40) (by decide +kernel)) (by decide +kernel)
theorem dX10_swallowed_7 : decode cX10_swallowed 7 = .ok (.ireturn, 1) := by decide +kernel
theorem dX3_others_0 : decode cX3_others 0 = .ok (.aload_n 0, 1) := by decide +kernel
theorem dX3_others_1 : decode cX3_others 1 = .ok (.getfield 18, 3) := by decide +kernel
theorem dX3_others_4 : decode cX3_others 4 = .ok (.iconst 1, 1) := by decide +kernel
theorem dX3_others_5 : decode cX3_others 5 = .ok (.if_icmp .ge 7, 3) := by decide +kernel
theorem dX3_others_8 : decode cX3_others 8 = .ok (.iconst 0, 1) := by decide +kernel
theorem dX3_others_9 : decode cX3_others 9 = .ok (.goto 9, 3) := by decide +kernel
theorem dX3_others_18 : decode cX3_others 18 = .ok (.ireturn, 1) := by decide +kernel
theorem dX4_treeNumber_0 : decode cX4_treeNumber 0 = .ok (.iconst 1, 1) := by decide +kernel
theorem dX4_treeNumber_1 : decode cX4_treeNumber 1 = .ok (.aload_n 0, 1) := by decide +kernel
theorem dX4_treeNumber_2 : decode cX4_treeNumber 2 = .ok (.getfield 27, 3) := by decide +kernel
theorem dX4_treeNumber_5 : decode cX4_treeNumber 5 = .ok (.invokevirtual 44, 3) := by decide +kernel
theorem q_215 : (Jvm.Cond.code ({ cls := "Chipfold$Graph", name := "others", desc := "()I" } : Jvm.MethodName) prog_5_method_13_code (1 : Nat) (Option.some Jvm.ClassFile.FieldType.int)) ∈ WG := wg_2 (List.mem_of_getElem? (i := 54) rfl) rfl
theorem q_216 : (Jvm.Cond.selects "Chipfold$Graph" ({ cls := "Chipfold$Graph", name := "others", desc := "()I" } : Jvm.MethodName) ({ cls := "Chipfold$Graph", name := "others", desc := "()I" } : Jvm.MethodName)) ∈ WG := wg_2 (List.mem_of_getElem? (i := 53) (by decide +kernel)) (by decide +kernel)
theorem q_217 : (Jvm.Cond.methodLink "Chipfold$Group" (44 : Nat) ({ cls := "Chipfold$Graph", name := "others", desc := "()I" } : Jvm.MethodName)) ∈ WG := wg_2 (List.mem_of_getElem? (i := 51) (by decide +kernel)) (by decide +kernel)
theorem q_218 : (Jvm.Cond.instanceMethod ({ cls := "Chipfold$Graph", name := "others", desc := "()I" } : Jvm.MethodName)) ∈ WG := wg_2 (List.mem_of_getElem? (i := 52) (by decide +kernel)) (by decide +kernel)
theorem dX4_treeNumber_8 : decode cX4_treeNumber 8 = .ok (.ishl, 1) := by decide +kernel
theorem dX4_treeNumber_9 : decode cX4_treeNumber 9 = .ok (.iconst 1, 1) := by decide +kernel
theorem dX4_treeNumber_10 : decode cX4_treeNumber 10 = .ok (.isub, 1) := by decide +kernel
theorem dX4_treeNumber_11 : decode cX4_treeNumber 11 = .ok (.istore_n 1, 1) := by decide +kernel
theorem dX4_treeNumber_12 : decode cX4_treeNumber 12 = .ok (.aload_n 0, 1) := by decide +kernel
theorem dX4_treeNumber_13 : decode cX4_treeNumber 13 = .ok (.getfield 27, 3) := by decide +kernel
theorem dX4_treeNumber_16 : decode cX4_treeNumber 16 = .ok (.invokevirtual 59, 3) := by decide +kernel
theorem q_219 : (Jvm.Cond.methodLink "Chipfold$Group" (59 : Nat) ({ cls := "Chipfold$Graph", name := "size", desc := "()I" } : Jvm.MethodName)) ∈ WG := wg_2 (List.mem_of_getElem? (i := 55) (by decide +kernel)) (by decide +kernel)
theorem dX4_treeNumber_19 : decode cX4_treeNumber 19 = .ok (.ifCond .ne 7, 3) := by decide +kernel
theorem dX4_treeNumber_22 : decode cX4_treeNumber 22 = .ok (.lconst 0, 1) := by decide +kernel
theorem dX4_treeNumber_23 : decode cX4_treeNumber 23 = .ok (.goto 9, 3) := by decide +kernel
theorem dX4_treeNumber_32 : decode cX4_treeNumber 32 = .ok (.lreturn, 1) := by decide +kernel
theorem dX10_trees_0 : decode cX10_trees 0 = .ok (.aload_n 0, 1) := by decide +kernel
theorem dX10_trees_1 : decode cX10_trees 1 = .ok (.getfield 50, 3) := by decide +kernel
theorem dX10_trees_4 : decode cX10_trees 4 = .ok (.invokevirtual 194, 3) := by decide +kernel
theorem q_220 : (Jvm.Cond.code ({ cls := "Chipfold$Group", name := "treeNumber", desc := "()J" } : Jvm.MethodName) prog_6_method_4_code (2 : Nat) (Option.some Jvm.ClassFile.FieldType.long)) ∈ WG := wg_2 (List.mem_of_getElem? (i := 50) rfl) rfl
theorem q_221 : (Jvm.Cond.selects "Chipfold$Group" ({ cls := "Chipfold$Group", name := "treeNumber", desc := "()J" } : Jvm.MethodName) ({ cls := "Chipfold$Group", name := "treeNumber", desc := "()J" } : Jvm.MethodName)) ∈ WG := wg_2 (List.mem_of_getElem? (i := 49) (by decide +kernel)) (by decide +kernel)
theorem q_222 : (Jvm.Cond.methodLink "Chipfold" (194 : Nat) ({ cls := "Chipfold$Group", name := "treeNumber", desc := "()J" } : Jvm.MethodName)) ∈ WG := wg_2 (List.mem_of_getElem? (i := 47) (by decide +kernel)) (by decide +kernel)
theorem q_223 : (Jvm.Cond.instanceMethod ({ cls := "Chipfold$Group", name := "treeNumber", desc := "()J" } : Jvm.MethodName)) ∈ WG := wg_2 (List.mem_of_getElem? (i := 48) (by decide +kernel)) (by decide +kernel)
theorem dX10_trees_7 : decode cX10_trees 7 = .ok (.lreturn, 1) := by decide +kernel
theorem dX9_countLeft_0 : decode cX9_countLeft 0 = .ok (.iload_n 1, 1) := by decide +kernel
theorem dX9_countLeft_1 : decode cX9_countLeft 1 = .ok (.iconst 2, 1) := by decide +kernel
theorem dX9_countLeft_2 : decode cX9_countLeft 2 = .ok (.if_icmp .lt 9, 3) := by decide +kernel
theorem dX9_countLeft_11 : decode cX9_countLeft 11 = .ok (.iload_n 1, 1) := by decide +kernel
theorem dX9_countLeft_12 : decode cX9_countLeft 12 = .ok (.iconst 1, 1) := by decide +kernel
theorem dX9_countLeft_13 : decode cX9_countLeft 13 = .ok (.if_icmp .ne 7, 3) := by decide +kernel
theorem dX9_countLeft_20 : decode cX9_countLeft 20 = .ok (.lconst 0, 1) := by decide +kernel
theorem dX9_countLeft_21 : decode cX9_countLeft 21 = .ok (.lreturn, 1) := by decide +kernel
theorem dX9_countTrees_0 : decode cX9_countTrees 0 = .ok (.aload_n 1, 1) := by decide +kernel
theorem dX9_countTrees_1 : decode cX9_countTrees 1 = .ok (.invokevirtual 20, 3) := by decide +kernel
theorem q_224 : (Jvm.Cond.methodLink "Chipfold$TreeCount" (20 : Nat) ({ cls := "Chipfold$Graph", name := "size", desc := "()I" } : Jvm.MethodName)) ∈ WG := wg_2 (List.mem_of_getElem? (i := 109) (by decide +kernel)) (by decide +kernel)
theorem dX9_countTrees_4 : decode cX9_countTrees 4 = .ok (.istore_n 2, 1) := by decide +kernel
theorem dX9_countTrees_5 : decode cX9_countTrees 5 = .ok (.iconst 0, 1) := by decide +kernel
theorem dX9_countTrees_6 : decode cX9_countTrees 6 = .ok (.istore_n 3, 1) := by decide +kernel
theorem dX9_countTrees_7 : decode cX9_countTrees 7 = .ok (.iload_n 3, 1) := by decide +kernel
theorem dX9_countTrees_8 : decode cX9_countTrees 8 = .ok (.iload_n 2, 1) := by decide +kernel
theorem dX9_countTrees_9 : decode cX9_countTrees 9 = .ok (.if_icmp .ge 45, 3) := by decide +kernel
theorem dX9_countTrees_54 : decode cX9_countTrees 54 = .ok (.aload_n 0, 1) := by decide +kernel
theorem dX9_countTrees_55 : decode cX9_countTrees 55 = .ok (.getfield 14, 3) := by decide +kernel
theorem dX9_countTrees_58 : decode cX9_countTrees 58 = .ok (.iload_n 2, 1) := by decide +kernel
theorem dX9_countTrees_59 : decode cX9_countTrees 59 = .ok (.invokestatic 38, 3) := by decide +kernel
theorem q_225 : (Jvm.Cond.code ({ cls := "Chipfold$TreeCount", name := "countLeft", desc := "(LChipfold$Row;I)J" } : Jvm.MethodName) prog_11_method_4_code (7 : Nat) (Option.some Jvm.ClassFile.FieldType.long)) ∈ WG := wg_2 (List.mem_of_getElem? (i := 120) rfl) rfl
theorem q_226 : (Jvm.Cond.methodLink "Chipfold$TreeCount" (38 : Nat) ({ cls := "Chipfold$TreeCount", name := "countLeft", desc := "(LChipfold$Row;I)J" } : Jvm.MethodName)) ∈ WG := wg_2 (List.mem_of_getElem? (i := 118) (by decide +kernel)) (by decide +kernel)
theorem q_227 : (Jvm.Cond.static ({ cls := "Chipfold$TreeCount", name := "countLeft", desc := "(LChipfold$Row;I)J" } : Jvm.MethodName)) ∈ WG := wg_2 (List.mem_of_getElem? (i := 119) (by decide +kernel)) (by decide +kernel)
theorem dX9_countTrees_62 : decode cX9_countTrees 62 = .ok (.lreturn, 1) := by decide +kernel
theorem dX10_isSound_0 : decode cX10_isSound 0 = .ok (.aload_n 0, 1) := by decide +kernel
theorem dX10_isSound_1 : decode cX10_isSound 1 = .ok (.getfield 50, 3) := by decide +kernel
theorem dX10_isSound_4 : decode cX10_isSound 4 = .ok (.invokevirtual 194, 3) := by decide +kernel
theorem dX10_isSound_7 : decode cX10_isSound 7 = .ok (.aload_n 0, 1) := by decide +kernel
theorem dX10_isSound_8 : decode cX10_isSound 8 = .ok (.getfield 57, 3) := by decide +kernel
theorem dX10_isSound_11 : decode cX10_isSound 11 = .ok (.aload_n 0, 1) := by decide +kernel
theorem dX10_isSound_12 : decode cX10_isSound 12 = .ok (.getfield 15, 3) := by decide +kernel
theorem dX10_isSound_15 : decode cX10_isSound 15 = .ok (.invokevirtual 278, 3) := by decide +kernel
theorem q_228 : (Jvm.Cond.code ({ cls := "Chipfold$TreeCount", name := "countTrees", desc := "(LChipfold$Graph;)J" } : Jvm.MethodName) prog_11_method_2_code (5 : Nat) (Option.some Jvm.ClassFile.FieldType.long)) ∈ WG := wg_2 (List.mem_of_getElem? (i := 108) rfl) rfl
theorem q_229 : (Jvm.Cond.selects "Chipfold$TreeCount" ({ cls := "Chipfold$TreeCount", name := "countTrees", desc := "(LChipfold$Graph;)J" } : Jvm.MethodName) ({ cls := "Chipfold$TreeCount", name := "countTrees", desc := "(LChipfold$Graph;)J" } : Jvm.MethodName)) ∈ WG := wg_2 (List.mem_of_getElem? (i := 107) (by decide +kernel)) (by decide +kernel)
theorem q_230 : (Jvm.Cond.methodLink "Chipfold" (278 : Nat) ({ cls := "Chipfold$TreeCount", name := "countTrees", desc := "(LChipfold$Graph;)J" } : Jvm.MethodName)) ∈ WG := wg_2 (List.mem_of_getElem? (i := 105) (by decide +kernel)) (by decide +kernel)
theorem q_231 : (Jvm.Cond.instanceMethod ({ cls := "Chipfold$TreeCount", name := "countTrees", desc := "(LChipfold$Graph;)J" } : Jvm.MethodName)) ∈ WG := wg_2 (List.mem_of_getElem? (i := 106) (by decide +kernel)) (by decide +kernel)
theorem dX10_isSound_18 : decode cX10_isSound 18 = .ok (.lcmp, 1) := by decide +kernel
theorem dX10_isSound_19 : decode cX10_isSound 19 = .ok (.ifCond .eq 5, 3) := by decide +kernel
theorem dX10_isSound_24 : decode cX10_isSound 24 = .ok (.aload_n 0, 1) := by decide +kernel
theorem dX10_isSound_25 : decode cX10_isSound 25 = .ok (.getfield 15, 3) := by decide +kernel
theorem dX10_isSound_28 : decode cX10_isSound 28 = .ok (.invokevirtual 129, 3) := by decide +kernel
theorem dX10_isSound_31 : decode cX10_isSound 31 = .ok (.ifCond .ne 5, 3) := by decide +kernel
theorem dX10_isSound_34 : decode cX10_isSound 34 = .ok (.iconst 1, 1) := by decide +kernel
theorem dX10_isSound_35 : decode cX10_isSound 35 = .ok (.ireturn, 1) := by decide +kernel
theorem dX1_cellNumber_0 : decode cX1_cellNumber 0 = .ok (.aload_n 0, 1) := by decide +kernel
theorem dX1_cellNumber_1 : decode cX1_cellNumber 1 = .ok (.getfield 20, 3) := by decide +kernel
theorem dX1_cellNumber_4 : decode cX1_cellNumber 4 = .ok (.aload_n 0, 1) := by decide +kernel
theorem dX1_cellNumber_5 : decode cX1_cellNumber 5 = .ok (.getfield 20, 3) := by decide +kernel
theorem dX1_cellNumber_8 : decode cX1_cellNumber 8 = .ok (.imul, 1) := by decide +kernel
theorem dX1_cellNumber_9 : decode cX1_cellNumber 9 = .ok (.ireturn, 1) := by decide +kernel
theorem dX10_pixel_0 : decode cX10_pixel 0 = .ok (.aload_n 0, 1) := by decide +kernel
theorem dX10_pixel_1 : decode cX10_pixel 1 = .ok (.getfield 80, 3) := by decide +kernel
theorem dX10_pixel_4 : decode cX10_pixel 4 = .ok (.invokevirtual 255, 3) := by decide +kernel
theorem q_232 : (Jvm.Cond.code ({ cls := "Chipfold$Drawing", name := "cellNumber", desc := "()I" } : Jvm.MethodName) prog_3_method_2_code (1 : Nat) (Option.some Jvm.ClassFile.FieldType.int)) ∈ WG := wg_5 (List.mem_of_getElem? (i := 76) rfl) rfl
theorem q_233 : (Jvm.Cond.selects "Chipfold$Drawing" ({ cls := "Chipfold$Drawing", name := "cellNumber", desc := "()I" } : Jvm.MethodName) ({ cls := "Chipfold$Drawing", name := "cellNumber", desc := "()I" } : Jvm.MethodName)) ∈ WG := wg_5 (List.mem_of_getElem? (i := 75) (by decide +kernel)) (by decide +kernel)
theorem q_234 : (Jvm.Cond.methodLink "Chipfold" (255 : Nat) ({ cls := "Chipfold$Drawing", name := "cellNumber", desc := "()I" } : Jvm.MethodName)) ∈ WG := wg_5 (List.mem_of_getElem? (i := 93) (by decide +kernel)) (by decide +kernel)
theorem q_235 : (Jvm.Cond.instanceMethod ({ cls := "Chipfold$Drawing", name := "cellNumber", desc := "()I" } : Jvm.MethodName)) ∈ WG := wg_5 (List.mem_of_getElem? (i := 74) (by decide +kernel)) (by decide +kernel)
theorem dX10_pixel_7 : decode cX10_pixel 7 = .ok (.ifCond .ne 14, 3) := by decide +kernel
theorem dX10_pixel_10 : decode cX10_pixel 10 = .ok (.new 258, 3) := by decide +kernel
theorem q_236 : (Jvm.Cond.classLink "Chipfold" (258 : Nat) "java/util/NoSuchElementException") ∈ WG := wg_5 (List.mem_of_getElem? (i := 94) (by decide +kernel)) (by decide +kernel)
theorem q_237 : (Jvm.Cond.initialized "java/util/NoSuchElementException") ∈ WG := wg_1 (List.mem_of_getElem? (i := 35) (by decide +kernel)) (by decide +kernel)
theorem dX10_pixel_13 : decode cX10_pixel 13 = .ok (.dup, 1) := by decide +kernel
theorem dX10_pixel_14 : decode cX10_pixel 14 = .ok (.ldc_w 260, 3) := by decide +kernel
theorem dX10_pixel_17 : decode cX10_pixel 17 = .ok (.invokespecial 262, 3) := by decide +kernel
theorem dX10_pixel_20 : decode cX10_pixel 20 = .ok (.athrow, 1) := by decide +kernel
theorem nsx_4_1 : ∀ w ∈ (nsAt "Chipfold" 262).filter goodWord, w ∈ WG := by decide +kernel
theorem nsx_4_2 : ∀ w ∈ (nsAt "Chipfold" 262).filter (fun w => !goodWord w), w = .castable nsE nsE ∨ ∃ y ∈ declW, w = .declares y := by decide +kernel
theorem nsx_4_3 : ∀ w ∈ Cond.classLink "Chipfold" 258 nsE :: Cond.initialized nsE :: nsAt "Chipfold" 262, vx_ot w = true := by decide +kernel
theorem dX10_settledShare_0 : decode cX10_settledShare 0 = .ok (.aload_n 0, 1) := by decide +kernel
theorem dX10_settledShare_1 : decode cX10_settledShare 1 = .ok (.getfield 15, 3) := by decide +kernel
theorem dX10_settledShare_4 : decode cX10_settledShare 4 = .ok (.invokevirtual 266, 3) := by decide +kernel
theorem q_239 : (Jvm.Cond.methodLink "Chipfold" (266 : Nat) ({ cls := "Chipfold$Graph", name := "others", desc := "()I" } : Jvm.MethodName)) ∈ WG := wg_5 (List.mem_of_getElem? (i := 136) (by decide +kernel)) (by decide +kernel)
theorem dX10_settledShare_7 : decode cX10_settledShare 7 = .ok (.istore_n 1, 1) := by decide +kernel
theorem dX10_settledShare_8 : decode cX10_settledShare 8 = .ok (.iload_n 1, 1) := by decide +kernel
theorem dX10_settledShare_9 : decode cX10_settledShare 9 = .ok (.iconst 1, 1) := by decide +kernel
theorem dX10_settledShare_10 : decode cX10_settledShare 10 = .ok (.if_icmp .ge 14, 3) := by decide +kernel
theorem dX10_settledShare_13 : decode cX10_settledShare 13 = .ok (.new 269, 3) := by decide +kernel
theorem ex_5_1 : ∀ w ∈ (vx_atS "Chipfold" 273 "java/lang/ArithmeticException" ["java/lang/RuntimeException", "java/lang/Exception"]).filter goodWord, w ∈ WG := by decide +kernel
theorem ex_5_2 : ∀ w ∈ (vx_atS "Chipfold" 273 "java/lang/ArithmeticException" ["java/lang/RuntimeException", "java/lang/Exception"]).filter (fun w => !goodWord w), w = .castable "java/lang/ArithmeticException" "java/lang/ArithmeticException" ∨ ∃ y ∈ declW, w = .declares y := by decide +kernel
theorem exg_6 : ∀ w ∈ Cond.classLink "Chipfold" 269 "java/lang/ArithmeticException" :: Cond.initialized "java/lang/ArithmeticException" :: vx_atS "Chipfold" 273 "java/lang/ArithmeticException" ["java/lang/RuntimeException", "java/lang/Exception"], vx_ot w = true := by decide +kernel
theorem q_242 : (Jvm.Cond.classLink "Chipfold" (269 : Nat) "java/lang/ArithmeticException") ∈ WG := wg_5 (List.mem_of_getElem? (i := 137) (by decide +kernel)) (by decide +kernel)
theorem q_243 : (Jvm.Cond.initialized "java/lang/ArithmeticException") ∈ WG := wg_1 (List.mem_of_getElem? (i := 36) (by decide +kernel)) (by decide +kernel)
theorem dX10_settledShare_16 : decode cX10_settledShare 16 = .ok (.dup, 1) := by decide +kernel
theorem dX10_settledShare_17 : decode cX10_settledShare 17 = .ok (.ldc_w 271, 3) := by decide +kernel
theorem dX10_settledShare_20 : decode cX10_settledShare 20 = .ok (.invokespecial 273, 3) := by decide +kernel
theorem dX10_settledShare_23 : decode cX10_settledShare 23 = .ok (.athrow, 1) := by decide +kernel
theorem dX10_meanChips_0 : decode cX10_meanChips 0 = .ok (.aload_n 0, 1) := by decide +kernel
theorem dX10_meanChips_1 : decode cX10_meanChips 1 = .ok (.getfield 15, 3) := by decide +kernel
theorem dX10_meanChips_4 : decode cX10_meanChips 4 = .ok (.invokevirtual 266, 3) := by decide +kernel
theorem dX10_meanChips_7 : decode cX10_meanChips 7 = .ok (.istore_n 1, 1) := by decide +kernel
theorem dX10_meanChips_8 : decode cX10_meanChips 8 = .ok (.iload_n 1, 1) := by decide +kernel
theorem dX10_meanChips_9 : decode cX10_meanChips 9 = .ok (.iconst 1, 1) := by decide +kernel
theorem dX10_meanChips_10 : decode cX10_meanChips 10 = .ok (.if_icmp .ge 14, 3) := by decide +kernel
theorem dX10_meanChips_13 : decode cX10_meanChips 13 = .ok (.new 269, 3) := by decide +kernel
theorem dX10_meanChips_16 : decode cX10_meanChips 16 = .ok (.dup, 1) := by decide +kernel
theorem dX10_meanChips_17 : decode cX10_meanChips 17 = .ok (.ldc_w 271, 3) := by decide +kernel
theorem dX10_meanChips_20 : decode cX10_meanChips 20 = .ok (.invokespecial 273, 3) := by decide +kernel
theorem dX10_meanChips_23 : decode cX10_meanChips 23 = .ok (.athrow, 1) := by decide +kernel
theorem dX10_beginAgain_0 : decode cX10_beginAgain 0 = .ok (.aload_n 0, 1) := by decide +kernel
theorem dX10_beginAgain_1 : decode cX10_beginAgain 1 = .ok (.getfield 28, 3) := by decide +kernel
theorem dX10_beginAgain_4 : decode cX10_beginAgain 4 = .ok (.invokevirtual 295, 3) := by decide +kernel
theorem q_244 : (Jvm.Cond.methodLink "Chipfold" (295 : Nat) ({ cls := "Chipfold$Pile", name := "clear", desc := "()V" } : Jvm.MethodName)) ∈ WG := wg_3 (List.mem_of_getElem? (i := 111) (by decide +kernel)) (by decide +kernel)
theorem dX10_beginAgain_7 : decode cX10_beginAgain 7 = .ok (.aload_n 0, 1) := by decide +kernel
theorem dX10_beginAgain_8 : decode cX10_beginAgain 8 = .ok (.getfield 64, 3) := by decide +kernel
theorem dX10_beginAgain_11 : decode cX10_beginAgain 11 = .ok (.invokevirtual 298, 3) := by decide +kernel
theorem q_245 : (Jvm.Cond.code ({ cls := "Chipfold$Rotors", name := "clear", desc := "()V" } : Jvm.MethodName) prog_9_method_2_code (1 : Nat) (Option.none : Option Jvm.ClassFile.FieldType)) ∈ WG := wg_3 (List.mem_of_getElem? (i := 115) rfl) rfl
theorem q_246 : (Jvm.Cond.selects "Chipfold$Rotors" ({ cls := "Chipfold$Rotors", name := "clear", desc := "()V" } : Jvm.MethodName) ({ cls := "Chipfold$Rotors", name := "clear", desc := "()V" } : Jvm.MethodName)) ∈ WG := wg_3 (List.mem_of_getElem? (i := 114) (by decide +kernel)) (by decide +kernel)
theorem q_247 : (Jvm.Cond.methodLink "Chipfold" (298 : Nat) ({ cls := "Chipfold$Rotors", name := "clear", desc := "()V" } : Jvm.MethodName)) ∈ WG := wg_3 (List.mem_of_getElem? (i := 112) (by decide +kernel)) (by decide +kernel)
theorem q_248 : (Jvm.Cond.instanceMethod ({ cls := "Chipfold$Rotors", name := "clear", desc := "()V" } : Jvm.MethodName)) ∈ WG := wg_3 (List.mem_of_getElem? (i := 113) (by decide +kernel)) (by decide +kernel)
theorem dX10_beginAgain_14 : decode cX10_beginAgain 14 = .ok (.aload_n 0, 1) := by decide +kernel
theorem dX10_beginAgain_15 : decode cX10_beginAgain 15 = .ok (.getfield 73, 3) := by decide +kernel
theorem dX10_beginAgain_18 : decode cX10_beginAgain 18 = .ok (.invokevirtual 299, 3) := by decide +kernel
theorem q_249 : (Jvm.Cond.code ({ cls := "Chipfold$Debts", name := "clear", desc := "()V" } : Jvm.MethodName) prog_2_method_2_code (1 : Nat) (Option.none : Option Jvm.ClassFile.FieldType)) ∈ WG := wg_3 (List.mem_of_getElem? (i := 120) rfl) rfl
theorem q_250 : (Jvm.Cond.selects "Chipfold$Debts" ({ cls := "Chipfold$Debts", name := "clear", desc := "()V" } : Jvm.MethodName) ({ cls := "Chipfold$Debts", name := "clear", desc := "()V" } : Jvm.MethodName)) ∈ WG := wg_3 (List.mem_of_getElem? (i := 119) (by decide +kernel)) (by decide +kernel)
theorem q_251 : (Jvm.Cond.methodLink "Chipfold" (299 : Nat) ({ cls := "Chipfold$Debts", name := "clear", desc := "()V" } : Jvm.MethodName)) ∈ WG := wg_3 (List.mem_of_getElem? (i := 117) (by decide +kernel)) (by decide +kernel)
theorem q_252 : (Jvm.Cond.instanceMethod ({ cls := "Chipfold$Debts", name := "clear", desc := "()V" } : Jvm.MethodName)) ∈ WG := wg_3 (List.mem_of_getElem? (i := 118) (by decide +kernel)) (by decide +kernel)
theorem dX10_beginAgain_21 : decode cX10_beginAgain 21 = .ok (.return_, 1) := by decide +kernel
theorem dX10_vertex_0 : decode cX10_vertex 0 = .ok (.aload_n 0, 1) := by decide +kernel
theorem dX10_vertex_1 : decode cX10_vertex 1 = .ok (.getfield 15, 3) := by decide +kernel
theorem dX10_vertex_4 : decode cX10_vertex 4 = .ok (.invokevirtual 84, 3) := by decide +kernel
theorem q_253 : (Jvm.Cond.methodLink "Chipfold" (84 : Nat) ({ cls := "Chipfold$Graph", name := "size", desc := "()I" } : Jvm.MethodName)) ∈ WG := wg_2 (List.mem_of_getElem? (i := 195) (by decide +kernel)) (by decide +kernel)
theorem dX10_vertex_7 : decode cX10_vertex 7 = .ok (.bipush 6, 2) := by decide +kernel
theorem dX10_vertex_9 : decode cX10_vertex 9 = .ok (.if_icmp .lt 13, 3) := by decide +kernel
theorem dX10_vertex_22 : decode cX10_vertex 22 = .ok (.aload_n 0, 1) := by decide +kernel
theorem dX10_vertex_23 : decode cX10_vertex 23 = .ok (.getfield 15, 3) := by decide +kernel
theorem dX10_vertex_26 : decode cX10_vertex 26 = .ok (.invokevirtual 95, 3) := by decide +kernel
theorem q_254 : (Jvm.Cond.code ({ cls := "Chipfold$Graph", name := "grow", desc := "()I" } : Jvm.MethodName) prog_5_method_4_code (2 : Nat) (Option.some Jvm.ClassFile.FieldType.int)) ∈ WG := wg_3 (List.mem_of_getElem? (i := 106) rfl) rfl
theorem q_255 : (Jvm.Cond.selects "Chipfold$Graph" ({ cls := "Chipfold$Graph", name := "grow", desc := "()I" } : Jvm.MethodName) ({ cls := "Chipfold$Graph", name := "grow", desc := "()I" } : Jvm.MethodName)) ∈ WG := wg_3 (List.mem_of_getElem? (i := 105) (by decide +kernel)) (by decide +kernel)
theorem q_256 : (Jvm.Cond.methodLink "Chipfold" (95 : Nat) ({ cls := "Chipfold$Graph", name := "grow", desc := "()I" } : Jvm.MethodName)) ∈ WG := wg_3 (List.mem_of_getElem? (i := 103) (by decide +kernel)) (by decide +kernel)
theorem q_257 : (Jvm.Cond.instanceMethod ({ cls := "Chipfold$Graph", name := "grow", desc := "()I" } : Jvm.MethodName)) ∈ WG := wg_3 (List.mem_of_getElem? (i := 104) (by decide +kernel)) (by decide +kernel)
theorem dX10_vertex_29 : decode cX10_vertex 29 = .ok (.istore_n 1, 1) := by decide +kernel
theorem dX10_vertex_30 : decode cX10_vertex 30 = .ok (.aload_n 0, 1) := by decide +kernel
theorem dX10_vertex_31 : decode cX10_vertex 31 = .ok (.invokevirtual 98, 3) := by decide +kernel
theorem q_258 : (Jvm.Cond.code ({ cls := "Chipfold", name := "beginAgain", desc := "()V" } : Jvm.MethodName) prog_1_method_38_code (1 : Nat) (Option.none : Option Jvm.ClassFile.FieldType)) ∈ WG := wg_3 (List.mem_of_getElem? (i := 110) rfl) rfl
theorem q_259 : (Jvm.Cond.selects "Chipfold" ({ cls := "Chipfold", name := "beginAgain", desc := "()V" } : Jvm.MethodName) ({ cls := "Chipfold", name := "beginAgain", desc := "()V" } : Jvm.MethodName)) ∈ WG := wg_0 (by decide +kernel) (by decide +kernel)
theorem q_260 : (Jvm.Cond.methodLink "Chipfold" (98 : Nat) ({ cls := "Chipfold", name := "beginAgain", desc := "()V" } : Jvm.MethodName)) ∈ WG := wg_3 (List.mem_of_getElem? (i := 107) (by decide +kernel)) (by decide +kernel)
theorem q_261 : (Jvm.Cond.instanceMethod ({ cls := "Chipfold", name := "beginAgain", desc := "()V" } : Jvm.MethodName)) ∈ WG := wg_3 (List.mem_of_getElem? (i := 109) (by decide +kernel)) (by decide +kernel)
theorem dX10_vertex_34 : decode cX10_vertex 34 = .ok (.iload_n 1, 1) := by decide +kernel
theorem dX10_vertex_35 : decode cX10_vertex 35 = .ok (.ireturn, 1) := by decide +kernel
theorem gHas_0 (v : Int32) : gHas 0 v = false := by
  unfold gHas
  rw [decide_eq_false_iff_not]
  rintro ⟨h1, h2⟩
  exact h2 (by rw [nI_0]; rw [Int32.not_lt] at h1; exact h1)
theorem gConn_0 (fj : Nat → Int32) : gConn fj 0 = false := by simp [gConn]
set_option maxRecDepth 100000 in
set_option maxHeartbeats 400000 in
theorem c_X10_needVertex_x {l : Launch} {D : va_G} {k : Nat → ClassId} (o : Nat) (h : Nat) (pp : Nat) (x2 : Nat) (x3 : Nat) (x4 : Nat) (o2 : Nat) (o4 : Nat) (o9 : Nat) (o7 : Nat) (o0 : Nat) (o1 : Nat) (jj : Nat) (dd : Nat) (v : Int32)  : CT l D k yX10_needVertex cX10_needVertex 2 none 6 82 [.ref o, .int v] [(o, .inr (14, [.ref h, .ref pp, .ref x2, .ref x3, .ref x4, .ref o2, .ref o4, .ref o9, .ref o7, .ref o0, .ref o1])), (h, .inr (7, [.ref jj, .ref dd, .int (nI 0), .int (nI 0)])), (jj, aI k 36 (fun _ => 0)), (dd, aI k 6 (fun _ => 0))] "java/lang/IndexOutOfBoundsException" [(o, .inr (14, [.ref h, .ref pp, .ref x2, .ref x3, .ref x4, .ref o2, .ref o4, .ref o9, .ref o7, .ref o0, .ref o1])), (h, .inr (7, [.ref jj, .ref dd, .int (nI 0), .int (nI 0)])), (jj, aI k 36 (fun _ => 0)), (dd, aI k 6 (fun _ => 0))] 1 6 := by
  refine CT.of (lv0 := [(0, .ref o), (1, .int v)]) (by decide +kernel) (Nat.le_of_ble_eq_true rfl) rfl ?_
  intro p9 e9 s9 m9 bl9 me9 co9 C hr hlk hin had hex
  refine g_aload_n (pc := 0) C 0 rfl rfl dX10_needVertex_0 ?_
  refine g_get (pc := 1) C (T := TX10) inX10 0 rfl rfl 0 (by decide) q_143 rfl rfl dX10_needVertex_1 ?_
  refine g_iload_n (pc := 4) C 1 rfl rfl dX10_needVertex_4 ?_
  refine g_callV (pc := 5) (cells := 0) (slots := 0) (g := 0) (As := [.int v]) (st := []) (T := TX3) (q0 := 1) C (nA := 1) rfl (c_X3_has h jj dd 0 0 (fun _ => 0) (fun _ => 0) v ) q_188 q_189 q_187 q_16 q_186 (by decide +kernel) rfl rfl dX10_needVertex_5 ⟨Nat.le_of_ble_eq_true rfl, Nat.le_of_ble_eq_true rfl⟩ [1, 2, 3] [0] rfl (wr := [(o, .inr (14, [.ref h, .ref pp, .ref x2, .ref x3, .ref x4, .ref o2, .ref o4, .ref o9, .ref o7, .ref o0, .ref o1]))]) rfl (by decide) (by decide) (by decide) (Nat.le_of_ble_eq_true rfl) ⟨Nat.le_of_ble_eq_true rfl, Nat.le_of_ble_eq_true rfl⟩ (fun rv w1 h1 => ?_)
  obtain ⟨rfl, rfl⟩ := h1
  refine G.aft [0, 1, 2, 3] (ws' := [(o, .inr (14, [.ref h, .ref pp, .ref x2, .ref x3, .ref x4, .ref o2, .ref o4, .ref o9, .ref o7, .ref o0, .ref o1])), (h, .inr (7, [.ref jj, .ref dd, .int (nI 0), .int (nI 0)])), (jj, aI k 36 (fun _ => 0)), (dd, aI k 6 (fun _ => 0))]) (st' := [.int (bI (gHas 0 v))]) (cells' := 0) (slots' := 0) (g' := 0) (by decide) rfl rfl rfl rfl rfl ?_
  refine g_if_ne (pc := 8) C 22 (by decide) dX10_needVertex_8 (fun c_8 => ?_) (fun c_8 => ?_)
  · exact absurd (show bI (gHas 0 v) = 0 by rw [gHas_0]; rfl) c_8
  · exact g_throwSW (pc := 11) (text := "there is no such vertex") C ["java/lang/RuntimeException", "java/lang/Exception"] (by decide) (by decide) q_192 q_193 ex_0_1 ex_0_2 exg_1 (by decide) (by decide) dX10_needVertex_11 dX10_needVertex_14 dX10_needVertex_15 dX10_needVertex_18 dX10_needVertex_21 hex (by decide) (by decide) (Nat.le_of_ble_eq_true rfl) (Nat.le_of_ble_eq_true rfl) hlk rfl (by first | decide | omega) (by first | decide | omega)
set_option maxRecDepth 100000 in
set_option maxHeartbeats 400000 in
theorem c_X10_needWhole_x {l : Launch} {D : va_G} {k : Nat → ClassId} (o : Nat) (h : Nat) (pp : Nat) (x2 : Nat) (x3 : Nat) (x4 : Nat) (o2 : Nat) (o4 : Nat) (o9 : Nat) (o7 : Nat) (o0 : Nat) (o1 : Nat) (jj : Nat) (dd : Nat)  : CT l D k yX10_needWhole cX10_needWhole 1 none 6 82 [.ref o] [(o, .inr (14, [.ref h, .ref pp, .ref x2, .ref x3, .ref x4, .ref o2, .ref o4, .ref o9, .ref o7, .ref o0, .ref o1])), (h, .inr (7, [.ref jj, .ref dd, .int (nI 0), .int (nI 0)])), (jj, aI k 36 (fun _ => 0)), (dd, aI k 6 (fun _ => 0))] "java/lang/UnsupportedOperationException" [(o, .inr (14, [.ref h, .ref pp, .ref x2, .ref x3, .ref x4, .ref o2, .ref o4, .ref o9, .ref o7, .ref o0, .ref o1])), (h, .inr (7, [.ref jj, .ref dd, .int (nI 0), .int (nI 0)])), (jj, aI k 36 (fun _ => 0)), (dd, aI k 6 (fun _ => 0))] 1 6 := by
  refine CT.of (lv0 := [(0, .ref o)]) (by decide +kernel) (Nat.le_of_ble_eq_true rfl) rfl ?_
  intro p9 e9 s9 m9 bl9 me9 co9 C hr hlk hin had hex
  refine g_aload_n (pc := 0) C 0 rfl rfl dX10_needWhole_0 ?_
  refine g_get (pc := 1) C (T := TX10) inX10 0 rfl rfl 0 (by decide) q_143 rfl rfl dX10_needWhole_1 ?_
  refine g_callV (pc := 4) (cells := 0) (slots := 0) (g := 0) (As := []) (st := []) (T := TX3) (q0 := 1) C (nA := 0) rfl (c_X3_isConnected h jj dd 0 0 (fun _ => 0) (fun _ => 0) (by first | assumption | decide | omega)) q_196 q_197 q_195 q_16 q_194 (by decide +kernel) rfl rfl dX10_needWhole_4 ⟨Nat.le_of_ble_eq_true rfl, Nat.le_of_ble_eq_true rfl⟩ [1, 2, 3] [0] rfl (wr := [(o, .inr (14, [.ref h, .ref pp, .ref x2, .ref x3, .ref x4, .ref o2, .ref o4, .ref o9, .ref o7, .ref o0, .ref o1]))]) rfl (by decide) (by decide) (by decide) (Nat.le_of_ble_eq_true rfl) ⟨Nat.le_of_ble_eq_true rfl, Nat.le_of_ble_eq_true rfl⟩ (fun rv w1 h1 => ?_)
  obtain ⟨rfl, rfl⟩ := h1
  refine G.aft [0, 1, 2, 3] (ws' := [(o, .inr (14, [.ref h, .ref pp, .ref x2, .ref x3, .ref x4, .ref o2, .ref o4, .ref o9, .ref o7, .ref o0, .ref o1])), (h, .inr (7, [.ref jj, .ref dd, .int (nI 0), .int (nI 0)])), (jj, aI k 36 (fun _ => 0)), (dd, aI k 6 (fun _ => 0))]) (st' := [.int (bI (gConn (fun _ => 0) 0))]) (cells' := 0) (slots' := 0) (g' := 0) (by decide) rfl rfl rfl rfl rfl ?_
  refine g_if_ne (pc := 7) C 21 (by decide) dX10_needWhole_7 (fun c_7 => ?_) (fun c_7 => ?_)
  · exact absurd (show bI (gConn (fun _ => 0) 0) = 0 by rw [gConn_0]; rfl) c_7
  · exact g_throwSW (pc := 10) (text := "the graph is not whole") C ["java/lang/RuntimeException", "java/lang/Exception"] (by decide) (by decide) q_200 q_201 ex_2_1 ex_2_2 exg_3 (by decide) (by decide) dX10_needWhole_10 dX10_needWhole_13 dX10_needWhole_14 dX10_needWhole_17 dX10_needWhole_20 hex (by decide) (by decide) (Nat.le_of_ble_eq_true rfl) (Nat.le_of_ble_eq_true rfl) hlk rfl (by first | decide | omega) (by first | decide | omega)
set_option maxRecDepth 100000 in
set_option maxHeartbeats 400000 in
theorem c_X10_edges_x {l : Launch} {D : va_G} {k : Nat → ClassId} (o : Nat) (h : Nat) (pp : Nat) (x2 : Nat) (x3 : Nat) (x4 : Nat) (o2 : Nat) (o4 : Nat) (o9 : Nat) (o7 : Nat) (o0 : Nat) (o1 : Nat) (jj : Nat) (dd : Nat) (v : Int32) (w : Int32) (y : Int32)  : CT l D k yX10_edges cX10_edges 5 (some .int) 7 103 [.ref o, .int v, .int w, .int y] [(o, .inr (14, [.ref h, .ref pp, .ref x2, .ref x3, .ref x4, .ref o2, .ref o4, .ref o9, .ref o7, .ref o0, .ref o1])), (h, .inr (7, [.ref jj, .ref dd, .int (nI 0), .int (nI 0)])), (jj, aI k 36 (fun _ => 0)), (dd, aI k 6 (fun _ => 0))] "java/lang/IndexOutOfBoundsException" [(o, .inr (14, [.ref h, .ref pp, .ref x2, .ref x3, .ref x4, .ref o2, .ref o4, .ref o9, .ref o7, .ref o0, .ref o1])), (h, .inr (7, [.ref jj, .ref dd, .int (nI 0), .int (nI 0)])), (jj, aI k 36 (fun _ => 0)), (dd, aI k 6 (fun _ => 0))] 1 6 := by
  refine CT.of (lv0 := [(0, .ref o), (1, .int v), (2, .int w), (3, .int y)]) (by decide +kernel) (Nat.le_of_ble_eq_true rfl) rfl ?_
  intro p9 e9 s9 m9 bl9 me9 co9 C hr hlk hin had hex
  refine g_aload_n (pc := 0) C 0 rfl rfl dX10_edges_0 ?_
  refine g_iload_n (pc := 1) C 1 rfl rfl dX10_edges_1 ?_
  refine g_callVT (pc := 2) (cells := 0) (slots := 0) (g := 0) (As := [.int v]) (st := []) (T := TX10) (q0 := 0) C (nA := 1) rfl (c_X10_needVertex_x o h pp x2 x3 x4 o2 o4 o9 o7 o0 o1 jj dd v ) q_204 q_206 q_205 q_203 q_202 (by decide +kernel) rfl rfl dX10_edges_2 ⟨Nat.le_of_ble_eq_true rfl, Nat.le_of_ble_eq_true rfl⟩ [0, 1, 2, 3] [] rfl (wr := []) rfl (by decide) (by decide) (by decide) (Nat.le_of_ble_eq_true rfl) ⟨Nat.le_of_ble_eq_true rfl, Nat.le_of_ble_eq_true rfl⟩ ?_
  refine GT.re [0, 1, 2, 3] (ws' := [(o, .inr (14, [.ref h, .ref pp, .ref x2, .ref x3, .ref x4, .ref o2, .ref o4, .ref o9, .ref o7, .ref o0, .ref o1])), (h, .inr (7, [.ref jj, .ref dd, .int (nI 0), .int (nI 0)])), (jj, aI k 36 (fun _ => 0)), (dd, aI k 6 (fun _ => 0))]) (cells' := 1) (slots' := 6) (by decide) rfl rfl rfl ?_
  exact GT.out hlk hex (by first | decide | omega) (by first | decide | omega) rfl rfl
set_option maxRecDepth 100000 in
set_option maxHeartbeats 400000 in
theorem c_X10_setSink_x {l : Launch} {D : va_G} {k : Nat → ClassId} (o : Nat) (h : Nat) (pp : Nat) (x2 : Nat) (x3 : Nat) (x4 : Nat) (o2 : Nat) (o4 : Nat) (o9 : Nat) (o7 : Nat) (o0 : Nat) (o1 : Nat) (jj : Nat) (dd : Nat) (v : Int32)  : CT l D k yX10_setSink cX10_setSink 3 (some .int) 7 103 [.ref o, .int v] [(o, .inr (14, [.ref h, .ref pp, .ref x2, .ref x3, .ref x4, .ref o2, .ref o4, .ref o9, .ref o7, .ref o0, .ref o1])), (h, .inr (7, [.ref jj, .ref dd, .int (nI 0), .int (nI 0)])), (jj, aI k 36 (fun _ => 0)), (dd, aI k 6 (fun _ => 0))] "java/lang/IndexOutOfBoundsException" [(o, .inr (14, [.ref h, .ref pp, .ref x2, .ref x3, .ref x4, .ref o2, .ref o4, .ref o9, .ref o7, .ref o0, .ref o1])), (h, .inr (7, [.ref jj, .ref dd, .int (nI 0), .int (nI 0)])), (jj, aI k 36 (fun _ => 0)), (dd, aI k 6 (fun _ => 0))] 1 6 := by
  refine CT.of (lv0 := [(0, .ref o), (1, .int v)]) (by decide +kernel) (Nat.le_of_ble_eq_true rfl) rfl ?_
  intro p9 e9 s9 m9 bl9 me9 co9 C hr hlk hin had hex
  refine g_aload_n (pc := 0) C 0 rfl rfl dX10_setSink_0 ?_
  refine g_iload_n (pc := 1) C 1 rfl rfl dX10_setSink_1 ?_
  refine g_callVT (pc := 2) (cells := 0) (slots := 0) (g := 0) (As := [.int v]) (st := []) (T := TX10) (q0 := 0) C (nA := 1) rfl (c_X10_needVertex_x o h pp x2 x3 x4 o2 o4 o9 o7 o0 o1 jj dd v ) q_204 q_206 q_205 q_203 q_202 (by decide +kernel) rfl rfl dX10_setSink_2 ⟨Nat.le_of_ble_eq_true rfl, Nat.le_of_ble_eq_true rfl⟩ [0, 1, 2, 3] [] rfl (wr := []) rfl (by decide) (by decide) (by decide) (Nat.le_of_ble_eq_true rfl) ⟨Nat.le_of_ble_eq_true rfl, Nat.le_of_ble_eq_true rfl⟩ ?_
  refine GT.re [0, 1, 2, 3] (ws' := [(o, .inr (14, [.ref h, .ref pp, .ref x2, .ref x3, .ref x4, .ref o2, .ref o4, .ref o9, .ref o7, .ref o0, .ref o1])), (h, .inr (7, [.ref jj, .ref dd, .int (nI 0), .int (nI 0)])), (jj, aI k 36 (fun _ => 0)), (dd, aI k 6 (fun _ => 0))]) (cells' := 1) (slots' := 6) (by decide) rfl rfl rfl ?_
  exact GT.out hlk hex (by first | decide | omega) (by first | decide | omega) rfl rfl
set_option maxRecDepth 100000 in
set_option maxHeartbeats 400000 in
theorem c_X10_degree_x {l : Launch} {D : va_G} {k : Nat → ClassId} (o : Nat) (h : Nat) (pp : Nat) (x2 : Nat) (x3 : Nat) (x4 : Nat) (o2 : Nat) (o4 : Nat) (o9 : Nat) (o7 : Nat) (o0 : Nat) (o1 : Nat) (jj : Nat) (dd : Nat) (v : Int32)  : CT l D k yX10_degree cX10_degree 2 (some .int) 7 103 [.ref o, .int v] [(o, .inr (14, [.ref h, .ref pp, .ref x2, .ref x3, .ref x4, .ref o2, .ref o4, .ref o9, .ref o7, .ref o0, .ref o1])), (h, .inr (7, [.ref jj, .ref dd, .int (nI 0), .int (nI 0)])), (jj, aI k 36 (fun _ => 0)), (dd, aI k 6 (fun _ => 0))] "java/lang/IndexOutOfBoundsException" [(o, .inr (14, [.ref h, .ref pp, .ref x2, .ref x3, .ref x4, .ref o2, .ref o4, .ref o9, .ref o7, .ref o0, .ref o1])), (h, .inr (7, [.ref jj, .ref dd, .int (nI 0), .int (nI 0)])), (jj, aI k 36 (fun _ => 0)), (dd, aI k 6 (fun _ => 0))] 1 6 := by
  refine CT.of (lv0 := [(0, .ref o), (1, .int v)]) (by decide +kernel) (Nat.le_of_ble_eq_true rfl) rfl ?_
  intro p9 e9 s9 m9 bl9 me9 co9 C hr hlk hin had hex
  refine g_aload_n (pc := 0) C 0 rfl rfl dX10_degree_0 ?_
  refine g_iload_n (pc := 1) C 1 rfl rfl dX10_degree_1 ?_
  refine g_callVT (pc := 2) (cells := 0) (slots := 0) (g := 0) (As := [.int v]) (st := []) (T := TX10) (q0 := 0) C (nA := 1) rfl (c_X10_needVertex_x o h pp x2 x3 x4 o2 o4 o9 o7 o0 o1 jj dd v ) q_204 q_206 q_205 q_203 q_202 (by decide +kernel) rfl rfl dX10_degree_2 ⟨Nat.le_of_ble_eq_true rfl, Nat.le_of_ble_eq_true rfl⟩ [0, 1, 2, 3] [] rfl (wr := []) rfl (by decide) (by decide) (by decide) (Nat.le_of_ble_eq_true rfl) ⟨Nat.le_of_ble_eq_true rfl, Nat.le_of_ble_eq_true rfl⟩ ?_
  refine GT.re [0, 1, 2, 3] (ws' := [(o, .inr (14, [.ref h, .ref pp, .ref x2, .ref x3, .ref x4, .ref o2, .ref o4, .ref o9, .ref o7, .ref o0, .ref o1])), (h, .inr (7, [.ref jj, .ref dd, .int (nI 0), .int (nI 0)])), (jj, aI k 36 (fun _ => 0)), (dd, aI k 6 (fun _ => 0))]) (cells' := 1) (slots' := 6) (by decide) rfl rfl rfl ?_
  exact GT.out hlk hex (by first | decide | omega) (by first | decide | omega) rfl rfl
set_option maxRecDepth 100000 in
set_option maxHeartbeats 400000 in
theorem c_X10_put_x {l : Launch} {D : va_G} {k : Nat → ClassId} (o : Nat) (h : Nat) (pp : Nat) (x2 : Nat) (x3 : Nat) (x4 : Nat) (o2 : Nat) (o4 : Nat) (o9 : Nat) (o7 : Nat) (o0 : Nat) (o1 : Nat) (jj : Nat) (dd : Nat) (v : Int32) (y : Int32)  : CT l D k yX10_put cX10_put 3 (some .int) 7 103 [.ref o, .int v, .int y] [(o, .inr (14, [.ref h, .ref pp, .ref x2, .ref x3, .ref x4, .ref o2, .ref o4, .ref o9, .ref o7, .ref o0, .ref o1])), (h, .inr (7, [.ref jj, .ref dd, .int (nI 0), .int (nI 0)])), (jj, aI k 36 (fun _ => 0)), (dd, aI k 6 (fun _ => 0))] "java/lang/IndexOutOfBoundsException" [(o, .inr (14, [.ref h, .ref pp, .ref x2, .ref x3, .ref x4, .ref o2, .ref o4, .ref o9, .ref o7, .ref o0, .ref o1])), (h, .inr (7, [.ref jj, .ref dd, .int (nI 0), .int (nI 0)])), (jj, aI k 36 (fun _ => 0)), (dd, aI k 6 (fun _ => 0))] 1 6 := by
  refine CT.of (lv0 := [(0, .ref o), (1, .int v), (2, .int y)]) (by decide +kernel) (Nat.le_of_ble_eq_true rfl) rfl ?_
  intro p9 e9 s9 m9 bl9 me9 co9 C hr hlk hin had hex
  refine g_aload_n (pc := 0) C 0 rfl rfl dX10_put_0 ?_
  refine g_iload_n (pc := 1) C 1 rfl rfl dX10_put_1 ?_
  refine g_callVT (pc := 2) (cells := 0) (slots := 0) (g := 0) (As := [.int v]) (st := []) (T := TX10) (q0 := 0) C (nA := 1) rfl (c_X10_needVertex_x o h pp x2 x3 x4 o2 o4 o9 o7 o0 o1 jj dd v ) q_204 q_206 q_205 q_203 q_202 (by decide +kernel) rfl rfl dX10_put_2 ⟨Nat.le_of_ble_eq_true rfl, Nat.le_of_ble_eq_true rfl⟩ [0, 1, 2, 3] [] rfl (wr := []) rfl (by decide) (by decide) (by decide) (Nat.le_of_ble_eq_true rfl) ⟨Nat.le_of_ble_eq_true rfl, Nat.le_of_ble_eq_true rfl⟩ ?_
  refine GT.re [0, 1, 2, 3] (ws' := [(o, .inr (14, [.ref h, .ref pp, .ref x2, .ref x3, .ref x4, .ref o2, .ref o4, .ref o9, .ref o7, .ref o0, .ref o1])), (h, .inr (7, [.ref jj, .ref dd, .int (nI 0), .int (nI 0)])), (jj, aI k 36 (fun _ => 0)), (dd, aI k 6 (fun _ => 0))]) (cells' := 1) (slots' := 6) (by decide) rfl rfl rfl ?_
  exact GT.out hlk hex (by first | decide | omega) (by first | decide | omega) rfl rfl
set_option maxRecDepth 100000 in
set_option maxHeartbeats 400000 in
theorem c_X10_chips_x {l : Launch} {D : va_G} {k : Nat → ClassId} (o : Nat) (h : Nat) (pp : Nat) (x2 : Nat) (x3 : Nat) (x4 : Nat) (o2 : Nat) (o4 : Nat) (o9 : Nat) (o7 : Nat) (o0 : Nat) (o1 : Nat) (jj : Nat) (dd : Nat) (v : Int32)  : CT l D k yX10_chips cX10_chips 2 (some .int) 7 103 [.ref o, .int v] [(o, .inr (14, [.ref h, .ref pp, .ref x2, .ref x3, .ref x4, .ref o2, .ref o4, .ref o9, .ref o7, .ref o0, .ref o1])), (h, .inr (7, [.ref jj, .ref dd, .int (nI 0), .int (nI 0)])), (jj, aI k 36 (fun _ => 0)), (dd, aI k 6 (fun _ => 0))] "java/lang/IndexOutOfBoundsException" [(o, .inr (14, [.ref h, .ref pp, .ref x2, .ref x3, .ref x4, .ref o2, .ref o4, .ref o9, .ref o7, .ref o0, .ref o1])), (h, .inr (7, [.ref jj, .ref dd, .int (nI 0), .int (nI 0)])), (jj, aI k 36 (fun _ => 0)), (dd, aI k 6 (fun _ => 0))] 1 6 := by
  refine CT.of (lv0 := [(0, .ref o), (1, .int v)]) (by decide +kernel) (Nat.le_of_ble_eq_true rfl) rfl ?_
  intro p9 e9 s9 m9 bl9 me9 co9 C hr hlk hin had hex
  refine g_aload_n (pc := 0) C 0 rfl rfl dX10_chips_0 ?_
  refine g_iload_n (pc := 1) C 1 rfl rfl dX10_chips_1 ?_
  refine g_callVT (pc := 2) (cells := 0) (slots := 0) (g := 0) (As := [.int v]) (st := []) (T := TX10) (q0 := 0) C (nA := 1) rfl (c_X10_needVertex_x o h pp x2 x3 x4 o2 o4 o9 o7 o0 o1 jj dd v ) q_204 q_206 q_205 q_203 q_202 (by decide +kernel) rfl rfl dX10_chips_2 ⟨Nat.le_of_ble_eq_true rfl, Nat.le_of_ble_eq_true rfl⟩ [0, 1, 2, 3] [] rfl (wr := []) rfl (by decide) (by decide) (by decide) (Nat.le_of_ble_eq_true rfl) ⟨Nat.le_of_ble_eq_true rfl, Nat.le_of_ble_eq_true rfl⟩ ?_
  refine GT.re [0, 1, 2, 3] (ws' := [(o, .inr (14, [.ref h, .ref pp, .ref x2, .ref x3, .ref x4, .ref o2, .ref o4, .ref o9, .ref o7, .ref o0, .ref o1])), (h, .inr (7, [.ref jj, .ref dd, .int (nI 0), .int (nI 0)])), (jj, aI k 36 (fun _ => 0)), (dd, aI k 6 (fun _ => 0))]) (cells' := 1) (slots' := 6) (by decide) rfl rfl rfl ?_
  exact GT.out hlk hex (by first | decide | omega) (by first | decide | omega) rfl rfl
set_option maxRecDepth 100000 in
set_option maxHeartbeats 400000 in
theorem c_X10_topple_x {l : Launch} {D : va_G} {k : Nat → ClassId} (o : Nat) (h : Nat) (pp : Nat) (x2 : Nat) (x3 : Nat) (x4 : Nat) (o2 : Nat) (o4 : Nat) (o9 : Nat) (o7 : Nat) (o0 : Nat) (o1 : Nat) (jj : Nat) (dd : Nat) (v : Int32)  : CT l D k yX10_topple cX10_topple 2 (some .int) 7 103 [.ref o, .int v] [(o, .inr (14, [.ref h, .ref pp, .ref x2, .ref x3, .ref x4, .ref o2, .ref o4, .ref o9, .ref o7, .ref o0, .ref o1])), (h, .inr (7, [.ref jj, .ref dd, .int (nI 0), .int (nI 0)])), (jj, aI k 36 (fun _ => 0)), (dd, aI k 6 (fun _ => 0))] "java/lang/IndexOutOfBoundsException" [(o, .inr (14, [.ref h, .ref pp, .ref x2, .ref x3, .ref x4, .ref o2, .ref o4, .ref o9, .ref o7, .ref o0, .ref o1])), (h, .inr (7, [.ref jj, .ref dd, .int (nI 0), .int (nI 0)])), (jj, aI k 36 (fun _ => 0)), (dd, aI k 6 (fun _ => 0))] 1 6 := by
  refine CT.of (lv0 := [(0, .ref o), (1, .int v)]) (by decide +kernel) (Nat.le_of_ble_eq_true rfl) rfl ?_
  intro p9 e9 s9 m9 bl9 me9 co9 C hr hlk hin had hex
  refine g_aload_n (pc := 0) C 0 rfl rfl dX10_topple_0 ?_
  refine g_iload_n (pc := 1) C 1 rfl rfl dX10_topple_1 ?_
  refine g_callVT (pc := 2) (cells := 0) (slots := 0) (g := 0) (As := [.int v]) (st := []) (T := TX10) (q0 := 0) C (nA := 1) rfl (c_X10_needVertex_x o h pp x2 x3 x4 o2 o4 o9 o7 o0 o1 jj dd v ) q_204 q_206 q_205 q_203 q_202 (by decide +kernel) rfl rfl dX10_topple_2 ⟨Nat.le_of_ble_eq_true rfl, Nat.le_of_ble_eq_true rfl⟩ [0, 1, 2, 3] [] rfl (wr := []) rfl (by decide) (by decide) (by decide) (Nat.le_of_ble_eq_true rfl) ⟨Nat.le_of_ble_eq_true rfl, Nat.le_of_ble_eq_true rfl⟩ ?_
  refine GT.re [0, 1, 2, 3] (ws' := [(o, .inr (14, [.ref h, .ref pp, .ref x2, .ref x3, .ref x4, .ref o2, .ref o4, .ref o9, .ref o7, .ref o0, .ref o1])), (h, .inr (7, [.ref jj, .ref dd, .int (nI 0), .int (nI 0)])), (jj, aI k 36 (fun _ => 0)), (dd, aI k 6 (fun _ => 0))]) (cells' := 1) (slots' := 6) (by decide) rfl rfl rfl ?_
  exact GT.out hlk hex (by first | decide | omega) (by first | decide | omega) rfl rfl
set_option maxRecDepth 100000 in
set_option maxHeartbeats 400000 in
theorem c_X10_count_x {l : Launch} {D : va_G} {k : Nat → ClassId} (o : Nat) (h : Nat) (pp : Nat) (x2 : Nat) (x3 : Nat) (x4 : Nat) (o2 : Nat) (o4 : Nat) (o9 : Nat) (o7 : Nat) (o0 : Nat) (o1 : Nat) (jj : Nat) (dd : Nat) (v : Int32)  : CT l D k yX10_count cX10_count 2 (some .int) 7 103 [.ref o, .int v] [(o, .inr (14, [.ref h, .ref pp, .ref x2, .ref x3, .ref x4, .ref o2, .ref o4, .ref o9, .ref o7, .ref o0, .ref o1])), (h, .inr (7, [.ref jj, .ref dd, .int (nI 0), .int (nI 0)])), (jj, aI k 36 (fun _ => 0)), (dd, aI k 6 (fun _ => 0))] "java/lang/IndexOutOfBoundsException" [(o, .inr (14, [.ref h, .ref pp, .ref x2, .ref x3, .ref x4, .ref o2, .ref o4, .ref o9, .ref o7, .ref o0, .ref o1])), (h, .inr (7, [.ref jj, .ref dd, .int (nI 0), .int (nI 0)])), (jj, aI k 36 (fun _ => 0)), (dd, aI k 6 (fun _ => 0))] 1 6 := by
  refine CT.of (lv0 := [(0, .ref o), (1, .int v)]) (by decide +kernel) (Nat.le_of_ble_eq_true rfl) rfl ?_
  intro p9 e9 s9 m9 bl9 me9 co9 C hr hlk hin had hex
  refine g_aload_n (pc := 0) C 0 rfl rfl dX10_count_0 ?_
  refine g_iload_n (pc := 1) C 1 rfl rfl dX10_count_1 ?_
  refine g_callVT (pc := 2) (cells := 0) (slots := 0) (g := 0) (As := [.int v]) (st := []) (T := TX10) (q0 := 0) C (nA := 1) rfl (c_X10_needVertex_x o h pp x2 x3 x4 o2 o4 o9 o7 o0 o1 jj dd v ) q_204 q_206 q_205 q_203 q_202 (by decide +kernel) rfl rfl dX10_count_2 ⟨Nat.le_of_ble_eq_true rfl, Nat.le_of_ble_eq_true rfl⟩ [0, 1, 2, 3] [] rfl (wr := []) rfl (by decide) (by decide) (by decide) (Nat.le_of_ble_eq_true rfl) ⟨Nat.le_of_ble_eq_true rfl, Nat.le_of_ble_eq_true rfl⟩ ?_
  refine GT.re [0, 1, 2, 3] (ws' := [(o, .inr (14, [.ref h, .ref pp, .ref x2, .ref x3, .ref x4, .ref o2, .ref o4, .ref o9, .ref o7, .ref o0, .ref o1])), (h, .inr (7, [.ref jj, .ref dd, .int (nI 0), .int (nI 0)])), (jj, aI k 36 (fun _ => 0)), (dd, aI k 6 (fun _ => 0))]) (cells' := 1) (slots' := 6) (by decide) rfl rfl rfl ?_
  exact GT.out hlk hex (by first | decide | omega) (by first | decide | omega) rfl rfl
set_option maxRecDepth 100000 in
set_option maxHeartbeats 400000 in
theorem c_X10_burns_x {l : Launch} {D : va_G} {k : Nat → ClassId} (o : Nat) (h : Nat) (pp : Nat) (x2 : Nat) (x3 : Nat) (x4 : Nat) (o2 : Nat) (o4 : Nat) (o9 : Nat) (o7 : Nat) (o0 : Nat) (o1 : Nat) (jj : Nat) (dd : Nat) (v : Int32)  : CT l D k yX10_burns cX10_burns 2 (some .int) 7 103 [.ref o, .int v] [(o, .inr (14, [.ref h, .ref pp, .ref x2, .ref x3, .ref x4, .ref o2, .ref o4, .ref o9, .ref o7, .ref o0, .ref o1])), (h, .inr (7, [.ref jj, .ref dd, .int (nI 0), .int (nI 0)])), (jj, aI k 36 (fun _ => 0)), (dd, aI k 6 (fun _ => 0))] "java/lang/IndexOutOfBoundsException" [(o, .inr (14, [.ref h, .ref pp, .ref x2, .ref x3, .ref x4, .ref o2, .ref o4, .ref o9, .ref o7, .ref o0, .ref o1])), (h, .inr (7, [.ref jj, .ref dd, .int (nI 0), .int (nI 0)])), (jj, aI k 36 (fun _ => 0)), (dd, aI k 6 (fun _ => 0))] 1 6 := by
  refine CT.of (lv0 := [(0, .ref o), (1, .int v)]) (by decide +kernel) (Nat.le_of_ble_eq_true rfl) rfl ?_
  intro p9 e9 s9 m9 bl9 me9 co9 C hr hlk hin had hex
  refine g_aload_n (pc := 0) C 0 rfl rfl dX10_burns_0 ?_
  refine g_iload_n (pc := 1) C 1 rfl rfl dX10_burns_1 ?_
  refine g_callVT (pc := 2) (cells := 0) (slots := 0) (g := 0) (As := [.int v]) (st := []) (T := TX10) (q0 := 0) C (nA := 1) rfl (c_X10_needVertex_x o h pp x2 x3 x4 o2 o4 o9 o7 o0 o1 jj dd v ) q_204 q_206 q_205 q_203 q_202 (by decide +kernel) rfl rfl dX10_burns_2 ⟨Nat.le_of_ble_eq_true rfl, Nat.le_of_ble_eq_true rfl⟩ [0, 1, 2, 3] [] rfl (wr := []) rfl (by decide) (by decide) (by decide) (Nat.le_of_ble_eq_true rfl) ⟨Nat.le_of_ble_eq_true rfl, Nat.le_of_ble_eq_true rfl⟩ ?_
  refine GT.re [0, 1, 2, 3] (ws' := [(o, .inr (14, [.ref h, .ref pp, .ref x2, .ref x3, .ref x4, .ref o2, .ref o4, .ref o9, .ref o7, .ref o0, .ref o1])), (h, .inr (7, [.ref jj, .ref dd, .int (nI 0), .int (nI 0)])), (jj, aI k 36 (fun _ => 0)), (dd, aI k 6 (fun _ => 0))]) (cells' := 1) (slots' := 6) (by decide) rfl rfl rfl ?_
  exact GT.out hlk hex (by first | decide | omega) (by first | decide | omega) rfl rfl
set_option maxRecDepth 100000 in
set_option maxHeartbeats 400000 in
theorem c_X10_unit_x {l : Launch} {D : va_G} {k : Nat → ClassId} (o : Nat) (h : Nat) (pp : Nat) (x2 : Nat) (x3 : Nat) (x4 : Nat) (o2 : Nat) (o4 : Nat) (o9 : Nat) (o7 : Nat) (o0 : Nat) (o1 : Nat) (jj : Nat) (dd : Nat) (v : Int32)  : CT l D k yX10_unit cX10_unit 2 (some .int) 7 103 [.ref o, .int v] [(o, .inr (14, [.ref h, .ref pp, .ref x2, .ref x3, .ref x4, .ref o2, .ref o4, .ref o9, .ref o7, .ref o0, .ref o1])), (h, .inr (7, [.ref jj, .ref dd, .int (nI 0), .int (nI 0)])), (jj, aI k 36 (fun _ => 0)), (dd, aI k 6 (fun _ => 0))] "java/lang/IndexOutOfBoundsException" [(o, .inr (14, [.ref h, .ref pp, .ref x2, .ref x3, .ref x4, .ref o2, .ref o4, .ref o9, .ref o7, .ref o0, .ref o1])), (h, .inr (7, [.ref jj, .ref dd, .int (nI 0), .int (nI 0)])), (jj, aI k 36 (fun _ => 0)), (dd, aI k 6 (fun _ => 0))] 1 6 := by
  refine CT.of (lv0 := [(0, .ref o), (1, .int v)]) (by decide +kernel) (Nat.le_of_ble_eq_true rfl) rfl ?_
  intro p9 e9 s9 m9 bl9 me9 co9 C hr hlk hin had hex
  refine g_aload_n (pc := 0) C 0 rfl rfl dX10_unit_0 ?_
  refine g_iload_n (pc := 1) C 1 rfl rfl dX10_unit_1 ?_
  refine g_callVT (pc := 2) (cells := 0) (slots := 0) (g := 0) (As := [.int v]) (st := []) (T := TX10) (q0 := 0) C (nA := 1) rfl (c_X10_needVertex_x o h pp x2 x3 x4 o2 o4 o9 o7 o0 o1 jj dd v ) q_204 q_206 q_205 q_203 q_202 (by decide +kernel) rfl rfl dX10_unit_2 ⟨Nat.le_of_ble_eq_true rfl, Nat.le_of_ble_eq_true rfl⟩ [0, 1, 2, 3] [] rfl (wr := []) rfl (by decide) (by decide) (by decide) (Nat.le_of_ble_eq_true rfl) ⟨Nat.le_of_ble_eq_true rfl, Nat.le_of_ble_eq_true rfl⟩ ?_
  refine GT.re [0, 1, 2, 3] (ws' := [(o, .inr (14, [.ref h, .ref pp, .ref x2, .ref x3, .ref x4, .ref o2, .ref o4, .ref o9, .ref o7, .ref o0, .ref o1])), (h, .inr (7, [.ref jj, .ref dd, .int (nI 0), .int (nI 0)])), (jj, aI k 36 (fun _ => 0)), (dd, aI k 6 (fun _ => 0))]) (cells' := 1) (slots' := 6) (by decide) rfl rfl rfl ?_
  exact GT.out hlk hex (by first | decide | omega) (by first | decide | omega) rfl rfl
set_option maxRecDepth 100000 in
set_option maxHeartbeats 400000 in
theorem c_X10_walk_x {l : Launch} {D : va_G} {k : Nat → ClassId} (o : Nat) (h : Nat) (pp : Nat) (x2 : Nat) (x3 : Nat) (x4 : Nat) (o2 : Nat) (o4 : Nat) (o9 : Nat) (o7 : Nat) (o0 : Nat) (o1 : Nat) (jj : Nat) (dd : Nat) (v : Int32)  : CT l D k yX10_walk cX10_walk 2 (some .int) 7 103 [.ref o, .int v] [(o, .inr (14, [.ref h, .ref pp, .ref x2, .ref x3, .ref x4, .ref o2, .ref o4, .ref o9, .ref o7, .ref o0, .ref o1])), (h, .inr (7, [.ref jj, .ref dd, .int (nI 0), .int (nI 0)])), (jj, aI k 36 (fun _ => 0)), (dd, aI k 6 (fun _ => 0))] "java/lang/IndexOutOfBoundsException" [(o, .inr (14, [.ref h, .ref pp, .ref x2, .ref x3, .ref x4, .ref o2, .ref o4, .ref o9, .ref o7, .ref o0, .ref o1])), (h, .inr (7, [.ref jj, .ref dd, .int (nI 0), .int (nI 0)])), (jj, aI k 36 (fun _ => 0)), (dd, aI k 6 (fun _ => 0))] 1 6 := by
  refine CT.of (lv0 := [(0, .ref o), (1, .int v)]) (by decide +kernel) (Nat.le_of_ble_eq_true rfl) rfl ?_
  intro p9 e9 s9 m9 bl9 me9 co9 C hr hlk hin had hex
  refine g_aload_n (pc := 0) C 0 rfl rfl dX10_walk_0 ?_
  refine g_iload_n (pc := 1) C 1 rfl rfl dX10_walk_1 ?_
  refine g_callVT (pc := 2) (cells := 0) (slots := 0) (g := 0) (As := [.int v]) (st := []) (T := TX10) (q0 := 0) C (nA := 1) rfl (c_X10_needVertex_x o h pp x2 x3 x4 o2 o4 o9 o7 o0 o1 jj dd v ) q_204 q_206 q_205 q_203 q_202 (by decide +kernel) rfl rfl dX10_walk_2 ⟨Nat.le_of_ble_eq_true rfl, Nat.le_of_ble_eq_true rfl⟩ [0, 1, 2, 3] [] rfl (wr := []) rfl (by decide) (by decide) (by decide) (Nat.le_of_ble_eq_true rfl) ⟨Nat.le_of_ble_eq_true rfl, Nat.le_of_ble_eq_true rfl⟩ ?_
  refine GT.re [0, 1, 2, 3] (ws' := [(o, .inr (14, [.ref h, .ref pp, .ref x2, .ref x3, .ref x4, .ref o2, .ref o4, .ref o9, .ref o7, .ref o0, .ref o1])), (h, .inr (7, [.ref jj, .ref dd, .int (nI 0), .int (nI 0)])), (jj, aI k 36 (fun _ => 0)), (dd, aI k 6 (fun _ => 0))]) (cells' := 1) (slots' := 6) (by decide) rfl rfl rfl ?_
  exact GT.out hlk hex (by first | decide | omega) (by first | decide | omega) rfl rfl
set_option maxRecDepth 100000 in
set_option maxHeartbeats 400000 in
theorem c_X10_rotor_x {l : Launch} {D : va_G} {k : Nat → ClassId} (o : Nat) (h : Nat) (pp : Nat) (x2 : Nat) (x3 : Nat) (x4 : Nat) (o2 : Nat) (o4 : Nat) (o9 : Nat) (o7 : Nat) (o0 : Nat) (o1 : Nat) (jj : Nat) (dd : Nat) (v : Int32)  : CT l D k yX10_rotor cX10_rotor 2 (some .int) 7 103 [.ref o, .int v] [(o, .inr (14, [.ref h, .ref pp, .ref x2, .ref x3, .ref x4, .ref o2, .ref o4, .ref o9, .ref o7, .ref o0, .ref o1])), (h, .inr (7, [.ref jj, .ref dd, .int (nI 0), .int (nI 0)])), (jj, aI k 36 (fun _ => 0)), (dd, aI k 6 (fun _ => 0))] "java/lang/IndexOutOfBoundsException" [(o, .inr (14, [.ref h, .ref pp, .ref x2, .ref x3, .ref x4, .ref o2, .ref o4, .ref o9, .ref o7, .ref o0, .ref o1])), (h, .inr (7, [.ref jj, .ref dd, .int (nI 0), .int (nI 0)])), (jj, aI k 36 (fun _ => 0)), (dd, aI k 6 (fun _ => 0))] 1 6 := by
  refine CT.of (lv0 := [(0, .ref o), (1, .int v)]) (by decide +kernel) (Nat.le_of_ble_eq_true rfl) rfl ?_
  intro p9 e9 s9 m9 bl9 me9 co9 C hr hlk hin had hex
  refine g_aload_n (pc := 0) C 0 rfl rfl dX10_rotor_0 ?_
  refine g_iload_n (pc := 1) C 1 rfl rfl dX10_rotor_1 ?_
  refine g_callVT (pc := 2) (cells := 0) (slots := 0) (g := 0) (As := [.int v]) (st := []) (T := TX10) (q0 := 0) C (nA := 1) rfl (c_X10_needVertex_x o h pp x2 x3 x4 o2 o4 o9 o7 o0 o1 jj dd v ) q_204 q_206 q_205 q_203 q_202 (by decide +kernel) rfl rfl dX10_rotor_2 ⟨Nat.le_of_ble_eq_true rfl, Nat.le_of_ble_eq_true rfl⟩ [0, 1, 2, 3] [] rfl (wr := []) rfl (by decide) (by decide) (by decide) (Nat.le_of_ble_eq_true rfl) ⟨Nat.le_of_ble_eq_true rfl, Nat.le_of_ble_eq_true rfl⟩ ?_
  refine GT.re [0, 1, 2, 3] (ws' := [(o, .inr (14, [.ref h, .ref pp, .ref x2, .ref x3, .ref x4, .ref o2, .ref o4, .ref o9, .ref o7, .ref o0, .ref o1])), (h, .inr (7, [.ref jj, .ref dd, .int (nI 0), .int (nI 0)])), (jj, aI k 36 (fun _ => 0)), (dd, aI k 6 (fun _ => 0))]) (cells' := 1) (slots' := 6) (by decide) rfl rfl rfl ?_
  exact GT.out hlk hex (by first | decide | omega) (by first | decide | omega) rfl rfl
set_option maxRecDepth 100000 in
set_option maxHeartbeats 400000 in
theorem c_X10_visits_x {l : Launch} {D : va_G} {k : Nat → ClassId} (o : Nat) (h : Nat) (pp : Nat) (x2 : Nat) (x3 : Nat) (x4 : Nat) (o2 : Nat) (o4 : Nat) (o9 : Nat) (o7 : Nat) (o0 : Nat) (o1 : Nat) (jj : Nat) (dd : Nat) (v : Int32)  : CT l D k yX10_visits cX10_visits 2 (some .int) 7 103 [.ref o, .int v] [(o, .inr (14, [.ref h, .ref pp, .ref x2, .ref x3, .ref x4, .ref o2, .ref o4, .ref o9, .ref o7, .ref o0, .ref o1])), (h, .inr (7, [.ref jj, .ref dd, .int (nI 0), .int (nI 0)])), (jj, aI k 36 (fun _ => 0)), (dd, aI k 6 (fun _ => 0))] "java/lang/IndexOutOfBoundsException" [(o, .inr (14, [.ref h, .ref pp, .ref x2, .ref x3, .ref x4, .ref o2, .ref o4, .ref o9, .ref o7, .ref o0, .ref o1])), (h, .inr (7, [.ref jj, .ref dd, .int (nI 0), .int (nI 0)])), (jj, aI k 36 (fun _ => 0)), (dd, aI k 6 (fun _ => 0))] 1 6 := by
  refine CT.of (lv0 := [(0, .ref o), (1, .int v)]) (by decide +kernel) (Nat.le_of_ble_eq_true rfl) rfl ?_
  intro p9 e9 s9 m9 bl9 me9 co9 C hr hlk hin had hex
  refine g_aload_n (pc := 0) C 0 rfl rfl dX10_visits_0 ?_
  refine g_iload_n (pc := 1) C 1 rfl rfl dX10_visits_1 ?_
  refine g_callVT (pc := 2) (cells := 0) (slots := 0) (g := 0) (As := [.int v]) (st := []) (T := TX10) (q0 := 0) C (nA := 1) rfl (c_X10_needVertex_x o h pp x2 x3 x4 o2 o4 o9 o7 o0 o1 jj dd v ) q_204 q_206 q_205 q_203 q_202 (by decide +kernel) rfl rfl dX10_visits_2 ⟨Nat.le_of_ble_eq_true rfl, Nat.le_of_ble_eq_true rfl⟩ [0, 1, 2, 3] [] rfl (wr := []) rfl (by decide) (by decide) (by decide) (Nat.le_of_ble_eq_true rfl) ⟨Nat.le_of_ble_eq_true rfl, Nat.le_of_ble_eq_true rfl⟩ ?_
  refine GT.re [0, 1, 2, 3] (ws' := [(o, .inr (14, [.ref h, .ref pp, .ref x2, .ref x3, .ref x4, .ref o2, .ref o4, .ref o9, .ref o7, .ref o0, .ref o1])), (h, .inr (7, [.ref jj, .ref dd, .int (nI 0), .int (nI 0)])), (jj, aI k 36 (fun _ => 0)), (dd, aI k 6 (fun _ => 0))]) (cells' := 1) (slots' := 6) (by decide) rfl rfl rfl ?_
  exact GT.out hlk hex (by first | decide | omega) (by first | decide | omega) rfl rfl
set_option maxRecDepth 100000 in
set_option maxHeartbeats 400000 in
theorem c_X10_setDebt_x {l : Launch} {D : va_G} {k : Nat → ClassId} (o : Nat) (h : Nat) (pp : Nat) (x2 : Nat) (x3 : Nat) (x4 : Nat) (o2 : Nat) (o4 : Nat) (o9 : Nat) (o7 : Nat) (o0 : Nat) (o1 : Nat) (jj : Nat) (dd : Nat) (v : Int32) (y : Int32)  : CT l D k yX10_setDebt cX10_setDebt 4 (some .int) 7 103 [.ref o, .int v, .int y] [(o, .inr (14, [.ref h, .ref pp, .ref x2, .ref x3, .ref x4, .ref o2, .ref o4, .ref o9, .ref o7, .ref o0, .ref o1])), (h, .inr (7, [.ref jj, .ref dd, .int (nI 0), .int (nI 0)])), (jj, aI k 36 (fun _ => 0)), (dd, aI k 6 (fun _ => 0))] "java/lang/IndexOutOfBoundsException" [(o, .inr (14, [.ref h, .ref pp, .ref x2, .ref x3, .ref x4, .ref o2, .ref o4, .ref o9, .ref o7, .ref o0, .ref o1])), (h, .inr (7, [.ref jj, .ref dd, .int (nI 0), .int (nI 0)])), (jj, aI k 36 (fun _ => 0)), (dd, aI k 6 (fun _ => 0))] 1 6 := by
  refine CT.of (lv0 := [(0, .ref o), (1, .int v), (2, .int y)]) (by decide +kernel) (Nat.le_of_ble_eq_true rfl) rfl ?_
  intro p9 e9 s9 m9 bl9 me9 co9 C hr hlk hin had hex
  refine g_aload_n (pc := 0) C 0 rfl rfl dX10_setDebt_0 ?_
  refine g_iload_n (pc := 1) C 1 rfl rfl dX10_setDebt_1 ?_
  refine g_callVT (pc := 2) (cells := 0) (slots := 0) (g := 0) (As := [.int v]) (st := []) (T := TX10) (q0 := 0) C (nA := 1) rfl (c_X10_needVertex_x o h pp x2 x3 x4 o2 o4 o9 o7 o0 o1 jj dd v ) q_204 q_206 q_205 q_203 q_202 (by decide +kernel) rfl rfl dX10_setDebt_2 ⟨Nat.le_of_ble_eq_true rfl, Nat.le_of_ble_eq_true rfl⟩ [0, 1, 2, 3] [] rfl (wr := []) rfl (by decide) (by decide) (by decide) (Nat.le_of_ble_eq_true rfl) ⟨Nat.le_of_ble_eq_true rfl, Nat.le_of_ble_eq_true rfl⟩ ?_
  refine GT.re [0, 1, 2, 3] (ws' := [(o, .inr (14, [.ref h, .ref pp, .ref x2, .ref x3, .ref x4, .ref o2, .ref o4, .ref o9, .ref o7, .ref o0, .ref o1])), (h, .inr (7, [.ref jj, .ref dd, .int (nI 0), .int (nI 0)])), (jj, aI k 36 (fun _ => 0)), (dd, aI k 6 (fun _ => 0))]) (cells' := 1) (slots' := 6) (by decide) rfl rfl rfl ?_
  exact GT.out hlk hex (by first | decide | omega) (by first | decide | omega) rfl rfl
set_option maxRecDepth 100000 in
set_option maxHeartbeats 400000 in
theorem c_X10_deal_x {l : Launch} {D : va_G} {k : Nat → ClassId} (o : Nat) (h : Nat) (pp : Nat) (x2 : Nat) (x3 : Nat) (x4 : Nat) (o2 : Nat) (o4 : Nat) (o9 : Nat) (o7 : Nat) (o0 : Nat) (o1 : Nat) (jj : Nat) (dd : Nat) (v : Int32) (y : Int32)  : CT l D k yX10_deal cX10_deal 6 (some .int) 7 103 [.ref o, .int v, .int y] [(o, .inr (14, [.ref h, .ref pp, .ref x2, .ref x3, .ref x4, .ref o2, .ref o4, .ref o9, .ref o7, .ref o0, .ref o1])), (h, .inr (7, [.ref jj, .ref dd, .int (nI 0), .int (nI 0)])), (jj, aI k 36 (fun _ => 0)), (dd, aI k 6 (fun _ => 0))] "java/lang/IndexOutOfBoundsException" [(o, .inr (14, [.ref h, .ref pp, .ref x2, .ref x3, .ref x4, .ref o2, .ref o4, .ref o9, .ref o7, .ref o0, .ref o1])), (h, .inr (7, [.ref jj, .ref dd, .int (nI 0), .int (nI 0)])), (jj, aI k 36 (fun _ => 0)), (dd, aI k 6 (fun _ => 0))] 1 6 := by
  refine CT.of (lv0 := [(0, .ref o), (1, .int v), (2, .int y)]) (by decide +kernel) (Nat.le_of_ble_eq_true rfl) rfl ?_
  intro p9 e9 s9 m9 bl9 me9 co9 C hr hlk hin had hex
  refine g_aload_n (pc := 0) C 0 rfl rfl dX10_deal_0 ?_
  refine g_iload_n (pc := 1) C 1 rfl rfl dX10_deal_1 ?_
  refine g_callVT (pc := 2) (cells := 0) (slots := 0) (g := 0) (As := [.int v]) (st := []) (T := TX10) (q0 := 0) C (nA := 1) rfl (c_X10_needVertex_x o h pp x2 x3 x4 o2 o4 o9 o7 o0 o1 jj dd v ) q_204 q_206 q_205 q_203 q_202 (by decide +kernel) rfl rfl dX10_deal_2 ⟨Nat.le_of_ble_eq_true rfl, Nat.le_of_ble_eq_true rfl⟩ [0, 1, 2, 3] [] rfl (wr := []) rfl (by decide) (by decide) (by decide) (Nat.le_of_ble_eq_true rfl) ⟨Nat.le_of_ble_eq_true rfl, Nat.le_of_ble_eq_true rfl⟩ ?_
  refine GT.re [0, 1, 2, 3] (ws' := [(o, .inr (14, [.ref h, .ref pp, .ref x2, .ref x3, .ref x4, .ref o2, .ref o4, .ref o9, .ref o7, .ref o0, .ref o1])), (h, .inr (7, [.ref jj, .ref dd, .int (nI 0), .int (nI 0)])), (jj, aI k 36 (fun _ => 0)), (dd, aI k 6 (fun _ => 0))]) (cells' := 1) (slots' := 6) (by decide) rfl rfl rfl ?_
  exact GT.out hlk hex (by first | decide | omega) (by first | decide | omega) rfl rfl
set_option maxRecDepth 100000 in
set_option maxHeartbeats 400000 in
theorem c_X10_debt_x {l : Launch} {D : va_G} {k : Nat → ClassId} (o : Nat) (h : Nat) (pp : Nat) (x2 : Nat) (x3 : Nat) (x4 : Nat) (o2 : Nat) (o4 : Nat) (o9 : Nat) (o7 : Nat) (o0 : Nat) (o1 : Nat) (jj : Nat) (dd : Nat) (v : Int32)  : CT l D k yX10_debt cX10_debt 2 (some .int) 7 103 [.ref o, .int v] [(o, .inr (14, [.ref h, .ref pp, .ref x2, .ref x3, .ref x4, .ref o2, .ref o4, .ref o9, .ref o7, .ref o0, .ref o1])), (h, .inr (7, [.ref jj, .ref dd, .int (nI 0), .int (nI 0)])), (jj, aI k 36 (fun _ => 0)), (dd, aI k 6 (fun _ => 0))] "java/lang/IndexOutOfBoundsException" [(o, .inr (14, [.ref h, .ref pp, .ref x2, .ref x3, .ref x4, .ref o2, .ref o4, .ref o9, .ref o7, .ref o0, .ref o1])), (h, .inr (7, [.ref jj, .ref dd, .int (nI 0), .int (nI 0)])), (jj, aI k 36 (fun _ => 0)), (dd, aI k 6 (fun _ => 0))] 1 6 := by
  refine CT.of (lv0 := [(0, .ref o), (1, .int v)]) (by decide +kernel) (Nat.le_of_ble_eq_true rfl) rfl ?_
  intro p9 e9 s9 m9 bl9 me9 co9 C hr hlk hin had hex
  refine g_aload_n (pc := 0) C 0 rfl rfl dX10_debt_0 ?_
  refine g_iload_n (pc := 1) C 1 rfl rfl dX10_debt_1 ?_
  refine g_callVT (pc := 2) (cells := 0) (slots := 0) (g := 0) (As := [.int v]) (st := []) (T := TX10) (q0 := 0) C (nA := 1) rfl (c_X10_needVertex_x o h pp x2 x3 x4 o2 o4 o9 o7 o0 o1 jj dd v ) q_204 q_206 q_205 q_203 q_202 (by decide +kernel) rfl rfl dX10_debt_2 ⟨Nat.le_of_ble_eq_true rfl, Nat.le_of_ble_eq_true rfl⟩ [0, 1, 2, 3] [] rfl (wr := []) rfl (by decide) (by decide) (by decide) (Nat.le_of_ble_eq_true rfl) ⟨Nat.le_of_ble_eq_true rfl, Nat.le_of_ble_eq_true rfl⟩ ?_
  refine GT.re [0, 1, 2, 3] (ws' := [(o, .inr (14, [.ref h, .ref pp, .ref x2, .ref x3, .ref x4, .ref o2, .ref o4, .ref o9, .ref o7, .ref o0, .ref o1])), (h, .inr (7, [.ref jj, .ref dd, .int (nI 0), .int (nI 0)])), (jj, aI k 36 (fun _ => 0)), (dd, aI k 6 (fun _ => 0))]) (cells' := 1) (slots' := 6) (by decide) rfl rfl rfl ?_
  exact GT.out hlk hex (by first | decide | omega) (by first | decide | omega) rfl rfl
set_option maxRecDepth 100000 in
set_option maxHeartbeats 400000 in
theorem c_X10_reduced_x {l : Launch} {D : va_G} {k : Nat → ClassId} (o : Nat) (h : Nat) (pp : Nat) (x2 : Nat) (x3 : Nat) (x4 : Nat) (o2 : Nat) (o4 : Nat) (o9 : Nat) (o7 : Nat) (o0 : Nat) (o1 : Nat) (jj : Nat) (dd : Nat) (v : Int32)  : CT l D k yX10_reduced cX10_reduced 2 (some .int) 7 103 [.ref o, .int v] [(o, .inr (14, [.ref h, .ref pp, .ref x2, .ref x3, .ref x4, .ref o2, .ref o4, .ref o9, .ref o7, .ref o0, .ref o1])), (h, .inr (7, [.ref jj, .ref dd, .int (nI 0), .int (nI 0)])), (jj, aI k 36 (fun _ => 0)), (dd, aI k 6 (fun _ => 0))] "java/lang/IndexOutOfBoundsException" [(o, .inr (14, [.ref h, .ref pp, .ref x2, .ref x3, .ref x4, .ref o2, .ref o4, .ref o9, .ref o7, .ref o0, .ref o1])), (h, .inr (7, [.ref jj, .ref dd, .int (nI 0), .int (nI 0)])), (jj, aI k 36 (fun _ => 0)), (dd, aI k 6 (fun _ => 0))] 1 6 := by
  refine CT.of (lv0 := [(0, .ref o), (1, .int v)]) (by decide +kernel) (Nat.le_of_ble_eq_true rfl) rfl ?_
  intro p9 e9 s9 m9 bl9 me9 co9 C hr hlk hin had hex
  refine g_aload_n (pc := 0) C 0 rfl rfl dX10_reduced_0 ?_
  refine g_iload_n (pc := 1) C 1 rfl rfl dX10_reduced_1 ?_
  refine g_callVT (pc := 2) (cells := 0) (slots := 0) (g := 0) (As := [.int v]) (st := []) (T := TX10) (q0 := 0) C (nA := 1) rfl (c_X10_needVertex_x o h pp x2 x3 x4 o2 o4 o9 o7 o0 o1 jj dd v ) q_204 q_206 q_205 q_203 q_202 (by decide +kernel) rfl rfl dX10_reduced_2 ⟨Nat.le_of_ble_eq_true rfl, Nat.le_of_ble_eq_true rfl⟩ [0, 1, 2, 3] [] rfl (wr := []) rfl (by decide) (by decide) (by decide) (Nat.le_of_ble_eq_true rfl) ⟨Nat.le_of_ble_eq_true rfl, Nat.le_of_ble_eq_true rfl⟩ ?_
  refine GT.re [0, 1, 2, 3] (ws' := [(o, .inr (14, [.ref h, .ref pp, .ref x2, .ref x3, .ref x4, .ref o2, .ref o4, .ref o9, .ref o7, .ref o0, .ref o1])), (h, .inr (7, [.ref jj, .ref dd, .int (nI 0), .int (nI 0)])), (jj, aI k 36 (fun _ => 0)), (dd, aI k 6 (fun _ => 0))]) (cells' := 1) (slots' := 6) (by decide) rfl rfl rfl ?_
  exact GT.out hlk hex (by first | decide | omega) (by first | decide | omega) rfl rfl
set_option maxRecDepth 100000 in
set_option maxHeartbeats 400000 in
theorem c_X10_settle_x {l : Launch} {D : va_G} {k : Nat → ClassId} (o : Nat) (h : Nat) (pp : Nat) (x2 : Nat) (x3 : Nat) (x4 : Nat) (o2 : Nat) (o4 : Nat) (o9 : Nat) (o7 : Nat) (o0 : Nat) (o1 : Nat) (jj : Nat) (dd : Nat)  : CT l D k yX10_settle cX10_settle 1 (some .int) 7 102 [.ref o] [(o, .inr (14, [.ref h, .ref pp, .ref x2, .ref x3, .ref x4, .ref o2, .ref o4, .ref o9, .ref o7, .ref o0, .ref o1])), (h, .inr (7, [.ref jj, .ref dd, .int (nI 0), .int (nI 0)])), (jj, aI k 36 (fun _ => 0)), (dd, aI k 6 (fun _ => 0))] "java/lang/UnsupportedOperationException" [(o, .inr (14, [.ref h, .ref pp, .ref x2, .ref x3, .ref x4, .ref o2, .ref o4, .ref o9, .ref o7, .ref o0, .ref o1])), (h, .inr (7, [.ref jj, .ref dd, .int (nI 0), .int (nI 0)])), (jj, aI k 36 (fun _ => 0)), (dd, aI k 6 (fun _ => 0))] 1 6 := by
  refine CT.of (lv0 := [(0, .ref o)]) (by decide +kernel) (Nat.le_of_ble_eq_true rfl) rfl ?_
  intro p9 e9 s9 m9 bl9 me9 co9 C hr hlk hin had hex
  refine g_aload_n (pc := 0) C 0 rfl rfl dX10_settle_0 ?_
  refine g_callVT (pc := 1) (cells := 0) (slots := 0) (g := 0) (As := []) (st := []) (T := TX10) (q0 := 0) C (nA := 0) rfl (c_X10_needWhole_x o h pp x2 x3 x4 o2 o4 o9 o7 o0 o1 jj dd ) q_208 q_210 q_209 q_203 q_207 (by decide +kernel) rfl rfl dX10_settle_1 ⟨Nat.le_of_ble_eq_true rfl, Nat.le_of_ble_eq_true rfl⟩ [0, 1, 2, 3] [] rfl (wr := []) rfl (by decide) (by decide) (by decide) (Nat.le_of_ble_eq_true rfl) ⟨Nat.le_of_ble_eq_true rfl, Nat.le_of_ble_eq_true rfl⟩ ?_
  refine GT.re [0, 1, 2, 3] (ws' := [(o, .inr (14, [.ref h, .ref pp, .ref x2, .ref x3, .ref x4, .ref o2, .ref o4, .ref o9, .ref o7, .ref o0, .ref o1])), (h, .inr (7, [.ref jj, .ref dd, .int (nI 0), .int (nI 0)])), (jj, aI k 36 (fun _ => 0)), (dd, aI k 6 (fun _ => 0))]) (cells' := 1) (slots' := 6) (by decide) rfl rfl rfl ?_
  exact GT.out hlk hex (by first | decide | omega) (by first | decide | omega) rfl rfl
set_option maxRecDepth 100000 in
set_option maxHeartbeats 400000 in
theorem c_X10_waves_x {l : Launch} {D : va_G} {k : Nat → ClassId} (o : Nat) (h : Nat) (pp : Nat) (x2 : Nat) (x3 : Nat) (x4 : Nat) (o2 : Nat) (o4 : Nat) (o9 : Nat) (o7 : Nat) (o0 : Nat) (o1 : Nat) (jj : Nat) (dd : Nat)  : CT l D k yX10_waves cX10_waves 2 (some .int) 7 102 [.ref o] [(o, .inr (14, [.ref h, .ref pp, .ref x2, .ref x3, .ref x4, .ref o2, .ref o4, .ref o9, .ref o7, .ref o0, .ref o1])), (h, .inr (7, [.ref jj, .ref dd, .int (nI 0), .int (nI 0)])), (jj, aI k 36 (fun _ => 0)), (dd, aI k 6 (fun _ => 0))] "java/lang/UnsupportedOperationException" [(o, .inr (14, [.ref h, .ref pp, .ref x2, .ref x3, .ref x4, .ref o2, .ref o4, .ref o9, .ref o7, .ref o0, .ref o1])), (h, .inr (7, [.ref jj, .ref dd, .int (nI 0), .int (nI 0)])), (jj, aI k 36 (fun _ => 0)), (dd, aI k 6 (fun _ => 0))] 1 6 := by
  refine CT.of (lv0 := [(0, .ref o)]) (by decide +kernel) (Nat.le_of_ble_eq_true rfl) rfl ?_
  intro p9 e9 s9 m9 bl9 me9 co9 C hr hlk hin had hex
  refine g_aload_n (pc := 0) C 0 rfl rfl dX10_waves_0 ?_
  refine g_callVT (pc := 1) (cells := 0) (slots := 0) (g := 0) (As := []) (st := []) (T := TX10) (q0 := 0) C (nA := 0) rfl (c_X10_needWhole_x o h pp x2 x3 x4 o2 o4 o9 o7 o0 o1 jj dd ) q_208 q_210 q_209 q_203 q_207 (by decide +kernel) rfl rfl dX10_waves_1 ⟨Nat.le_of_ble_eq_true rfl, Nat.le_of_ble_eq_true rfl⟩ [0, 1, 2, 3] [] rfl (wr := []) rfl (by decide) (by decide) (by decide) (Nat.le_of_ble_eq_true rfl) ⟨Nat.le_of_ble_eq_true rfl, Nat.le_of_ble_eq_true rfl⟩ ?_
  refine GT.re [0, 1, 2, 3] (ws' := [(o, .inr (14, [.ref h, .ref pp, .ref x2, .ref x3, .ref x4, .ref o2, .ref o4, .ref o9, .ref o7, .ref o0, .ref o1])), (h, .inr (7, [.ref jj, .ref dd, .int (nI 0), .int (nI 0)])), (jj, aI k 36 (fun _ => 0)), (dd, aI k 6 (fun _ => 0))]) (cells' := 1) (slots' := 6) (by decide) rfl rfl rfl ?_
  exact GT.out hlk hex (by first | decide | omega) (by first | decide | omega) rfl rfl
set_option maxRecDepth 100000 in
set_option maxHeartbeats 400000 in
theorem c_X10_isAgain_x {l : Launch} {D : va_G} {k : Nat → ClassId} (o : Nat) (h : Nat) (pp : Nat) (x2 : Nat) (x3 : Nat) (x4 : Nat) (o2 : Nat) (o4 : Nat) (o9 : Nat) (o7 : Nat) (o0 : Nat) (o1 : Nat) (jj : Nat) (dd : Nat)  : CT l D k yX10_isAgain cX10_isAgain 2 (some .boolean) 7 102 [.ref o] [(o, .inr (14, [.ref h, .ref pp, .ref x2, .ref x3, .ref x4, .ref o2, .ref o4, .ref o9, .ref o7, .ref o0, .ref o1])), (h, .inr (7, [.ref jj, .ref dd, .int (nI 0), .int (nI 0)])), (jj, aI k 36 (fun _ => 0)), (dd, aI k 6 (fun _ => 0))] "java/lang/UnsupportedOperationException" [(o, .inr (14, [.ref h, .ref pp, .ref x2, .ref x3, .ref x4, .ref o2, .ref o4, .ref o9, .ref o7, .ref o0, .ref o1])), (h, .inr (7, [.ref jj, .ref dd, .int (nI 0), .int (nI 0)])), (jj, aI k 36 (fun _ => 0)), (dd, aI k 6 (fun _ => 0))] 1 6 := by
  refine CT.of (lv0 := [(0, .ref o)]) (by decide +kernel) (Nat.le_of_ble_eq_true rfl) rfl ?_
  intro p9 e9 s9 m9 bl9 me9 co9 C hr hlk hin had hex
  refine g_aload_n (pc := 0) C 0 rfl rfl dX10_isAgain_0 ?_
  refine g_callVT (pc := 1) (cells := 0) (slots := 0) (g := 0) (As := []) (st := []) (T := TX10) (q0 := 0) C (nA := 0) rfl (c_X10_needWhole_x o h pp x2 x3 x4 o2 o4 o9 o7 o0 o1 jj dd ) q_208 q_210 q_209 q_203 q_207 (by decide +kernel) rfl rfl dX10_isAgain_1 ⟨Nat.le_of_ble_eq_true rfl, Nat.le_of_ble_eq_true rfl⟩ [0, 1, 2, 3] [] rfl (wr := []) rfl (by decide) (by decide) (by decide) (Nat.le_of_ble_eq_true rfl) ⟨Nat.le_of_ble_eq_true rfl, Nat.le_of_ble_eq_true rfl⟩ ?_
  refine GT.re [0, 1, 2, 3] (ws' := [(o, .inr (14, [.ref h, .ref pp, .ref x2, .ref x3, .ref x4, .ref o2, .ref o4, .ref o9, .ref o7, .ref o0, .ref o1])), (h, .inr (7, [.ref jj, .ref dd, .int (nI 0), .int (nI 0)])), (jj, aI k 36 (fun _ => 0)), (dd, aI k 6 (fun _ => 0))]) (cells' := 1) (slots' := 6) (by decide) rfl rfl rfl ?_
  exact GT.out hlk hex (by first | decide | omega) (by first | decide | omega) rfl rfl
set_option maxRecDepth 100000 in
set_option maxHeartbeats 400000 in
theorem c_X10_square_x {l : Launch} {D : va_G} {k : Nat → ClassId} (o : Nat) (h : Nat) (pp : Nat) (x2 : Nat) (x3 : Nat) (x4 : Nat) (o2 : Nat) (o4 : Nat) (o9 : Nat) (o7 : Nat) (o0 : Nat) (o1 : Nat) (jj : Nat) (dd : Nat)  : CT l D k yX10_square cX10_square 2 (some .int) 7 102 [.ref o] [(o, .inr (14, [.ref h, .ref pp, .ref x2, .ref x3, .ref x4, .ref o2, .ref o4, .ref o9, .ref o7, .ref o0, .ref o1])), (h, .inr (7, [.ref jj, .ref dd, .int (nI 0), .int (nI 0)])), (jj, aI k 36 (fun _ => 0)), (dd, aI k 6 (fun _ => 0))] "java/lang/UnsupportedOperationException" [(o, .inr (14, [.ref h, .ref pp, .ref x2, .ref x3, .ref x4, .ref o2, .ref o4, .ref o9, .ref o7, .ref o0, .ref o1])), (h, .inr (7, [.ref jj, .ref dd, .int (nI 0), .int (nI 0)])), (jj, aI k 36 (fun _ => 0)), (dd, aI k 6 (fun _ => 0))] 1 6 := by
  refine CT.of (lv0 := [(0, .ref o)]) (by decide +kernel) (Nat.le_of_ble_eq_true rfl) rfl ?_
  intro p9 e9 s9 m9 bl9 me9 co9 C hr hlk hin had hex
  refine g_aload_n (pc := 0) C 0 rfl rfl dX10_square_0 ?_
  refine g_callVT (pc := 1) (cells := 0) (slots := 0) (g := 0) (As := []) (st := []) (T := TX10) (q0 := 0) C (nA := 0) rfl (c_X10_needWhole_x o h pp x2 x3 x4 o2 o4 o9 o7 o0 o1 jj dd ) q_208 q_210 q_209 q_203 q_207 (by decide +kernel) rfl rfl dX10_square_1 ⟨Nat.le_of_ble_eq_true rfl, Nat.le_of_ble_eq_true rfl⟩ [0, 1, 2, 3] [] rfl (wr := []) rfl (by decide) (by decide) (by decide) (Nat.le_of_ble_eq_true rfl) ⟨Nat.le_of_ble_eq_true rfl, Nat.le_of_ble_eq_true rfl⟩ ?_
  refine GT.re [0, 1, 2, 3] (ws' := [(o, .inr (14, [.ref h, .ref pp, .ref x2, .ref x3, .ref x4, .ref o2, .ref o4, .ref o9, .ref o7, .ref o0, .ref o1])), (h, .inr (7, [.ref jj, .ref dd, .int (nI 0), .int (nI 0)])), (jj, aI k 36 (fun _ => 0)), (dd, aI k 6 (fun _ => 0))]) (cells' := 1) (slots' := 6) (by decide) rfl rfl rfl ?_
  exact GT.out hlk hex (by first | decide | omega) (by first | decide | omega) rfl rfl
set_option maxRecDepth 100000 in
set_option maxHeartbeats 400000 in
theorem c_X10_factors_x {l : Launch} {D : va_G} {k : Nat → ClassId} (o : Nat) (h : Nat) (pp : Nat) (x2 : Nat) (x3 : Nat) (x4 : Nat) (o2 : Nat) (o4 : Nat) (o9 : Nat) (o7 : Nat) (o0 : Nat) (o1 : Nat) (jj : Nat) (dd : Nat)  : CT l D k yX10_factors cX10_factors 1 (some .int) 7 102 [.ref o] [(o, .inr (14, [.ref h, .ref pp, .ref x2, .ref x3, .ref x4, .ref o2, .ref o4, .ref o9, .ref o7, .ref o0, .ref o1])), (h, .inr (7, [.ref jj, .ref dd, .int (nI 0), .int (nI 0)])), (jj, aI k 36 (fun _ => 0)), (dd, aI k 6 (fun _ => 0))] "java/lang/UnsupportedOperationException" [(o, .inr (14, [.ref h, .ref pp, .ref x2, .ref x3, .ref x4, .ref o2, .ref o4, .ref o9, .ref o7, .ref o0, .ref o1])), (h, .inr (7, [.ref jj, .ref dd, .int (nI 0), .int (nI 0)])), (jj, aI k 36 (fun _ => 0)), (dd, aI k 6 (fun _ => 0))] 1 6 := by
  refine CT.of (lv0 := [(0, .ref o)]) (by decide +kernel) (Nat.le_of_ble_eq_true rfl) rfl ?_
  intro p9 e9 s9 m9 bl9 me9 co9 C hr hlk hin had hex
  refine g_aload_n (pc := 0) C 0 rfl rfl dX10_factors_0 ?_
  refine g_callVT (pc := 1) (cells := 0) (slots := 0) (g := 0) (As := []) (st := []) (T := TX10) (q0 := 0) C (nA := 0) rfl (c_X10_needWhole_x o h pp x2 x3 x4 o2 o4 o9 o7 o0 o1 jj dd ) q_208 q_210 q_209 q_203 q_207 (by decide +kernel) rfl rfl dX10_factors_1 ⟨Nat.le_of_ble_eq_true rfl, Nat.le_of_ble_eq_true rfl⟩ [0, 1, 2, 3] [] rfl (wr := []) rfl (by decide) (by decide) (by decide) (Nat.le_of_ble_eq_true rfl) ⟨Nat.le_of_ble_eq_true rfl, Nat.le_of_ble_eq_true rfl⟩ ?_
  refine GT.re [0, 1, 2, 3] (ws' := [(o, .inr (14, [.ref h, .ref pp, .ref x2, .ref x3, .ref x4, .ref o2, .ref o4, .ref o9, .ref o7, .ref o0, .ref o1])), (h, .inr (7, [.ref jj, .ref dd, .int (nI 0), .int (nI 0)])), (jj, aI k 36 (fun _ => 0)), (dd, aI k 6 (fun _ => 0))]) (cells' := 1) (slots' := 6) (by decide) rfl rfl rfl ?_
  exact GT.out hlk hex (by first | decide | omega) (by first | decide | omega) rfl rfl
set_option maxRecDepth 100000 in
set_option maxHeartbeats 400000 in
theorem c_X10_factorAt_x {l : Launch} {D : va_G} {k : Nat → ClassId} (o : Nat) (h : Nat) (pp : Nat) (x2 : Nat) (x3 : Nat) (x4 : Nat) (o2 : Nat) (o4 : Nat) (o9 : Nat) (o7 : Nat) (o0 : Nat) (o1 : Nat) (jj : Nat) (dd : Nat) (v : Int32)  : CT l D k yX10_factorAt cX10_factorAt 3 (some .long) 7 102 [.ref o, .int v] [(o, .inr (14, [.ref h, .ref pp, .ref x2, .ref x3, .ref x4, .ref o2, .ref o4, .ref o9, .ref o7, .ref o0, .ref o1])), (h, .inr (7, [.ref jj, .ref dd, .int (nI 0), .int (nI 0)])), (jj, aI k 36 (fun _ => 0)), (dd, aI k 6 (fun _ => 0))] "java/lang/UnsupportedOperationException" [(o, .inr (14, [.ref h, .ref pp, .ref x2, .ref x3, .ref x4, .ref o2, .ref o4, .ref o9, .ref o7, .ref o0, .ref o1])), (h, .inr (7, [.ref jj, .ref dd, .int (nI 0), .int (nI 0)])), (jj, aI k 36 (fun _ => 0)), (dd, aI k 6 (fun _ => 0))] 1 6 := by
  refine CT.of (lv0 := [(0, .ref o), (1, .int v)]) (by decide +kernel) (Nat.le_of_ble_eq_true rfl) rfl ?_
  intro p9 e9 s9 m9 bl9 me9 co9 C hr hlk hin had hex
  refine g_aload_n (pc := 0) C 0 rfl rfl dX10_factorAt_0 ?_
  refine g_callVT (pc := 1) (cells := 0) (slots := 0) (g := 0) (As := []) (st := []) (T := TX10) (q0 := 0) C (nA := 0) rfl (c_X10_needWhole_x o h pp x2 x3 x4 o2 o4 o9 o7 o0 o1 jj dd ) q_208 q_210 q_209 q_203 q_207 (by decide +kernel) rfl rfl dX10_factorAt_1 ⟨Nat.le_of_ble_eq_true rfl, Nat.le_of_ble_eq_true rfl⟩ [0, 1, 2, 3] [] rfl (wr := []) rfl (by decide) (by decide) (by decide) (Nat.le_of_ble_eq_true rfl) ⟨Nat.le_of_ble_eq_true rfl, Nat.le_of_ble_eq_true rfl⟩ ?_
  refine GT.re [0, 1, 2, 3] (ws' := [(o, .inr (14, [.ref h, .ref pp, .ref x2, .ref x3, .ref x4, .ref o2, .ref o4, .ref o9, .ref o7, .ref o0, .ref o1])), (h, .inr (7, [.ref jj, .ref dd, .int (nI 0), .int (nI 0)])), (jj, aI k 36 (fun _ => 0)), (dd, aI k 6 (fun _ => 0))]) (cells' := 1) (slots' := 6) (by decide) rfl rfl rfl ?_
  exact GT.out hlk hex (by first | decide | omega) (by first | decide | omega) rfl rfl
set_option maxRecDepth 100000 in
set_option maxHeartbeats 400000 in
theorem c_X10_order_x {l : Launch} {D : va_G} {k : Nat → ClassId} (o : Nat) (h : Nat) (pp : Nat) (x2 : Nat) (x3 : Nat) (x4 : Nat) (o2 : Nat) (o4 : Nat) (o9 : Nat) (o7 : Nat) (o0 : Nat) (o1 : Nat) (jj : Nat) (dd : Nat)  : CT l D k yX10_order cX10_order 1 (some .long) 7 102 [.ref o] [(o, .inr (14, [.ref h, .ref pp, .ref x2, .ref x3, .ref x4, .ref o2, .ref o4, .ref o9, .ref o7, .ref o0, .ref o1])), (h, .inr (7, [.ref jj, .ref dd, .int (nI 0), .int (nI 0)])), (jj, aI k 36 (fun _ => 0)), (dd, aI k 6 (fun _ => 0))] "java/lang/UnsupportedOperationException" [(o, .inr (14, [.ref h, .ref pp, .ref x2, .ref x3, .ref x4, .ref o2, .ref o4, .ref o9, .ref o7, .ref o0, .ref o1])), (h, .inr (7, [.ref jj, .ref dd, .int (nI 0), .int (nI 0)])), (jj, aI k 36 (fun _ => 0)), (dd, aI k 6 (fun _ => 0))] 1 6 := by
  refine CT.of (lv0 := [(0, .ref o)]) (by decide +kernel) (Nat.le_of_ble_eq_true rfl) rfl ?_
  intro p9 e9 s9 m9 bl9 me9 co9 C hr hlk hin had hex
  refine g_aload_n (pc := 0) C 0 rfl rfl dX10_order_0 ?_
  refine g_callVT (pc := 1) (cells := 0) (slots := 0) (g := 0) (As := []) (st := []) (T := TX10) (q0 := 0) C (nA := 0) rfl (c_X10_needWhole_x o h pp x2 x3 x4 o2 o4 o9 o7 o0 o1 jj dd ) q_208 q_210 q_209 q_203 q_207 (by decide +kernel) rfl rfl dX10_order_1 ⟨Nat.le_of_ble_eq_true rfl, Nat.le_of_ble_eq_true rfl⟩ [0, 1, 2, 3] [] rfl (wr := []) rfl (by decide) (by decide) (by decide) (Nat.le_of_ble_eq_true rfl) ⟨Nat.le_of_ble_eq_true rfl, Nat.le_of_ble_eq_true rfl⟩ ?_
  refine GT.re [0, 1, 2, 3] (ws' := [(o, .inr (14, [.ref h, .ref pp, .ref x2, .ref x3, .ref x4, .ref o2, .ref o4, .ref o9, .ref o7, .ref o0, .ref o1])), (h, .inr (7, [.ref jj, .ref dd, .int (nI 0), .int (nI 0)])), (jj, aI k 36 (fun _ => 0)), (dd, aI k 6 (fun _ => 0))]) (cells' := 1) (slots' := 6) (by decide) rfl rfl rfl ?_
  exact GT.out hlk hex (by first | decide | omega) (by first | decide | omega) rfl rfl
set_option maxRecDepth 100000 in
set_option maxHeartbeats 400000 in
theorem c_X10_areTree_x {l : Launch} {D : va_G} {k : Nat → ClassId} (o : Nat) (h : Nat) (pp : Nat) (x2 : Nat) (x3 : Nat) (x4 : Nat) (o2 : Nat) (o4 : Nat) (o9 : Nat) (o7 : Nat) (o0 : Nat) (o1 : Nat) (jj : Nat) (dd : Nat)  : CT l D k yX10_areTree cX10_areTree 1 (some .boolean) 7 102 [.ref o] [(o, .inr (14, [.ref h, .ref pp, .ref x2, .ref x3, .ref x4, .ref o2, .ref o4, .ref o9, .ref o7, .ref o0, .ref o1])), (h, .inr (7, [.ref jj, .ref dd, .int (nI 0), .int (nI 0)])), (jj, aI k 36 (fun _ => 0)), (dd, aI k 6 (fun _ => 0))] "java/lang/UnsupportedOperationException" [(o, .inr (14, [.ref h, .ref pp, .ref x2, .ref x3, .ref x4, .ref o2, .ref o4, .ref o9, .ref o7, .ref o0, .ref o1])), (h, .inr (7, [.ref jj, .ref dd, .int (nI 0), .int (nI 0)])), (jj, aI k 36 (fun _ => 0)), (dd, aI k 6 (fun _ => 0))] 1 6 := by
  refine CT.of (lv0 := [(0, .ref o)]) (by decide +kernel) (Nat.le_of_ble_eq_true rfl) rfl ?_
  intro p9 e9 s9 m9 bl9 me9 co9 C hr hlk hin had hex
  refine g_aload_n (pc := 0) C 0 rfl rfl dX10_areTree_0 ?_
  refine g_callVT (pc := 1) (cells := 0) (slots := 0) (g := 0) (As := []) (st := []) (T := TX10) (q0 := 0) C (nA := 0) rfl (c_X10_needWhole_x o h pp x2 x3 x4 o2 o4 o9 o7 o0 o1 jj dd ) q_208 q_210 q_209 q_203 q_207 (by decide +kernel) rfl rfl dX10_areTree_1 ⟨Nat.le_of_ble_eq_true rfl, Nat.le_of_ble_eq_true rfl⟩ [0, 1, 2, 3] [] rfl (wr := []) rfl (by decide) (by decide) (by decide) (Nat.le_of_ble_eq_true rfl) ⟨Nat.le_of_ble_eq_true rfl, Nat.le_of_ble_eq_true rfl⟩ ?_
  refine GT.re [0, 1, 2, 3] (ws' := [(o, .inr (14, [.ref h, .ref pp, .ref x2, .ref x3, .ref x4, .ref o2, .ref o4, .ref o9, .ref o7, .ref o0, .ref o1])), (h, .inr (7, [.ref jj, .ref dd, .int (nI 0), .int (nI 0)])), (jj, aI k 36 (fun _ => 0)), (dd, aI k 6 (fun _ => 0))]) (cells' := 1) (slots' := 6) (by decide) rfl rfl rfl ?_
  exact GT.out hlk hex (by first | decide | omega) (by first | decide | omega) rfl rfl
set_option maxRecDepth 100000 in
set_option maxHeartbeats 400000 in
theorem c_X10_canPay_x {l : Launch} {D : va_G} {k : Nat → ClassId} (o : Nat) (h : Nat) (pp : Nat) (x2 : Nat) (x3 : Nat) (x4 : Nat) (o2 : Nat) (o4 : Nat) (o9 : Nat) (o7 : Nat) (o0 : Nat) (o1 : Nat) (jj : Nat) (dd : Nat)  : CT l D k yX10_canPay cX10_canPay 1 (some .boolean) 7 102 [.ref o] [(o, .inr (14, [.ref h, .ref pp, .ref x2, .ref x3, .ref x4, .ref o2, .ref o4, .ref o9, .ref o7, .ref o0, .ref o1])), (h, .inr (7, [.ref jj, .ref dd, .int (nI 0), .int (nI 0)])), (jj, aI k 36 (fun _ => 0)), (dd, aI k 6 (fun _ => 0))] "java/lang/UnsupportedOperationException" [(o, .inr (14, [.ref h, .ref pp, .ref x2, .ref x3, .ref x4, .ref o2, .ref o4, .ref o9, .ref o7, .ref o0, .ref o1])), (h, .inr (7, [.ref jj, .ref dd, .int (nI 0), .int (nI 0)])), (jj, aI k 36 (fun _ => 0)), (dd, aI k 6 (fun _ => 0))] 1 6 := by
  refine CT.of (lv0 := [(0, .ref o)]) (by decide +kernel) (Nat.le_of_ble_eq_true rfl) rfl ?_
  intro p9 e9 s9 m9 bl9 me9 co9 C hr hlk hin had hex
  refine g_aload_n (pc := 0) C 0 rfl rfl dX10_canPay_0 ?_
  refine g_callVT (pc := 1) (cells := 0) (slots := 0) (g := 0) (As := []) (st := []) (T := TX10) (q0 := 0) C (nA := 0) rfl (c_X10_needWhole_x o h pp x2 x3 x4 o2 o4 o9 o7 o0 o1 jj dd ) q_208 q_210 q_209 q_203 q_207 (by decide +kernel) rfl rfl dX10_canPay_1 ⟨Nat.le_of_ble_eq_true rfl, Nat.le_of_ble_eq_true rfl⟩ [0, 1, 2, 3] [] rfl (wr := []) rfl (by decide) (by decide) (by decide) (Nat.le_of_ble_eq_true rfl) ⟨Nat.le_of_ble_eq_true rfl, Nat.le_of_ble_eq_true rfl⟩ ?_
  refine GT.re [0, 1, 2, 3] (ws' := [(o, .inr (14, [.ref h, .ref pp, .ref x2, .ref x3, .ref x4, .ref o2, .ref o4, .ref o9, .ref o7, .ref o0, .ref o1])), (h, .inr (7, [.ref jj, .ref dd, .int (nI 0), .int (nI 0)])), (jj, aI k 36 (fun _ => 0)), (dd, aI k 6 (fun _ => 0))]) (cells' := 1) (slots' := 6) (by decide) rfl rfl rfl ?_
  exact GT.out hlk hex (by first | decide | omega) (by first | decide | omega) rfl rfl
set_option maxRecDepth 100000 in
set_option maxHeartbeats 400000 in
theorem c_X10_rank_x {l : Launch} {D : va_G} {k : Nat → ClassId} (o : Nat) (h : Nat) (pp : Nat) (x2 : Nat) (x3 : Nat) (x4 : Nat) (o2 : Nat) (o4 : Nat) (o9 : Nat) (o7 : Nat) (o0 : Nat) (o1 : Nat) (jj : Nat) (dd : Nat)  : CT l D k yX10_rank cX10_rank 1 (some .int) 7 102 [.ref o] [(o, .inr (14, [.ref h, .ref pp, .ref x2, .ref x3, .ref x4, .ref o2, .ref o4, .ref o9, .ref o7, .ref o0, .ref o1])), (h, .inr (7, [.ref jj, .ref dd, .int (nI 0), .int (nI 0)])), (jj, aI k 36 (fun _ => 0)), (dd, aI k 6 (fun _ => 0))] "java/lang/UnsupportedOperationException" [(o, .inr (14, [.ref h, .ref pp, .ref x2, .ref x3, .ref x4, .ref o2, .ref o4, .ref o9, .ref o7, .ref o0, .ref o1])), (h, .inr (7, [.ref jj, .ref dd, .int (nI 0), .int (nI 0)])), (jj, aI k 36 (fun _ => 0)), (dd, aI k 6 (fun _ => 0))] 1 6 := by
  refine CT.of (lv0 := [(0, .ref o)]) (by decide +kernel) (Nat.le_of_ble_eq_true rfl) rfl ?_
  intro p9 e9 s9 m9 bl9 me9 co9 C hr hlk hin had hex
  refine g_aload_n (pc := 0) C 0 rfl rfl dX10_rank_0 ?_
  refine g_callVT (pc := 1) (cells := 0) (slots := 0) (g := 0) (As := []) (st := []) (T := TX10) (q0 := 0) C (nA := 0) rfl (c_X10_needWhole_x o h pp x2 x3 x4 o2 o4 o9 o7 o0 o1 jj dd ) q_208 q_210 q_209 q_203 q_207 (by decide +kernel) rfl rfl dX10_rank_1 ⟨Nat.le_of_ble_eq_true rfl, Nat.le_of_ble_eq_true rfl⟩ [0, 1, 2, 3] [] rfl (wr := []) rfl (by decide) (by decide) (by decide) (Nat.le_of_ble_eq_true rfl) ⟨Nat.le_of_ble_eq_true rfl, Nat.le_of_ble_eq_true rfl⟩ ?_
  refine GT.re [0, 1, 2, 3] (ws' := [(o, .inr (14, [.ref h, .ref pp, .ref x2, .ref x3, .ref x4, .ref o2, .ref o4, .ref o9, .ref o7, .ref o0, .ref o1])), (h, .inr (7, [.ref jj, .ref dd, .int (nI 0), .int (nI 0)])), (jj, aI k 36 (fun _ => 0)), (dd, aI k 6 (fun _ => 0))]) (cells' := 1) (slots' := 6) (by decide) rfl rfl rfl ?_
  exact GT.out hlk hex (by first | decide | omega) (by first | decide | omega) rfl rfl
set_option maxRecDepth 100000 in
set_option maxHeartbeats 400000 in
theorem c_X10_isWhole_z {l : Launch} {D : va_G} {k : Nat → ClassId} (o : Nat) (h : Nat) (pp : Nat) (x2 : Nat) (x3 : Nat) (x4 : Nat) (o2 : Nat) (o4 : Nat) (o9 : Nat) (o7 : Nat) (o0 : Nat) (o1 : Nat) (jj : Nat) (dd : Nat)  : CM l D k yX10_isWhole cX10_isWhole 1 (some .boolean)  3 70 [.ref o] [(o, .inr (14, [.ref h, .ref pp, .ref x2, .ref x3, .ref x4, .ref o2, .ref o4, .ref o9, .ref o7, .ref o0, .ref o1])), (h, .inr (7, [.ref jj, .ref dd, .int (nI 0), .int (nI 0)])), (jj, aI k 36 (fun _ => 0)), (dd, aI k 6 (fun _ => 0))] (is1 (some (.int 0)) [(o, .inr (14, [.ref h, .ref pp, .ref x2, .ref x3, .ref x4, .ref o2, .ref o4, .ref o9, .ref o7, .ref o0, .ref o1])), (h, .inr (7, [.ref jj, .ref dd, .int (nI 0), .int (nI 0)])), (jj, aI k 36 (fun _ => 0)), (dd, aI k 6 (fun _ => 0))]) 0 0 0 := by
  refine CM.of (lv0 := [(0, .ref o)]) (by decide +kernel) (Nat.le_of_ble_eq_true rfl) rfl ?_
  intro p9 e9 s9 m9 bl9 me9 co9 C hr hlk hin had
  refine g_aload_n (pc := 0) C 0 rfl rfl dX10_isWhole_0 ?_
  refine g_get (pc := 1) C (T := TX10) inX10 0 rfl rfl 0 (by decide) q_143 rfl rfl dX10_isWhole_1 ?_
  refine g_callV (pc := 4) (cells := 0) (slots := 0) (g := 0) (As := []) (st := []) (T := TX3) (q0 := 1) C (nA := 0) rfl (c_X3_isConnected h jj dd 0 0 (fun _ => 0) (fun _ => 0) (by first | assumption | decide | omega)) q_196 q_197 q_195 q_16 q_194 (by decide +kernel) rfl rfl dX10_isWhole_4 ⟨Nat.le_of_ble_eq_true rfl, Nat.le_of_ble_eq_true rfl⟩ [1, 2, 3] [0] rfl (wr := [(o, .inr (14, [.ref h, .ref pp, .ref x2, .ref x3, .ref x4, .ref o2, .ref o4, .ref o9, .ref o7, .ref o0, .ref o1]))]) rfl (by decide) (by decide) (by decide) (Nat.le_of_ble_eq_true rfl) ⟨Nat.le_of_ble_eq_true rfl, Nat.le_of_ble_eq_true rfl⟩ (fun rv w1 h1 => ?_)
  obtain ⟨rfl, rfl⟩ := h1
  refine G.aft [0, 1, 2, 3] (ws' := [(o, .inr (14, [.ref h, .ref pp, .ref x2, .ref x3, .ref x4, .ref o2, .ref o4, .ref o9, .ref o7, .ref o0, .ref o1])), (h, .inr (7, [.ref jj, .ref dd, .int (nI 0), .int (nI 0)])), (jj, aI k 36 (fun _ => 0)), (dd, aI k 6 (fun _ => 0))]) (st' := [.int (bI (gConn (fun _ => 0) 0))]) (cells' := 0) (slots' := 0) (g' := 0) (by decide) rfl rfl rfl rfl rfl ?_
  refine G.eqs (st' := [.int 0]) (congrArg (fun z9 => [Value.int z9]) (show ((bI (gConn (fun _ => 0) 0)) : Int32) = 0 from by rw [gConn_0]; rfl)) ?_
  exact g_zret (pc := 7) C hr (by first | rfl | exact bI_nar _) hlk (by first | decide | omega) (by first | decide | omega) (by first | decide | omega) dX10_isWhole_7 ⟨rfl, rfl⟩
set_option maxRecDepth 100000 in
set_option maxHeartbeats 400000 in
theorem c_X6_swallowedChips {l : Launch} {D : va_G} {k : Nat → ClassId} (h : Nat) (pp : Nat) (r1 : Nat) (a1 : Nat) (r2 : Nat) (a2 : Nat) (f : Nat → Int32) (ct : Nat → Int32) (tk : Int32)  : CM l D k yX6_swallowedChips cX6_swallowedChips 1 (some .int)  0 0 [.ref pp] [(pp, .inr (10, [.ref h, .ref r1, .ref r2, .int tk])), (r1, .inr (12, [.ref a1])), (a1, aI k 6 f), (r2, .inr (12, [.ref a2])), (a2, aI k 6 ct)] (is1 (some (.int tk)) [(pp, .inr (10, [.ref h, .ref r1, .ref r2, .int tk])), (r1, .inr (12, [.ref a1])), (a1, aI k 6 f), (r2, .inr (12, [.ref a2])), (a2, aI k 6 ct)]) 0 0 0 := by
  refine CM.of (lv0 := [(0, .ref pp)]) (by decide +kernel) (Nat.le_of_ble_eq_true rfl) rfl ?_
  intro p9 e9 s9 m9 bl9 me9 co9 C hr hlk hin had
  refine g_aload_n (pc := 0) C 0 rfl rfl dX6_swallowedChips_0 ?_
  refine g_get (pc := 1) C (T := TX6) inX6 0 rfl rfl 3 (by decide) q_36 rfl rfl dX6_swallowedChips_1 ?_
  exact g_iret (pc := 4) C hr hlk (by first | decide | omega) (by first | decide | omega) (by first | decide | omega) dX6_swallowedChips_4 ⟨rfl, rfl⟩
set_option maxRecDepth 100000 in
set_option maxHeartbeats 400000 in
theorem c_X10_swallowed_z {l : Launch} {D : va_G} {k : Nat → ClassId} (o : Nat) (h : Nat) (pp : Nat) (x2 : Nat) (x3 : Nat) (x4 : Nat) (o2 : Nat) (o4 : Nat) (o9 : Nat) (o7 : Nat) (o0 : Nat) (o1 : Nat) (r1 : Nat) (a1 : Nat) (r2 : Nat) (a2 : Nat)  : CM l D k yX10_swallowed cX10_swallowed 1 (some .int)  1 20 [.ref o] [(o, .inr (14, [.ref h, .ref pp, .ref x2, .ref x3, .ref x4, .ref o2, .ref o4, .ref o9, .ref o7, .ref o0, .ref o1])), (pp, .inr (10, [.ref h, .ref r1, .ref r2, .int 0])), (r1, .inr (12, [.ref a1])), (a1, aI k 6 (fun _ => 0)), (r2, .inr (12, [.ref a2])), (a2, aI k 6 (fun _ => 0))] (is1 (some (.int 0)) [(o, .inr (14, [.ref h, .ref pp, .ref x2, .ref x3, .ref x4, .ref o2, .ref o4, .ref o9, .ref o7, .ref o0, .ref o1])), (pp, .inr (10, [.ref h, .ref r1, .ref r2, .int 0])), (r1, .inr (12, [.ref a1])), (a1, aI k 6 (fun _ => 0)), (r2, .inr (12, [.ref a2])), (a2, aI k 6 (fun _ => 0))]) 0 0 0 := by
  refine CM.of (lv0 := [(0, .ref o)]) (by decide +kernel) (Nat.le_of_ble_eq_true rfl) rfl ?_
  intro p9 e9 s9 m9 bl9 me9 co9 C hr hlk hin had
  refine g_aload_n (pc := 0) C 0 rfl rfl dX10_swallowed_0 ?_
  refine g_get (pc := 1) C (T := TX10) inX10 0 rfl rfl 1 (by decide) q_147 rfl rfl dX10_swallowed_1 ?_
  refine g_callV (pc := 4) (cells := 0) (slots := 0) (g := 0) (As := []) (st := []) (T := TX6) (q0 := 1) C (nA := 0) rfl (c_X6_swallowedChips h pp r1 a1 r2 a2 (fun _ => 0) (fun _ => 0) 0 ) q_213 q_214 q_212 q_43 q_211 (by decide +kernel) rfl rfl dX10_swallowed_4 ⟨Nat.le_of_ble_eq_true rfl, Nat.le_of_ble_eq_true rfl⟩ [1, 2, 3, 4, 5] [0] rfl (wr := [(o, .inr (14, [.ref h, .ref pp, .ref x2, .ref x3, .ref x4, .ref o2, .ref o4, .ref o9, .ref o7, .ref o0, .ref o1]))]) rfl (by decide) (by decide) (by decide) (Nat.le_of_ble_eq_true rfl) ⟨Nat.le_of_ble_eq_true rfl, Nat.le_of_ble_eq_true rfl⟩ (fun rv w1 h1 => ?_)
  obtain ⟨rfl, rfl⟩ := h1
  refine G.aft [0, 1, 2, 3, 4, 5] (ws' := [(o, .inr (14, [.ref h, .ref pp, .ref x2, .ref x3, .ref x4, .ref o2, .ref o4, .ref o9, .ref o7, .ref o0, .ref o1])), (pp, .inr (10, [.ref h, .ref r1, .ref r2, .int 0])), (r1, .inr (12, [.ref a1])), (a1, aI k 6 (fun _ => 0)), (r2, .inr (12, [.ref a2])), (a2, aI k 6 (fun _ => 0))]) (st' := [.int 0]) (cells' := 0) (slots' := 0) (g' := 0) (by decide) rfl rfl rfl rfl rfl ?_
  exact g_iret (pc := 7) C hr hlk (by first | decide | omega) (by first | decide | omega) (by first | decide | omega) dX10_swallowed_7 ⟨rfl, rfl⟩
set_option maxRecDepth 100000 in
set_option maxHeartbeats 400000 in
theorem c_X3_others_z {l : Launch} {D : va_G} {k : Nat → ClassId} (h : Nat) (jj : Nat) (dd : Nat)  : CM l D k yX3_others cX3_others 1 (some .int)  0 0 [.ref h] [(h, .inr (7, [.ref jj, .ref dd, .int (nI 0), .int (nI 0)])), (jj, aI k 36 (fun _ => 0)), (dd, aI k 6 (fun _ => 0))] (is1 (some (.int (nI 0))) [(h, .inr (7, [.ref jj, .ref dd, .int (nI 0), .int (nI 0)])), (jj, aI k 36 (fun _ => 0)), (dd, aI k 6 (fun _ => 0))]) 0 0 0 := by
  refine CM.of (lv0 := [(0, .ref h)]) (by decide +kernel) (Nat.le_of_ble_eq_true rfl) rfl ?_
  intro p9 e9 s9 m9 bl9 me9 co9 C hr hlk hin had
  refine g_aload_n (pc := 0) C 0 rfl rfl dX3_others_0 ?_
  refine g_get (pc := 1) C (T := TX3) inX3 0 rfl rfl 2 (by decide) q_13 rfl rfl dX3_others_1 ?_
  refine g_iconst (pc := 4) (v := 1) C (by decide) dX3_others_4 ?_
  refine g_icmp_ge (pc := 5) C 12 (by decide) dX3_others_5 (fun c_5 => ?_) (fun c_5 => ?_)
  · exact absurd c_5 (by decide)
  · refine g_iconst (pc := 8) (v := 0) C (by decide) dX3_others_8 ?_
    refine g_goto (pc := 9) C 18 (by decide) dX3_others_9 ?_
    refine G.eqs (st' := [.int (nI 0)]) (congrArg (fun z9 => [Value.int z9]) (show (0 : Int32) = (nI 0) from by rfl)) ?_
    exact g_iret (pc := 18) C hr hlk (by first | decide | omega) (by first | decide | omega) (by first | decide | omega) dX3_others_18 ⟨rfl, rfl⟩
set_option maxRecDepth 100000 in
set_option maxHeartbeats 400000 in
theorem c_X4_treeNumber_z {l : Launch} {D : va_G} {k : Nat → ClassId} (o4 : Nat) (m1 : Nat) (m2 : Nat) (h : Nat) (jj : Nat) (dd : Nat)  : CM l D k yX4_treeNumber cX4_treeNumber 2 (some .long)  1 20 [.ref o4] [(o4, .inr (8, [.ref h, .ref m1, .ref m2])), (h, .inr (7, [.ref jj, .ref dd, .int (nI 0), .int (nI 0)])), (jj, aI k 36 (fun _ => 0)), (dd, aI k 6 (fun _ => 0))] (is1 (some (.long 0)) [(o4, .inr (8, [.ref h, .ref m1, .ref m2])), (h, .inr (7, [.ref jj, .ref dd, .int (nI 0), .int (nI 0)])), (jj, aI k 36 (fun _ => 0)), (dd, aI k 6 (fun _ => 0))]) 0 0 0 := by
  refine CM.of (lv0 := [(0, .ref o4)]) (by decide +kernel) (Nat.le_of_ble_eq_true rfl) rfl ?_
  intro p9 e9 s9 m9 bl9 me9 co9 C hr hlk hin had
  refine g_iconst (pc := 0) (v := 1) C (by decide) dX4_treeNumber_0 ?_
  refine g_aload_n (pc := 1) C 0 rfl rfl dX4_treeNumber_1 ?_
  refine g_get (pc := 2) C (T := TX4) inX4 0 rfl rfl 0 (by decide) q_122 rfl rfl dX4_treeNumber_2 ?_
  refine g_callV (pc := 5) (cells := 0) (slots := 0) (g := 0) (As := []) (st := [.int 1]) (T := TX3) (q0 := 1) C (nA := 0) rfl (c_X3_others_z h jj dd ) q_217 q_218 q_216 q_16 q_215 (by decide +kernel) rfl rfl dX4_treeNumber_5 ⟨Nat.le_of_ble_eq_true rfl, Nat.le_of_ble_eq_true rfl⟩ [1, 2, 3] [0] rfl (wr := [(o4, .inr (8, [.ref h, .ref m1, .ref m2]))]) rfl (by decide) (by decide) (by decide) (Nat.le_of_ble_eq_true rfl) ⟨Nat.le_of_ble_eq_true rfl, Nat.le_of_ble_eq_true rfl⟩ (fun rv w1 h1 => ?_)
  obtain ⟨rfl, rfl⟩ := h1
  refine G.aft [0, 1, 2, 3] (ws' := [(o4, .inr (8, [.ref h, .ref m1, .ref m2])), (h, .inr (7, [.ref jj, .ref dd, .int (nI 0), .int (nI 0)])), (jj, aI k 36 (fun _ => 0)), (dd, aI k 6 (fun _ => 0))]) (st' := [.int (nI 0), .int 1]) (cells' := 0) (slots' := 0) (g' := 0) (by decide) rfl rfl rfl rfl rfl ?_
  refine g_ishl (pc := 8) C dX4_treeNumber_8 ?_
  refine g_iconst (pc := 9) (v := 1) C (by decide) dX4_treeNumber_9 ?_
  refine g_isub (pc := 10) C dX4_treeNumber_10 ?_
  refine g_istore_n (pc := 11) C [(1, .int ((1 <<< ((nI 0) &&& 31)) - 1)), (0, .ref o4)] rfl dX4_treeNumber_11 (by decide) rfl ?_
  refine g_aload_n (pc := 12) C 1 rfl rfl dX4_treeNumber_12 ?_
  refine g_get (pc := 13) C (T := TX4) inX4 0 rfl rfl 0 (by decide) q_122 rfl rfl dX4_treeNumber_13 ?_
  refine g_callV (pc := 16) (cells := 0) (slots := 0) (g := 0) (As := []) (st := []) (T := TX3) (q0 := 1) C (nA := 0) rfl (c_X3_size h jj dd 0 0 (fun _ => 0) (fun _ => 0) ) q_219 q_67 q_65 q_16 q_64 (by decide +kernel) rfl rfl dX4_treeNumber_16 ⟨Nat.le_of_ble_eq_true rfl, Nat.le_of_ble_eq_true rfl⟩ [1, 2, 3] [0] rfl (wr := [(o4, .inr (8, [.ref h, .ref m1, .ref m2]))]) rfl (by decide) (by decide) (by decide) (Nat.le_of_ble_eq_true rfl) ⟨Nat.le_of_ble_eq_true rfl, Nat.le_of_ble_eq_true rfl⟩ (fun rv w1 h1 => ?_)
  obtain ⟨rfl, rfl⟩ := h1
  refine G.aft [0, 1, 2, 3] (ws' := [(o4, .inr (8, [.ref h, .ref m1, .ref m2])), (h, .inr (7, [.ref jj, .ref dd, .int (nI 0), .int (nI 0)])), (jj, aI k 36 (fun _ => 0)), (dd, aI k 6 (fun _ => 0))]) (st' := [.int (nI 0)]) (cells' := 0) (slots' := 0) (g' := 0) (by decide) rfl rfl rfl rfl rfl ?_
  refine g_if_ne (pc := 19) C 26 (by decide) dX4_treeNumber_19 (fun c_19 => ?_) (fun c_19 => ?_)
  · exact absurd c_19 (by decide)
  · refine g_lconst (pc := 22) (v := 0) C (by decide) dX4_treeNumber_22 ?_
    refine g_goto (pc := 23) C 32 (by decide) dX4_treeNumber_23 ?_
    exact g_lret (pc := 32) C hr hlk (by first | decide | omega) (by first | decide | omega) (by first | decide | omega) dX4_treeNumber_32 ⟨rfl, rfl⟩
set_option maxRecDepth 100000 in
set_option maxHeartbeats 400000 in
theorem c_X10_trees_z {l : Launch} {D : va_G} {k : Nat → ClassId} (o : Nat) (h : Nat) (pp : Nat) (x2 : Nat) (x3 : Nat) (x4 : Nat) (o2 : Nat) (o4 : Nat) (o9 : Nat) (o7 : Nat) (o0 : Nat) (o1 : Nat) (jj : Nat) (dd : Nat) (m1 : Nat) (m2 : Nat)  : CM l D k yX10_trees cX10_trees 1 (some .long)  2 41 [.ref o] [(o, .inr (14, [.ref h, .ref pp, .ref x2, .ref x3, .ref x4, .ref o2, .ref o4, .ref o9, .ref o7, .ref o0, .ref o1])), (h, .inr (7, [.ref jj, .ref dd, .int (nI 0), .int (nI 0)])), (jj, aI k 36 (fun _ => 0)), (dd, aI k 6 (fun _ => 0)), (o4, .inr (8, [.ref h, .ref m1, .ref m2]))] (is1 (some (.long 0)) [(o, .inr (14, [.ref h, .ref pp, .ref x2, .ref x3, .ref x4, .ref o2, .ref o4, .ref o9, .ref o7, .ref o0, .ref o1])), (h, .inr (7, [.ref jj, .ref dd, .int (nI 0), .int (nI 0)])), (jj, aI k 36 (fun _ => 0)), (dd, aI k 6 (fun _ => 0)), (o4, .inr (8, [.ref h, .ref m1, .ref m2]))]) 0 0 0 := by
  refine CM.of (lv0 := [(0, .ref o)]) (by decide +kernel) (Nat.le_of_ble_eq_true rfl) rfl ?_
  intro p9 e9 s9 m9 bl9 me9 co9 C hr hlk hin had
  refine g_aload_n (pc := 0) C 0 rfl rfl dX10_trees_0 ?_
  refine g_get (pc := 1) C (T := TX10) inX10 0 rfl rfl 6 (by decide) q_159 rfl rfl dX10_trees_1 ?_
  refine g_callV (pc := 4) (cells := 0) (slots := 0) (g := 0) (As := []) (st := []) (T := TX4) (q0 := 4) C (nA := 0) rfl (c_X4_treeNumber_z o4 m1 m2 h jj dd ) q_222 q_223 q_221 q_155 q_220 (by decide +kernel) rfl rfl dX10_trees_4 ⟨Nat.le_of_ble_eq_true rfl, Nat.le_of_ble_eq_true rfl⟩ [4, 1, 2, 3] [0] rfl (wr := [(o, .inr (14, [.ref h, .ref pp, .ref x2, .ref x3, .ref x4, .ref o2, .ref o4, .ref o9, .ref o7, .ref o0, .ref o1]))]) rfl (by decide) (by decide) (by decide) (Nat.le_of_ble_eq_true rfl) ⟨Nat.le_of_ble_eq_true rfl, Nat.le_of_ble_eq_true rfl⟩ (fun rv w1 h1 => ?_)
  obtain ⟨rfl, rfl⟩ := h1
  refine G.aft [0, 2, 3, 4, 1] (ws' := [(o, .inr (14, [.ref h, .ref pp, .ref x2, .ref x3, .ref x4, .ref o2, .ref o4, .ref o9, .ref o7, .ref o0, .ref o1])), (h, .inr (7, [.ref jj, .ref dd, .int (nI 0), .int (nI 0)])), (jj, aI k 36 (fun _ => 0)), (dd, aI k 6 (fun _ => 0)), (o4, .inr (8, [.ref h, .ref m1, .ref m2]))]) (st' := [.long 0]) (cells' := 0) (slots' := 0) (g' := 0) (by decide) rfl rfl rfl rfl rfl ?_
  exact g_lret (pc := 7) C hr hlk (by first | decide | omega) (by first | decide | omega) (by first | decide | omega) dX10_trees_7 ⟨rfl, rfl⟩
set_option maxRecDepth 100000 in
set_option maxHeartbeats 400000 in
theorem c_X9_countLeft_z {l : Launch} {D : va_G} {k : Nat → ClassId} (y1 : Nat)  : CM l D k yX9_countLeft cX9_countLeft 7 (some .long)  0 0 [.ref y1, .int (nI 0)] [] (is1 (some (.long 0)) []) 0 0 0 := by
  refine CM.of (lv0 := [(0, .ref y1), (1, .int (nI 0))]) (by decide +kernel) (Nat.le_of_ble_eq_true rfl) rfl ?_
  intro p9 e9 s9 m9 bl9 me9 co9 C hr hlk hin had
  refine g_iload_n (pc := 0) C 1 rfl rfl dX9_countLeft_0 ?_
  refine g_iconst (pc := 1) (v := 2) C (by decide) dX9_countLeft_1 ?_
  refine g_icmp_lt (pc := 2) C 11 (by decide) dX9_countLeft_2 (fun c_2 => ?_) (fun c_2 => ?_)
  · refine g_iload_n (pc := 11) C 1 rfl rfl dX9_countLeft_11 ?_
    refine g_iconst (pc := 12) (v := 1) C (by decide) dX9_countLeft_12 ?_
    refine g_icmp_ne (pc := 13) C 20 (by decide) dX9_countLeft_13 (fun c_13 => ?_) (fun c_13 => ?_)
    · refine g_lconst (pc := 20) (v := 0) C (by decide) dX9_countLeft_20 ?_
      exact g_lret (pc := 21) C hr hlk (by first | decide | omega) (by first | decide | omega) (by first | decide | omega) dX9_countLeft_21 ⟨rfl, rfl⟩
    · exact absurd c_13 (by decide)
  · exact absurd c_2 (by decide)
set_option maxRecDepth 100000 in
set_option maxHeartbeats 400000 in
theorem c_X9_countTrees_z {l : Launch} {D : va_G} {k : Nat → ClassId} (o9 : Nat) (y1 : Nat) (h : Nat) (jj : Nat) (dd : Nat)  : CM l D k yX9_countTrees cX9_countTrees 5 (some .long)  1 26 [.ref o9, .ref h] [(o9, .inr (13, [.ref y1])), (h, .inr (7, [.ref jj, .ref dd, .int (nI 0), .int (nI 0)])), (jj, aI k 36 (fun _ => 0)), (dd, aI k 6 (fun _ => 0))] (is1 (some (.long 0)) [(o9, .inr (13, [.ref y1])), (h, .inr (7, [.ref jj, .ref dd, .int (nI 0), .int (nI 0)])), (jj, aI k 36 (fun _ => 0)), (dd, aI k 6 (fun _ => 0))]) 0 0 0 := by
  refine CM.of (lv0 := [(0, .ref o9), (1, .ref h)]) (by decide +kernel) (Nat.le_of_ble_eq_true rfl) rfl ?_
  intro p9 e9 s9 m9 bl9 me9 co9 C hr hlk hin had
  refine g_aload_n (pc := 0) C 1 rfl rfl dX9_countTrees_0 ?_
  refine g_callV (pc := 1) (cells := 0) (slots := 0) (g := 0) (As := []) (st := []) (T := TX3) (q0 := 1) C (nA := 0) rfl (c_X3_size h jj dd 0 0 (fun _ => 0) (fun _ => 0) ) q_224 q_67 q_65 q_16 q_64 (by decide +kernel) rfl rfl dX9_countTrees_1 ⟨Nat.le_of_ble_eq_true rfl, Nat.le_of_ble_eq_true rfl⟩ [1, 2, 3] [0] rfl (wr := [(o9, .inr (13, [.ref y1]))]) rfl (by decide) (by decide) (by decide) (Nat.le_of_ble_eq_true rfl) ⟨Nat.le_of_ble_eq_true rfl, Nat.le_of_ble_eq_true rfl⟩ (fun rv w1 h1 => ?_)
  obtain ⟨rfl, rfl⟩ := h1
  refine G.aft [0, 1, 2, 3] (ws' := [(o9, .inr (13, [.ref y1])), (h, .inr (7, [.ref jj, .ref dd, .int (nI 0), .int (nI 0)])), (jj, aI k 36 (fun _ => 0)), (dd, aI k 6 (fun _ => 0))]) (st' := [.int (nI 0)]) (cells' := 0) (slots' := 0) (g' := 0) (by decide) rfl rfl rfl rfl rfl ?_
  refine g_istore_n (pc := 4) C [(2, .int (nI 0)), (0, .ref o9), (1, .ref h)] rfl dX9_countTrees_4 (by decide) rfl ?_
  refine g_iconst (pc := 5) (v := 0) C (by decide) dX9_countTrees_5 ?_
  refine g_istore_n (pc := 6) C [(3, .int 0), (2, .int (nI 0)), (0, .ref o9), (1, .ref h)] rfl dX9_countTrees_6 (by decide) rfl ?_
  refine g_iload_n (pc := 7) C 0 rfl rfl dX9_countTrees_7 ?_
  refine g_iload_n (pc := 8) C 1 rfl rfl dX9_countTrees_8 ?_
  refine g_icmp_ge (pc := 9) C 54 (by decide) dX9_countTrees_9 (fun c_9 => ?_) (fun c_9 => ?_)
  · refine g_aload_n (pc := 54) C 2 rfl rfl dX9_countTrees_54 ?_
    refine g_get (pc := 55) C (T := TX9) inX9 0 rfl rfl 0 (by decide) q_126 rfl rfl dX9_countTrees_55 ?_
    refine g_iload_n (pc := 58) C 1 rfl rfl dX9_countTrees_58 ?_
    refine g_callS (pc := 59) (cells := 0) (slots := 0) (g := 0) (As := [.ref y1, .int (nI 0)]) (st := []) (b := 0) C (nA := 2) rfl (c_X9_countLeft_z y1 ) q_226 q_227 q_162 q_225 (by decide +kernel) dX9_countTrees_59 ⟨Nat.le_of_ble_eq_true rfl, Nat.le_of_ble_eq_true rfl⟩ [] [0, 1, 2, 3] rfl (wr := [(o9, .inr (13, [.ref y1])), (h, .inr (7, [.ref jj, .ref dd, .int (nI 0), .int (nI 0)])), (jj, aI k 36 (fun _ => 0)), (dd, aI k 6 (fun _ => 0))]) rfl (by decide) (by decide) (by decide) (Nat.le_of_ble_eq_true rfl) ⟨Nat.le_of_ble_eq_true rfl, Nat.le_of_ble_eq_true rfl⟩ (fun rv w1 h1 => ?_)
    obtain ⟨rfl, rfl⟩ := h1
    refine G.aft [0, 1, 2, 3] (ws' := [(o9, .inr (13, [.ref y1])), (h, .inr (7, [.ref jj, .ref dd, .int (nI 0), .int (nI 0)])), (jj, aI k 36 (fun _ => 0)), (dd, aI k 6 (fun _ => 0))]) (st' := [.long 0]) (cells' := 0) (slots' := 0) (g' := 0) (by decide) rfl rfl rfl rfl rfl ?_
    exact g_lret (pc := 62) C hr hlk (by first | decide | omega) (by first | decide | omega) (by first | decide | omega) dX9_countTrees_62 ⟨rfl, rfl⟩
  · exact absurd c_9 (by decide)
set_option maxRecDepth 100000 in
set_option maxHeartbeats 400000 in
theorem c_X10_isSound_z {l : Launch} {D : va_G} {k : Nat → ClassId} (o : Nat) (h : Nat) (pp : Nat) (x2 : Nat) (x3 : Nat) (x4 : Nat) (o2 : Nat) (o4 : Nat) (o9 : Nat) (o7 : Nat) (o0 : Nat) (o1 : Nat) (jj : Nat) (dd : Nat) (m1 : Nat) (m2 : Nat) (y1 : Nat)  : CM l D k yX10_isSound cX10_isSound 2 (some .boolean)  3 70 [.ref o] [(o, .inr (14, [.ref h, .ref pp, .ref x2, .ref x3, .ref x4, .ref o2, .ref o4, .ref o9, .ref o7, .ref o0, .ref o1])), (h, .inr (7, [.ref jj, .ref dd, .int (nI 0), .int (nI 0)])), (jj, aI k 36 (fun _ => 0)), (dd, aI k 6 (fun _ => 0)), (o4, .inr (8, [.ref h, .ref m1, .ref m2])), (o9, .inr (13, [.ref y1]))] (is1 (some (.int 1)) [(o, .inr (14, [.ref h, .ref pp, .ref x2, .ref x3, .ref x4, .ref o2, .ref o4, .ref o9, .ref o7, .ref o0, .ref o1])), (h, .inr (7, [.ref jj, .ref dd, .int (nI 0), .int (nI 0)])), (jj, aI k 36 (fun _ => 0)), (dd, aI k 6 (fun _ => 0)), (o4, .inr (8, [.ref h, .ref m1, .ref m2])), (o9, .inr (13, [.ref y1]))]) 0 0 0 := by
  refine CM.of (lv0 := [(0, .ref o)]) (by decide +kernel) (Nat.le_of_ble_eq_true rfl) rfl ?_
  intro p9 e9 s9 m9 bl9 me9 co9 C hr hlk hin had
  refine g_aload_n (pc := 0) C 0 rfl rfl dX10_isSound_0 ?_
  refine g_get (pc := 1) C (T := TX10) inX10 0 rfl rfl 6 (by decide) q_159 rfl rfl dX10_isSound_1 ?_
  refine g_callV (pc := 4) (cells := 0) (slots := 0) (g := 0) (As := []) (st := []) (T := TX4) (q0 := 4) C (nA := 0) rfl (c_X4_treeNumber_z o4 m1 m2 h jj dd ) q_222 q_223 q_221 q_155 q_220 (by decide +kernel) rfl rfl dX10_isSound_4 ⟨Nat.le_of_ble_eq_true rfl, Nat.le_of_ble_eq_true rfl⟩ [4, 1, 2, 3] [0, 5] rfl (wr := [(o, .inr (14, [.ref h, .ref pp, .ref x2, .ref x3, .ref x4, .ref o2, .ref o4, .ref o9, .ref o7, .ref o0, .ref o1])), (o9, .inr (13, [.ref y1]))]) rfl (by decide) (by decide) (by decide) (Nat.le_of_ble_eq_true rfl) ⟨Nat.le_of_ble_eq_true rfl, Nat.le_of_ble_eq_true rfl⟩ (fun rv w1 h1 => ?_)
  obtain ⟨rfl, rfl⟩ := h1
  refine G.aft [0, 3, 4, 5, 2, 1] (ws' := [(o, .inr (14, [.ref h, .ref pp, .ref x2, .ref x3, .ref x4, .ref o2, .ref o4, .ref o9, .ref o7, .ref o0, .ref o1])), (h, .inr (7, [.ref jj, .ref dd, .int (nI 0), .int (nI 0)])), (jj, aI k 36 (fun _ => 0)), (dd, aI k 6 (fun _ => 0)), (o4, .inr (8, [.ref h, .ref m1, .ref m2])), (o9, .inr (13, [.ref y1]))]) (st' := [.long 0]) (cells' := 0) (slots' := 0) (g' := 0) (by decide) rfl rfl rfl rfl rfl ?_
  refine g_aload_n (pc := 7) C 0 rfl rfl dX10_isSound_7 ?_
  refine g_get (pc := 8) C (T := TX10) inX10 0 rfl rfl 7 (by decide) q_165 rfl rfl dX10_isSound_8 ?_
  refine g_aload_n (pc := 11) C 0 rfl rfl dX10_isSound_11 ?_
  refine g_get (pc := 12) C (T := TX10) inX10 0 rfl rfl 0 (by decide) q_143 rfl rfl dX10_isSound_12 ?_
  refine g_callV (pc := 15) (cells := 0) (slots := 0) (g := 0) (As := [.ref h]) (st := [.long 0]) (T := TX9) (q0 := 5) C (nA := 1) rfl (c_X9_countTrees_z o9 y1 h jj dd ) q_230 q_231 q_229 q_162 q_228 (by decide +kernel) rfl rfl dX10_isSound_15 ⟨Nat.le_of_ble_eq_true rfl, Nat.le_of_ble_eq_true rfl⟩ [5, 1, 2, 3] [0, 4] rfl (wr := [(o, .inr (14, [.ref h, .ref pp, .ref x2, .ref x3, .ref x4, .ref o2, .ref o4, .ref o9, .ref o7, .ref o0, .ref o1])), (o4, .inr (8, [.ref h, .ref m1, .ref m2]))]) rfl (by decide) (by decide) (by decide) (Nat.le_of_ble_eq_true rfl) ⟨Nat.le_of_ble_eq_true rfl, Nat.le_of_ble_eq_true rfl⟩ (fun rv w1 h1 => ?_)
  obtain ⟨rfl, rfl⟩ := h1
  refine G.aft [0, 3, 4, 5, 1, 2] (ws' := [(o, .inr (14, [.ref h, .ref pp, .ref x2, .ref x3, .ref x4, .ref o2, .ref o4, .ref o9, .ref o7, .ref o0, .ref o1])), (h, .inr (7, [.ref jj, .ref dd, .int (nI 0), .int (nI 0)])), (jj, aI k 36 (fun _ => 0)), (dd, aI k 6 (fun _ => 0)), (o4, .inr (8, [.ref h, .ref m1, .ref m2])), (o9, .inr (13, [.ref y1]))]) (st' := [.long 0, .long 0]) (cells' := 0) (slots' := 0) (g' := 0) (by decide) rfl rfl rfl rfl rfl ?_
  refine g_lcmp (pc := 18) C dX10_isSound_18 ?_
  refine g_if_eq (pc := 19) C 24 (by decide) dX10_isSound_19 (fun c_19 => ?_) (fun c_19 => ?_)
  · refine g_aload_n (pc := 24) C 0 rfl rfl dX10_isSound_24 ?_
    refine g_get (pc := 25) C (T := TX10) inX10 0 rfl rfl 0 (by decide) q_143 rfl rfl dX10_isSound_25 ?_
    refine g_callV (pc := 28) (cells := 0) (slots := 0) (g := 0) (As := []) (st := []) (T := TX3) (q0 := 1) C (nA := 0) rfl (c_X3_isConnected h jj dd 0 0 (fun _ => 0) (fun _ => 0) (by first | assumption | decide | omega)) q_196 q_197 q_195 q_16 q_194 (by decide +kernel) rfl rfl dX10_isSound_28 ⟨Nat.le_of_ble_eq_true rfl, Nat.le_of_ble_eq_true rfl⟩ [1, 2, 3] [0, 4, 5] rfl (wr := [(o, .inr (14, [.ref h, .ref pp, .ref x2, .ref x3, .ref x4, .ref o2, .ref o4, .ref o9, .ref o7, .ref o0, .ref o1])), (o4, .inr (8, [.ref h, .ref m1, .ref m2])), (o9, .inr (13, [.ref y1]))]) rfl (by decide) (by decide) (by decide) (Nat.le_of_ble_eq_true rfl) ⟨Nat.le_of_ble_eq_true rfl, Nat.le_of_ble_eq_true rfl⟩ (fun rv w1 h1 => ?_)
    obtain ⟨rfl, rfl⟩ := h1
    refine G.aft [0, 3, 4, 5, 1, 2] (ws' := [(o, .inr (14, [.ref h, .ref pp, .ref x2, .ref x3, .ref x4, .ref o2, .ref o4, .ref o9, .ref o7, .ref o0, .ref o1])), (h, .inr (7, [.ref jj, .ref dd, .int (nI 0), .int (nI 0)])), (jj, aI k 36 (fun _ => 0)), (dd, aI k 6 (fun _ => 0)), (o4, .inr (8, [.ref h, .ref m1, .ref m2])), (o9, .inr (13, [.ref y1]))]) (st' := [.int (bI (gConn (fun _ => 0) 0))]) (cells' := 0) (slots' := 0) (g' := 0) (by decide) rfl rfl rfl rfl rfl ?_
    refine g_if_ne (pc := 31) C 36 (by decide) dX10_isSound_31 (fun c_31 => ?_) (fun c_31 => ?_)
    · exact absurd (show bI (gConn (fun _ => 0) 0) = 0 by rw [gConn_0]; rfl) c_31
    · refine g_iconst (pc := 34) (v := 1) C (by decide) dX10_isSound_34 ?_
      exact g_zret (pc := 35) C hr (by first | rfl | exact bI_nar _) hlk (by first | decide | omega) (by first | decide | omega) (by first | decide | omega) dX10_isSound_35 ⟨rfl, rfl⟩
  · exact absurd (lg_cmp_e 0) c_19
set_option maxRecDepth 100000 in
set_option maxHeartbeats 400000 in
theorem c_X1_cellNumber {l : Launch} {D : va_G} {k : Nat → ClassId} (o1 : Nat) (d1 : Nat) (wd : Int32)  : CM l D k yX1_cellNumber cX1_cellNumber 1 (some .int)  0 0 [.ref o1] [(o1, .inr (5, [.ref d1, .int wd]))] (is1 (some (.int (wd * wd))) [(o1, .inr (5, [.ref d1, .int wd]))]) 0 0 0 := by
  refine CM.of (lv0 := [(0, .ref o1)]) (by decide +kernel) (Nat.le_of_ble_eq_true rfl) rfl ?_
  intro p9 e9 s9 m9 bl9 me9 co9 C hr hlk hin had
  refine g_aload_n (pc := 0) C 0 rfl rfl dX1_cellNumber_0 ?_
  refine g_get (pc := 1) C (T := TX1) inX1 0 rfl rfl 1 (by decide) q_131 rfl rfl dX1_cellNumber_1 ?_
  refine g_aload_n (pc := 4) C 0 rfl rfl dX1_cellNumber_4 ?_
  refine g_get (pc := 5) C (T := TX1) inX1 0 rfl rfl 1 (by decide) q_131 rfl rfl dX1_cellNumber_5 ?_
  refine g_imul (pc := 8) C dX1_cellNumber_8 ?_
  exact g_iret (pc := 9) C hr hlk (by first | decide | omega) (by first | decide | omega) (by first | decide | omega) dX1_cellNumber_9 ⟨rfl, rfl⟩
set_option maxRecDepth 100000 in
set_option maxHeartbeats 400000 in
theorem c_X10_pixel_x {l : Launch} {D : va_G} {k : Nat → ClassId} (o : Nat) (h : Nat) (pp : Nat) (x2 : Nat) (x3 : Nat) (x4 : Nat) (o2 : Nat) (o4 : Nat) (o9 : Nat) (o7 : Nat) (o0 : Nat) (o1 : Nat) (d1 : Nat) (v : Int32)  : CT l D k yX10_pixel cX10_pixel 2 (some .int) 6 82 [.ref o, .int v] [(o, .inr (14, [.ref h, .ref pp, .ref x2, .ref x3, .ref x4, .ref o2, .ref o4, .ref o9, .ref o7, .ref o0, .ref o1])), (o1, .inr (5, [.ref d1, .int 0]))] "java/util/NoSuchElementException" [(o, .inr (14, [.ref h, .ref pp, .ref x2, .ref x3, .ref x4, .ref o2, .ref o4, .ref o9, .ref o7, .ref o0, .ref o1])), (o1, .inr (5, [.ref d1, .int 0]))] 1 6 := by
  refine CT.of (lv0 := [(0, .ref o), (1, .int v)]) (by decide +kernel) (Nat.le_of_ble_eq_true rfl) rfl ?_
  intro p9 e9 s9 m9 bl9 me9 co9 C hr hlk hin had hex
  refine g_aload_n (pc := 0) C 0 rfl rfl dX10_pixel_0 ?_
  refine g_get (pc := 1) C (T := TX10) inX10 0 rfl rfl 10 (by decide) q_185 rfl rfl dX10_pixel_1 ?_
  refine g_callV (pc := 4) (cells := 0) (slots := 0) (g := 0) (As := []) (st := []) (T := TX1) (q0 := 1) C (nA := 0) rfl (c_X1_cellNumber o1 d1 0 ) q_234 q_235 q_233 q_182 q_232 (by decide +kernel) rfl rfl dX10_pixel_4 ⟨Nat.le_of_ble_eq_true rfl, Nat.le_of_ble_eq_true rfl⟩ [1] [0] rfl (wr := [(o, .inr (14, [.ref h, .ref pp, .ref x2, .ref x3, .ref x4, .ref o2, .ref o4, .ref o9, .ref o7, .ref o0, .ref o1]))]) rfl (by decide) (by decide) (by decide) (Nat.le_of_ble_eq_true rfl) ⟨Nat.le_of_ble_eq_true rfl, Nat.le_of_ble_eq_true rfl⟩ (fun rv w1 h1 => ?_)
  obtain ⟨rfl, rfl⟩ := h1
  refine G.aft [0, 1] (ws' := [(o, .inr (14, [.ref h, .ref pp, .ref x2, .ref x3, .ref x4, .ref o2, .ref o4, .ref o9, .ref o7, .ref o0, .ref o1])), (o1, .inr (5, [.ref d1, .int 0]))]) (st' := [.int (0 * 0)]) (cells' := 0) (slots' := 0) (g' := 0) (by decide) rfl rfl rfl rfl rfl ?_
  refine g_if_ne (pc := 7) C 21 (by decide) dX10_pixel_7 (fun c_7 => ?_) (fun c_7 => ?_)
  · exact absurd c_7 (by decide)
  · exact g_throwNS (pc := 10) (text := "there is no picture") C (by decide) q_236 q_237 nsx_4_1 nsx_4_2 nsx_4_3 dX10_pixel_10 dX10_pixel_13 dX10_pixel_14 dX10_pixel_17 dX10_pixel_20 hex (by decide) (Nat.le_of_ble_eq_true rfl) (Nat.le_of_ble_eq_true rfl) (Nat.le_of_ble_eq_true rfl) hlk rfl (by first | decide | omega) (by first | decide | omega)
set_option maxRecDepth 100000 in
set_option maxHeartbeats 400000 in
theorem c_X10_settledShare_x {l : Launch} {D : va_G} {k : Nat → ClassId} (o : Nat) (h : Nat) (pp : Nat) (x2 : Nat) (x3 : Nat) (x4 : Nat) (o2 : Nat) (o4 : Nat) (o9 : Nat) (o7 : Nat) (o0 : Nat) (o1 : Nat) (jj : Nat) (dd : Nat)  : CT l D k yX10_settledShare cX10_settledShare 4 (some .float) 6 82 [.ref o] [(o, .inr (14, [.ref h, .ref pp, .ref x2, .ref x3, .ref x4, .ref o2, .ref o4, .ref o9, .ref o7, .ref o0, .ref o1])), (h, .inr (7, [.ref jj, .ref dd, .int (nI 0), .int (nI 0)])), (jj, aI k 36 (fun _ => 0)), (dd, aI k 6 (fun _ => 0))] "java/lang/ArithmeticException" [(o, .inr (14, [.ref h, .ref pp, .ref x2, .ref x3, .ref x4, .ref o2, .ref o4, .ref o9, .ref o7, .ref o0, .ref o1])), (h, .inr (7, [.ref jj, .ref dd, .int (nI 0), .int (nI 0)])), (jj, aI k 36 (fun _ => 0)), (dd, aI k 6 (fun _ => 0))] 1 6 := by
  refine CT.of (lv0 := [(0, .ref o)]) (by decide +kernel) (Nat.le_of_ble_eq_true rfl) rfl ?_
  intro p9 e9 s9 m9 bl9 me9 co9 C hr hlk hin had hex
  refine g_aload_n (pc := 0) C 0 rfl rfl dX10_settledShare_0 ?_
  refine g_get (pc := 1) C (T := TX10) inX10 0 rfl rfl 0 (by decide) q_143 rfl rfl dX10_settledShare_1 ?_
  refine g_callV (pc := 4) (cells := 0) (slots := 0) (g := 0) (As := []) (st := []) (T := TX3) (q0 := 1) C (nA := 0) rfl (c_X3_others_z h jj dd ) q_239 q_218 q_216 q_16 q_215 (by decide +kernel) rfl rfl dX10_settledShare_4 ⟨Nat.le_of_ble_eq_true rfl, Nat.le_of_ble_eq_true rfl⟩ [1, 2, 3] [0] rfl (wr := [(o, .inr (14, [.ref h, .ref pp, .ref x2, .ref x3, .ref x4, .ref o2, .ref o4, .ref o9, .ref o7, .ref o0, .ref o1]))]) rfl (by decide) (by decide) (by decide) (Nat.le_of_ble_eq_true rfl) ⟨Nat.le_of_ble_eq_true rfl, Nat.le_of_ble_eq_true rfl⟩ (fun rv w1 h1 => ?_)
  obtain ⟨rfl, rfl⟩ := h1
  refine G.aft [0, 1, 2, 3] (ws' := [(o, .inr (14, [.ref h, .ref pp, .ref x2, .ref x3, .ref x4, .ref o2, .ref o4, .ref o9, .ref o7, .ref o0, .ref o1])), (h, .inr (7, [.ref jj, .ref dd, .int (nI 0), .int (nI 0)])), (jj, aI k 36 (fun _ => 0)), (dd, aI k 6 (fun _ => 0))]) (st' := [.int (nI 0)]) (cells' := 0) (slots' := 0) (g' := 0) (by decide) rfl rfl rfl rfl rfl ?_
  refine g_istore_n (pc := 7) C [(1, .int (nI 0)), (0, .ref o)] rfl dX10_settledShare_7 (by decide) rfl ?_
  refine g_iload_n (pc := 8) C 0 rfl rfl dX10_settledShare_8 ?_
  refine g_iconst (pc := 9) (v := 1) C (by decide) dX10_settledShare_9 ?_
  refine g_icmp_ge (pc := 10) C 24 (by decide) dX10_settledShare_10 (fun c_10 => ?_) (fun c_10 => ?_)
  · exact absurd c_10 (by decide)
  · exact g_throwSW (pc := 13) (text := "there are fewer than 2 vertices") C ["java/lang/RuntimeException", "java/lang/Exception"] (by decide) (by decide) q_242 q_243 ex_5_1 ex_5_2 exg_6 (by decide) (by decide) dX10_settledShare_13 dX10_settledShare_16 dX10_settledShare_17 dX10_settledShare_20 dX10_settledShare_23 hex (by decide) (by decide) (Nat.le_of_ble_eq_true rfl) (Nat.le_of_ble_eq_true rfl) hlk rfl (by first | decide | omega) (by first | decide | omega)
set_option maxRecDepth 100000 in
set_option maxHeartbeats 400000 in
theorem c_X10_meanChips_x {l : Launch} {D : va_G} {k : Nat → ClassId} (o : Nat) (h : Nat) (pp : Nat) (x2 : Nat) (x3 : Nat) (x4 : Nat) (o2 : Nat) (o4 : Nat) (o9 : Nat) (o7 : Nat) (o0 : Nat) (o1 : Nat) (jj : Nat) (dd : Nat)  : CT l D k yX10_meanChips cX10_meanChips 2 (some .double) 6 82 [.ref o] [(o, .inr (14, [.ref h, .ref pp, .ref x2, .ref x3, .ref x4, .ref o2, .ref o4, .ref o9, .ref o7, .ref o0, .ref o1])), (h, .inr (7, [.ref jj, .ref dd, .int (nI 0), .int (nI 0)])), (jj, aI k 36 (fun _ => 0)), (dd, aI k 6 (fun _ => 0))] "java/lang/ArithmeticException" [(o, .inr (14, [.ref h, .ref pp, .ref x2, .ref x3, .ref x4, .ref o2, .ref o4, .ref o9, .ref o7, .ref o0, .ref o1])), (h, .inr (7, [.ref jj, .ref dd, .int (nI 0), .int (nI 0)])), (jj, aI k 36 (fun _ => 0)), (dd, aI k 6 (fun _ => 0))] 1 6 := by
  refine CT.of (lv0 := [(0, .ref o)]) (by decide +kernel) (Nat.le_of_ble_eq_true rfl) rfl ?_
  intro p9 e9 s9 m9 bl9 me9 co9 C hr hlk hin had hex
  refine g_aload_n (pc := 0) C 0 rfl rfl dX10_meanChips_0 ?_
  refine g_get (pc := 1) C (T := TX10) inX10 0 rfl rfl 0 (by decide) q_143 rfl rfl dX10_meanChips_1 ?_
  refine g_callV (pc := 4) (cells := 0) (slots := 0) (g := 0) (As := []) (st := []) (T := TX3) (q0 := 1) C (nA := 0) rfl (c_X3_others_z h jj dd ) q_239 q_218 q_216 q_16 q_215 (by decide +kernel) rfl rfl dX10_meanChips_4 ⟨Nat.le_of_ble_eq_true rfl, Nat.le_of_ble_eq_true rfl⟩ [1, 2, 3] [0] rfl (wr := [(o, .inr (14, [.ref h, .ref pp, .ref x2, .ref x3, .ref x4, .ref o2, .ref o4, .ref o9, .ref o7, .ref o0, .ref o1]))]) rfl (by decide) (by decide) (by decide) (Nat.le_of_ble_eq_true rfl) ⟨Nat.le_of_ble_eq_true rfl, Nat.le_of_ble_eq_true rfl⟩ (fun rv w1 h1 => ?_)
  obtain ⟨rfl, rfl⟩ := h1
  refine G.aft [0, 1, 2, 3] (ws' := [(o, .inr (14, [.ref h, .ref pp, .ref x2, .ref x3, .ref x4, .ref o2, .ref o4, .ref o9, .ref o7, .ref o0, .ref o1])), (h, .inr (7, [.ref jj, .ref dd, .int (nI 0), .int (nI 0)])), (jj, aI k 36 (fun _ => 0)), (dd, aI k 6 (fun _ => 0))]) (st' := [.int (nI 0)]) (cells' := 0) (slots' := 0) (g' := 0) (by decide) rfl rfl rfl rfl rfl ?_
  refine g_istore_n (pc := 7) C [(1, .int (nI 0)), (0, .ref o)] rfl dX10_meanChips_7 (by decide) rfl ?_
  refine g_iload_n (pc := 8) C 0 rfl rfl dX10_meanChips_8 ?_
  refine g_iconst (pc := 9) (v := 1) C (by decide) dX10_meanChips_9 ?_
  refine g_icmp_ge (pc := 10) C 24 (by decide) dX10_meanChips_10 (fun c_10 => ?_) (fun c_10 => ?_)
  · exact absurd c_10 (by decide)
  · exact g_throwSW (pc := 13) (text := "there are fewer than 2 vertices") C ["java/lang/RuntimeException", "java/lang/Exception"] (by decide) (by decide) q_242 q_243 ex_5_1 ex_5_2 exg_6 (by decide) (by decide) dX10_meanChips_13 dX10_meanChips_16 dX10_meanChips_17 dX10_meanChips_20 dX10_meanChips_23 hex (by decide) (by decide) (Nat.le_of_ble_eq_true rfl) (Nat.le_of_ble_eq_true rfl) hlk rfl (by first | decide | omega) (by first | decide | omega)
set_option maxRecDepth 100000 in
set_option maxHeartbeats 400000 in
theorem c_X10_beginAgain {l : Launch} {D : va_G} {k : Nat → ClassId} (o : Nat) (h : Nat) (pp : Nat) (x2 : Nat) (x3 : Nat) (x4 : Nat) (o2 : Nat) (o4 : Nat) (o9 : Nat) (o7 : Nat) (o0 : Nat) (o1 : Nat) (r1 : Nat) (a1 : Nat) (r2 : Nat) (a2 : Nat) (f : Nat → Int32) (ct : Nat → Int32) (tk : Int32) (s1 : Nat) (b1 : Nat) (s2 : Nat) (b2 : Nat) (f7 : Nat → Int32) (g7 : Nat → Int32) (t1 : Nat) (t2 : Nat) (t3 : Nat) (t4 : Nat) (t5 : Nat) (u1 : Nat) (f0 : Nat → Int32)  : CM l D k yX10_beginAgain cX10_beginAgain 1 none  2 42 [.ref o] [(o, .inr (14, [.ref h, .ref pp, .ref x2, .ref x3, .ref x4, .ref o2, .ref o4, .ref o9, .ref o7, .ref o0, .ref o1])), (pp, .inr (10, [.ref h, .ref r1, .ref r2, .int tk])), (r1, .inr (12, [.ref a1])), (a1, aI k 6 f), (r2, .inr (12, [.ref a2])), (a2, aI k 6 ct), (o7, .inr (11, [.ref h, .ref s1, .ref s2])), (s1, .inr (12, [.ref b1])), (b1, aI k 6 f7), (s2, .inr (12, [.ref b2])), (b2, aI k 6 g7), (o0, .inr (4, [.ref h, .ref o2, .ref t1, .ref t2, .ref t3, .ref t4, .ref t5])), (t1, .inr (12, [.ref u1])), (u1, aI k 6 f0)] (is1 none [(o, .inr (14, [.ref h, .ref pp, .ref x2, .ref x3, .ref x4, .ref o2, .ref o4, .ref o9, .ref o7, .ref o0, .ref o1])), (pp, .inr (10, [.ref h, .ref r1, .ref r2, .int 0])), (r1, .inr (12, [.ref a1])), (a1, aI k 6 (fun _ => 0)), (r2, .inr (12, [.ref a2])), (a2, aI k 6 (fun _ => 0)), (o7, .inr (11, [.ref h, .ref s1, .ref s2])), (s1, .inr (12, [.ref b1])), (b1, aI k 6 (fun _ => 0)), (s2, .inr (12, [.ref b2])), (b2, aI k 6 (fun _ => 0)), (o0, .inr (4, [.ref h, .ref o2, .ref t1, .ref t2, .ref t3, .ref t4, .ref t5])), (t1, .inr (12, [.ref u1])), (u1, aI k 6 (fun _ => 0))]) 0 0 0 := by
  refine CM.of (lv0 := [(0, .ref o)]) (by decide +kernel) (Nat.le_of_ble_eq_true rfl) rfl ?_
  intro p9 e9 s9 m9 bl9 me9 co9 C hr hlk hin had
  refine g_aload_n (pc := 0) C 0 rfl rfl dX10_beginAgain_0 ?_
  refine g_get (pc := 1) C (T := TX10) inX10 0 rfl rfl 1 (by decide) q_147 rfl rfl dX10_beginAgain_1 ?_
  refine g_callV (pc := 4) (cells := 0) (slots := 0) (g := 0) (As := []) (st := []) (T := TX6) (q0 := 1) C (nA := 0) rfl (c_X6_clear h pp r1 a1 r2 a2 f ct tk ) q_244 q_46 q_44 q_43 q_42 (by decide +kernel) rfl rfl dX10_beginAgain_4 ⟨Nat.le_of_ble_eq_true rfl, Nat.le_of_ble_eq_true rfl⟩ [1, 2, 3, 4, 5] [0, 6, 7, 8, 9, 10, 11, 12, 13] rfl (wr := [(o, .inr (14, [.ref h, .ref pp, .ref x2, .ref x3, .ref x4, .ref o2, .ref o4, .ref o9, .ref o7, .ref o0, .ref o1])), (o7, .inr (11, [.ref h, .ref s1, .ref s2])), (s1, .inr (12, [.ref b1])), (b1, aI k 6 f7), (s2, .inr (12, [.ref b2])), (b2, aI k 6 g7), (o0, .inr (4, [.ref h, .ref o2, .ref t1, .ref t2, .ref t3, .ref t4, .ref t5])), (t1, .inr (12, [.ref u1])), (u1, aI k 6 f0)]) rfl (by decide) (by decide) (by decide) (Nat.le_of_ble_eq_true rfl) ⟨Nat.le_of_ble_eq_true rfl, Nat.le_of_ble_eq_true rfl⟩ (fun rv w1 h1 => ?_)
  obtain ⟨rfl, rfl⟩ := h1
  refine G.aft [0, 9, 10, 11, 12, 13, 1, 2, 3, 4, 5, 6, 7, 8] (ws' := [(o, .inr (14, [.ref h, .ref pp, .ref x2, .ref x3, .ref x4, .ref o2, .ref o4, .ref o9, .ref o7, .ref o0, .ref o1])), (pp, .inr (10, [.ref h, .ref r1, .ref r2, .int 0])), (r1, .inr (12, [.ref a1])), (a1, aI k 6 (fun _ => 0)), (r2, .inr (12, [.ref a2])), (a2, aI k 6 (fun _ => 0)), (o7, .inr (11, [.ref h, .ref s1, .ref s2])), (s1, .inr (12, [.ref b1])), (b1, aI k 6 f7), (s2, .inr (12, [.ref b2])), (b2, aI k 6 g7), (o0, .inr (4, [.ref h, .ref o2, .ref t1, .ref t2, .ref t3, .ref t4, .ref t5])), (t1, .inr (12, [.ref u1])), (u1, aI k 6 f0)]) (st' := []) (cells' := 0) (slots' := 0) (g' := 0) (by decide) rfl rfl rfl rfl rfl ?_
  refine g_aload_n (pc := 7) C 0 rfl rfl dX10_beginAgain_7 ?_
  refine g_get (pc := 8) C (T := TX10) inX10 0 rfl rfl 8 (by decide) q_172 rfl rfl dX10_beginAgain_8 ?_
  refine g_callV (pc := 11) (cells := 0) (slots := 0) (g := 0) (As := []) (st := []) (T := TX7) (q0 := 6) C (nA := 0) rfl (c_X7_clear o7 h s1 b1 s2 b2 f7 g7 ) q_247 q_248 q_246 q_168 q_245 (by decide +kernel) rfl rfl dX10_beginAgain_11 ⟨Nat.le_of_ble_eq_true rfl, Nat.le_of_ble_eq_true rfl⟩ [6, 7, 8, 9, 10] [0, 1, 2, 3, 4, 5, 11, 12, 13] rfl (wr := [(o, .inr (14, [.ref h, .ref pp, .ref x2, .ref x3, .ref x4, .ref o2, .ref o4, .ref o9, .ref o7, .ref o0, .ref o1])), (pp, .inr (10, [.ref h, .ref r1, .ref r2, .int 0])), (r1, .inr (12, [.ref a1])), (a1, aI k 6 (fun _ => 0)), (r2, .inr (12, [.ref a2])), (a2, aI k 6 (fun _ => 0)), (o0, .inr (4, [.ref h, .ref o2, .ref t1, .ref t2, .ref t3, .ref t4, .ref t5])), (t1, .inr (12, [.ref u1])), (u1, aI k 6 f0)]) rfl (by decide) (by decide) (by decide) (Nat.le_of_ble_eq_true rfl) ⟨Nat.le_of_ble_eq_true rfl, Nat.le_of_ble_eq_true rfl⟩ (fun rv w1 h1 => ?_)
  obtain ⟨rfl, rfl⟩ := h1
  refine G.aft [0, 1, 2, 3, 4, 5, 9, 10, 11, 12, 13, 6, 7, 8] (ws' := [(o, .inr (14, [.ref h, .ref pp, .ref x2, .ref x3, .ref x4, .ref o2, .ref o4, .ref o9, .ref o7, .ref o0, .ref o1])), (pp, .inr (10, [.ref h, .ref r1, .ref r2, .int 0])), (r1, .inr (12, [.ref a1])), (a1, aI k 6 (fun _ => 0)), (r2, .inr (12, [.ref a2])), (a2, aI k 6 (fun _ => 0)), (o7, .inr (11, [.ref h, .ref s1, .ref s2])), (s1, .inr (12, [.ref b1])), (b1, aI k 6 (fun _ => 0)), (s2, .inr (12, [.ref b2])), (b2, aI k 6 (fun _ => 0)), (o0, .inr (4, [.ref h, .ref o2, .ref t1, .ref t2, .ref t3, .ref t4, .ref t5])), (t1, .inr (12, [.ref u1])), (u1, aI k 6 f0)]) (st' := []) (cells' := 0) (slots' := 0) (g' := 0) (by decide) rfl rfl rfl rfl rfl ?_
  refine g_aload_n (pc := 14) C 0 rfl rfl dX10_beginAgain_14 ?_
  refine g_get (pc := 15) C (T := TX10) inX10 0 rfl rfl 9 (by decide) q_179 rfl rfl dX10_beginAgain_15 ?_
  refine g_callV (pc := 18) (cells := 0) (slots := 0) (g := 0) (As := []) (st := []) (T := TX0) (q0 := 11) C (nA := 0) rfl (c_X0_clear o0 h o2 t1 t2 t3 t4 t5 u1 f0 ) q_251 q_252 q_250 q_175 q_249 (by decide +kernel) rfl rfl dX10_beginAgain_18 ⟨Nat.le_of_ble_eq_true rfl, Nat.le_of_ble_eq_true rfl⟩ [11, 12, 13] [0, 1, 2, 3, 4, 5, 6, 7, 8, 9, 10] rfl (wr := [(o, .inr (14, [.ref h, .ref pp, .ref x2, .ref x3, .ref x4, .ref o2, .ref o4, .ref o9, .ref o7, .ref o0, .ref o1])), (pp, .inr (10, [.ref h, .ref r1, .ref r2, .int 0])), (r1, .inr (12, [.ref a1])), (a1, aI k 6 (fun _ => 0)), (r2, .inr (12, [.ref a2])), (a2, aI k 6 (fun _ => 0)), (o7, .inr (11, [.ref h, .ref s1, .ref s2])), (s1, .inr (12, [.ref b1])), (b1, aI k 6 (fun _ => 0)), (s2, .inr (12, [.ref b2])), (b2, aI k 6 (fun _ => 0))]) rfl (by decide) (by decide) (by decide) (Nat.le_of_ble_eq_true rfl) ⟨Nat.le_of_ble_eq_true rfl, Nat.le_of_ble_eq_true rfl⟩ (fun rv w1 h1 => ?_)
  obtain ⟨rfl, rfl⟩ := h1
  refine G.aft [0, 1, 2, 3, 4, 5, 6, 7, 8, 9, 10, 11, 12, 13] (ws' := [(o, .inr (14, [.ref h, .ref pp, .ref x2, .ref x3, .ref x4, .ref o2, .ref o4, .ref o9, .ref o7, .ref o0, .ref o1])), (pp, .inr (10, [.ref h, .ref r1, .ref r2, .int 0])), (r1, .inr (12, [.ref a1])), (a1, aI k 6 (fun _ => 0)), (r2, .inr (12, [.ref a2])), (a2, aI k 6 (fun _ => 0)), (o7, .inr (11, [.ref h, .ref s1, .ref s2])), (s1, .inr (12, [.ref b1])), (b1, aI k 6 (fun _ => 0)), (s2, .inr (12, [.ref b2])), (b2, aI k 6 (fun _ => 0)), (o0, .inr (4, [.ref h, .ref o2, .ref t1, .ref t2, .ref t3, .ref t4, .ref t5])), (t1, .inr (12, [.ref u1])), (u1, aI k 6 (fun _ => 0))]) (st' := []) (cells' := 0) (slots' := 0) (g' := 0) (by decide) rfl rfl rfl rfl rfl ?_
  exact g_vret (pc := 21) C hr hlk (by first | decide | omega) (by first | decide | omega) (by first | decide | omega) dX10_beginAgain_21 ⟨rfl, rfl⟩
set_option maxRecDepth 100000 in
set_option maxHeartbeats 400000 in
theorem c_X10_vertex {l : Launch} {D : va_G} {k : Nat → ClassId} (o : Nat) (h : Nat) (pp : Nat) (x2 : Nat) (x3 : Nat) (x4 : Nat) (o2 : Nat) (o4 : Nat) (o9 : Nat) (o7 : Nat) (o0 : Nat) (o1 : Nat) (jj : Nat) (dd : Nat) (n : Nat) (z : Nat) (fj : Nat → Int32) (fd : Nat → Int32) (r1 : Nat) (a1 : Nat) (r2 : Nat) (a2 : Nat) (f : Nat → Int32) (ct : Nat → Int32) (tk : Int32) (s1 : Nat) (b1 : Nat) (s2 : Nat) (b2 : Nat) (f7 : Nat → Int32) (g7 : Nat → Int32) (t1 : Nat) (t2 : Nat) (t3 : Nat) (t4 : Nat) (t5 : Nat) (u1 : Nat) (f0 : Nat → Int32) (hn : n < 6) : CM l D k yX10_vertex cX10_vertex 2 (some .int)  3 62 [.ref o] [(o, .inr (14, [.ref h, .ref pp, .ref x2, .ref x3, .ref x4, .ref o2, .ref o4, .ref o9, .ref o7, .ref o0, .ref o1])), (h, .inr (7, [.ref jj, .ref dd, .int (nI n), .int (nI z)])), (jj, aI k 36 fj), (dd, aI k 6 fd), (pp, .inr (10, [.ref h, .ref r1, .ref r2, .int tk])), (r1, .inr (12, [.ref a1])), (a1, aI k 6 f), (r2, .inr (12, [.ref a2])), (a2, aI k 6 ct), (o7, .inr (11, [.ref h, .ref s1, .ref s2])), (s1, .inr (12, [.ref b1])), (b1, aI k 6 f7), (s2, .inr (12, [.ref b2])), (b2, aI k 6 g7), (o0, .inr (4, [.ref h, .ref o2, .ref t1, .ref t2, .ref t3, .ref t4, .ref t5])), (t1, .inr (12, [.ref u1])), (u1, aI k 6 f0)] (is1 (some (.int (nI n))) [(o, .inr (14, [.ref h, .ref pp, .ref x2, .ref x3, .ref x4, .ref o2, .ref o4, .ref o9, .ref o7, .ref o0, .ref o1])), (h, .inr (7, [.ref jj, .ref dd, .int (nI (n + 1)), .int (nI z)])), (jj, aI k 36 fj), (dd, aI k 6 fd), (pp, .inr (10, [.ref h, .ref r1, .ref r2, .int 0])), (r1, .inr (12, [.ref a1])), (a1, aI k 6 (fun _ => 0)), (r2, .inr (12, [.ref a2])), (a2, aI k 6 (fun _ => 0)), (o7, .inr (11, [.ref h, .ref s1, .ref s2])), (s1, .inr (12, [.ref b1])), (b1, aI k 6 (fun _ => 0)), (s2, .inr (12, [.ref b2])), (b2, aI k 6 (fun _ => 0)), (o0, .inr (4, [.ref h, .ref o2, .ref t1, .ref t2, .ref t3, .ref t4, .ref t5])), (t1, .inr (12, [.ref u1])), (u1, aI k 6 (fun _ => 0))]) 0 0 0 := by
  refine CM.of (lv0 := [(0, .ref o)]) (by decide +kernel) (Nat.le_of_ble_eq_true rfl) rfl ?_
  intro p9 e9 s9 m9 bl9 me9 co9 C hr hlk hin had
  refine g_aload_n (pc := 0) C 0 rfl rfl dX10_vertex_0 ?_
  refine g_get (pc := 1) C (T := TX10) inX10 0 rfl rfl 0 (by decide) q_143 rfl rfl dX10_vertex_1 ?_
  refine g_callV (pc := 4) (cells := 0) (slots := 0) (g := 0) (As := []) (st := []) (T := TX3) (q0 := 1) C (nA := 0) rfl (c_X3_size h jj dd n z fj fd ) q_253 q_67 q_65 q_16 q_64 (by decide +kernel) rfl rfl dX10_vertex_4 ⟨Nat.le_of_ble_eq_true rfl, Nat.le_of_ble_eq_true rfl⟩ [1, 2, 3] [0, 4, 5, 6, 7, 8, 9, 10, 11, 12, 13, 14, 15, 16] rfl (wr := [(o, .inr (14, [.ref h, .ref pp, .ref x2, .ref x3, .ref x4, .ref o2, .ref o4, .ref o9, .ref o7, .ref o0, .ref o1])), (pp, .inr (10, [.ref h, .ref r1, .ref r2, .int tk])), (r1, .inr (12, [.ref a1])), (a1, aI k 6 f), (r2, .inr (12, [.ref a2])), (a2, aI k 6 ct), (o7, .inr (11, [.ref h, .ref s1, .ref s2])), (s1, .inr (12, [.ref b1])), (b1, aI k 6 f7), (s2, .inr (12, [.ref b2])), (b2, aI k 6 g7), (o0, .inr (4, [.ref h, .ref o2, .ref t1, .ref t2, .ref t3, .ref t4, .ref t5])), (t1, .inr (12, [.ref u1])), (u1, aI k 6 f0)]) rfl (by decide) (by decide) (by decide) (Nat.le_of_ble_eq_true rfl) ⟨Nat.le_of_ble_eq_true rfl, Nat.le_of_ble_eq_true rfl⟩ (fun rv w1 h1 => ?_)
  obtain ⟨rfl, rfl⟩ := h1
  refine G.aft [0, 14, 15, 16, 1, 2, 3, 4, 5, 6, 7, 8, 9, 10, 11, 12, 13] (ws' := [(o, .inr (14, [.ref h, .ref pp, .ref x2, .ref x3, .ref x4, .ref o2, .ref o4, .ref o9, .ref o7, .ref o0, .ref o1])), (h, .inr (7, [.ref jj, .ref dd, .int (nI n), .int (nI z)])), (jj, aI k 36 fj), (dd, aI k 6 fd), (pp, .inr (10, [.ref h, .ref r1, .ref r2, .int tk])), (r1, .inr (12, [.ref a1])), (a1, aI k 6 f), (r2, .inr (12, [.ref a2])), (a2, aI k 6 ct), (o7, .inr (11, [.ref h, .ref s1, .ref s2])), (s1, .inr (12, [.ref b1])), (b1, aI k 6 f7), (s2, .inr (12, [.ref b2])), (b2, aI k 6 g7), (o0, .inr (4, [.ref h, .ref o2, .ref t1, .ref t2, .ref t3, .ref t4, .ref t5])), (t1, .inr (12, [.ref u1])), (u1, aI k 6 f0)]) (st' := [.int (nI n)]) (cells' := 0) (slots' := 0) (g' := 0) (by decide) rfl rfl rfl rfl rfl ?_
  refine g_bipush (pc := 7) (v := 6) C (by decide) dX10_vertex_7 ?_
  refine g_icmp_lt (pc := 9) C 22 (by decide) dX10_vertex_9 (fun c_9 => ?_) (fun c_9 => ?_)
  · refine g_aload_n (pc := 22) C 0 rfl rfl dX10_vertex_22 ?_
    refine g_get (pc := 23) C (T := TX10) inX10 0 rfl rfl 0 (by decide) q_143 rfl rfl dX10_vertex_23 ?_
    refine g_callV (pc := 26) (cells := 0) (slots := 0) (g := 0) (As := []) (st := []) (T := TX3) (q0 := 1) C (nA := 0) rfl (c_X3_grow h jj dd n z fj fd ) q_256 q_257 q_255 q_16 q_254 (by decide +kernel) rfl rfl dX10_vertex_26 ⟨Nat.le_of_ble_eq_true rfl, Nat.le_of_ble_eq_true rfl⟩ [1, 2, 3] [0, 4, 5, 6, 7, 8, 9, 10, 11, 12, 13, 14, 15, 16] rfl (wr := [(o, .inr (14, [.ref h, .ref pp, .ref x2, .ref x3, .ref x4, .ref o2, .ref o4, .ref o9, .ref o7, .ref o0, .ref o1])), (pp, .inr (10, [.ref h, .ref r1, .ref r2, .int tk])), (r1, .inr (12, [.ref a1])), (a1, aI k 6 f), (r2, .inr (12, [.ref a2])), (a2, aI k 6 ct), (o7, .inr (11, [.ref h, .ref s1, .ref s2])), (s1, .inr (12, [.ref b1])), (b1, aI k 6 f7), (s2, .inr (12, [.ref b2])), (b2, aI k 6 g7), (o0, .inr (4, [.ref h, .ref o2, .ref t1, .ref t2, .ref t3, .ref t4, .ref t5])), (t1, .inr (12, [.ref u1])), (u1, aI k 6 f0)]) rfl (by decide) (by decide) (by decide) (Nat.le_of_ble_eq_true rfl) ⟨Nat.le_of_ble_eq_true rfl, Nat.le_of_ble_eq_true rfl⟩ (fun rv w1 h1 => ?_)
    obtain ⟨rfl, rfl⟩ := h1
    refine G.aft [0, 14, 15, 16, 1, 2, 3, 4, 5, 6, 7, 8, 9, 10, 11, 12, 13] (ws' := [(o, .inr (14, [.ref h, .ref pp, .ref x2, .ref x3, .ref x4, .ref o2, .ref o4, .ref o9, .ref o7, .ref o0, .ref o1])), (h, .inr (7, [.ref jj, .ref dd, .int (nI (n + 1)), .int (nI z)])), (jj, aI k 36 fj), (dd, aI k 6 fd), (pp, .inr (10, [.ref h, .ref r1, .ref r2, .int tk])), (r1, .inr (12, [.ref a1])), (a1, aI k 6 f), (r2, .inr (12, [.ref a2])), (a2, aI k 6 ct), (o7, .inr (11, [.ref h, .ref s1, .ref s2])), (s1, .inr (12, [.ref b1])), (b1, aI k 6 f7), (s2, .inr (12, [.ref b2])), (b2, aI k 6 g7), (o0, .inr (4, [.ref h, .ref o2, .ref t1, .ref t2, .ref t3, .ref t4, .ref t5])), (t1, .inr (12, [.ref u1])), (u1, aI k 6 f0)]) (st' := [.int (nI n)]) (cells' := 0) (slots' := 0) (g' := 0) (by decide) rfl rfl rfl rfl rfl ?_
    refine g_istore_n (pc := 29) C [(1, .int (nI n)), (0, .ref o)] rfl dX10_vertex_29 (by decide) rfl ?_
    refine g_aload_n (pc := 30) C 1 rfl rfl dX10_vertex_30 ?_
    refine g_callV (pc := 31) (cells := 0) (slots := 0) (g := 0) (As := []) (st := []) (T := TX10) (q0 := 0) C (nA := 0) rfl (c_X10_beginAgain o h pp x2 x3 x4 o2 o4 o9 o7 o0 o1 r1 a1 r2 a2 f ct tk s1 b1 s2 b2 f7 g7 t1 t2 t3 t4 t5 u1 f0 ) q_260 q_261 q_259 q_203 q_258 (by decide +kernel) rfl rfl dX10_vertex_31 ⟨Nat.le_of_ble_eq_true rfl, Nat.le_of_ble_eq_true rfl⟩ [0, 4, 5, 6, 7, 8, 9, 10, 11, 12, 13, 14, 15, 16] [1, 2, 3] rfl (wr := [(h, .inr (7, [.ref jj, .ref dd, .int (nI (n + 1)), .int (nI z)])), (jj, aI k 36 fj), (dd, aI k 6 fd)]) rfl (by decide) (by decide) (by decide) (Nat.le_of_ble_eq_true rfl) ⟨Nat.le_of_ble_eq_true rfl, Nat.le_of_ble_eq_true rfl⟩ (fun rv w1 h1 => ?_)
    obtain ⟨rfl, rfl⟩ := h1
    refine G.aft [3, 0, 1, 2, 4, 5, 6, 7, 8, 9, 10, 11, 12, 13, 14, 15, 16] (ws' := [(o, .inr (14, [.ref h, .ref pp, .ref x2, .ref x3, .ref x4, .ref o2, .ref o4, .ref o9, .ref o7, .ref o0, .ref o1])), (h, .inr (7, [.ref jj, .ref dd, .int (nI (n + 1)), .int (nI z)])), (jj, aI k 36 fj), (dd, aI k 6 fd), (pp, .inr (10, [.ref h, .ref r1, .ref r2, .int 0])), (r1, .inr (12, [.ref a1])), (a1, aI k 6 (fun _ => 0)), (r2, .inr (12, [.ref a2])), (a2, aI k 6 (fun _ => 0)), (o7, .inr (11, [.ref h, .ref s1, .ref s2])), (s1, .inr (12, [.ref b1])), (b1, aI k 6 (fun _ => 0)), (s2, .inr (12, [.ref b2])), (b2, aI k 6 (fun _ => 0)), (o0, .inr (4, [.ref h, .ref o2, .ref t1, .ref t2, .ref t3, .ref t4, .ref t5])), (t1, .inr (12, [.ref u1])), (u1, aI k 6 (fun _ => 0))]) (st' := []) (cells' := 0) (slots' := 0) (g' := 0) (by decide) rfl rfl rfl rfl rfl ?_
    refine g_iload_n (pc := 34) C 0 rfl rfl dX10_vertex_34 ?_
    exact g_iret (pc := 35) C hr hlk (by first | decide | omega) (by first | decide | omega) (by first | decide | omega) dX10_vertex_35 ⟨rfl, rfl⟩
  · exact absurd (show nI n < nI 6 from nI_lt hn (by omega)) c_9
