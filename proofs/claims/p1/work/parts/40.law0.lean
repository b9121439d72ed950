theorem dL_edges_0 : decode cL_edges 0 = .ok (.aload 4, 2) := by decide +kernel
theorem dL_edges_2 : decode cL_edges 2 = .ok (.iconst 0, 1) := by decide +kernel
theorem dL_edges_3 : decode cL_edges 3 = .ok (.aload_n 0, 1) := by decide +kernel
theorem dL_edges_4 : decode cL_edges 4 = .ok (.iload_n 1, 1) := by decide +kernel
theorem dL_edges_5 : decode cL_edges 5 = .ok (.iload_n 2, 1) := by decide +kernel
theorem dL_edges_6 : decode cL_edges 6 = .ok (.iload_n 3, 1) := by decide +kernel
theorem dL_edges_7 : decode cL_edges 7 = .ok (.invokevirtual 15, 3) := by decide +kernel
theorem q_308 : (Jvm.Cond.code ({ cls := "Chipfold", name := "edges", desc := "(III)I" } : Jvm.MethodName) prog_1_method_3_code (5 : Nat) (Option.some Jvm.ClassFile.FieldType.int)) ∈ WG := wg_3 (List.mem_of_getElem? (i := 152) rfl) rfl
theorem q_309 : (Jvm.Cond.methodLink "ChipfoldLaw" (15 : Nat) ({ cls := "Chipfold", name := "edges", desc := "(III)I" } : Jvm.MethodName)) ∈ WG := wg_3 (List.mem_of_getElem? (i := 149) (by decide +kernel)) (by decide +kernel)
theorem q_310 : (Jvm.Cond.selects "Chipfold" ({ cls := "Chipfold", name := "edges", desc := "(III)I" } : Jvm.MethodName) ({ cls := "Chipfold", name := "edges", desc := "(III)I" } : Jvm.MethodName)) ∈ WG := wg_3 (List.mem_of_getElem? (i := 151) (by decide +kernel)) (by decide +kernel)
theorem q_311 : (Jvm.Cond.instanceMethod ({ cls := "Chipfold", name := "edges", desc := "(III)I" } : Jvm.MethodName)) ∈ WG := wg_3 (List.mem_of_getElem? (i := 150) (by decide +kernel)) (by decide +kernel)
theorem q_312 : (Jvm.Cond.classLink "ChipfoldLaw" (19 : Nat) "java/lang/IndexOutOfBoundsException") ∈ WG := wg_3 (List.mem_of_getElem? (i := 124) (by decide +kernel)) (by decide +kernel)
theorem dL_edges_15 : decode cL_edges 15 = .ok (.astore 5, 2) := by decide +kernel
theorem dL_edges_17 : decode cL_edges 17 = .ok (.iconst 1, 1) := by decide +kernel
theorem dL_edges_18 : decode cL_edges 18 = .ok (.ireturn, 1) := by decide +kernel
theorem dL_setSink_0 : decode cL_setSink 0 = .ok (.aload_n 2, 1) := by decide +kernel
theorem dL_setSink_1 : decode cL_setSink 1 = .ok (.iconst 0, 1) := by decide +kernel
theorem dL_setSink_2 : decode cL_setSink 2 = .ok (.aload_n 0, 1) := by decide +kernel
theorem dL_setSink_3 : decode cL_setSink 3 = .ok (.iload_n 1, 1) := by decide +kernel
theorem dL_setSink_4 : decode cL_setSink 4 = .ok (.invokevirtual 23, 3) := by decide +kernel
theorem q_313 : (Jvm.Cond.code ({ cls := "Chipfold", name := "setSink", desc := "(I)I" } : Jvm.MethodName) prog_1_method_4_code (3 : Nat) (Option.some Jvm.ClassFile.FieldType.int)) ∈ WG := wg_3 (List.mem_of_getElem? (i := 206) rfl) rfl
theorem q_314 : (Jvm.Cond.methodLink "ChipfoldLaw" (23 : Nat) ({ cls := "Chipfold", name := "setSink", desc := "(I)I" } : Jvm.MethodName)) ∈ WG := wg_3 (List.mem_of_getElem? (i := 203) (by decide +kernel)) (by decide +kernel)
theorem q_315 : (Jvm.Cond.selects "Chipfold" ({ cls := "Chipfold", name := "setSink", desc := "(I)I" } : Jvm.MethodName) ({ cls := "Chipfold", name := "setSink", desc := "(I)I" } : Jvm.MethodName)) ∈ WG := wg_3 (List.mem_of_getElem? (i := 205) (by decide +kernel)) (by decide +kernel)
theorem q_316 : (Jvm.Cond.instanceMethod ({ cls := "Chipfold", name := "setSink", desc := "(I)I" } : Jvm.MethodName)) ∈ WG := wg_3 (List.mem_of_getElem? (i := 204) (by decide +kernel)) (by decide +kernel)
theorem dL_setSink_12 : decode cL_setSink 12 = .ok (.astore_n 3, 1) := by decide +kernel
theorem dL_setSink_13 : decode cL_setSink 13 = .ok (.iconst 1, 1) := by decide +kernel
theorem dL_setSink_14 : decode cL_setSink 14 = .ok (.ireturn, 1) := by decide +kernel
theorem dL_degree_0 : decode cL_degree 0 = .ok (.aload_n 2, 1) := by decide +kernel
theorem dL_degree_1 : decode cL_degree 1 = .ok (.iconst 0, 1) := by decide +kernel
theorem dL_degree_2 : decode cL_degree 2 = .ok (.aload_n 0, 1) := by decide +kernel
theorem dL_degree_3 : decode cL_degree 3 = .ok (.iload_n 1, 1) := by decide +kernel
theorem dL_degree_4 : decode cL_degree 4 = .ok (.invokevirtual 27, 3) := by decide +kernel
theorem q_317 : (Jvm.Cond.code ({ cls := "Chipfold", name := "degree", desc := "(I)I" } : Jvm.MethodName) prog_1_method_5_code (2 : Nat) (Option.some Jvm.ClassFile.FieldType.int)) ∈ WG := wg_3 (List.mem_of_getElem? (i := 221) rfl) rfl
theorem q_318 : (Jvm.Cond.methodLink "ChipfoldLaw" (27 : Nat) ({ cls := "Chipfold", name := "degree", desc := "(I)I" } : Jvm.MethodName)) ∈ WG := wg_3 (List.mem_of_getElem? (i := 218) (by decide +kernel)) (by decide +kernel)
theorem q_319 : (Jvm.Cond.selects "Chipfold" ({ cls := "Chipfold", name := "degree", desc := "(I)I" } : Jvm.MethodName) ({ cls := "Chipfold", name := "degree", desc := "(I)I" } : Jvm.MethodName)) ∈ WG := wg_3 (List.mem_of_getElem? (i := 220) (by decide +kernel)) (by decide +kernel)
theorem q_320 : (Jvm.Cond.instanceMethod ({ cls := "Chipfold", name := "degree", desc := "(I)I" } : Jvm.MethodName)) ∈ WG := wg_3 (List.mem_of_getElem? (i := 219) (by decide +kernel)) (by decide +kernel)
theorem dL_degree_12 : decode cL_degree 12 = .ok (.astore_n 3, 1) := by decide +kernel
theorem dL_degree_13 : decode cL_degree 13 = .ok (.iconst 1, 1) := by decide +kernel
theorem dL_degree_14 : decode cL_degree 14 = .ok (.ireturn, 1) := by decide +kernel
theorem dL_put_0 : decode cL_put 0 = .ok (.aload_n 3, 1) := by decide +kernel
theorem dL_put_1 : decode cL_put 1 = .ok (.iconst 0, 1) := by decide +kernel
theorem dL_put_2 : decode cL_put 2 = .ok (.aload_n 0, 1) := by decide +kernel
theorem dL_put_3 : decode cL_put 3 = .ok (.iload_n 1, 1) := by decide +kernel
theorem dL_put_4 : decode cL_put 4 = .ok (.iload_n 2, 1) := by decide +kernel
theorem dL_put_5 : decode cL_put 5 = .ok (.invokevirtual 30, 3) := by decide +kernel
theorem q_321 : (Jvm.Cond.code ({ cls := "Chipfold", name := "put", desc := "(II)I" } : Jvm.MethodName) prog_1_method_7_code (3 : Nat) (Option.some Jvm.ClassFile.FieldType.int)) ∈ WG := wg_3 (List.mem_of_getElem? (i := 229) rfl) rfl
theorem q_322 : (Jvm.Cond.methodLink "ChipfoldLaw" (30 : Nat) ({ cls := "Chipfold", name := "put", desc := "(II)I" } : Jvm.MethodName)) ∈ WG := wg_3 (List.mem_of_getElem? (i := 226) (by decide +kernel)) (by decide +kernel)
theorem q_323 : (Jvm.Cond.selects "Chipfold" ({ cls := "Chipfold", name := "put", desc := "(II)I" } : Jvm.MethodName) ({ cls := "Chipfold", name := "put", desc := "(II)I" } : Jvm.MethodName)) ∈ WG := wg_3 (List.mem_of_getElem? (i := 228) (by decide +kernel)) (by decide +kernel)
theorem q_324 : (Jvm.Cond.instanceMethod ({ cls := "Chipfold", name := "put", desc := "(II)I" } : Jvm.MethodName)) ∈ WG := wg_3 (List.mem_of_getElem? (i := 227) (by decide +kernel)) (by decide +kernel)
theorem dL_put_13 : decode cL_put 13 = .ok (.astore 4, 2) := by decide +kernel
theorem dL_put_15 : decode cL_put 15 = .ok (.iconst 1, 1) := by decide +kernel
theorem dL_put_16 : decode cL_put 16 = .ok (.ireturn, 1) := by decide +kernel
theorem dL_chips_0 : decode cL_chips 0 = .ok (.aload_n 2, 1) := by decide +kernel
theorem dL_chips_1 : decode cL_chips 1 = .ok (.iconst 0, 1) := by decide +kernel
theorem dL_chips_2 : decode cL_chips 2 = .ok (.aload_n 0, 1) := by decide +kernel
theorem dL_chips_3 : decode cL_chips 3 = .ok (.iload_n 1, 1) := by decide +kernel
theorem dL_chips_4 : decode cL_chips 4 = .ok (.invokevirtual 34, 3) := by decide +kernel
theorem q_325 : (Jvm.Cond.code ({ cls := "Chipfold", name := "chips", desc := "(I)I" } : Jvm.MethodName) prog_1_method_8_code (2 : Nat) (Option.some Jvm.ClassFile.FieldType.int)) ∈ WG := wg_4 (List.mem_of_getElem? (i := 1) rfl) rfl
theorem q_326 : (Jvm.Cond.methodLink "ChipfoldLaw" (34 : Nat) ({ cls := "Chipfold", name := "chips", desc := "(I)I" } : Jvm.MethodName)) ∈ WG := wg_3 (List.mem_of_getElem? (i := 238) (by decide +kernel)) (by decide +kernel)
theorem q_327 : (Jvm.Cond.selects "Chipfold" ({ cls := "Chipfold", name := "chips", desc := "(I)I" } : Jvm.MethodName) ({ cls := "Chipfold", name := "chips", desc := "(I)I" } : Jvm.MethodName)) ∈ WG := wg_4 (List.mem_of_getElem? (i := 0) (by decide +kernel)) (by decide +kernel)
theorem q_328 : (Jvm.Cond.instanceMethod ({ cls := "Chipfold", name := "chips", desc := "(I)I" } : Jvm.MethodName)) ∈ WG := wg_3 (List.mem_of_getElem? (i := 239) (by decide +kernel)) (by decide +kernel)
theorem dL_chips_12 : decode cL_chips 12 = .ok (.astore_n 3, 1) := by decide +kernel
theorem dL_chips_13 : decode cL_chips 13 = .ok (.iconst 1, 1) := by decide +kernel
theorem dL_chips_14 : decode cL_chips 14 = .ok (.ireturn, 1) := by decide +kernel
theorem dL_topple_0 : decode cL_topple 0 = .ok (.aload_n 2, 1) := by decide +kernel
theorem dL_topple_1 : decode cL_topple 1 = .ok (.iconst 0, 1) := by decide +kernel
theorem dL_topple_2 : decode cL_topple 2 = .ok (.aload_n 0, 1) := by decide +kernel
theorem dL_topple_3 : decode cL_topple 3 = .ok (.iload_n 1, 1) := by decide +kernel
theorem dL_topple_4 : decode cL_topple 4 = .ok (.invokevirtual 37, 3) := by decide +kernel
theorem q_329 : (Jvm.Cond.code ({ cls := "Chipfold", name := "topple", desc := "(I)I" } : Jvm.MethodName) prog_1_method_9_code (2 : Nat) (Option.some Jvm.ClassFile.FieldType.int)) ∈ WG := wg_4 (List.mem_of_getElem? (i := 9) rfl) rfl
theorem q_330 : (Jvm.Cond.methodLink "ChipfoldLaw" (37 : Nat) ({ cls := "Chipfold", name := "topple", desc := "(I)I" } : Jvm.MethodName)) ∈ WG := wg_4 (List.mem_of_getElem? (i := 6) (by decide +kernel)) (by decide +kernel)
theorem q_331 : (Jvm.Cond.selects "Chipfold" ({ cls := "Chipfold", name := "topple", desc := "(I)I" } : Jvm.MethodName) ({ cls := "Chipfold", name := "topple", desc := "(I)I" } : Jvm.MethodName)) ∈ WG := wg_4 (List.mem_of_getElem? (i := 8) (by decide +kernel)) (by decide +kernel)
theorem q_332 : (Jvm.Cond.instanceMethod ({ cls := "Chipfold", name := "topple", desc := "(I)I" } : Jvm.MethodName)) ∈ WG := wg_4 (List.mem_of_getElem? (i := 7) (by decide +kernel)) (by decide +kernel)
theorem dL_topple_12 : decode cL_topple 12 = .ok (.astore_n 3, 1) := by decide +kernel
theorem dL_topple_13 : decode cL_topple 13 = .ok (.iconst 1, 1) := by decide +kernel
theorem dL_topple_14 : decode cL_topple 14 = .ok (.ireturn, 1) := by decide +kernel
theorem dL_count_0 : decode cL_count 0 = .ok (.aload_n 2, 1) := by decide +kernel
theorem dL_count_1 : decode cL_count 1 = .ok (.iconst 0, 1) := by decide +kernel
theorem dL_count_2 : decode cL_count 2 = .ok (.aload_n 0, 1) := by decide +kernel
theorem dL_count_3 : decode cL_count 3 = .ok (.iload_n 1, 1) := by decide +kernel
theorem dL_count_4 : decode cL_count 4 = .ok (.invokevirtual 48, 3) := by decide +kernel
theorem q_333 : (Jvm.Cond.code ({ cls := "Chipfold", name := "count", desc := "(I)I" } : Jvm.MethodName) prog_1_method_12_code (2 : Nat) (Option.some Jvm.ClassFile.FieldType.int)) ∈ WG := wg_4 (List.mem_of_getElem? (i := 58) rfl) rfl
theorem q_334 : (Jvm.Cond.methodLink "ChipfoldLaw" (48 : Nat) ({ cls := "Chipfold", name := "count", desc := "(I)I" } : Jvm.MethodName)) ∈ WG := wg_4 (List.mem_of_getElem? (i := 55) (by decide +kernel)) (by decide +kernel)
theorem q_335 : (Jvm.Cond.selects "Chipfold" ({ cls := "Chipfold", name := "count", desc := "(I)I" } : Jvm.MethodName) ({ cls := "Chipfold", name := "count", desc := "(I)I" } : Jvm.MethodName)) ∈ WG := wg_4 (List.mem_of_getElem? (i := 57) (by decide +kernel)) (by decide +kernel)
theorem q_336 : (Jvm.Cond.instanceMethod ({ cls := "Chipfold", name := "count", desc := "(I)I" } : Jvm.MethodName)) ∈ WG := wg_4 (List.mem_of_getElem? (i := 56) (by decide +kernel)) (by decide +kernel)
theorem dL_count_12 : decode cL_count 12 = .ok (.astore_n 3, 1) := by decide +kernel
theorem dL_count_13 : decode cL_count 13 = .ok (.iconst 1, 1) := by decide +kernel
theorem dL_count_14 : decode cL_count 14 = .ok (.ireturn, 1) := by decide +kernel
theorem dL_burns_0 : decode cL_burns 0 = .ok (.aload_n 2, 1) := by decide +kernel
theorem dL_burns_1 : decode cL_burns 1 = .ok (.iconst 0, 1) := by decide +kernel
theorem dL_burns_2 : decode cL_burns 2 = .ok (.aload_n 0, 1) := by decide +kernel
theorem dL_burns_3 : decode cL_burns 3 = .ok (.iload_n 1, 1) := by decide +kernel
theorem dL_burns_4 : decode cL_burns 4 = .ok (.invokevirtual 55, 3) := by decide +kernel
theorem q_337 : (Jvm.Cond.code ({ cls := "Chipfold", name := "burns", desc := "(I)I" } : Jvm.MethodName) prog_1_method_15_code (2 : Nat) (Option.some Jvm.ClassFile.FieldType.int)) ∈ WG := wg_4 (List.mem_of_getElem? (i := 91) rfl) rfl
theorem q_338 : (Jvm.Cond.methodLink "ChipfoldLaw" (55 : Nat) ({ cls := "Chipfold", name := "burns", desc := "(I)I" } : Jvm.MethodName)) ∈ WG := wg_4 (List.mem_of_getElem? (i := 88) (by decide +kernel)) (by decide +kernel)
theorem q_339 : (Jvm.Cond.selects "Chipfold" ({ cls := "Chipfold", name := "burns", desc := "(I)I" } : Jvm.MethodName) ({ cls := "Chipfold", name := "burns", desc := "(I)I" } : Jvm.MethodName)) ∈ WG := wg_4 (List.mem_of_getElem? (i := 90) (by decide +kernel)) (by decide +kernel)
theorem q_340 : (Jvm.Cond.instanceMethod ({ cls := "Chipfold", name := "burns", desc := "(I)I" } : Jvm.MethodName)) ∈ WG := wg_4 (List.mem_of_getElem? (i := 89) (by decide +kernel)) (by decide +kernel)
theorem dL_burns_12 : decode cL_burns 12 = .ok (.astore_n 3, 1) := by decide +kernel
theorem dL_burns_13 : decode cL_burns 13 = .ok (.iconst 1, 1) := by decide +kernel
theorem dL_burns_14 : decode cL_burns 14 = .ok (.ireturn, 1) := by decide +kernel
theorem dL_unit_0 : decode cL_unit 0 = .ok (.aload_n 2, 1) := by decide +kernel
theorem dL_unit_1 : decode cL_unit 1 = .ok (.iconst 0, 1) := by decide +kernel
theorem dL_unit_2 : decode cL_unit 2 = .ok (.aload_n 0, 1) := by decide +kernel
theorem dL_unit_3 : decode cL_unit 3 = .ok (.iload_n 1, 1) := by decide +kernel
theorem dL_unit_4 : decode cL_unit 4 = .ok (.invokevirtual 58, 3) := by decide +kernel
theorem q_341 : (Jvm.Cond.code ({ cls := "Chipfold", name := "unit", desc := "(I)I" } : Jvm.MethodName) prog_1_method_16_code (2 : Nat) (Option.some Jvm.ClassFile.FieldType.int)) ∈ WG := wg_4 (List.mem_of_getElem? (i := 98) rfl) rfl
theorem q_342 : (Jvm.Cond.methodLink "ChipfoldLaw" (58 : Nat) ({ cls := "Chipfold", name := "unit", desc := "(I)I" } : Jvm.MethodName)) ∈ WG := wg_4 (List.mem_of_getElem? (i := 95) (by decide +kernel)) (by decide +kernel)
theorem q_343 : (Jvm.Cond.selects "Chipfold" ({ cls := "Chipfold", name := "unit", desc := "(I)I" } : Jvm.MethodName) ({ cls := "Chipfold", name := "unit", desc := "(I)I" } : Jvm.MethodName)) ∈ WG := wg_4 (List.mem_of_getElem? (i := 97) (by decide +kernel)) (by decide +kernel)
theorem q_344 : (Jvm.Cond.instanceMethod ({ cls := "Chipfold", name := "unit", desc := "(I)I" } : Jvm.MethodName)) ∈ WG := wg_4 (List.mem_of_getElem? (i := 96) (by decide +kernel)) (by decide +kernel)
theorem dL_unit_12 : decode cL_unit 12 = .ok (.astore_n 3, 1) := by decide +kernel
theorem dL_unit_13 : decode cL_unit 13 = .ok (.iconst 1, 1) := by decide +kernel
theorem dL_unit_14 : decode cL_unit 14 = .ok (.ireturn, 1) := by decide +kernel
theorem dL_walk_0 : decode cL_walk 0 = .ok (.aload_n 2, 1) := by decide +kernel
theorem dL_walk_1 : decode cL_walk 1 = .ok (.iconst 0, 1) := by decide +kernel
theorem dL_walk_2 : decode cL_walk 2 = .ok (.aload_n 0, 1) := by decide +kernel
theorem dL_walk_3 : decode cL_walk 3 = .ok (.iload_n 1, 1) := by decide +kernel
theorem dL_walk_4 : decode cL_walk 4 = .ok (.invokevirtual 75, 3) := by decide +kernel
theorem q_345 : (Jvm.Cond.code ({ cls := "Chipfold", name := "walk", desc := "(I)I" } : Jvm.MethodName) prog_1_method_22_code (2 : Nat) (Option.some Jvm.ClassFile.FieldType.int)) ∈ WG := wg_4 (List.mem_of_getElem? (i := 181) rfl) rfl
theorem q_346 : (Jvm.Cond.methodLink "ChipfoldLaw" (75 : Nat) ({ cls := "Chipfold", name := "walk", desc := "(I)I" } : Jvm.MethodName)) ∈ WG := wg_4 (List.mem_of_getElem? (i := 178) (by decide +kernel)) (by decide +kernel)
theorem q_347 : (Jvm.Cond.selects "Chipfold" ({ cls := "Chipfold", name := "walk", desc := "(I)I" } : Jvm.MethodName) ({ cls := "Chipfold", name := "walk", desc := "(I)I" } : Jvm.MethodName)) ∈ WG := wg_4 (List.mem_of_getElem? (i := 180) (by decide +kernel)) (by decide +kernel)
theorem q_348 : (Jvm.Cond.instanceMethod ({ cls := "Chipfold", name := "walk", desc := "(I)I" } : Jvm.MethodName)) ∈ WG := wg_4 (List.mem_of_getElem? (i := 179) (by decide +kernel)) (by decide +kernel)
theorem dL_walk_12 : decode cL_walk 12 = .ok (.astore_n 3, 1) := by decide +kernel
theorem dL_walk_13 : decode cL_walk 13 = .ok (.iconst 1, 1) := by decide +kernel
theorem dL_walk_14 : decode cL_walk 14 = .ok (.ireturn, 1) := by decide +kernel
theorem dL_rotor_0 : decode cL_rotor 0 = .ok (.aload_n 2, 1) := by decide +kernel
theorem dL_rotor_1 : decode cL_rotor 1 = .ok (.iconst 0, 1) := by decide +kernel
theorem dL_rotor_2 : decode cL_rotor 2 = .ok (.aload_n 0, 1) := by decide +kernel
theorem dL_rotor_3 : decode cL_rotor 3 = .ok (.iload_n 1, 1) := by decide +kernel
theorem dL_rotor_4 : decode cL_rotor 4 = .ok (.invokevirtual 78, 3) := by decide +kernel
theorem q_349 : (Jvm.Cond.code ({ cls := "Chipfold", name := "rotor", desc := "(I)I" } : Jvm.MethodName) prog_1_method_23_code (2 : Nat) (Option.some Jvm.ClassFile.FieldType.int)) ∈ WG := wg_4 (List.mem_of_getElem? (i := 210) rfl) rfl
theorem q_350 : (Jvm.Cond.methodLink "ChipfoldLaw" (78 : Nat) ({ cls := "Chipfold", name := "rotor", desc := "(I)I" } : Jvm.MethodName)) ∈ WG := wg_4 (List.mem_of_getElem? (i := 207) (by decide +kernel)) (by decide +kernel)
theorem q_351 : (Jvm.Cond.selects "Chipfold" ({ cls := "Chipfold", name := "rotor", desc := "(I)I" } : Jvm.MethodName) ({ cls := "Chipfold", name := "rotor", desc := "(I)I" } : Jvm.MethodName)) ∈ WG := wg_4 (List.mem_of_getElem? (i := 209) (by decide +kernel)) (by decide +kernel)
theorem q_352 : (Jvm.Cond.instanceMethod ({ cls := "Chipfold", name := "rotor", desc := "(I)I" } : Jvm.MethodName)) ∈ WG := wg_4 (List.mem_of_getElem? (i := 208) (by decide +kernel)) (by decide +kernel)
theorem dL_rotor_12 : decode cL_rotor 12 = .ok (.astore_n 3, 1) := by decide +kernel
theorem dL_rotor_13 : decode cL_rotor 13 = .ok (.iconst 1, 1) := by decide +kernel
theorem dL_rotor_14 : decode cL_rotor 14 = .ok (.ireturn, 1) := by decide +kernel
theorem dL_visits_0 : decode cL_visits 0 = .ok (.aload_n 2, 1) := by decide +kernel
theorem dL_visits_1 : decode cL_visits 1 = .ok (.iconst 0, 1) := by decide +kernel
theorem dL_visits_2 : decode cL_visits 2 = .ok (.aload_n 0, 1) := by decide +kernel
theorem dL_visits_3 : decode cL_visits 3 = .ok (.iload_n 1, 1) := by decide +kernel
theorem dL_visits_4 : decode cL_visits 4 = .ok (.invokevirtual 81, 3) := by decide +kernel
theorem q_353 : (Jvm.Cond.code ({ cls := "Chipfold", name := "visits", desc := "(I)I" } : Jvm.MethodName) prog_1_method_24_code (2 : Nat) (Option.some Jvm.ClassFile.FieldType.int)) ∈ WG := wg_4 (List.mem_of_getElem? (i := 219) rfl) rfl
theorem q_354 : (Jvm.Cond.methodLink "ChipfoldLaw" (81 : Nat) ({ cls := "Chipfold", name := "visits", desc := "(I)I" } : Jvm.MethodName)) ∈ WG := wg_4 (List.mem_of_getElem? (i := 216) (by decide +kernel)) (by decide +kernel)
theorem q_355 : (Jvm.Cond.selects "Chipfold" ({ cls := "Chipfold", name := "visits", desc := "(I)I" } : Jvm.MethodName) ({ cls := "Chipfold", name := "visits", desc := "(I)I" } : Jvm.MethodName)) ∈ WG := wg_4 (List.mem_of_getElem? (i := 218) (by decide +kernel)) (by decide +kernel)
theorem q_356 : (Jvm.Cond.instanceMethod ({ cls := "Chipfold", name := "visits", desc := "(I)I" } : Jvm.MethodName)) ∈ WG := wg_4 (List.mem_of_getElem? (i := 217) (by decide +kernel)) (by decide +kernel)
theorem dL_visits_12 : decode cL_visits 12 = .ok (.astore_n 3, 1) := by decide +kernel
theorem dL_visits_13 : decode cL_visits 13 = .ok (.iconst 1, 1) := by decide +kernel
theorem dL_visits_14 : decode cL_visits 14 = .ok (.ireturn, 1) := by decide +kernel
theorem dL_setDebt_0 : decode cL_setDebt 0 = .ok (.aload_n 3, 1) := by decide +kernel
theorem dL_setDebt_1 : decode cL_setDebt 1 = .ok (.iconst 0, 1) := by decide +kernel
theorem dL_setDebt_2 : decode cL_setDebt 2 = .ok (.aload_n 0, 1) := by decide +kernel
theorem dL_setDebt_3 : decode cL_setDebt 3 = .ok (.iload_n 1, 1) := by decide +kernel
theorem dL_setDebt_4 : decode cL_setDebt 4 = .ok (.iload_n 2, 1) := by decide +kernel
theorem dL_setDebt_5 : decode cL_setDebt 5 = .ok (.invokevirtual 87, 3) := by decide +kernel
theorem q_357 : (Jvm.Cond.code ({ cls := "Chipfold", name := "setDebt", desc := "(II)I" } : Jvm.MethodName) prog_1_method_26_code (4 : Nat) (Option.some Jvm.ClassFile.FieldType.int)) ∈ WG := wg_5 (List.mem_of_getElem? (i := 2) rfl) rfl
theorem q_358 : (Jvm.Cond.methodLink "ChipfoldLaw" (87 : Nat) ({ cls := "Chipfold", name := "setDebt", desc := "(II)I" } : Jvm.MethodName)) ∈ WG := wg_4 (List.mem_of_getElem? (i := 239) (by decide +kernel)) (by decide +kernel)
theorem q_359 : (Jvm.Cond.selects "Chipfold" ({ cls := "Chipfold", name := "setDebt", desc := "(II)I" } : Jvm.MethodName) ({ cls := "Chipfold", name := "setDebt", desc := "(II)I" } : Jvm.MethodName)) ∈ WG := wg_5 (List.mem_of_getElem? (i := 1) (by decide +kernel)) (by decide +kernel)
theorem q_360 : (Jvm.Cond.instanceMethod ({ cls := "Chipfold", name := "setDebt", desc := "(II)I" } : Jvm.MethodName)) ∈ WG := wg_5 (List.mem_of_getElem? (i := 0) (by decide +kernel)) (by decide +kernel)
theorem dL_setDebt_13 : decode cL_setDebt 13 = .ok (.astore 4, 2) := by decide +kernel
theorem dL_setDebt_15 : decode cL_setDebt 15 = .ok (.iconst 1, 1) := by decide +kernel
theorem dL_setDebt_16 : decode cL_setDebt 16 = .ok (.ireturn, 1) := by decide +kernel
theorem dL_deal_0 : decode cL_deal 0 = .ok (.aload_n 3, 1) := by decide +kernel
theorem dL_deal_1 : decode cL_deal 1 = .ok (.iconst 0, 1) := by decide +kernel
theorem dL_deal_2 : decode cL_deal 2 = .ok (.aload_n 0, 1) := by decide +kernel
theorem dL_deal_3 : decode cL_deal 3 = .ok (.iload_n 1, 1) := by decide +kernel
theorem dL_deal_4 : decode cL_deal 4 = .ok (.iload_n 2, 1) := by decide +kernel
theorem dL_deal_5 : decode cL_deal 5 = .ok (.invokevirtual 90, 3) := by decide +kernel
theorem q_361 : (Jvm.Cond.code ({ cls := "Chipfold", name := "deal", desc := "(IZ)I" } : Jvm.MethodName) prog_1_method_27_code (6 : Nat) (Option.some Jvm.ClassFile.FieldType.int)) ∈ WG := wg_5 (List.mem_of_getElem? (i := 18) rfl) rfl
theorem q_362 : (Jvm.Cond.methodLink "ChipfoldLaw" (90 : Nat) ({ cls := "Chipfold", name := "deal", desc := "(IZ)I" } : Jvm.MethodName)) ∈ WG := wg_5 (List.mem_of_getElem? (i := 15) (by decide +kernel)) (by decide +kernel)
theorem q_363 : (Jvm.Cond.selects "Chipfold" ({ cls := "Chipfold", name := "deal", desc := "(IZ)I" } : Jvm.MethodName) ({ cls := "Chipfold", name := "deal", desc := "(IZ)I" } : Jvm.MethodName)) ∈ WG := wg_5 (List.mem_of_getElem? (i := 17) (by decide +kernel)) (by decide +kernel)
theorem q_364 : (Jvm.Cond.instanceMethod ({ cls := "Chipfold", name := "deal", desc := "(IZ)I" } : Jvm.MethodName)) ∈ WG := wg_5 (List.mem_of_getElem? (i := 16) (by decide +kernel)) (by decide +kernel)
theorem dL_deal_13 : decode cL_deal 13 = .ok (.astore 4, 2) := by decide +kernel
theorem dL_deal_15 : decode cL_deal 15 = .ok (.iconst 1, 1) := by decide +kernel
theorem dL_deal_16 : decode cL_deal 16 = .ok (.ireturn, 1) := by decide +kernel
theorem dL_debt_0 : decode cL_debt 0 = .ok (.aload_n 2, 1) := by decide +kernel
theorem dL_debt_1 : decode cL_debt 1 = .ok (.iconst 0, 1) := by decide +kernel
theorem dL_debt_2 : decode cL_debt 2 = .ok (.aload_n 0, 1) := by decide +kernel
theorem dL_debt_3 : decode cL_debt 3 = .ok (.iload_n 1, 1) := by decide +kernel
theorem dL_debt_4 : decode cL_debt 4 = .ok (.invokevirtual 94, 3) := by decide +kernel
theorem q_365 : (Jvm.Cond.code ({ cls := "Chipfold", name := "debt", desc := "(I)I" } : Jvm.MethodName) prog_1_method_28_code (2 : Nat) (Option.some Jvm.ClassFile.FieldType.int)) ∈ WG := wg_5 (List.mem_of_getElem? (i := 31) rfl) rfl
theorem q_366 : (Jvm.Cond.methodLink "ChipfoldLaw" (94 : Nat) ({ cls := "Chipfold", name := "debt", desc := "(I)I" } : Jvm.MethodName)) ∈ WG := wg_5 (List.mem_of_getElem? (i := 28) (by decide +kernel)) (by decide +kernel)
theorem q_367 : (Jvm.Cond.selects "Chipfold" ({ cls := "Chipfold", name := "debt", desc := "(I)I" } : Jvm.MethodName) ({ cls := "Chipfold", name := "debt", desc := "(I)I" } : Jvm.MethodName)) ∈ WG := wg_5 (List.mem_of_getElem? (i := 30) (by decide +kernel)) (by decide +kernel)
theorem q_368 : (Jvm.Cond.instanceMethod ({ cls := "Chipfold", name := "debt", desc := "(I)I" } : Jvm.MethodName)) ∈ WG := wg_5 (List.mem_of_getElem? (i := 29) (by decide +kernel)) (by decide +kernel)
theorem dL_debt_12 : decode cL_debt 12 = .ok (.astore_n 3, 1) := by decide +kernel
theorem dL_debt_13 : decode cL_debt 13 = .ok (.iconst 1, 1) := by decide +kernel
theorem dL_debt_14 : decode cL_debt 14 = .ok (.ireturn, 1) := by decide +kernel
theorem dL_reduced_0 : decode cL_reduced 0 = .ok (.aload_n 2, 1) := by decide +kernel
theorem dL_reduced_1 : decode cL_reduced 1 = .ok (.iconst 0, 1) := by decide +kernel
theorem dL_reduced_2 : decode cL_reduced 2 = .ok (.aload_n 0, 1) := by decide +kernel
theorem dL_reduced_3 : decode cL_reduced 3 = .ok (.iload_n 1, 1) := by decide +kernel
theorem dL_reduced_4 : decode cL_reduced 4 = .ok (.invokevirtual 97, 3) := by decide +kernel
theorem q_369 : (Jvm.Cond.code ({ cls := "Chipfold", name := "reduced", desc := "(I)I" } : Jvm.MethodName) prog_1_method_29_code (2 : Nat) (Option.some Jvm.ClassFile.FieldType.int)) ∈ WG := wg_5 (List.mem_of_getElem? (i := 38) rfl) rfl
theorem q_370 : (Jvm.Cond.methodLink "ChipfoldLaw" (97 : Nat) ({ cls := "Chipfold", name := "reduced", desc := "(I)I" } : Jvm.MethodName)) ∈ WG := wg_5 (List.mem_of_getElem? (i := 35) (by decide +kernel)) (by decide +kernel)
theorem q_371 : (Jvm.Cond.selects "Chipfold" ({ cls := "Chipfold", name := "reduced", desc := "(I)I" } : Jvm.MethodName) ({ cls := "Chipfold", name := "reduced", desc := "(I)I" } : Jvm.MethodName)) ∈ WG := wg_5 (List.mem_of_getElem? (i := 37) (by decide +kernel)) (by decide +kernel)
theorem q_372 : (Jvm.Cond.instanceMethod ({ cls := "Chipfold", name := "reduced", desc := "(I)I" } : Jvm.MethodName)) ∈ WG := wg_5 (List.mem_of_getElem? (i := 36) (by decide +kernel)) (by decide +kernel)
theorem dL_reduced_12 : decode cL_reduced 12 = .ok (.astore_n 3, 1) := by decide +kernel
theorem dL_reduced_13 : decode cL_reduced 13 = .ok (.iconst 1, 1) := by decide +kernel
theorem dL_reduced_14 : decode cL_reduced 14 = .ok (.ireturn, 1) := by decide +kernel
theorem dL_settle_0 : decode cL_settle 0 = .ok (.aload_n 1, 1) := by decide +kernel
theorem dL_settle_1 : decode cL_settle 1 = .ok (.iconst 0, 1) := by decide +kernel
theorem dL_settle_2 : decode cL_settle 2 = .ok (.aload_n 0, 1) := by decide +kernel
theorem dL_settle_3 : decode cL_settle 3 = .ok (.invokevirtual 42, 3) := by decide +kernel
theorem q_373 : (Jvm.Cond.code ({ cls := "Chipfold", name := "settle", desc := "()I" } : Jvm.MethodName) prog_1_method_10_code (1 : Nat) (Option.some Jvm.ClassFile.FieldType.int)) ∈ WG := wg_4 (List.mem_of_getElem? (i := 34) rfl) rfl
theorem q_374 : (Jvm.Cond.methodLink "ChipfoldLaw" (42 : Nat) ({ cls := "Chipfold", name := "settle", desc := "()I" } : Jvm.MethodName)) ∈ WG := wg_4 (List.mem_of_getElem? (i := 31) (by decide +kernel)) (by decide +kernel)
theorem q_375 : (Jvm.Cond.selects "Chipfold" ({ cls := "Chipfold", name := "settle", desc := "()I" } : Jvm.MethodName) ({ cls := "Chipfold", name := "settle", desc := "()I" } : Jvm.MethodName)) ∈ WG := wg_4 (List.mem_of_getElem? (i := 33) (by decide +kernel)) (by decide +kernel)
theorem q_376 : (Jvm.Cond.instanceMethod ({ cls := "Chipfold", name := "settle", desc := "()I" } : Jvm.MethodName)) ∈ WG := wg_4 (List.mem_of_getElem? (i := 32) (by decide +kernel)) (by decide +kernel)
theorem q_377 : (Jvm.Cond.classLink "ChipfoldLaw" (40 : Nat) "java/lang/UnsupportedOperationException") ∈ WG := wg_4 (List.mem_of_getElem? (i := 5) (by decide +kernel)) (by decide +kernel)
theorem dL_settle_11 : decode cL_settle 11 = .ok (.astore_n 2, 1) := by decide +kernel
theorem dL_settle_12 : decode cL_settle 12 = .ok (.iconst 1, 1) := by decide +kernel
theorem dL_settle_13 : decode cL_settle 13 = .ok (.ireturn, 1) := by decide +kernel
theorem dL_waves_0 : decode cL_waves 0 = .ok (.aload_n 1, 1) := by decide +kernel
theorem dL_waves_1 : decode cL_waves 1 = .ok (.iconst 0, 1) := by decide +kernel
theorem dL_waves_2 : decode cL_waves 2 = .ok (.aload_n 0, 1) := by decide +kernel
theorem dL_waves_3 : decode cL_waves 3 = .ok (.invokevirtual 45, 3) := by decide +kernel
theorem q_378 : (Jvm.Cond.code ({ cls := "Chipfold", name := "waves", desc := "()I" } : Jvm.MethodName) prog_1_method_11_code (2 : Nat) (Option.some Jvm.ClassFile.FieldType.int)) ∈ WG := wg_4 (List.mem_of_getElem? (i := 46) rfl) rfl
theorem q_379 : (Jvm.Cond.methodLink "ChipfoldLaw" (45 : Nat) ({ cls := "Chipfold", name := "waves", desc := "()I" } : Jvm.MethodName)) ∈ WG := wg_4 (List.mem_of_getElem? (i := 43) (by decide +kernel)) (by decide +kernel)
theorem q_380 : (Jvm.Cond.selects "Chipfold" ({ cls := "Chipfold", name := "waves", desc := "()I" } : Jvm.MethodName) ({ cls := "Chipfold", name := "waves", desc := "()I" } : Jvm.MethodName)) ∈ WG := wg_4 (List.mem_of_getElem? (i := 45) (by decide +kernel)) (by decide +kernel)
theorem q_381 : (Jvm.Cond.instanceMethod ({ cls := "Chipfold", name := "waves", desc := "()I" } : Jvm.MethodName)) ∈ WG := wg_4 (List.mem_of_getElem? (i := 44) (by decide +kernel)) (by decide +kernel)
theorem dL_waves_11 : decode cL_waves 11 = .ok (.astore_n 2, 1) := by decide +kernel
theorem dL_waves_12 : decode cL_waves 12 = .ok (.iconst 1, 1) := by decide +kernel
theorem dL_waves_13 : decode cL_waves 13 = .ok (.ireturn, 1) := by decide +kernel
theorem dL_isAgain_0 : decode cL_isAgain 0 = .ok (.aload_n 1, 1) := by decide +kernel
theorem dL_isAgain_1 : decode cL_isAgain 1 = .ok (.iconst 0, 1) := by decide +kernel
theorem dL_isAgain_2 : decode cL_isAgain 2 = .ok (.aload_n 0, 1) := by decide +kernel
theorem dL_isAgain_3 : decode cL_isAgain 3 = .ok (.invokevirtual 51, 3) := by decide +kernel
theorem q_382 : (Jvm.Cond.code ({ cls := "Chipfold", name := "isAgain", desc := "()Z" } : Jvm.MethodName) prog_1_method_14_code (2 : Nat) (Option.some Jvm.ClassFile.FieldType.boolean)) ∈ WG := wg_4 (List.mem_of_getElem? (i := 69) rfl) rfl
theorem q_383 : (Jvm.Cond.methodLink "ChipfoldLaw" (51 : Nat) ({ cls := "Chipfold", name := "isAgain", desc := "()Z" } : Jvm.MethodName)) ∈ WG := wg_4 (List.mem_of_getElem? (i := 66) (by decide +kernel)) (by decide +kernel)
theorem q_384 : (Jvm.Cond.selects "Chipfold" ({ cls := "Chipfold", name := "isAgain", desc := "()Z" } : Jvm.MethodName) ({ cls := "Chipfold", name := "isAgain", desc := "()Z" } : Jvm.MethodName)) ∈ WG := wg_4 (List.mem_of_getElem? (i := 68) (by decide +kernel)) (by decide +kernel)
theorem q_385 : (Jvm.Cond.instanceMethod ({ cls := "Chipfold", name := "isAgain", desc := "()Z" } : Jvm.MethodName)) ∈ WG := wg_4 (List.mem_of_getElem? (i := 67) (by decide +kernel)) (by decide +kernel)
theorem dL_isAgain_18 : decode cL_isAgain 18 = .ok (.astore_n 2, 1) := by decide +kernel
theorem dL_isAgain_19 : decode cL_isAgain 19 = .ok (.iconst 1, 1) := by decide +kernel
theorem dL_isAgain_20 : decode cL_isAgain 20 = .ok (.ireturn, 1) := by decide +kernel
theorem dL_square_0 : decode cL_square 0 = .ok (.aload_n 1, 1) := by decide +kernel
theorem dL_square_1 : decode cL_square 1 = .ok (.iconst 0, 1) := by decide +kernel
theorem dL_square_2 : decode cL_square 2 = .ok (.aload_n 0, 1) := by decide +kernel
theorem dL_square_3 : decode cL_square 3 = .ok (.invokevirtual 61, 3) := by decide +kernel
theorem q_386 : (Jvm.Cond.code ({ cls := "Chipfold", name := "square", desc := "()I" } : Jvm.MethodName) prog_1_method_17_code (2 : Nat) (Option.some Jvm.ClassFile.FieldType.int)) ∈ WG := wg_4 (List.mem_of_getElem? (i := 114) rfl) rfl
theorem q_387 : (Jvm.Cond.methodLink "ChipfoldLaw" (61 : Nat) ({ cls := "Chipfold", name := "square", desc := "()I" } : Jvm.MethodName)) ∈ WG := wg_4 (List.mem_of_getElem? (i := 111) (by decide +kernel)) (by decide +kernel)
theorem q_388 : (Jvm.Cond.selects "Chipfold" ({ cls := "Chipfold", name := "square", desc := "()I" } : Jvm.MethodName) ({ cls := "Chipfold", name := "square", desc := "()I" } : Jvm.MethodName)) ∈ WG := wg_4 (List.mem_of_getElem? (i := 113) (by decide +kernel)) (by decide +kernel)
theorem q_389 : (Jvm.Cond.instanceMethod ({ cls := "Chipfold", name := "square", desc := "()I" } : Jvm.MethodName)) ∈ WG := wg_4 (List.mem_of_getElem? (i := 112) (by decide +kernel)) (by decide +kernel)
theorem dL_square_11 : decode cL_square 11 = .ok (.astore_n 2, 1) := by decide +kernel
theorem dL_square_12 : decode cL_square 12 = .ok (.iconst 1, 1) := by decide +kernel
theorem dL_square_13 : decode cL_square 13 = .ok (.ireturn, 1) := by decide +kernel
theorem dL_factors_0 : decode cL_factors 0 = .ok (.aload_n 1, 1) := by decide +kernel
theorem dL_factors_1 : decode cL_factors 1 = .ok (.iconst 0, 1) := by decide +kernel
theorem dL_factors_2 : decode cL_factors 2 = .ok (.aload_n 0, 1) := by decide +kernel
theorem dL_factors_3 : decode cL_factors 3 = .ok (.invokevirtual 64, 3) := by decide +kernel
theorem q_390 : (Jvm.Cond.code ({ cls := "Chipfold", name := "factors", desc := "()I" } : Jvm.MethodName) prog_1_method_19_code (1 : Nat) (Option.some Jvm.ClassFile.FieldType.int)) ∈ WG := wg_4 (List.mem_of_getElem? (i := 122) rfl) rfl
theorem q_391 : (Jvm.Cond.methodLink "ChipfoldLaw" (64 : Nat) ({ cls := "Chipfold", name := "factors", desc := "()I" } : Jvm.MethodName)) ∈ WG := wg_4 (List.mem_of_getElem? (i := 119) (by decide +kernel)) (by decide +kernel)
theorem q_392 : (Jvm.Cond.selects "Chipfold" ({ cls := "Chipfold", name := "factors", desc := "()I" } : Jvm.MethodName) ({ cls := "Chipfold", name := "factors", desc := "()I" } : Jvm.MethodName)) ∈ WG := wg_4 (List.mem_of_getElem? (i := 121) (by decide +kernel)) (by decide +kernel)
theorem q_393 : (Jvm.Cond.instanceMethod ({ cls := "Chipfold", name := "factors", desc := "()I" } : Jvm.MethodName)) ∈ WG := wg_4 (List.mem_of_getElem? (i := 120) (by decide +kernel)) (by decide +kernel)
theorem dL_factors_11 : decode cL_factors 11 = .ok (.astore_n 2, 1) := by decide +kernel
theorem dL_factors_12 : decode cL_factors 12 = .ok (.iconst 1, 1) := by decide +kernel
theorem dL_factors_13 : decode cL_factors 13 = .ok (.ireturn, 1) := by decide +kernel
theorem dL_factorAt_0 : decode cL_factorAt 0 = .ok (.aload_n 2, 1) := by decide +kernel
theorem dL_factorAt_1 : decode cL_factorAt 1 = .ok (.iconst 0, 1) := by decide +kernel
theorem dL_factorAt_2 : decode cL_factorAt 2 = .ok (.aload_n 0, 1) := by decide +kernel
theorem dL_factorAt_3 : decode cL_factorAt 3 = .ok (.iload_n 1, 1) := by decide +kernel
theorem dL_factorAt_4 : decode cL_factorAt 4 = .ok (.invokevirtual 67, 3) := by decide +kernel
theorem q_394 : (Jvm.Cond.code ({ cls := "Chipfold", name := "factorAt", desc := "(I)J" } : Jvm.MethodName) prog_1_method_20_code (3 : Nat) (Option.some Jvm.ClassFile.FieldType.long)) ∈ WG := wg_4 (List.mem_of_getElem? (i := 151) rfl) rfl
theorem q_395 : (Jvm.Cond.methodLink "ChipfoldLaw" (67 : Nat) ({ cls := "Chipfold", name := "factorAt", desc := "(I)J" } : Jvm.MethodName)) ∈ WG := wg_4 (List.mem_of_getElem? (i := 148) (by decide +kernel)) (by decide +kernel)
theorem q_396 : (Jvm.Cond.selects "Chipfold" ({ cls := "Chipfold", name := "factorAt", desc := "(I)J" } : Jvm.MethodName) ({ cls := "Chipfold", name := "factorAt", desc := "(I)J" } : Jvm.MethodName)) ∈ WG := wg_4 (List.mem_of_getElem? (i := 150) (by decide +kernel)) (by decide +kernel)
theorem q_397 : (Jvm.Cond.instanceMethod ({ cls := "Chipfold", name := "factorAt", desc := "(I)J" } : Jvm.MethodName)) ∈ WG := wg_4 (List.mem_of_getElem? (i := 149) (by decide +kernel)) (by decide +kernel)
theorem dL_factorAt_11 : decode cL_factorAt 11 = .ok (.astore_n 3, 1) := by decide +kernel
theorem dL_factorAt_12 : decode cL_factorAt 12 = .ok (.iconst 1, 1) := by decide +kernel
theorem dL_factorAt_13 : decode cL_factorAt 13 = .ok (.ireturn, 1) := by decide +kernel
theorem dL_order_0 : decode cL_order 0 = .ok (.aload_n 1, 1) := by decide +kernel
theorem dL_order_1 : decode cL_order 1 = .ok (.iconst 0, 1) := by decide +kernel
theorem dL_order_2 : decode cL_order 2 = .ok (.aload_n 0, 1) := by decide +kernel
theorem dL_order_3 : decode cL_order 3 = .ok (.invokevirtual 71, 3) := by decide +kernel
theorem q_398 : (Jvm.Cond.code ({ cls := "Chipfold", name := "order", desc := "()J" } : Jvm.MethodName) prog_1_method_21_code (1 : Nat) (Option.some Jvm.ClassFile.FieldType.long)) ∈ WG := wg_4 (List.mem_of_getElem? (i := 164) rfl) rfl
theorem q_399 : (Jvm.Cond.methodLink "ChipfoldLaw" (71 : Nat) ({ cls := "Chipfold", name := "order", desc := "()J" } : Jvm.MethodName)) ∈ WG := wg_4 (List.mem_of_getElem? (i := 161) (by decide +kernel)) (by decide +kernel)
theorem q_400 : (Jvm.Cond.selects "Chipfold" ({ cls := "Chipfold", name := "order", desc := "()J" } : Jvm.MethodName) ({ cls := "Chipfold", name := "order", desc := "()J" } : Jvm.MethodName)) ∈ WG := wg_4 (List.mem_of_getElem? (i := 163) (by decide +kernel)) (by decide +kernel)
theorem q_401 : (Jvm.Cond.instanceMethod ({ cls := "Chipfold", name := "order", desc := "()J" } : Jvm.MethodName)) ∈ WG := wg_4 (List.mem_of_getElem? (i := 162) (by decide +kernel)) (by decide +kernel)
theorem dL_order_10 : decode cL_order 10 = .ok (.astore_n 2, 1) := by decide +kernel
theorem dL_order_11 : decode cL_order 11 = .ok (.iconst 1, 1) := by decide +kernel
theorem dL_order_12 : decode cL_order 12 = .ok (.ireturn, 1) := by decide +kernel
theorem dL_areTree_0 : decode cL_areTree 0 = .ok (.aload_n 1, 1) := by decide +kernel
theorem dL_areTree_1 : decode cL_areTree 1 = .ok (.iconst 0, 1) := by decide +kernel
theorem dL_areTree_2 : decode cL_areTree 2 = .ok (.aload_n 0, 1) := by decide +kernel
theorem dL_areTree_3 : decode cL_areTree 3 = .ok (.invokevirtual 84, 3) := by decide +kernel
theorem q_402 : (Jvm.Cond.code ({ cls := "Chipfold", name := "areTree", desc := "()Z" } : Jvm.MethodName) prog_1_method_25_code (1 : Nat) (Option.some Jvm.ClassFile.FieldType.boolean)) ∈ WG := wg_4 (List.mem_of_getElem? (i := 230) rfl) rfl
theorem q_403 : (Jvm.Cond.methodLink "ChipfoldLaw" (84 : Nat) ({ cls := "Chipfold", name := "areTree", desc := "()Z" } : Jvm.MethodName)) ∈ WG := wg_4 (List.mem_of_getElem? (i := 227) (by decide +kernel)) (by decide +kernel)
theorem q_404 : (Jvm.Cond.selects "Chipfold" ({ cls := "Chipfold", name := "areTree", desc := "()Z" } : Jvm.MethodName) ({ cls := "Chipfold", name := "areTree", desc := "()Z" } : Jvm.MethodName)) ∈ WG := wg_4 (List.mem_of_getElem? (i := 229) (by decide +kernel)) (by decide +kernel)
theorem q_405 : (Jvm.Cond.instanceMethod ({ cls := "Chipfold", name := "areTree", desc := "()Z" } : Jvm.MethodName)) ∈ WG := wg_4 (List.mem_of_getElem? (i := 228) (by decide +kernel)) (by decide +kernel)
theorem dL_areTree_18 : decode cL_areTree 18 = .ok (.astore_n 2, 1) := by decide +kernel
theorem dL_areTree_19 : decode cL_areTree 19 = .ok (.iconst 1, 1) := by decide +kernel
theorem dL_areTree_20 : decode cL_areTree 20 = .ok (.ireturn, 1) := by decide +kernel
theorem dL_canPay_0 : decode cL_canPay 0 = .ok (.aload_n 1, 1) := by decide +kernel
theorem dL_canPay_1 : decode cL_canPay 1 = .ok (.iconst 0, 1) := by decide +kernel
theorem dL_canPay_2 : decode cL_canPay 2 = .ok (.aload_n 0, 1) := by decide +kernel
theorem dL_canPay_3 : decode cL_canPay 3 = .ok (.invokevirtual 100, 3) := by decide +kernel
theorem q_406 : (Jvm.Cond.code ({ cls := "Chipfold", name := "canPay", desc := "()Z" } : Jvm.MethodName) prog_1_method_30_code (1 : Nat) (Option.some Jvm.ClassFile.FieldType.boolean)) ∈ WG := wg_5 (List.mem_of_getElem? (i := 51) rfl) rfl
theorem q_407 : (Jvm.Cond.methodLink "ChipfoldLaw" (100 : Nat) ({ cls := "Chipfold", name := "canPay", desc := "()Z" } : Jvm.MethodName)) ∈ WG := wg_5 (List.mem_of_getElem? (i := 48) (by decide +kernel)) (by decide +kernel)
theorem q_408 : (Jvm.Cond.selects "Chipfold" ({ cls := "Chipfold", name := "canPay", desc := "()Z" } : Jvm.MethodName) ({ cls := "Chipfold", name := "canPay", desc := "()Z" } : Jvm.MethodName)) ∈ WG := wg_5 (List.mem_of_getElem? (i := 50) (by decide +kernel)) (by decide +kernel)
theorem q_409 : (Jvm.Cond.instanceMethod ({ cls := "Chipfold", name := "canPay", desc := "()Z" } : Jvm.MethodName)) ∈ WG := wg_5 (List.mem_of_getElem? (i := 49) (by decide +kernel)) (by decide +kernel)
theorem dL_canPay_18 : decode cL_canPay 18 = .ok (.astore_n 2, 1) := by decide +kernel
theorem dL_canPay_19 : decode cL_canPay 19 = .ok (.iconst 1, 1) := by decide +kernel
theorem dL_canPay_20 : decode cL_canPay 20 = .ok (.ireturn, 1) := by decide +kernel
theorem dL_rank_0 : decode cL_rank 0 = .ok (.aload_n 1, 1) := by decide +kernel
theorem dL_rank_1 : decode cL_rank 1 = .ok (.iconst 0, 1) := by decide +kernel
theorem dL_rank_2 : decode cL_rank 2 = .ok (.aload_n 0, 1) := by decide +kernel
theorem dL_rank_3 : decode cL_rank 3 = .ok (.invokevirtual 103, 3) := by decide +kernel
theorem q_410 : (Jvm.Cond.code ({ cls := "Chipfold", name := "rank", desc := "()I" } : Jvm.MethodName) prog_1_method_31_code (1 : Nat) (Option.some Jvm.ClassFile.FieldType.int)) ∈ WG := wg_5 (List.mem_of_getElem? (i := 58) rfl) rfl
theorem q_411 : (Jvm.Cond.methodLink "ChipfoldLaw" (103 : Nat) ({ cls := "Chipfold", name := "rank", desc := "()I" } : Jvm.MethodName)) ∈ WG := wg_5 (List.mem_of_getElem? (i := 55) (by decide +kernel)) (by decide +kernel)
theorem q_412 : (Jvm.Cond.selects "Chipfold" ({ cls := "Chipfold", name := "rank", desc := "()I" } : Jvm.MethodName) ({ cls := "Chipfold", name := "rank", desc := "()I" } : Jvm.MethodName)) ∈ WG := wg_5 (List.mem_of_getElem? (i := 57) (by decide +kernel)) (by decide +kernel)
theorem q_413 : (Jvm.Cond.instanceMethod ({ cls := "Chipfold", name := "rank", desc := "()I" } : Jvm.MethodName)) ∈ WG := wg_5 (List.mem_of_getElem? (i := 56) (by decide +kernel)) (by decide +kernel)
theorem dL_rank_11 : decode cL_rank 11 = .ok (.astore_n 2, 1) := by decide +kernel
theorem dL_rank_12 : decode cL_rank 12 = .ok (.iconst 1, 1) := by decide +kernel
theorem dL_rank_13 : decode cL_rank 13 = .ok (.ireturn, 1) := by decide +kernel
theorem dL_pixel_0 : decode cL_pixel 0 = .ok (.aload_n 2, 1) := by decide +kernel
theorem dL_pixel_1 : decode cL_pixel 1 = .ok (.iconst 0, 1) := by decide +kernel
theorem dL_pixel_2 : decode cL_pixel 2 = .ok (.aload_n 0, 1) := by decide +kernel
theorem dL_pixel_3 : decode cL_pixel 3 = .ok (.iload_n 1, 1) := by decide +kernel
theorem dL_pixel_4 : decode cL_pixel 4 = .ok (.invokevirtual 109, 3) := by decide +kernel
theorem q_414 : (Jvm.Cond.code ({ cls := "Chipfold", name := "pixel", desc := "(I)I" } : Jvm.MethodName) prog_1_method_33_code (2 : Nat) (Option.some Jvm.ClassFile.FieldType.int)) ∈ WG := wg_5 (List.mem_of_getElem? (i := 92) rfl) rfl
theorem q_415 : (Jvm.Cond.methodLink "ChipfoldLaw" (109 : Nat) ({ cls := "Chipfold", name := "pixel", desc := "(I)I" } : Jvm.MethodName)) ∈ WG := wg_5 (List.mem_of_getElem? (i := 89) (by decide +kernel)) (by decide +kernel)
theorem q_416 : (Jvm.Cond.selects "Chipfold" ({ cls := "Chipfold", name := "pixel", desc := "(I)I" } : Jvm.MethodName) ({ cls := "Chipfold", name := "pixel", desc := "(I)I" } : Jvm.MethodName)) ∈ WG := wg_5 (List.mem_of_getElem? (i := 91) (by decide +kernel)) (by decide +kernel)
theorem q_417 : (Jvm.Cond.instanceMethod ({ cls := "Chipfold", name := "pixel", desc := "(I)I" } : Jvm.MethodName)) ∈ WG := wg_5 (List.mem_of_getElem? (i := 90) (by decide +kernel)) (by decide +kernel)
theorem q_418 : (Jvm.Cond.classLink "ChipfoldLaw" (112 : Nat) "java/util/NoSuchElementException") ∈ WG := wg_5 (List.mem_of_getElem? (i := 88) (by decide +kernel)) (by decide +kernel)
theorem dL_pixel_12 : decode cL_pixel 12 = .ok (.astore_n 3, 1) := by decide +kernel
theorem dL_pixel_13 : decode cL_pixel 13 = .ok (.iconst 1, 1) := by decide +kernel
theorem dL_pixel_14 : decode cL_pixel 14 = .ok (.ireturn, 1) := by decide +kernel
theorem dL_settledShare_0 : decode cL_settledShare 0 = .ok (.aload_n 1, 1) := by decide +kernel
theorem dL_settledShare_1 : decode cL_settledShare 1 = .ok (.iconst 0, 1) := by decide +kernel
theorem dL_settledShare_2 : decode cL_settledShare 2 = .ok (.aload_n 0, 1) := by decide +kernel
theorem dL_settledShare_3 : decode cL_settledShare 3 = .ok (.invokevirtual 114, 3) := by decide +kernel
theorem q_419 : (Jvm.Cond.code ({ cls := "Chipfold", name := "settledShare", desc := "()F" } : Jvm.MethodName) prog_1_method_34_code (4 : Nat) (Option.some Jvm.ClassFile.FieldType.float)) ∈ WG := wg_5 (List.mem_of_getElem? (i := 135) rfl) rfl
theorem q_420 : (Jvm.Cond.methodLink "ChipfoldLaw" (114 : Nat) ({ cls := "Chipfold", name := "settledShare", desc := "()F" } : Jvm.MethodName)) ∈ WG := wg_5 (List.mem_of_getElem? (i := 132) (by decide +kernel)) (by decide +kernel)
theorem q_421 : (Jvm.Cond.selects "Chipfold" ({ cls := "Chipfold", name := "settledShare", desc := "()F" } : Jvm.MethodName) ({ cls := "Chipfold", name := "settledShare", desc := "()F" } : Jvm.MethodName)) ∈ WG := wg_5 (List.mem_of_getElem? (i := 134) (by decide +kernel)) (by decide +kernel)
theorem q_422 : (Jvm.Cond.instanceMethod ({ cls := "Chipfold", name := "settledShare", desc := "()F" } : Jvm.MethodName)) ∈ WG := wg_5 (List.mem_of_getElem? (i := 133) (by decide +kernel)) (by decide +kernel)
theorem q_423 : (Jvm.Cond.classLink "ChipfoldLaw" (118 : Nat) "java/lang/ArithmeticException") ∈ WG := wg_5 (List.mem_of_getElem? (i := 118) (by decide +kernel)) (by decide +kernel)
theorem dL_settledShare_11 : decode cL_settledShare 11 = .ok (.astore_n 2, 1) := by decide +kernel
theorem dL_settledShare_12 : decode cL_settledShare 12 = .ok (.iconst 1, 1) := by decide +kernel
theorem dL_settledShare_13 : decode cL_settledShare 13 = .ok (.ireturn, 1) := by decide +kernel
theorem dL_meanChips_0 : decode cL_meanChips 0 = .ok (.aload_n 1, 1) := by decide +kernel
theorem dL_meanChips_1 : decode cL_meanChips 1 = .ok (.iconst 0, 1) := by decide +kernel
theorem dL_meanChips_2 : decode cL_meanChips 2 = .ok (.aload_n 0, 1) := by decide +kernel
theorem dL_meanChips_3 : decode cL_meanChips 3 = .ok (.invokevirtual 120, 3) := by decide +kernel
theorem q_424 : (Jvm.Cond.code ({ cls := "Chipfold", name := "meanChips", desc := "()D" } : Jvm.MethodName) prog_1_method_35_code (2 : Nat) (Option.some Jvm.ClassFile.FieldType.double)) ∈ WG := wg_5 (List.mem_of_getElem? (i := 147) rfl) rfl
theorem q_425 : (Jvm.Cond.methodLink "ChipfoldLaw" (120 : Nat) ({ cls := "Chipfold", name := "meanChips", desc := "()D" } : Jvm.MethodName)) ∈ WG := wg_5 (List.mem_of_getElem? (i := 144) (by decide +kernel)) (by decide +kernel)
theorem q_426 : (Jvm.Cond.selects "Chipfold" ({ cls := "Chipfold", name := "meanChips", desc := "()D" } : Jvm.MethodName) ({ cls := "Chipfold", name := "meanChips", desc := "()D" } : Jvm.MethodName)) ∈ WG := wg_5 (List.mem_of_getElem? (i := 146) (by decide +kernel)) (by decide +kernel)
theorem q_427 : (Jvm.Cond.instanceMethod ({ cls := "Chipfold", name := "meanChips", desc := "()D" } : Jvm.MethodName)) ∈ WG := wg_5 (List.mem_of_getElem? (i := 145) (by decide +kernel)) (by decide +kernel)
theorem dL_meanChips_10 : decode cL_meanChips 10 = .ok (.astore_n 2, 1) := by decide +kernel
theorem dL_meanChips_11 : decode cL_meanChips 11 = .ok (.iconst 1, 1) := by decide +kernel
theorem dL_meanChips_12 : decode cL_meanChips 12 = .ok (.ireturn, 1) := by decide +kernel
theorem dL_vertex_0 : decode cL_vertex 0 = .ok (.aload_n 1, 1) := by decide +kernel
theorem dL_vertex_1 : decode cL_vertex 1 = .ok (.iconst 0, 1) := by decide +kernel
theorem dL_vertex_2 : decode cL_vertex 2 = .ok (.aload_n 0, 1) := by decide +kernel
theorem dL_vertex_3 : decode cL_vertex 3 = .ok (.invokevirtual 7, 3) := by decide +kernel
theorem q_428 : (Jvm.Cond.code ({ cls := "Chipfold", name := "vertex", desc := "()I" } : Jvm.MethodName) prog_1_method_2_code (2 : Nat) (Option.some Jvm.ClassFile.FieldType.int)) ∈ WG := wg_3 (List.mem_of_getElem? (i := 30) rfl) rfl
theorem q_429 : (Jvm.Cond.selects "Chipfold" ({ cls := "Chipfold", name := "vertex", desc := "()I" } : Jvm.MethodName) ({ cls := "Chipfold", name := "vertex", desc := "()I" } : Jvm.MethodName)) ∈ WG := wg_3 (List.mem_of_getElem? (i := 29) (by decide +kernel)) (by decide +kernel)
theorem q_430 : (Jvm.Cond.methodLink "ChipfoldLaw" (7 : Nat) ({ cls := "Chipfold", name := "vertex", desc := "()I" } : Jvm.MethodName)) ∈ WG := wg_3 (List.mem_of_getElem? (i := 27) (by decide +kernel)) (by decide +kernel)
theorem q_431 : (Jvm.Cond.instanceMethod ({ cls := "Chipfold", name := "vertex", desc := "()I" } : Jvm.MethodName)) ∈ WG := wg_3 (List.mem_of_getElem? (i := 28) (by decide +kernel)) (by decide +kernel)
theorem dL_vertex_6 : decode cL_vertex 6 = .ok (.i2l, 1) := by decide +kernel
theorem dL_vertex_7 : decode cL_vertex 7 = .ok (.lastore, 1) := by decide +kernel
theorem dL_vertex_8 : decode cL_vertex 8 = .ok (.goto 6, 3) := by decide +kernel
theorem dL_vertex_14 : decode cL_vertex 14 = .ok (.iconst 0, 1) := by decide +kernel
theorem dL_vertex_15 : decode cL_vertex 15 = .ok (.ireturn, 1) := by decide +kernel
set_option maxRecDepth 100000 in
set_option maxHeartbeats 400000 in
theorem c_L_edges_z {l : Launch} {D : va_G} {k : Nat → ClassId} (o : Nat) (h : Nat) (pp : Nat) (x2 : Nat) (x3 : Nat) (x4 : Nat) (o2 : Nat) (o4 : Nat) (o9 : Nat) (o7 : Nat) (o0 : Nat) (o1 : Nat) (jj : Nat) (dd : Nat) (oo : Nat) (fl : Nat → Int64) (v : Int32) (w : Int32) (y : Int32)  : CMW l D k yL_edges cL_edges 6 (some .int) [((0 : Nat), (12 : Nat), (15 : Nat), (19 : Nat)), ((0 : Nat), (12 : Nat), (19 : Nat), (21 : Nat))] 8 127 [.ref o, .int v, .int w, .int y, .ref oo] [(o, .inr (14, [.ref h, .ref pp, .ref x2, .ref x3, .ref x4, .ref o2, .ref o4, .ref o9, .ref o7, .ref o0, .ref o1])), (h, .inr (7, [.ref jj, .ref dd, .int (nI 0), .int (nI 0)])), (jj, aI k 36 (fun _ => 0)), (dd, aI k 6 (fun _ => 0)), (oo, aJ k 1 fl)] (is1 (some (.int 1)) [(o, .inr (14, [.ref h, .ref pp, .ref x2, .ref x3, .ref x4, .ref o2, .ref o4, .ref o9, .ref o7, .ref o0, .ref o1])), (h, .inr (7, [.ref jj, .ref dd, .int (nI 0), .int (nI 0)])), (jj, aI k 36 (fun _ => 0)), (dd, aI k 6 (fun _ => 0)), (oo, aJ k 1 fl)]) 1 6 0 := by
  refine CMW.of (lv0 := [(0, .ref o), (1, .int v), (2, .int w), (3, .int y), (4, .ref oo)]) (by decide +kernel) (Nat.le_of_ble_eq_true rfl) rfl ?_
  intro p9 e9 s9 m9 bl9 me9 co9 C hr hlk hin had htab
  refine g_aload (pc := 0) C 4 rfl dL_edges_0 ?_
  refine g_iconst (pc := 2) (v := 0) C (by decide) dL_edges_2 ?_
  refine g_aload_n (pc := 3) C 0 rfl rfl dL_edges_3 ?_
  refine g_iload_n (pc := 4) C 1 rfl rfl dL_edges_4 ?_
  refine g_iload_n (pc := 5) C 2 rfl rfl dL_edges_5 ?_
  refine g_iload_n (pc := 6) C 3 rfl rfl dL_edges_6 ?_
  refine g_callVT (pc := 7) (cells := 0) (slots := 0) (g := 0) (As := [.int v, .int w, .int y]) (st := [.int 0, .ref oo]) (T := TX10) (q0 := 0) C (nA := 3) rfl (c_X10_edges_x o h pp x2 x3 x4 o2 o4 o9 o7 o0 o1 jj dd v w y ) q_309 q_311 q_310 q_203 q_308 (by decide +kernel) rfl rfl dL_edges_7 ⟨Nat.le_of_ble_eq_true rfl, Nat.le_of_ble_eq_true rfl⟩ [0, 1, 2, 3] [4] rfl (wr := [(oo, aJ k 1 fl)]) rfl (by decide) (by decide) (by decide) (Nat.le_of_ble_eq_true rfl) ⟨Nat.le_of_ble_eq_true rfl, Nat.le_of_ble_eq_true rfl⟩ ?_
  refine GT.re [1, 2, 3, 4, 0] (ws' := [(o, .inr (14, [.ref h, .ref pp, .ref x2, .ref x3, .ref x4, .ref o2, .ref o4, .ref o9, .ref o7, .ref o0, .ref o1])), (h, .inr (7, [.ref jj, .ref dd, .int (nI 0), .int (nI 0)])), (jj, aI k 36 (fun _ => 0)), (dd, aI k 6 (fun _ => 0)), (oo, aJ k 1 fl)]) (cells' := 1) (slots' := 6) (by decide) rfl rfl rfl ?_
  refine GT.catch C [] ⟨0, 12, 15, 19⟩ [⟨0, 12, 19, 21⟩] (htab.trans rfl) (fun z h => nomatch h) (by decide) (by decide) (by decide) q_312 (fun qx1 => ?_)
  refine g_astore (pc := 15) C [(5, .ref qx1), (0, .ref o), (1, .int v), (2, .int w), (3, .int y), (4, .ref oo)] dL_edges_15 (by decide) rfl ?_
  refine g_iconst (pc := 17) (v := 1) C (by decide) dL_edges_17 ?_
  exact g_iret (pc := 18) C hr hlk (by first | decide | omega) (by first | decide | omega) (by first | decide | omega) dL_edges_18 ⟨rfl, rfl⟩
set_option maxRecDepth 100000 in
set_option maxHeartbeats 400000 in
theorem c_L_setSink_z {l : Launch} {D : va_G} {k : Nat → ClassId} (o : Nat) (h : Nat) (pp : Nat) (x2 : Nat) (x3 : Nat) (x4 : Nat) (o2 : Nat) (o4 : Nat) (o9 : Nat) (o7 : Nat) (o0 : Nat) (o1 : Nat) (jj : Nat) (dd : Nat) (oo : Nat) (fl : Nat → Int64) (v : Int32)  : CMW l D k yL_setSink cL_setSink 4 (some .int) [((0 : Nat), (9 : Nat), (12 : Nat), (19 : Nat))] 8 125 [.ref o, .int v, .ref oo] [(o, .inr (14, [.ref h, .ref pp, .ref x2, .ref x3, .ref x4, .ref o2, .ref o4, .ref o9, .ref o7, .ref o0, .ref o1])), (h, .inr (7, [.ref jj, .ref dd, .int (nI 0), .int (nI 0)])), (jj, aI k 36 (fun _ => 0)), (dd, aI k 6 (fun _ => 0)), (oo, aJ k 1 fl)] (is1 (some (.int 1)) [(o, .inr (14, [.ref h, .ref pp, .ref x2, .ref x3, .ref x4, .ref o2, .ref o4, .ref o9, .ref o7, .ref o0, .ref o1])), (h, .inr (7, [.ref jj, .ref dd, .int (nI 0), .int (nI 0)])), (jj, aI k 36 (fun _ => 0)), (dd, aI k 6 (fun _ => 0)), (oo, aJ k 1 fl)]) 1 6 0 := by
  refine CMW.of (lv0 := [(0, .ref o), (1, .int v), (2, .ref oo)]) (by decide +kernel) (Nat.le_of_ble_eq_true rfl) rfl ?_
  intro p9 e9 s9 m9 bl9 me9 co9 C hr hlk hin had htab
  refine g_aload_n (pc := 0) C 2 rfl rfl dL_setSink_0 ?_
  refine g_iconst (pc := 1) (v := 0) C (by decide) dL_setSink_1 ?_
  refine g_aload_n (pc := 2) C 0 rfl rfl dL_setSink_2 ?_
  refine g_iload_n (pc := 3) C 1 rfl rfl dL_setSink_3 ?_
  refine g_callVT (pc := 4) (cells := 0) (slots := 0) (g := 0) (As := [.int v]) (st := [.int 0, .ref oo]) (T := TX10) (q0 := 0) C (nA := 1) rfl (c_X10_setSink_x o h pp x2 x3 x4 o2 o4 o9 o7 o0 o1 jj dd v ) q_314 q_316 q_315 q_203 q_313 (by decide +kernel) rfl rfl dL_setSink_4 ⟨Nat.le_of_ble_eq_true rfl, Nat.le_of_ble_eq_true rfl⟩ [0, 1, 2, 3] [4] rfl (wr := [(oo, aJ k 1 fl)]) rfl (by decide) (by decide) (by decide) (Nat.le_of_ble_eq_true rfl) ⟨Nat.le_of_ble_eq_true rfl, Nat.le_of_ble_eq_true rfl⟩ ?_
  refine GT.re [1, 2, 3, 4, 0] (ws' := [(o, .inr (14, [.ref h, .ref pp, .ref x2, .ref x3, .ref x4, .ref o2, .ref o4, .ref o9, .ref o7, .ref o0, .ref o1])), (h, .inr (7, [.ref jj, .ref dd, .int (nI 0), .int (nI 0)])), (jj, aI k 36 (fun _ => 0)), (dd, aI k 6 (fun _ => 0)), (oo, aJ k 1 fl)]) (cells' := 1) (slots' := 6) (by decide) rfl rfl rfl ?_
  refine GT.catch C [] ⟨0, 9, 12, 19⟩ [] (htab.trans rfl) (fun z h => nomatch h) (by decide) (by decide) (by decide) q_312 (fun qx1 => ?_)
  refine g_astore_n (pc := 12) C [(3, .ref qx1), (0, .ref o), (1, .int v), (2, .ref oo)] rfl dL_setSink_12 (by decide) rfl ?_
  refine g_iconst (pc := 13) (v := 1) C (by decide) dL_setSink_13 ?_
  exact g_iret (pc := 14) C hr hlk (by first | decide | omega) (by first | decide | omega) (by first | decide | omega) dL_setSink_14 ⟨rfl, rfl⟩
set_option maxRecDepth 100000 in
set_option maxHeartbeats 400000 in
theorem c_L_degree_z {l : Launch} {D : va_G} {k : Nat → ClassId} (o : Nat) (h : Nat) (pp : Nat) (x2 : Nat) (x3 : Nat) (x4 : Nat) (o2 : Nat) (o4 : Nat) (o9 : Nat) (o7 : Nat) (o0 : Nat) (o1 : Nat) (jj : Nat) (dd : Nat) (oo : Nat) (fl : Nat → Int64) (v : Int32)  : CMW l D k yL_degree cL_degree 4 (some .int) [((0 : Nat), (9 : Nat), (12 : Nat), (19 : Nat))] 8 124 [.ref o, .int v, .ref oo] [(o, .inr (14, [.ref h, .ref pp, .ref x2, .ref x3, .ref x4, .ref o2, .ref o4, .ref o9, .ref o7, .ref o0, .ref o1])), (h, .inr (7, [.ref jj, .ref dd, .int (nI 0), .int (nI 0)])), (jj, aI k 36 (fun _ => 0)), (dd, aI k 6 (fun _ => 0)), (oo, aJ k 1 fl)] (is1 (some (.int 1)) [(o, .inr (14, [.ref h, .ref pp, .ref x2, .ref x3, .ref x4, .ref o2, .ref o4, .ref o9, .ref o7, .ref o0, .ref o1])), (h, .inr (7, [.ref jj, .ref dd, .int (nI 0), .int (nI 0)])), (jj, aI k 36 (fun _ => 0)), (dd, aI k 6 (fun _ => 0)), (oo, aJ k 1 fl)]) 1 6 0 := by
  refine CMW.of (lv0 := [(0, .ref o), (1, .int v), (2, .ref oo)]) (by decide +kernel) (Nat.le_of_ble_eq_true rfl) rfl ?_
  intro p9 e9 s9 m9 bl9 me9 co9 C hr hlk hin had htab
  refine g_aload_n (pc := 0) C 2 rfl rfl dL_degree_0 ?_
  refine g_iconst (pc := 1) (v := 0) C (by decide) dL_degree_1 ?_
  refine g_aload_n (pc := 2) C 0 rfl rfl dL_degree_2 ?_
  refine g_iload_n (pc := 3) C 1 rfl rfl dL_degree_3 ?_
  refine g_callVT (pc := 4) (cells := 0) (slots := 0) (g := 0) (As := [.int v]) (st := [.int 0, .ref oo]) (T := TX10) (q0 := 0) C (nA := 1) rfl (c_X10_degree_x o h pp x2 x3 x4 o2 o4 o9 o7 o0 o1 jj dd v ) q_318 q_320 q_319 q_203 q_317 (by decide +kernel) rfl rfl dL_degree_4 ⟨Nat.le_of_ble_eq_true rfl, Nat.le_of_ble_eq_true rfl⟩ [0, 1, 2, 3] [4] rfl (wr := [(oo, aJ k 1 fl)]) rfl (by decide) (by decide) (by decide) (Nat.le_of_ble_eq_true rfl) ⟨Nat.le_of_ble_eq_true rfl, Nat.le_of_ble_eq_true rfl⟩ ?_
  refine GT.re [1, 2, 3, 4, 0] (ws' := [(o, .inr (14, [.ref h, .ref pp, .ref x2, .ref x3, .ref x4, .ref o2, .ref o4, .ref o9, .ref o7, .ref o0, .ref o1])), (h, .inr (7, [.ref jj, .ref dd, .int (nI 0), .int (nI 0)])), (jj, aI k 36 (fun _ => 0)), (dd, aI k 6 (fun _ => 0)), (oo, aJ k 1 fl)]) (cells' := 1) (slots' := 6) (by decide) rfl rfl rfl ?_
  refine GT.catch C [] ⟨0, 9, 12, 19⟩ [] (htab.trans rfl) (fun z h => nomatch h) (by decide) (by decide) (by decide) q_312 (fun qx1 => ?_)
  refine g_astore_n (pc := 12) C [(3, .ref qx1), (0, .ref o), (1, .int v), (2, .ref oo)] rfl dL_degree_12 (by decide) rfl ?_
  refine g_iconst (pc := 13) (v := 1) C (by decide) dL_degree_13 ?_
  exact g_iret (pc := 14) C hr hlk (by first | decide | omega) (by first | decide | omega) (by first | decide | omega) dL_degree_14 ⟨rfl, rfl⟩
set_option maxRecDepth 100000 in
set_option maxHeartbeats 400000 in
theorem c_L_put_z {l : Launch} {D : va_G} {k : Nat → ClassId} (o : Nat) (h : Nat) (pp : Nat) (x2 : Nat) (x3 : Nat) (x4 : Nat) (o2 : Nat) (o4 : Nat) (o9 : Nat) (o7 : Nat) (o0 : Nat) (o1 : Nat) (jj : Nat) (dd : Nat) (oo : Nat) (fl : Nat → Int64) (v : Int32) (y : Int32)  : CMW l D k yL_put cL_put 5 (some .int) [((0 : Nat), (10 : Nat), (13 : Nat), (19 : Nat)), ((0 : Nat), (10 : Nat), (17 : Nat), (21 : Nat)), ((0 : Nat), (10 : Nat), (21 : Nat), (13 : Nat))] 8 125 [.ref o, .int v, .int y, .ref oo] [(o, .inr (14, [.ref h, .ref pp, .ref x2, .ref x3, .ref x4, .ref o2, .ref o4, .ref o9, .ref o7, .ref o0, .ref o1])), (h, .inr (7, [.ref jj, .ref dd, .int (nI 0), .int (nI 0)])), (jj, aI k 36 (fun _ => 0)), (dd, aI k 6 (fun _ => 0)), (oo, aJ k 1 fl)] (is1 (some (.int 1)) [(o, .inr (14, [.ref h, .ref pp, .ref x2, .ref x3, .ref x4, .ref o2, .ref o4, .ref o9, .ref o7, .ref o0, .ref o1])), (h, .inr (7, [.ref jj, .ref dd, .int (nI 0), .int (nI 0)])), (jj, aI k 36 (fun _ => 0)), (dd, aI k 6 (fun _ => 0)), (oo, aJ k 1 fl)]) 1 6 0 := by
  refine CMW.of (lv0 := [(0, .ref o), (1, .int v), (2, .int y), (3, .ref oo)]) (by decide +kernel) (Nat.le_of_ble_eq_true rfl) rfl ?_
  intro p9 e9 s9 m9 bl9 me9 co9 C hr hlk hin had htab
  refine g_aload_n (pc := 0) C 3 rfl rfl dL_put_0 ?_
  refine g_iconst (pc := 1) (v := 0) C (by decide) dL_put_1 ?_
  refine g_aload_n (pc := 2) C 0 rfl rfl dL_put_2 ?_
  refine g_iload_n (pc := 3) C 1 rfl rfl dL_put_3 ?_
  refine g_iload_n (pc := 4) C 2 rfl rfl dL_put_4 ?_
  refine g_callVT (pc := 5) (cells := 0) (slots := 0) (g := 0) (As := [.int v, .int y]) (st := [.int 0, .ref oo]) (T := TX10) (q0 := 0) C (nA := 2) rfl (c_X10_put_x o h pp x2 x3 x4 o2 o4 o9 o7 o0 o1 jj dd v y ) q_322 q_324 q_323 q_203 q_321 (by decide +kernel) rfl rfl dL_put_5 ⟨Nat.le_of_ble_eq_true rfl, Nat.le_of_ble_eq_true rfl⟩ [0, 1, 2, 3] [4] rfl (wr := [(oo, aJ k 1 fl)]) rfl (by decide) (by decide) (by decide) (Nat.le_of_ble_eq_true rfl) ⟨Nat.le_of_ble_eq_true rfl, Nat.le_of_ble_eq_true rfl⟩ ?_
  refine GT.re [1, 2, 3, 4, 0] (ws' := [(o, .inr (14, [.ref h, .ref pp, .ref x2, .ref x3, .ref x4, .ref o2, .ref o4, .ref o9, .ref o7, .ref o0, .ref o1])), (h, .inr (7, [.ref jj, .ref dd, .int (nI 0), .int (nI 0)])), (jj, aI k 36 (fun _ => 0)), (dd, aI k 6 (fun _ => 0)), (oo, aJ k 1 fl)]) (cells' := 1) (slots' := 6) (by decide) rfl rfl rfl ?_
  refine GT.catch C [] ⟨0, 10, 13, 19⟩ [⟨0, 10, 17, 21⟩, ⟨0, 10, 21, 13⟩] (htab.trans rfl) (fun z h => nomatch h) (by decide) (by decide) (by decide) q_312 (fun qx1 => ?_)
  refine g_astore (pc := 13) C [(4, .ref qx1), (0, .ref o), (1, .int v), (2, .int y), (3, .ref oo)] dL_put_13 (by decide) rfl ?_
  refine g_iconst (pc := 15) (v := 1) C (by decide) dL_put_15 ?_
  exact g_iret (pc := 16) C hr hlk (by first | decide | omega) (by first | decide | omega) (by first | decide | omega) dL_put_16 ⟨rfl, rfl⟩
set_option maxRecDepth 100000 in
set_option maxHeartbeats 400000 in
theorem c_L_chips_z {l : Launch} {D : va_G} {k : Nat → ClassId} (o : Nat) (h : Nat) (pp : Nat) (x2 : Nat) (x3 : Nat) (x4 : Nat) (o2 : Nat) (o4 : Nat) (o9 : Nat) (o7 : Nat) (o0 : Nat) (o1 : Nat) (jj : Nat) (dd : Nat) (oo : Nat) (fl : Nat → Int64) (v : Int32)  : CMW l D k yL_chips cL_chips 4 (some .int) [((0 : Nat), (9 : Nat), (12 : Nat), (19 : Nat))] 8 124 [.ref o, .int v, .ref oo] [(o, .inr (14, [.ref h, .ref pp, .ref x2, .ref x3, .ref x4, .ref o2, .ref o4, .ref o9, .ref o7, .ref o0, .ref o1])), (h, .inr (7, [.ref jj, .ref dd, .int (nI 0), .int (nI 0)])), (jj, aI k 36 (fun _ => 0)), (dd, aI k 6 (fun _ => 0)), (oo, aJ k 1 fl)] (is1 (some (.int 1)) [(o, .inr (14, [.ref h, .ref pp, .ref x2, .ref x3, .ref x4, .ref o2, .ref o4, .ref o9, .ref o7, .ref o0, .ref o1])), (h, .inr (7, [.ref jj, .ref dd, .int (nI 0), .int (nI 0)])), (jj, aI k 36 (fun _ => 0)), (dd, aI k 6 (fun _ => 0)), (oo, aJ k 1 fl)]) 1 6 0 := by
  refine CMW.of (lv0 := [(0, .ref o), (1, .int v), (2, .ref oo)]) (by decide +kernel) (Nat.le_of_ble_eq_true rfl) rfl ?_
  intro p9 e9 s9 m9 bl9 me9 co9 C hr hlk hin had htab
  refine g_aload_n (pc := 0) C 2 rfl rfl dL_chips_0 ?_
  refine g_iconst (pc := 1) (v := 0) C (by decide) dL_chips_1 ?_
  refine g_aload_n (pc := 2) C 0 rfl rfl dL_chips_2 ?_
  refine g_iload_n (pc := 3) C 1 rfl rfl dL_chips_3 ?_
  refine g_callVT (pc := 4) (cells := 0) (slots := 0) (g := 0) (As := [.int v]) (st := [.int 0, .ref oo]) (T := TX10) (q0 := 0) C (nA := 1) rfl (c_X10_chips_x o h pp x2 x3 x4 o2 o4 o9 o7 o0 o1 jj dd v ) q_326 q_328 q_327 q_203 q_325 (by decide +kernel) rfl rfl dL_chips_4 ⟨Nat.le_of_ble_eq_true rfl, Nat.le_of_ble_eq_true rfl⟩ [0, 1, 2, 3] [4] rfl (wr := [(oo, aJ k 1 fl)]) rfl (by decide) (by decide) (by decide) (Nat.le_of_ble_eq_true rfl) ⟨Nat.le_of_ble_eq_true rfl, Nat.le_of_ble_eq_true rfl⟩ ?_
  refine GT.re [1, 2, 3, 4, 0] (ws' := [(o, .inr (14, [.ref h, .ref pp, .ref x2, .ref x3, .ref x4, .ref o2, .ref o4, .ref o9, .ref o7, .ref o0, .ref o1])), (h, .inr (7, [.ref jj, .ref dd, .int (nI 0), .int (nI 0)])), (jj, aI k 36 (fun _ => 0)), (dd, aI k 6 (fun _ => 0)), (oo, aJ k 1 fl)]) (cells' := 1) (slots' := 6) (by decide) rfl rfl rfl ?_
  refine GT.catch C [] ⟨0, 9, 12, 19⟩ [] (htab.trans rfl) (fun z h => nomatch h) (by decide) (by decide) (by decide) q_312 (fun qx1 => ?_)
  refine g_astore_n (pc := 12) C [(3, .ref qx1), (0, .ref o), (1, .int v), (2, .ref oo)] rfl dL_chips_12 (by decide) rfl ?_
  refine g_iconst (pc := 13) (v := 1) C (by decide) dL_chips_13 ?_
  exact g_iret (pc := 14) C hr hlk (by first | decide | omega) (by first | decide | omega) (by first | decide | omega) dL_chips_14 ⟨rfl, rfl⟩
set_option maxRecDepth 100000 in
set_option maxHeartbeats 400000 in
theorem c_L_topple_z {l : Launch} {D : va_G} {k : Nat → ClassId} (o : Nat) (h : Nat) (pp : Nat) (x2 : Nat) (x3 : Nat) (x4 : Nat) (o2 : Nat) (o4 : Nat) (o9 : Nat) (o7 : Nat) (o0 : Nat) (o1 : Nat) (jj : Nat) (dd : Nat) (oo : Nat) (fl : Nat → Int64) (v : Int32)  : CMW l D k yL_topple cL_topple 4 (some .int) [((0 : Nat), (9 : Nat), (12 : Nat), (19 : Nat)), ((0 : Nat), (9 : Nat), (15 : Nat), (40 : Nat))] 8 124 [.ref o, .int v, .ref oo] [(o, .inr (14, [.ref h, .ref pp, .ref x2, .ref x3, .ref x4, .ref o2, .ref o4, .ref o9, .ref o7, .ref o0, .ref o1])), (h, .inr (7, [.ref jj, .ref dd, .int (nI 0), .int (nI 0)])), (jj, aI k 36 (fun _ => 0)), (dd, aI k 6 (fun _ => 0)), (oo, aJ k 1 fl)] (is1 (some (.int 1)) [(o, .inr (14, [.ref h, .ref pp, .ref x2, .ref x3, .ref x4, .ref o2, .ref o4, .ref o9, .ref o7, .ref o0, .ref o1])), (h, .inr (7, [.ref jj, .ref dd, .int (nI 0), .int (nI 0)])), (jj, aI k 36 (fun _ => 0)), (dd, aI k 6 (fun _ => 0)), (oo, aJ k 1 fl)]) 1 6 0 := by
  refine CMW.of (lv0 := [(0, .ref o), (1, .int v), (2, .ref oo)]) (by decide +kernel) (Nat.le_of_ble_eq_true rfl) rfl ?_
  intro p9 e9 s9 m9 bl9 me9 co9 C hr hlk hin had htab
  refine g_aload_n (pc := 0) C 2 rfl rfl dL_topple_0 ?_
  refine g_iconst (pc := 1) (v := 0) C (by decide) dL_topple_1 ?_
  refine g_aload_n (pc := 2) C 0 rfl rfl dL_topple_2 ?_
  refine g_iload_n (pc := 3) C 1 rfl rfl dL_topple_3 ?_
  refine g_callVT (pc := 4) (cells := 0) (slots := 0) (g := 0) (As := [.int v]) (st := [.int 0, .ref oo]) (T := TX10) (q0 := 0) C (nA := 1) rfl (c_X10_topple_x o h pp x2 x3 x4 o2 o4 o9 o7 o0 o1 jj dd v ) q_330 q_332 q_331 q_203 q_329 (by decide +kernel) rfl rfl dL_topple_4 ⟨Nat.le_of_ble_eq_true rfl, Nat.le_of_ble_eq_true rfl⟩ [0, 1, 2, 3] [4] rfl (wr := [(oo, aJ k 1 fl)]) rfl (by decide) (by decide) (by decide) (Nat.le_of_ble_eq_true rfl) ⟨Nat.le_of_ble_eq_true rfl, Nat.le_of_ble_eq_true rfl⟩ ?_
  refine GT.re [1, 2, 3, 4, 0] (ws' := [(o, .inr (14, [.ref h, .ref pp, .ref x2, .ref x3, .ref x4, .ref o2, .ref o4, .ref o9, .ref o7, .ref o0, .ref o1])), (h, .inr (7, [.ref jj, .ref dd, .int (nI 0), .int (nI 0)])), (jj, aI k 36 (fun _ => 0)), (dd, aI k 6 (fun _ => 0)), (oo, aJ k 1 fl)]) (cells' := 1) (slots' := 6) (by decide) rfl rfl rfl ?_
  refine GT.catch C [] ⟨0, 9, 12, 19⟩ [⟨0, 9, 15, 40⟩] (htab.trans rfl) (fun z h => nomatch h) (by decide) (by decide) (by decide) q_312 (fun qx1 => ?_)
  refine g_astore_n (pc := 12) C [(3, .ref qx1), (0, .ref o), (1, .int v), (2, .ref oo)] rfl dL_topple_12 (by decide) rfl ?_
  refine g_iconst (pc := 13) (v := 1) C (by decide) dL_topple_13 ?_
  exact g_iret (pc := 14) C hr hlk (by first | decide | omega) (by first | decide | omega) (by first | decide | omega) dL_topple_14 ⟨rfl, rfl⟩
set_option maxRecDepth 100000 in
set_option maxHeartbeats 400000 in
theorem c_L_count_z {l : Launch} {D : va_G} {k : Nat → ClassId} (o : Nat) (h : Nat) (pp : Nat) (x2 : Nat) (x3 : Nat) (x4 : Nat) (o2 : Nat) (o4 : Nat) (o9 : Nat) (o7 : Nat) (o0 : Nat) (o1 : Nat) (jj : Nat) (dd : Nat) (oo : Nat) (fl : Nat → Int64) (v : Int32)  : CMW l D k yL_count cL_count 4 (some .int) [((0 : Nat), (9 : Nat), (12 : Nat), (19 : Nat))] 8 124 [.ref o, .int v, .ref oo] [(o, .inr (14, [.ref h, .ref pp, .ref x2, .ref x3, .ref x4, .ref o2, .ref o4, .ref o9, .ref o7, .ref o0, .ref o1])), (h, .inr (7, [.ref jj, .ref dd, .int (nI 0), .int (nI 0)])), (jj, aI k 36 (fun _ => 0)), (dd, aI k 6 (fun _ => 0)), (oo, aJ k 1 fl)] (is1 (some (.int 1)) [(o, .inr (14, [.ref h, .ref pp, .ref x2, .ref x3, .ref x4, .ref o2, .ref o4, .ref o9, .ref o7, .ref o0, .ref o1])), (h, .inr (7, [.ref jj, .ref dd, .int (nI 0), .int (nI 0)])), (jj, aI k 36 (fun _ => 0)), (dd, aI k 6 (fun _ => 0)), (oo, aJ k 1 fl)]) 1 6 0 := by
  refine CMW.of (lv0 := [(0, .ref o), (1, .int v), (2, .ref oo)]) (by decide +kernel) (Nat.le_of_ble_eq_true rfl) rfl ?_
  intro p9 e9 s9 m9 bl9 me9 co9 C hr hlk hin had htab
  refine g_aload_n (pc := 0) C 2 rfl rfl dL_count_0 ?_
  refine g_iconst (pc := 1) (v := 0) C (by decide) dL_count_1 ?_
  refine g_aload_n (pc := 2) C 0 rfl rfl dL_count_2 ?_
  refine g_iload_n (pc := 3) C 1 rfl rfl dL_count_3 ?_
  refine g_callVT (pc := 4) (cells := 0) (slots := 0) (g := 0) (As := [.int v]) (st := [.int 0, .ref oo]) (T := TX10) (q0 := 0) C (nA := 1) rfl (c_X10_count_x o h pp x2 x3 x4 o2 o4 o9 o7 o0 o1 jj dd v ) q_334 q_336 q_335 q_203 q_333 (by decide +kernel) rfl rfl dL_count_4 ⟨Nat.le_of_ble_eq_true rfl, Nat.le_of_ble_eq_true rfl⟩ [0, 1, 2, 3] [4] rfl (wr := [(oo, aJ k 1 fl)]) rfl (by decide) (by decide) (by decide) (Nat.le_of_ble_eq_true rfl) ⟨Nat.le_of_ble_eq_true rfl, Nat.le_of_ble_eq_true rfl⟩ ?_
  refine GT.re [1, 2, 3, 4, 0] (ws' := [(o, .inr (14, [.ref h, .ref pp, .ref x2, .ref x3, .ref x4, .ref o2, .ref o4, .ref o9, .ref o7, .ref o0, .ref o1])), (h, .inr (7, [.ref jj, .ref dd, .int (nI 0), .int (nI 0)])), (jj, aI k 36 (fun _ => 0)), (dd, aI k 6 (fun _ => 0)), (oo, aJ k 1 fl)]) (cells' := 1) (slots' := 6) (by decide) rfl rfl rfl ?_
  refine GT.catch C [] ⟨0, 9, 12, 19⟩ [] (htab.trans rfl) (fun z h => nomatch h) (by decide) (by decide) (by decide) q_312 (fun qx1 => ?_)
  refine g_astore_n (pc := 12) C [(3, .ref qx1), (0, .ref o), (1, .int v), (2, .ref oo)] rfl dL_count_12 (by decide) rfl ?_
  refine g_iconst (pc := 13) (v := 1) C (by decide) dL_count_13 ?_
  exact g_iret (pc := 14) C hr hlk (by first | decide | omega) (by first | decide | omega) (by first | decide | omega) dL_count_14 ⟨rfl, rfl⟩
set_option maxRecDepth 100000 in
set_option maxHeartbeats 400000 in
theorem c_L_burns_z {l : Launch} {D : va_G} {k : Nat → ClassId} (o : Nat) (h : Nat) (pp : Nat) (x2 : Nat) (x3 : Nat) (x4 : Nat) (o2 : Nat) (o4 : Nat) (o9 : Nat) (o7 : Nat) (o0 : Nat) (o1 : Nat) (jj : Nat) (dd : Nat) (oo : Nat) (fl : Nat → Int64) (v : Int32)  : CMW l D k yL_burns cL_burns 4 (some .int) [((0 : Nat), (9 : Nat), (12 : Nat), (19 : Nat))] 8 124 [.ref o, .int v, .ref oo] [(o, .inr (14, [.ref h, .ref pp, .ref x2, .ref x3, .ref x4, .ref o2, .ref o4, .ref o9, .ref o7, .ref o0, .ref o1])), (h, .inr (7, [.ref jj, .ref dd, .int (nI 0), .int (nI 0)])), (jj, aI k 36 (fun _ => 0)), (dd, aI k 6 (fun _ => 0)), (oo, aJ k 1 fl)] (is1 (some (.int 1)) [(o, .inr (14, [.ref h, .ref pp, .ref x2, .ref x3, .ref x4, .ref o2, .ref o4, .ref o9, .ref o7, .ref o0, .ref o1])), (h, .inr (7, [.ref jj, .ref dd, .int (nI 0), .int (nI 0)])), (jj, aI k 36 (fun _ => 0)), (dd, aI k 6 (fun _ => 0)), (oo, aJ k 1 fl)]) 1 6 0 := by
  refine CMW.of (lv0 := [(0, .ref o), (1, .int v), (2, .ref oo)]) (by decide +kernel) (Nat.le_of_ble_eq_true rfl) rfl ?_
  intro p9 e9 s9 m9 bl9 me9 co9 C hr hlk hin had htab
  refine g_aload_n (pc := 0) C 2 rfl rfl dL_burns_0 ?_
  refine g_iconst (pc := 1) (v := 0) C (by decide) dL_burns_1 ?_
  refine g_aload_n (pc := 2) C 0 rfl rfl dL_burns_2 ?_
  refine g_iload_n (pc := 3) C 1 rfl rfl dL_burns_3 ?_
  refine g_callVT (pc := 4) (cells := 0) (slots := 0) (g := 0) (As := [.int v]) (st := [.int 0, .ref oo]) (T := TX10) (q0 := 0) C (nA := 1) rfl (c_X10_burns_x o h pp x2 x3 x4 o2 o4 o9 o7 o0 o1 jj dd v ) q_338 q_340 q_339 q_203 q_337 (by decide +kernel) rfl rfl dL_burns_4 ⟨Nat.le_of_ble_eq_true rfl, Nat.le_of_ble_eq_true rfl⟩ [0, 1, 2, 3] [4] rfl (wr := [(oo, aJ k 1 fl)]) rfl (by decide) (by decide) (by decide) (Nat.le_of_ble_eq_true rfl) ⟨Nat.le_of_ble_eq_true rfl, Nat.le_of_ble_eq_true rfl⟩ ?_
  refine GT.re [1, 2, 3, 4, 0] (ws' := [(o, .inr (14, [.ref h, .ref pp, .ref x2, .ref x3, .ref x4, .ref o2, .ref o4, .ref o9, .ref o7, .ref o0, .ref o1])), (h, .inr (7, [.ref jj, .ref dd, .int (nI 0), .int (nI 0)])), (jj, aI k 36 (fun _ => 0)), (dd, aI k 6 (fun _ => 0)), (oo, aJ k 1 fl)]) (cells' := 1) (slots' := 6) (by decide) rfl rfl rfl ?_
  refine GT.catch C [] ⟨0, 9, 12, 19⟩ [] (htab.trans rfl) (fun z h => nomatch h) (by decide) (by decide) (by decide) q_312 (fun qx1 => ?_)
  refine g_astore_n (pc := 12) C [(3, .ref qx1), (0, .ref o), (1, .int v), (2, .ref oo)] rfl dL_burns_12 (by decide) rfl ?_
  refine g_iconst (pc := 13) (v := 1) C (by decide) dL_burns_13 ?_
  exact g_iret (pc := 14) C hr hlk (by first | decide | omega) (by first | decide | omega) (by first | decide | omega) dL_burns_14 ⟨rfl, rfl⟩
set_option maxRecDepth 100000 in
set_option maxHeartbeats 400000 in
theorem c_L_unit_z {l : Launch} {D : va_G} {k : Nat → ClassId} (o : Nat) (h : Nat) (pp : Nat) (x2 : Nat) (x3 : Nat) (x4 : Nat) (o2 : Nat) (o4 : Nat) (o9 : Nat) (o7 : Nat) (o0 : Nat) (o1 : Nat) (jj : Nat) (dd : Nat) (oo : Nat) (fl : Nat → Int64) (v : Int32)  : CMW l D k yL_unit cL_unit 4 (some .int) [((0 : Nat), (9 : Nat), (12 : Nat), (19 : Nat)), ((0 : Nat), (9 : Nat), (15 : Nat), (40 : Nat))] 8 124 [.ref o, .int v, .ref oo] [(o, .inr (14, [.ref h, .ref pp, .ref x2, .ref x3, .ref x4, .ref o2, .ref o4, .ref o9, .ref o7, .ref o0, .ref o1])), (h, .inr (7, [.ref jj, .ref dd, .int (nI 0), .int (nI 0)])), (jj, aI k 36 (fun _ => 0)), (dd, aI k 6 (fun _ => 0)), (oo, aJ k 1 fl)] (is1 (some (.int 1)) [(o, .inr (14, [.ref h, .ref pp, .ref x2, .ref x3, .ref x4, .ref o2, .ref o4, .ref o9, .ref o7, .ref o0, .ref o1])), (h, .inr (7, [.ref jj, .ref dd, .int (nI 0), .int (nI 0)])), (jj, aI k 36 (fun _ => 0)), (dd, aI k 6 (fun _ => 0)), (oo, aJ k 1 fl)]) 1 6 0 := by
  refine CMW.of (lv0 := [(0, .ref o), (1, .int v), (2, .ref oo)]) (by decide +kernel) (Nat.le_of_ble_eq_true rfl) rfl ?_
  intro p9 e9 s9 m9 bl9 me9 co9 C hr hlk hin had htab
  refine g_aload_n (pc := 0) C 2 rfl rfl dL_unit_0 ?_
  refine g_iconst (pc := 1) (v := 0) C (by decide) dL_unit_1 ?_
  refine g_aload_n (pc := 2) C 0 rfl rfl dL_unit_2 ?_
  refine g_iload_n (pc := 3) C 1 rfl rfl dL_unit_3 ?_
  refine g_callVT (pc := 4) (cells := 0) (slots := 0) (g := 0) (As := [.int v]) (st := [.int 0, .ref oo]) (T := TX10) (q0 := 0) C (nA := 1) rfl (c_X10_unit_x o h pp x2 x3 x4 o2 o4 o9 o7 o0 o1 jj dd v ) q_342 q_344 q_343 q_203 q_341 (by decide +kernel) rfl rfl dL_unit_4 ⟨Nat.le_of_ble_eq_true rfl, Nat.le_of_ble_eq_true rfl⟩ [0, 1, 2, 3] [4] rfl (wr := [(oo, aJ k 1 fl)]) rfl (by decide) (by decide) (by decide) (Nat.le_of_ble_eq_true rfl) ⟨Nat.le_of_ble_eq_true rfl, Nat.le_of_ble_eq_true rfl⟩ ?_
  refine GT.re [1, 2, 3, 4, 0] (ws' := [(o, .inr (14, [.ref h, .ref pp, .ref x2, .ref x3, .ref x4, .ref o2, .ref o4, .ref o9, .ref o7, .ref o0, .ref o1])), (h, .inr (7, [.ref jj, .ref dd, .int (nI 0), .int (nI 0)])), (jj, aI k 36 (fun _ => 0)), (dd, aI k 6 (fun _ => 0)), (oo, aJ k 1 fl)]) (cells' := 1) (slots' := 6) (by decide) rfl rfl rfl ?_
  refine GT.catch C [] ⟨0, 9, 12, 19⟩ [⟨0, 9, 15, 40⟩] (htab.trans rfl) (fun z h => nomatch h) (by decide) (by decide) (by decide) q_312 (fun qx1 => ?_)
  refine g_astore_n (pc := 12) C [(3, .ref qx1), (0, .ref o), (1, .int v), (2, .ref oo)] rfl dL_unit_12 (by decide) rfl ?_
  refine g_iconst (pc := 13) (v := 1) C (by decide) dL_unit_13 ?_
  exact g_iret (pc := 14) C hr hlk (by first | decide | omega) (by first | decide | omega) (by first | decide | omega) dL_unit_14 ⟨rfl, rfl⟩
set_option maxRecDepth 100000 in
set_option maxHeartbeats 400000 in
theorem c_L_walk_z {l : Launch} {D : va_G} {k : Nat → ClassId} (o : Nat) (h : Nat) (pp : Nat) (x2 : Nat) (x3 : Nat) (x4 : Nat) (o2 : Nat) (o4 : Nat) (o9 : Nat) (o7 : Nat) (o0 : Nat) (o1 : Nat) (jj : Nat) (dd : Nat) (oo : Nat) (fl : Nat → Int64) (v : Int32)  : CMW l D k yL_walk cL_walk 4 (some .int) [((0 : Nat), (9 : Nat), (12 : Nat), (19 : Nat)), ((0 : Nat), (9 : Nat), (15 : Nat), (40 : Nat))] 8 124 [.ref o, .int v, .ref oo] [(o, .inr (14, [.ref h, .ref pp, .ref x2, .ref x3, .ref x4, .ref o2, .ref o4, .ref o9, .ref o7, .ref o0, .ref o1])), (h, .inr (7, [.ref jj, .ref dd, .int (nI 0), .int (nI 0)])), (jj, aI k 36 (fun _ => 0)), (dd, aI k 6 (fun _ => 0)), (oo, aJ k 1 fl)] (is1 (some (.int 1)) [(o, .inr (14, [.ref h, .ref pp, .ref x2, .ref x3, .ref x4, .ref o2, .ref o4, .ref o9, .ref o7, .ref o0, .ref o1])), (h, .inr (7, [.ref jj, .ref dd, .int (nI 0), .int (nI 0)])), (jj, aI k 36 (fun _ => 0)), (dd, aI k 6 (fun _ => 0)), (oo, aJ k 1 fl)]) 1 6 0 := by
  refine CMW.of (lv0 := [(0, .ref o), (1, .int v), (2, .ref oo)]) (by decide +kernel) (Nat.le_of_ble_eq_true rfl) rfl ?_
  intro p9 e9 s9 m9 bl9 me9 co9 C hr hlk hin had htab
  refine g_aload_n (pc := 0) C 2 rfl rfl dL_walk_0 ?_
  refine g_iconst (pc := 1) (v := 0) C (by decide) dL_walk_1 ?_
  refine g_aload_n (pc := 2) C 0 rfl rfl dL_walk_2 ?_
  refine g_iload_n (pc := 3) C 1 rfl rfl dL_walk_3 ?_
  refine g_callVT (pc := 4) (cells := 0) (slots := 0) (g := 0) (As := [.int v]) (st := [.int 0, .ref oo]) (T := TX10) (q0 := 0) C (nA := 1) rfl (c_X10_walk_x o h pp x2 x3 x4 o2 o4 o9 o7 o0 o1 jj dd v ) q_346 q_348 q_347 q_203 q_345 (by decide +kernel) rfl rfl dL_walk_4 ⟨Nat.le_of_ble_eq_true rfl, Nat.le_of_ble_eq_true rfl⟩ [0, 1, 2, 3] [4] rfl (wr := [(oo, aJ k 1 fl)]) rfl (by decide) (by decide) (by decide) (Nat.le_of_ble_eq_true rfl) ⟨Nat.le_of_ble_eq_true rfl, Nat.le_of_ble_eq_true rfl⟩ ?_
  refine GT.re [1, 2, 3, 4, 0] (ws' := [(o, .inr (14, [.ref h, .ref pp, .ref x2, .ref x3, .ref x4, .ref o2, .ref o4, .ref o9, .ref o7, .ref o0, .ref o1])), (h, .inr (7, [.ref jj, .ref dd, .int (nI 0), .int (nI 0)])), (jj, aI k 36 (fun _ => 0)), (dd, aI k 6 (fun _ => 0)), (oo, aJ k 1 fl)]) (cells' := 1) (slots' := 6) (by decide) rfl rfl rfl ?_
  refine GT.catch C [] ⟨0, 9, 12, 19⟩ [⟨0, 9, 15, 40⟩] (htab.trans rfl) (fun z h => nomatch h) (by decide) (by decide) (by decide) q_312 (fun qx1 => ?_)
  refine g_astore_n (pc := 12) C [(3, .ref qx1), (0, .ref o), (1, .int v), (2, .ref oo)] rfl dL_walk_12 (by decide) rfl ?_
  refine g_iconst (pc := 13) (v := 1) C (by decide) dL_walk_13 ?_
  exact g_iret (pc := 14) C hr hlk (by first | decide | omega) (by first | decide | omega) (by first | decide | omega) dL_walk_14 ⟨rfl, rfl⟩
set_option maxRecDepth 100000 in
set_option maxHeartbeats 400000 in
theorem c_L_rotor_z {l : Launch} {D : va_G} {k : Nat → ClassId} (o : Nat) (h : Nat) (pp : Nat) (x2 : Nat) (x3 : Nat) (x4 : Nat) (o2 : Nat) (o4 : Nat) (o9 : Nat) (o7 : Nat) (o0 : Nat) (o1 : Nat) (jj : Nat) (dd : Nat) (oo : Nat) (fl : Nat → Int64) (v : Int32)  : CMW l D k yL_rotor cL_rotor 4 (some .int) [((0 : Nat), (9 : Nat), (12 : Nat), (19 : Nat)), ((0 : Nat), (9 : Nat), (15 : Nat), (40 : Nat))] 8 124 [.ref o, .int v, .ref oo] [(o, .inr (14, [.ref h, .ref pp, .ref x2, .ref x3, .ref x4, .ref o2, .ref o4, .ref o9, .ref o7, .ref o0, .ref o1])), (h, .inr (7, [.ref jj, .ref dd, .int (nI 0), .int (nI 0)])), (jj, aI k 36 (fun _ => 0)), (dd, aI k 6 (fun _ => 0)), (oo, aJ k 1 fl)] (is1 (some (.int 1)) [(o, .inr (14, [.ref h, .ref pp, .ref x2, .ref x3, .ref x4, .ref o2, .ref o4, .ref o9, .ref o7, .ref o0, .ref o1])), (h, .inr (7, [.ref jj, .ref dd, .int (nI 0), .int (nI 0)])), (jj, aI k 36 (fun _ => 0)), (dd, aI k 6 (fun _ => 0)), (oo, aJ k 1 fl)]) 1 6 0 := by
  refine CMW.of (lv0 := [(0, .ref o), (1, .int v), (2, .ref oo)]) (by decide +kernel) (Nat.le_of_ble_eq_true rfl) rfl ?_
  intro p9 e9 s9 m9 bl9 me9 co9 C hr hlk hin had htab
  refine g_aload_n (pc := 0) C 2 rfl rfl dL_rotor_0 ?_
  refine g_iconst (pc := 1) (v := 0) C (by decide) dL_rotor_1 ?_
  refine g_aload_n (pc := 2) C 0 rfl rfl dL_rotor_2 ?_
  refine g_iload_n (pc := 3) C 1 rfl rfl dL_rotor_3 ?_
  refine g_callVT (pc := 4) (cells := 0) (slots := 0) (g := 0) (As := [.int v]) (st := [.int 0, .ref oo]) (T := TX10) (q0 := 0) C (nA := 1) rfl (c_X10_rotor_x o h pp x2 x3 x4 o2 o4 o9 o7 o0 o1 jj dd v ) q_350 q_352 q_351 q_203 q_349 (by decide +kernel) rfl rfl dL_rotor_4 ⟨Nat.le_of_ble_eq_true rfl, Nat.le_of_ble_eq_true rfl⟩ [0, 1, 2, 3] [4] rfl (wr := [(oo, aJ k 1 fl)]) rfl (by decide) (by decide) (by decide) (Nat.le_of_ble_eq_true rfl) ⟨Nat.le_of_ble_eq_true rfl, Nat.le_of_ble_eq_true rfl⟩ ?_
  refine GT.re [1, 2, 3, 4, 0] (ws' := [(o, .inr (14, [.ref h, .ref pp, .ref x2, .ref x3, .ref x4, .ref o2, .ref o4, .ref o9, .ref o7, .ref o0, .ref o1])), (h, .inr (7, [.ref jj, .ref dd, .int (nI 0), .int (nI 0)])), (jj, aI k 36 (fun _ => 0)), (dd, aI k 6 (fun _ => 0)), (oo, aJ k 1 fl)]) (cells' := 1) (slots' := 6) (by decide) rfl rfl rfl ?_
  refine GT.catch C [] ⟨0, 9, 12, 19⟩ [⟨0, 9, 15, 40⟩] (htab.trans rfl) (fun z h => nomatch h) (by decide) (by decide) (by decide) q_312 (fun qx1 => ?_)
  refine g_astore_n (pc := 12) C [(3, .ref qx1), (0, .ref o), (1, .int v), (2, .ref oo)] rfl dL_rotor_12 (by decide) rfl ?_
  refine g_iconst (pc := 13) (v := 1) C (by decide) dL_rotor_13 ?_
  exact g_iret (pc := 14) C hr hlk (by first | decide | omega) (by first | decide | omega) (by first | decide | omega) dL_rotor_14 ⟨rfl, rfl⟩
set_option maxRecDepth 100000 in
set_option maxHeartbeats 400000 in
theorem c_L_visits_z {l : Launch} {D : va_G} {k : Nat → ClassId} (o : Nat) (h : Nat) (pp : Nat) (x2 : Nat) (x3 : Nat) (x4 : Nat) (o2 : Nat) (o4 : Nat) (o9 : Nat) (o7 : Nat) (o0 : Nat) (o1 : Nat) (jj : Nat) (dd : Nat) (oo : Nat) (fl : Nat → Int64) (v : Int32)  : CMW l D k yL_visits cL_visits 4 (some .int) [((0 : Nat), (9 : Nat), (12 : Nat), (19 : Nat))] 8 124 [.ref o, .int v, .ref oo] [(o, .inr (14, [.ref h, .ref pp, .ref x2, .ref x3, .ref x4, .ref o2, .ref o4, .ref o9, .ref o7, .ref o0, .ref o1])), (h, .inr (7, [.ref jj, .ref dd, .int (nI 0), .int (nI 0)])), (jj, aI k 36 (fun _ => 0)), (dd, aI k 6 (fun _ => 0)), (oo, aJ k 1 fl)] (is1 (some (.int 1)) [(o, .inr (14, [.ref h, .ref pp, .ref x2, .ref x3, .ref x4, .ref o2, .ref o4, .ref o9, .ref o7, .ref o0, .ref o1])), (h, .inr (7, [.ref jj, .ref dd, .int (nI 0), .int (nI 0)])), (jj, aI k 36 (fun _ => 0)), (dd, aI k 6 (fun _ => 0)), (oo, aJ k 1 fl)]) 1 6 0 := by
  refine CMW.of (lv0 := [(0, .ref o), (1, .int v), (2, .ref oo)]) (by decide +kernel) (Nat.le_of_ble_eq_true rfl) rfl ?_
  intro p9 e9 s9 m9 bl9 me9 co9 C hr hlk hin had htab
  refine g_aload_n (pc := 0) C 2 rfl rfl dL_visits_0 ?_
  refine g_iconst (pc := 1) (v := 0) C (by decide) dL_visits_1 ?_
  refine g_aload_n (pc := 2) C 0 rfl rfl dL_visits_2 ?_
  refine g_iload_n (pc := 3) C 1 rfl rfl dL_visits_3 ?_
  refine g_callVT (pc := 4) (cells := 0) (slots := 0) (g := 0) (As := [.int v]) (st := [.int 0, .ref oo]) (T := TX10) (q0 := 0) C (nA := 1) rfl (c_X10_visits_x o h pp x2 x3 x4 o2 o4 o9 o7 o0 o1 jj dd v ) q_354 q_356 q_355 q_203 q_353 (by decide +kernel) rfl rfl dL_visits_4 ⟨Nat.le_of_ble_eq_true rfl, Nat.le_of_ble_eq_true rfl⟩ [0, 1, 2, 3] [4] rfl (wr := [(oo, aJ k 1 fl)]) rfl (by decide) (by decide) (by decide) (Nat.le_of_ble_eq_true rfl) ⟨Nat.le_of_ble_eq_true rfl, Nat.le_of_ble_eq_true rfl⟩ ?_
  refine GT.re [1, 2, 3, 4, 0] (ws' := [(o, .inr (14, [.ref h, .ref pp, .ref x2, .ref x3, .ref x4, .ref o2, .ref o4, .ref o9, .ref o7, .ref o0, .ref o1])), (h, .inr (7, [.ref jj, .ref dd, .int (nI 0), .int (nI 0)])), (jj, aI k 36 (fun _ => 0)), (dd, aI k 6 (fun _ => 0)), (oo, aJ k 1 fl)]) (cells' := 1) (slots' := 6) (by decide) rfl rfl rfl ?_
  refine GT.catch C [] ⟨0, 9, 12, 19⟩ [] (htab.trans rfl) (fun z h => nomatch h) (by decide) (by decide) (by decide) q_312 (fun qx1 => ?_)
  refine g_astore_n (pc := 12) C [(3, .ref qx1), (0, .ref o), (1, .int v), (2, .ref oo)] rfl dL_visits_12 (by decide) rfl ?_
  refine g_iconst (pc := 13) (v := 1) C (by decide) dL_visits_13 ?_
  exact g_iret (pc := 14) C hr hlk (by first | decide | omega) (by first | decide | omega) (by first | decide | omega) dL_visits_14 ⟨rfl, rfl⟩
set_option maxRecDepth 100000 in
set_option maxHeartbeats 400000 in
theorem c_L_setDebt_z {l : Launch} {D : va_G} {k : Nat → ClassId} (o : Nat) (h : Nat) (pp : Nat) (x2 : Nat) (x3 : Nat) (x4 : Nat) (o2 : Nat) (o4 : Nat) (o9 : Nat) (o7 : Nat) (o0 : Nat) (o1 : Nat) (jj : Nat) (dd : Nat) (oo : Nat) (fl : Nat → Int64) (v : Int32) (y : Int32)  : CMW l D k yL_setDebt cL_setDebt 5 (some .int) [((0 : Nat), (10 : Nat), (13 : Nat), (19 : Nat)), ((0 : Nat), (10 : Nat), (17 : Nat), (21 : Nat))] 8 126 [.ref o, .int v, .int y, .ref oo] [(o, .inr (14, [.ref h, .ref pp, .ref x2, .ref x3, .ref x4, .ref o2, .ref o4, .ref o9, .ref o7, .ref o0, .ref o1])), (h, .inr (7, [.ref jj, .ref dd, .int (nI 0), .int (nI 0)])), (jj, aI k 36 (fun _ => 0)), (dd, aI k 6 (fun _ => 0)), (oo, aJ k 1 fl)] (is1 (some (.int 1)) [(o, .inr (14, [.ref h, .ref pp, .ref x2, .ref x3, .ref x4, .ref o2, .ref o4, .ref o9, .ref o7, .ref o0, .ref o1])), (h, .inr (7, [.ref jj, .ref dd, .int (nI 0), .int (nI 0)])), (jj, aI k 36 (fun _ => 0)), (dd, aI k 6 (fun _ => 0)), (oo, aJ k 1 fl)]) 1 6 0 := by
  refine CMW.of (lv0 := [(0, .ref o), (1, .int v), (2, .int y), (3, .ref oo)]) (by decide +kernel) (Nat.le_of_ble_eq_true rfl) rfl ?_
  intro p9 e9 s9 m9 bl9 me9 co9 C hr hlk hin had htab
  refine g_aload_n (pc := 0) C 3 rfl rfl dL_setDebt_0 ?_
  refine g_iconst (pc := 1) (v := 0) C (by decide) dL_setDebt_1 ?_
  refine g_aload_n (pc := 2) C 0 rfl rfl dL_setDebt_2 ?_
  refine g_iload_n (pc := 3) C 1 rfl rfl dL_setDebt_3 ?_
  refine g_iload_n (pc := 4) C 2 rfl rfl dL_setDebt_4 ?_
  refine g_callVT (pc := 5) (cells := 0) (slots := 0) (g := 0) (As := [.int v, .int y]) (st := [.int 0, .ref oo]) (T := TX10) (q0 := 0) C (nA := 2) rfl (c_X10_setDebt_x o h pp x2 x3 x4 o2 o4 o9 o7 o0 o1 jj dd v y ) q_358 q_360 q_359 q_203 q_357 (by decide +kernel) rfl rfl dL_setDebt_5 ⟨Nat.le_of_ble_eq_true rfl, Nat.le_of_ble_eq_true rfl⟩ [0, 1, 2, 3] [4] rfl (wr := [(oo, aJ k 1 fl)]) rfl (by decide) (by decide) (by decide) (Nat.le_of_ble_eq_true rfl) ⟨Nat.le_of_ble_eq_true rfl, Nat.le_of_ble_eq_true rfl⟩ ?_
  refine GT.re [1, 2, 3, 4, 0] (ws' := [(o, .inr (14, [.ref h, .ref pp, .ref x2, .ref x3, .ref x4, .ref o2, .ref o4, .ref o9, .ref o7, .ref o0, .ref o1])), (h, .inr (7, [.ref jj, .ref dd, .int (nI 0), .int (nI 0)])), (jj, aI k 36 (fun _ => 0)), (dd, aI k 6 (fun _ => 0)), (oo, aJ k 1 fl)]) (cells' := 1) (slots' := 6) (by decide) rfl rfl rfl ?_
  refine GT.catch C [] ⟨0, 10, 13, 19⟩ [⟨0, 10, 17, 21⟩] (htab.trans rfl) (fun z h => nomatch h) (by decide) (by decide) (by decide) q_312 (fun qx1 => ?_)
  refine g_astore (pc := 13) C [(4, .ref qx1), (0, .ref o), (1, .int v), (2, .int y), (3, .ref oo)] dL_setDebt_13 (by decide) rfl ?_
  refine g_iconst (pc := 15) (v := 1) C (by decide) dL_setDebt_15 ?_
  exact g_iret (pc := 16) C hr hlk (by first | decide | omega) (by first | decide | omega) (by first | decide | omega) dL_setDebt_16 ⟨rfl, rfl⟩
set_option maxRecDepth 100000 in
set_option maxHeartbeats 400000 in
theorem c_L_deal_z {l : Launch} {D : va_G} {k : Nat → ClassId} (o : Nat) (h : Nat) (pp : Nat) (x2 : Nat) (x3 : Nat) (x4 : Nat) (o2 : Nat) (o4 : Nat) (o9 : Nat) (o7 : Nat) (o0 : Nat) (o1 : Nat) (jj : Nat) (dd : Nat) (oo : Nat) (fl : Nat → Int64) (v : Int32) (y : Int32)  : CMW l D k yL_deal cL_deal 5 (some .int) [((0 : Nat), (10 : Nat), (13 : Nat), (19 : Nat)), ((0 : Nat), (10 : Nat), (17 : Nat), (13 : Nat))] 8 128 [.ref o, .int v, .int y, .ref oo] [(o, .inr (14, [.ref h, .ref pp, .ref x2, .ref x3, .ref x4, .ref o2, .ref o4, .ref o9, .ref o7, .ref o0, .ref o1])), (h, .inr (7, [.ref jj, .ref dd, .int (nI 0), .int (nI 0)])), (jj, aI k 36 (fun _ => 0)), (dd, aI k 6 (fun _ => 0)), (oo, aJ k 1 fl)] (is1 (some (.int 1)) [(o, .inr (14, [.ref h, .ref pp, .ref x2, .ref x3, .ref x4, .ref o2, .ref o4, .ref o9, .ref o7, .ref o0, .ref o1])), (h, .inr (7, [.ref jj, .ref dd, .int (nI 0), .int (nI 0)])), (jj, aI k 36 (fun _ => 0)), (dd, aI k 6 (fun _ => 0)), (oo, aJ k 1 fl)]) 1 6 0 := by
  refine CMW.of (lv0 := [(0, .ref o), (1, .int v), (2, .int y), (3, .ref oo)]) (by decide +kernel) (Nat.le_of_ble_eq_true rfl) rfl ?_
  intro p9 e9 s9 m9 bl9 me9 co9 C hr hlk hin had htab
  refine g_aload_n (pc := 0) C 3 rfl rfl dL_deal_0 ?_
  refine g_iconst (pc := 1) (v := 0) C (by decide) dL_deal_1 ?_
  refine g_aload_n (pc := 2) C 0 rfl rfl dL_deal_2 ?_
  refine g_iload_n (pc := 3) C 1 rfl rfl dL_deal_3 ?_
  refine g_iload_n (pc := 4) C 2 rfl rfl dL_deal_4 ?_
  refine g_callVT (pc := 5) (cells := 0) (slots := 0) (g := 0) (As := [.int v, .int y]) (st := [.int 0, .ref oo]) (T := TX10) (q0 := 0) C (nA := 2) rfl (c_X10_deal_x o h pp x2 x3 x4 o2 o4 o9 o7 o0 o1 jj dd v y ) q_362 q_364 q_363 q_203 q_361 (by decide +kernel) rfl rfl dL_deal_5 ⟨Nat.le_of_ble_eq_true rfl, Nat.le_of_ble_eq_true rfl⟩ [0, 1, 2, 3] [4] rfl (wr := [(oo, aJ k 1 fl)]) rfl (by decide) (by decide) (by decide) (Nat.le_of_ble_eq_true rfl) ⟨Nat.le_of_ble_eq_true rfl, Nat.le_of_ble_eq_true rfl⟩ ?_
  refine GT.re [1, 2, 3, 4, 0] (ws' := [(o, .inr (14, [.ref h, .ref pp, .ref x2, .ref x3, .ref x4, .ref o2, .ref o4, .ref o9, .ref o7, .ref o0, .ref o1])), (h, .inr (7, [.ref jj, .ref dd, .int (nI 0), .int (nI 0)])), (jj, aI k 36 (fun _ => 0)), (dd, aI k 6 (fun _ => 0)), (oo, aJ k 1 fl)]) (cells' := 1) (slots' := 6) (by decide) rfl rfl rfl ?_
  refine GT.catch C [] ⟨0, 10, 13, 19⟩ [⟨0, 10, 17, 13⟩] (htab.trans rfl) (fun z h => nomatch h) (by decide) (by decide) (by decide) q_312 (fun qx1 => ?_)
  refine g_astore (pc := 13) C [(4, .ref qx1), (0, .ref o), (1, .int v), (2, .int y), (3, .ref oo)] dL_deal_13 (by decide) rfl ?_
  refine g_iconst (pc := 15) (v := 1) C (by decide) dL_deal_15 ?_
  exact g_iret (pc := 16) C hr hlk (by first | decide | omega) (by first | decide | omega) (by first | decide | omega) dL_deal_16 ⟨rfl, rfl⟩
set_option maxRecDepth 100000 in
set_option maxHeartbeats 400000 in
theorem c_L_debt_z {l : Launch} {D : va_G} {k : Nat → ClassId} (o : Nat) (h : Nat) (pp : Nat) (x2 : Nat) (x3 : Nat) (x4 : Nat) (o2 : Nat) (o4 : Nat) (o9 : Nat) (o7 : Nat) (o0 : Nat) (o1 : Nat) (jj : Nat) (dd : Nat) (oo : Nat) (fl : Nat → Int64) (v : Int32)  : CMW l D k yL_debt cL_debt 4 (some .int) [((0 : Nat), (9 : Nat), (12 : Nat), (19 : Nat))] 8 124 [.ref o, .int v, .ref oo] [(o, .inr (14, [.ref h, .ref pp, .ref x2, .ref x3, .ref x4, .ref o2, .ref o4, .ref o9, .ref o7, .ref o0, .ref o1])), (h, .inr (7, [.ref jj, .ref dd, .int (nI 0), .int (nI 0)])), (jj, aI k 36 (fun _ => 0)), (dd, aI k 6 (fun _ => 0)), (oo, aJ k 1 fl)] (is1 (some (.int 1)) [(o, .inr (14, [.ref h, .ref pp, .ref x2, .ref x3, .ref x4, .ref o2, .ref o4, .ref o9, .ref o7, .ref o0, .ref o1])), (h, .inr (7, [.ref jj, .ref dd, .int (nI 0), .int (nI 0)])), (jj, aI k 36 (fun _ => 0)), (dd, aI k 6 (fun _ => 0)), (oo, aJ k 1 fl)]) 1 6 0 := by
  refine CMW.of (lv0 := [(0, .ref o), (1, .int v), (2, .ref oo)]) (by decide +kernel) (Nat.le_of_ble_eq_true rfl) rfl ?_
  intro p9 e9 s9 m9 bl9 me9 co9 C hr hlk hin had htab
  refine g_aload_n (pc := 0) C 2 rfl rfl dL_debt_0 ?_
  refine g_iconst (pc := 1) (v := 0) C (by decide) dL_debt_1 ?_
  refine g_aload_n (pc := 2) C 0 rfl rfl dL_debt_2 ?_
  refine g_iload_n (pc := 3) C 1 rfl rfl dL_debt_3 ?_
  refine g_callVT (pc := 4) (cells := 0) (slots := 0) (g := 0) (As := [.int v]) (st := [.int 0, .ref oo]) (T := TX10) (q0 := 0) C (nA := 1) rfl (c_X10_debt_x o h pp x2 x3 x4 o2 o4 o9 o7 o0 o1 jj dd v ) q_366 q_368 q_367 q_203 q_365 (by decide +kernel) rfl rfl dL_debt_4 ⟨Nat.le_of_ble_eq_true rfl, Nat.le_of_ble_eq_true rfl⟩ [0, 1, 2, 3] [4] rfl (wr := [(oo, aJ k 1 fl)]) rfl (by decide) (by decide) (by decide) (Nat.le_of_ble_eq_true rfl) ⟨Nat.le_of_ble_eq_true rfl, Nat.le_of_ble_eq_true rfl⟩ ?_
  refine GT.re [1, 2, 3, 4, 0] (ws' := [(o, .inr (14, [.ref h, .ref pp, .ref x2, .ref x3, .ref x4, .ref o2, .ref o4, .ref o9, .ref o7, .ref o0, .ref o1])), (h, .inr (7, [.ref jj, .ref dd, .int (nI 0), .int (nI 0)])), (jj, aI k 36 (fun _ => 0)), (dd, aI k 6 (fun _ => 0)), (oo, aJ k 1 fl)]) (cells' := 1) (slots' := 6) (by decide) rfl rfl rfl ?_
  refine GT.catch C [] ⟨0, 9, 12, 19⟩ [] (htab.trans rfl) (fun z h => nomatch h) (by decide) (by decide) (by decide) q_312 (fun qx1 => ?_)
  refine g_astore_n (pc := 12) C [(3, .ref qx1), (0, .ref o), (1, .int v), (2, .ref oo)] rfl dL_debt_12 (by decide) rfl ?_
  refine g_iconst (pc := 13) (v := 1) C (by decide) dL_debt_13 ?_
  exact g_iret (pc := 14) C hr hlk (by first | decide | omega) (by first | decide | omega) (by first | decide | omega) dL_debt_14 ⟨rfl, rfl⟩
set_option maxRecDepth 100000 in
set_option maxHeartbeats 400000 in
theorem c_L_reduced_z {l : Launch} {D : va_G} {k : Nat → ClassId} (o : Nat) (h : Nat) (pp : Nat) (x2 : Nat) (x3 : Nat) (x4 : Nat) (o2 : Nat) (o4 : Nat) (o9 : Nat) (o7 : Nat) (o0 : Nat) (o1 : Nat) (jj : Nat) (dd : Nat) (oo : Nat) (fl : Nat → Int64) (v : Int32)  : CMW l D k yL_reduced cL_reduced 4 (some .int) [((0 : Nat), (9 : Nat), (12 : Nat), (19 : Nat)), ((0 : Nat), (9 : Nat), (15 : Nat), (40 : Nat))] 8 124 [.ref o, .int v, .ref oo] [(o, .inr (14, [.ref h, .ref pp, .ref x2, .ref x3, .ref x4, .ref o2, .ref o4, .ref o9, .ref o7, .ref o0, .ref o1])), (h, .inr (7, [.ref jj, .ref dd, .int (nI 0), .int (nI 0)])), (jj, aI k 36 (fun _ => 0)), (dd, aI k 6 (fun _ => 0)), (oo, aJ k 1 fl)] (is1 (some (.int 1)) [(o, .inr (14, [.ref h, .ref pp, .ref x2, .ref x3, .ref x4, .ref o2, .ref o4, .ref o9, .ref o7, .ref o0, .ref o1])), (h, .inr (7, [.ref jj, .ref dd, .int (nI 0), .int (nI 0)])), (jj, aI k 36 (fun _ => 0)), (dd, aI k 6 (fun _ => 0)), (oo, aJ k 1 fl)]) 1 6 0 := by
  refine CMW.of (lv0 := [(0, .ref o), (1, .int v), (2, .ref oo)]) (by decide +kernel) (Nat.le_of_ble_eq_true rfl) rfl ?_
  intro p9 e9 s9 m9 bl9 me9 co9 C hr hlk hin had htab
  refine g_aload_n (pc := 0) C 2 rfl rfl dL_reduced_0 ?_
  refine g_iconst (pc := 1) (v := 0) C (by decide) dL_reduced_1 ?_
  refine g_aload_n (pc := 2) C 0 rfl rfl dL_reduced_2 ?_
  refine g_iload_n (pc := 3) C 1 rfl rfl dL_reduced_3 ?_
  refine g_callVT (pc := 4) (cells := 0) (slots := 0) (g := 0) (As := [.int v]) (st := [.int 0, .ref oo]) (T := TX10) (q0 := 0) C (nA := 1) rfl (c_X10_reduced_x o h pp x2 x3 x4 o2 o4 o9 o7 o0 o1 jj dd v ) q_370 q_372 q_371 q_203 q_369 (by decide +kernel) rfl rfl dL_reduced_4 ⟨Nat.le_of_ble_eq_true rfl, Nat.le_of_ble_eq_true rfl⟩ [0, 1, 2, 3] [4] rfl (wr := [(oo, aJ k 1 fl)]) rfl (by decide) (by decide) (by decide) (Nat.le_of_ble_eq_true rfl) ⟨Nat.le_of_ble_eq_true rfl, Nat.le_of_ble_eq_true rfl⟩ ?_
  refine GT.re [1, 2, 3, 4, 0] (ws' := [(o, .inr (14, [.ref h, .ref pp, .ref x2, .ref x3, .ref x4, .ref o2, .ref o4, .ref o9, .ref o7, .ref o0, .ref o1])), (h, .inr (7, [.ref jj, .ref dd, .int (nI 0), .int (nI 0)])), (jj, aI k 36 (fun _ => 0)), (dd, aI k 6 (fun _ => 0)), (oo, aJ k 1 fl)]) (cells' := 1) (slots' := 6) (by decide) rfl rfl rfl ?_
  refine GT.catch C [] ⟨0, 9, 12, 19⟩ [⟨0, 9, 15, 40⟩] (htab.trans rfl) (fun z h => nomatch h) (by decide) (by decide) (by decide) q_312 (fun qx1 => ?_)
  refine g_astore_n (pc := 12) C [(3, .ref qx1), (0, .ref o), (1, .int v), (2, .ref oo)] rfl dL_reduced_12 (by decide) rfl ?_
  refine g_iconst (pc := 13) (v := 1) C (by decide) dL_reduced_13 ?_
  exact g_iret (pc := 14) C hr hlk (by first | decide | omega) (by first | decide | omega) (by first | decide | omega) dL_reduced_14 ⟨rfl, rfl⟩
set_option maxRecDepth 100000 in
set_option maxHeartbeats 400000 in
theorem c_L_settle_z {l : Launch} {D : va_G} {k : Nat → ClassId} (o : Nat) (h : Nat) (pp : Nat) (x2 : Nat) (x3 : Nat) (x4 : Nat) (o2 : Nat) (o4 : Nat) (o9 : Nat) (o7 : Nat) (o0 : Nat) (o1 : Nat) (jj : Nat) (dd : Nat) (oo : Nat) (fl : Nat → Int64)  : CMW l D k yL_settle cL_settle 3 (some .int) [((0 : Nat), (8 : Nat), (11 : Nat), (40 : Nat))] 8 122 [.ref o, .ref oo] [(o, .inr (14, [.ref h, .ref pp, .ref x2, .ref x3, .ref x4, .ref o2, .ref o4, .ref o9, .ref o7, .ref o0, .ref o1])), (h, .inr (7, [.ref jj, .ref dd, .int (nI 0), .int (nI 0)])), (jj, aI k 36 (fun _ => 0)), (dd, aI k 6 (fun _ => 0)), (oo, aJ k 1 fl)] (is1 (some (.int 1)) [(o, .inr (14, [.ref h, .ref pp, .ref x2, .ref x3, .ref x4, .ref o2, .ref o4, .ref o9, .ref o7, .ref o0, .ref o1])), (h, .inr (7, [.ref jj, .ref dd, .int (nI 0), .int (nI 0)])), (jj, aI k 36 (fun _ => 0)), (dd, aI k 6 (fun _ => 0)), (oo, aJ k 1 fl)]) 1 6 0 := by
  refine CMW.of (lv0 := [(0, .ref o), (1, .ref oo)]) (by decide +kernel) (Nat.le_of_ble_eq_true rfl) rfl ?_
  intro p9 e9 s9 m9 bl9 me9 co9 C hr hlk hin had htab
  refine g_aload_n (pc := 0) C 1 rfl rfl dL_settle_0 ?_
  refine g_iconst (pc := 1) (v := 0) C (by decide) dL_settle_1 ?_
  refine g_aload_n (pc := 2) C 0 rfl rfl dL_settle_2 ?_
  refine g_callVT (pc := 3) (cells := 0) (slots := 0) (g := 0) (As := []) (st := [.int 0, .ref oo]) (T := TX10) (q0 := 0) C (nA := 0) rfl (c_X10_settle_x o h pp x2 x3 x4 o2 o4 o9 o7 o0 o1 jj dd ) q_374 q_376 q_375 q_203 q_373 (by decide +kernel) rfl rfl dL_settle_3 ⟨Nat.le_of_ble_eq_true rfl, Nat.le_of_ble_eq_true rfl⟩ [0, 1, 2, 3] [4] rfl (wr := [(oo, aJ k 1 fl)]) rfl (by decide) (by decide) (by decide) (Nat.le_of_ble_eq_true rfl) ⟨Nat.le_of_ble_eq_true rfl, Nat.le_of_ble_eq_true rfl⟩ ?_
  refine GT.re [1, 2, 3, 4, 0] (ws' := [(o, .inr (14, [.ref h, .ref pp, .ref x2, .ref x3, .ref x4, .ref o2, .ref o4, .ref o9, .ref o7, .ref o0, .ref o1])), (h, .inr (7, [.ref jj, .ref dd, .int (nI 0), .int (nI 0)])), (jj, aI k 36 (fun _ => 0)), (dd, aI k 6 (fun _ => 0)), (oo, aJ k 1 fl)]) (cells' := 1) (slots' := 6) (by decide) rfl rfl rfl ?_
  refine GT.catch C [] ⟨0, 8, 11, 40⟩ [] (htab.trans rfl) (fun z h => nomatch h) (by decide) (by decide) (by decide) q_377 (fun qx1 => ?_)
  refine g_astore_n (pc := 11) C [(2, .ref qx1), (0, .ref o), (1, .ref oo)] rfl dL_settle_11 (by decide) rfl ?_
  refine g_iconst (pc := 12) (v := 1) C (by decide) dL_settle_12 ?_
  exact g_iret (pc := 13) C hr hlk (by first | decide | omega) (by first | decide | omega) (by first | decide | omega) dL_settle_13 ⟨rfl, rfl⟩
set_option maxRecDepth 100000 in
set_option maxHeartbeats 400000 in
theorem c_L_waves_z {l : Launch} {D : va_G} {k : Nat → ClassId} (o : Nat) (h : Nat) (pp : Nat) (x2 : Nat) (x3 : Nat) (x4 : Nat) (o2 : Nat) (o4 : Nat) (o9 : Nat) (o7 : Nat) (o0 : Nat) (o1 : Nat) (jj : Nat) (dd : Nat) (oo : Nat) (fl : Nat → Int64)  : CMW l D k yL_waves cL_waves 3 (some .int) [((0 : Nat), (8 : Nat), (11 : Nat), (40 : Nat))] 8 123 [.ref o, .ref oo] [(o, .inr (14, [.ref h, .ref pp, .ref x2, .ref x3, .ref x4, .ref o2, .ref o4, .ref o9, .ref o7, .ref o0, .ref o1])), (h, .inr (7, [.ref jj, .ref dd, .int (nI 0), .int (nI 0)])), (jj, aI k 36 (fun _ => 0)), (dd, aI k 6 (fun _ => 0)), (oo, aJ k 1 fl)] (is1 (some (.int 1)) [(o, .inr (14, [.ref h, .ref pp, .ref x2, .ref x3, .ref x4, .ref o2, .ref o4, .ref o9, .ref o7, .ref o0, .ref o1])), (h, .inr (7, [.ref jj, .ref dd, .int (nI 0), .int (nI 0)])), (jj, aI k 36 (fun _ => 0)), (dd, aI k 6 (fun _ => 0)), (oo, aJ k 1 fl)]) 1 6 0 := by
  refine CMW.of (lv0 := [(0, .ref o), (1, .ref oo)]) (by decide +kernel) (Nat.le_of_ble_eq_true rfl) rfl ?_
  intro p9 e9 s9 m9 bl9 me9 co9 C hr hlk hin had htab
  refine g_aload_n (pc := 0) C 1 rfl rfl dL_waves_0 ?_
  refine g_iconst (pc := 1) (v := 0) C (by decide) dL_waves_1 ?_
  refine g_aload_n (pc := 2) C 0 rfl rfl dL_waves_2 ?_
  refine g_callVT (pc := 3) (cells := 0) (slots := 0) (g := 0) (As := []) (st := [.int 0, .ref oo]) (T := TX10) (q0 := 0) C (nA := 0) rfl (c_X10_waves_x o h pp x2 x3 x4 o2 o4 o9 o7 o0 o1 jj dd ) q_379 q_381 q_380 q_203 q_378 (by decide +kernel) rfl rfl dL_waves_3 ⟨Nat.le_of_ble_eq_true rfl, Nat.le_of_ble_eq_true rfl⟩ [0, 1, 2, 3] [4] rfl (wr := [(oo, aJ k 1 fl)]) rfl (by decide) (by decide) (by decide) (Nat.le_of_ble_eq_true rfl) ⟨Nat.le_of_ble_eq_true rfl, Nat.le_of_ble_eq_true rfl⟩ ?_
  refine GT.re [1, 2, 3, 4, 0] (ws' := [(o, .inr (14, [.ref h, .ref pp, .ref x2, .ref x3, .ref x4, .ref o2, .ref o4, .ref o9, .ref o7, .ref o0, .ref o1])), (h, .inr (7, [.ref jj, .ref dd, .int (nI 0), .int (nI 0)])), (jj, aI k 36 (fun _ => 0)), (dd, aI k 6 (fun _ => 0)), (oo, aJ k 1 fl)]) (cells' := 1) (slots' := 6) (by decide) rfl rfl rfl ?_
  refine GT.catch C [] ⟨0, 8, 11, 40⟩ [] (htab.trans rfl) (fun z h => nomatch h) (by decide) (by decide) (by decide) q_377 (fun qx1 => ?_)
  refine g_astore_n (pc := 11) C [(2, .ref qx1), (0, .ref o), (1, .ref oo)] rfl dL_waves_11 (by decide) rfl ?_
  refine g_iconst (pc := 12) (v := 1) C (by decide) dL_waves_12 ?_
  exact g_iret (pc := 13) C hr hlk (by first | decide | omega) (by first | decide | omega) (by first | decide | omega) dL_waves_13 ⟨rfl, rfl⟩
set_option maxRecDepth 100000 in
set_option maxHeartbeats 400000 in
theorem c_L_isAgain_z {l : Launch} {D : va_G} {k : Nat → ClassId} (o : Nat) (h : Nat) (pp : Nat) (x2 : Nat) (x3 : Nat) (x4 : Nat) (o2 : Nat) (o4 : Nat) (o9 : Nat) (o7 : Nat) (o0 : Nat) (o1 : Nat) (jj : Nat) (dd : Nat) (oo : Nat) (fl : Nat → Int64)  : CMW l D k yL_isAgain cL_isAgain 3 (some .int) [((0 : Nat), (15 : Nat), (18 : Nat), (40 : Nat))] 8 123 [.ref o, .ref oo] [(o, .inr (14, [.ref h, .ref pp, .ref x2, .ref x3, .ref x4, .ref o2, .ref o4, .ref o9, .ref o7, .ref o0, .ref o1])), (h, .inr (7, [.ref jj, .ref dd, .int (nI 0), .int (nI 0)])), (jj, aI k 36 (fun _ => 0)), (dd, aI k 6 (fun _ => 0)), (oo, aJ k 1 fl)] (is1 (some (.int 1)) [(o, .inr (14, [.ref h, .ref pp, .ref x2, .ref x3, .ref x4, .ref o2, .ref o4, .ref o9, .ref o7, .ref o0, .ref o1])), (h, .inr (7, [.ref jj, .ref dd, .int (nI 0), .int (nI 0)])), (jj, aI k 36 (fun _ => 0)), (dd, aI k 6 (fun _ => 0)), (oo, aJ k 1 fl)]) 1 6 0 := by
  refine CMW.of (lv0 := [(0, .ref o), (1, .ref oo)]) (by decide +kernel) (Nat.le_of_ble_eq_true rfl) rfl ?_
  intro p9 e9 s9 m9 bl9 me9 co9 C hr hlk hin had htab
  refine g_aload_n (pc := 0) C 1 rfl rfl dL_isAgain_0 ?_
  refine g_iconst (pc := 1) (v := 0) C (by decide) dL_isAgain_1 ?_
  refine g_aload_n (pc := 2) C 0 rfl rfl dL_isAgain_2 ?_
  refine g_callVT (pc := 3) (cells := 0) (slots := 0) (g := 0) (As := []) (st := [.int 0, .ref oo]) (T := TX10) (q0 := 0) C (nA := 0) rfl (c_X10_isAgain_x o h pp x2 x3 x4 o2 o4 o9 o7 o0 o1 jj dd ) q_383 q_385 q_384 q_203 q_382 (by decide +kernel) rfl rfl dL_isAgain_3 ⟨Nat.le_of_ble_eq_true rfl, Nat.le_of_ble_eq_true rfl⟩ [0, 1, 2, 3] [4] rfl (wr := [(oo, aJ k 1 fl)]) rfl (by decide) (by decide) (by decide) (Nat.le_of_ble_eq_true rfl) ⟨Nat.le_of_ble_eq_true rfl, Nat.le_of_ble_eq_true rfl⟩ ?_
  refine GT.re [1, 2, 3, 4, 0] (ws' := [(o, .inr (14, [.ref h, .ref pp, .ref x2, .ref x3, .ref x4, .ref o2, .ref o4, .ref o9, .ref o7, .ref o0, .ref o1])), (h, .inr (7, [.ref jj, .ref dd, .int (nI 0), .int (nI 0)])), (jj, aI k 36 (fun _ => 0)), (dd, aI k 6 (fun _ => 0)), (oo, aJ k 1 fl)]) (cells' := 1) (slots' := 6) (by decide) rfl rfl rfl ?_
  refine GT.catch C [] ⟨0, 15, 18, 40⟩ [] (htab.trans rfl) (fun z h => nomatch h) (by decide) (by decide) (by decide) q_377 (fun qx1 => ?_)
  refine g_astore_n (pc := 18) C [(2, .ref qx1), (0, .ref o), (1, .ref oo)] rfl dL_isAgain_18 (by decide) rfl ?_
  refine g_iconst (pc := 19) (v := 1) C (by decide) dL_isAgain_19 ?_
  exact g_iret (pc := 20) C hr hlk (by first | decide | omega) (by first | decide | omega) (by first | decide | omega) dL_isAgain_20 ⟨rfl, rfl⟩
set_option maxRecDepth 100000 in
set_option maxHeartbeats 400000 in
theorem c_L_square_z {l : Launch} {D : va_G} {k : Nat → ClassId} (o : Nat) (h : Nat) (pp : Nat) (x2 : Nat) (x3 : Nat) (x4 : Nat) (o2 : Nat) (o4 : Nat) (o9 : Nat) (o7 : Nat) (o0 : Nat) (o1 : Nat) (jj : Nat) (dd : Nat) (oo : Nat) (fl : Nat → Int64)  : CMW l D k yL_square cL_square 3 (some .int) [((0 : Nat), (8 : Nat), (11 : Nat), (40 : Nat)), ((0 : Nat), (8 : Nat), (14 : Nat), (13 : Nat))] 8 123 [.ref o, .ref oo] [(o, .inr (14, [.ref h, .ref pp, .ref x2, .ref x3, .ref x4, .ref o2, .ref o4, .ref o9, .ref o7, .ref o0, .ref o1])), (h, .inr (7, [.ref jj, .ref dd, .int (nI 0), .int (nI 0)])), (jj, aI k 36 (fun _ => 0)), (dd, aI k 6 (fun _ => 0)), (oo, aJ k 1 fl)] (is1 (some (.int 1)) [(o, .inr (14, [.ref h, .ref pp, .ref x2, .ref x3, .ref x4, .ref o2, .ref o4, .ref o9, .ref o7, .ref o0, .ref o1])), (h, .inr (7, [.ref jj, .ref dd, .int (nI 0), .int (nI 0)])), (jj, aI k 36 (fun _ => 0)), (dd, aI k 6 (fun _ => 0)), (oo, aJ k 1 fl)]) 1 6 0 := by
  refine CMW.of (lv0 := [(0, .ref o), (1, .ref oo)]) (by decide +kernel) (Nat.le_of_ble_eq_true rfl) rfl ?_
  intro p9 e9 s9 m9 bl9 me9 co9 C hr hlk hin had htab
  refine g_aload_n (pc := 0) C 1 rfl rfl dL_square_0 ?_
  refine g_iconst (pc := 1) (v := 0) C (by decide) dL_square_1 ?_
  refine g_aload_n (pc := 2) C 0 rfl rfl dL_square_2 ?_
  refine g_callVT (pc := 3) (cells := 0) (slots := 0) (g := 0) (As := []) (st := [.int 0, .ref oo]) (T := TX10) (q0 := 0) C (nA := 0) rfl (c_X10_square_x o h pp x2 x3 x4 o2 o4 o9 o7 o0 o1 jj dd ) q_387 q_389 q_388 q_203 q_386 (by decide +kernel) rfl rfl dL_square_3 ⟨Nat.le_of_ble_eq_true rfl, Nat.le_of_ble_eq_true rfl⟩ [0, 1, 2, 3] [4] rfl (wr := [(oo, aJ k 1 fl)]) rfl (by decide) (by decide) (by decide) (Nat.le_of_ble_eq_true rfl) ⟨Nat.le_of_ble_eq_true rfl, Nat.le_of_ble_eq_true rfl⟩ ?_
  refine GT.re [1, 2, 3, 4, 0] (ws' := [(o, .inr (14, [.ref h, .ref pp, .ref x2, .ref x3, .ref x4, .ref o2, .ref o4, .ref o9, .ref o7, .ref o0, .ref o1])), (h, .inr (7, [.ref jj, .ref dd, .int (nI 0), .int (nI 0)])), (jj, aI k 36 (fun _ => 0)), (dd, aI k 6 (fun _ => 0)), (oo, aJ k 1 fl)]) (cells' := 1) (slots' := 6) (by decide) rfl rfl rfl ?_
  refine GT.catch C [] ⟨0, 8, 11, 40⟩ [⟨0, 8, 14, 13⟩] (htab.trans rfl) (fun z h => nomatch h) (by decide) (by decide) (by decide) q_377 (fun qx1 => ?_)
  refine g_astore_n (pc := 11) C [(2, .ref qx1), (0, .ref o), (1, .ref oo)] rfl dL_square_11 (by decide) rfl ?_
  refine g_iconst (pc := 12) (v := 1) C (by decide) dL_square_12 ?_
  exact g_iret (pc := 13) C hr hlk (by first | decide | omega) (by first | decide | omega) (by first | decide | omega) dL_square_13 ⟨rfl, rfl⟩
set_option maxRecDepth 100000 in
set_option maxHeartbeats 400000 in
theorem c_L_factors_z {l : Launch} {D : va_G} {k : Nat → ClassId} (o : Nat) (h : Nat) (pp : Nat) (x2 : Nat) (x3 : Nat) (x4 : Nat) (o2 : Nat) (o4 : Nat) (o9 : Nat) (o7 : Nat) (o0 : Nat) (o1 : Nat) (jj : Nat) (dd : Nat) (oo : Nat) (fl : Nat → Int64)  : CMW l D k yL_factors cL_factors 3 (some .int) [((0 : Nat), (8 : Nat), (11 : Nat), (40 : Nat))] 8 122 [.ref o, .ref oo] [(o, .inr (14, [.ref h, .ref pp, .ref x2, .ref x3, .ref x4, .ref o2, .ref o4, .ref o9, .ref o7, .ref o0, .ref o1])), (h, .inr (7, [.ref jj, .ref dd, .int (nI 0), .int (nI 0)])), (jj, aI k 36 (fun _ => 0)), (dd, aI k 6 (fun _ => 0)), (oo, aJ k 1 fl)] (is1 (some (.int 1)) [(o, .inr (14, [.ref h, .ref pp, .ref x2, .ref x3, .ref x4, .ref o2, .ref o4, .ref o9, .ref o7, .ref o0, .ref o1])), (h, .inr (7, [.ref jj, .ref dd, .int (nI 0), .int (nI 0)])), (jj, aI k 36 (fun _ => 0)), (dd, aI k 6 (fun _ => 0)), (oo, aJ k 1 fl)]) 1 6 0 := by
  refine CMW.of (lv0 := [(0, .ref o), (1, .ref oo)]) (by decide +kernel) (Nat.le_of_ble_eq_true rfl) rfl ?_
  intro p9 e9 s9 m9 bl9 me9 co9 C hr hlk hin had htab
  refine g_aload_n (pc := 0) C 1 rfl rfl dL_factors_0 ?_
  refine g_iconst (pc := 1) (v := 0) C (by decide) dL_factors_1 ?_
  refine g_aload_n (pc := 2) C 0 rfl rfl dL_factors_2 ?_
  refine g_callVT (pc := 3) (cells := 0) (slots := 0) (g := 0) (As := []) (st := [.int 0, .ref oo]) (T := TX10) (q0 := 0) C (nA := 0) rfl (c_X10_factors_x o h pp x2 x3 x4 o2 o4 o9 o7 o0 o1 jj dd ) q_391 q_393 q_392 q_203 q_390 (by decide +kernel) rfl rfl dL_factors_3 ⟨Nat.le_of_ble_eq_true rfl, Nat.le_of_ble_eq_true rfl⟩ [0, 1, 2, 3] [4] rfl (wr := [(oo, aJ k 1 fl)]) rfl (by decide) (by decide) (by decide) (Nat.le_of_ble_eq_true rfl) ⟨Nat.le_of_ble_eq_true rfl, Nat.le_of_ble_eq_true rfl⟩ ?_
  refine GT.re [1, 2, 3, 4, 0] (ws' := [(o, .inr (14, [.ref h, .ref pp, .ref x2, .ref x3, .ref x4, .ref o2, .ref o4, .ref o9, .ref o7, .ref o0, .ref o1])), (h, .inr (7, [.ref jj, .ref dd, .int (nI 0), .int (nI 0)])), (jj, aI k 36 (fun _ => 0)), (dd, aI k 6 (fun _ => 0)), (oo, aJ k 1 fl)]) (cells' := 1) (slots' := 6) (by decide) rfl rfl rfl ?_
  refine GT.catch C [] ⟨0, 8, 11, 40⟩ [] (htab.trans rfl) (fun z h => nomatch h) (by decide) (by decide) (by decide) q_377 (fun qx1 => ?_)
  refine g_astore_n (pc := 11) C [(2, .ref qx1), (0, .ref o), (1, .ref oo)] rfl dL_factors_11 (by decide) rfl ?_
  refine g_iconst (pc := 12) (v := 1) C (by decide) dL_factors_12 ?_
  exact g_iret (pc := 13) C hr hlk (by first | decide | omega) (by first | decide | omega) (by first | decide | omega) dL_factors_13 ⟨rfl, rfl⟩
set_option maxRecDepth 100000 in
set_option maxHeartbeats 400000 in
theorem c_L_factorAt_z {l : Launch} {D : va_G} {k : Nat → ClassId} (o : Nat) (h : Nat) (pp : Nat) (x2 : Nat) (x3 : Nat) (x4 : Nat) (o2 : Nat) (o4 : Nat) (o9 : Nat) (o7 : Nat) (o0 : Nat) (o1 : Nat) (jj : Nat) (dd : Nat) (oo : Nat) (fl : Nat → Int64) (v : Int32)  : CMW l D k yL_factorAt cL_factorAt 4 (some .int) [((0 : Nat), (8 : Nat), (11 : Nat), (40 : Nat)), ((0 : Nat), (8 : Nat), (14 : Nat), (19 : Nat))] 8 124 [.ref o, .int v, .ref oo] [(o, .inr (14, [.ref h, .ref pp, .ref x2, .ref x3, .ref x4, .ref o2, .ref o4, .ref o9, .ref o7, .ref o0, .ref o1])), (h, .inr (7, [.ref jj, .ref dd, .int (nI 0), .int (nI 0)])), (jj, aI k 36 (fun _ => 0)), (dd, aI k 6 (fun _ => 0)), (oo, aJ k 1 fl)] (is1 (some (.int 1)) [(o, .inr (14, [.ref h, .ref pp, .ref x2, .ref x3, .ref x4, .ref o2, .ref o4, .ref o9, .ref o7, .ref o0, .ref o1])), (h, .inr (7, [.ref jj, .ref dd, .int (nI 0), .int (nI 0)])), (jj, aI k 36 (fun _ => 0)), (dd, aI k 6 (fun _ => 0)), (oo, aJ k 1 fl)]) 1 6 0 := by
  refine CMW.of (lv0 := [(0, .ref o), (1, .int v), (2, .ref oo)]) (by decide +kernel) (Nat.le_of_ble_eq_true rfl) rfl ?_
  intro p9 e9 s9 m9 bl9 me9 co9 C hr hlk hin had htab
  refine g_aload_n (pc := 0) C 2 rfl rfl dL_factorAt_0 ?_
  refine g_iconst (pc := 1) (v := 0) C (by decide) dL_factorAt_1 ?_
  refine g_aload_n (pc := 2) C 0 rfl rfl dL_factorAt_2 ?_
  refine g_iload_n (pc := 3) C 1 rfl rfl dL_factorAt_3 ?_
  refine g_callVT (pc := 4) (cells := 0) (slots := 0) (g := 0) (As := [.int v]) (st := [.int 0, .ref oo]) (T := TX10) (q0 := 0) C (nA := 1) rfl (c_X10_factorAt_x o h pp x2 x3 x4 o2 o4 o9 o7 o0 o1 jj dd v ) q_395 q_397 q_396 q_203 q_394 (by decide +kernel) rfl rfl dL_factorAt_4 ⟨Nat.le_of_ble_eq_true rfl, Nat.le_of_ble_eq_true rfl⟩ [0, 1, 2, 3] [4] rfl (wr := [(oo, aJ k 1 fl)]) rfl (by decide) (by decide) (by decide) (Nat.le_of_ble_eq_true rfl) ⟨Nat.le_of_ble_eq_true rfl, Nat.le_of_ble_eq_true rfl⟩ ?_
  refine GT.re [1, 2, 3, 4, 0] (ws' := [(o, .inr (14, [.ref h, .ref pp, .ref x2, .ref x3, .ref x4, .ref o2, .ref o4, .ref o9, .ref o7, .ref o0, .ref o1])), (h, .inr (7, [.ref jj, .ref dd, .int (nI 0), .int (nI 0)])), (jj, aI k 36 (fun _ => 0)), (dd, aI k 6 (fun _ => 0)), (oo, aJ k 1 fl)]) (cells' := 1) (slots' := 6) (by decide) rfl rfl rfl ?_
  refine GT.catch C [] ⟨0, 8, 11, 40⟩ [⟨0, 8, 14, 19⟩] (htab.trans rfl) (fun z h => nomatch h) (by decide) (by decide) (by decide) q_377 (fun qx1 => ?_)
  refine g_astore_n (pc := 11) C [(3, .ref qx1), (0, .ref o), (1, .int v), (2, .ref oo)] rfl dL_factorAt_11 (by decide) rfl ?_
  refine g_iconst (pc := 12) (v := 1) C (by decide) dL_factorAt_12 ?_
  exact g_iret (pc := 13) C hr hlk (by first | decide | omega) (by first | decide | omega) (by first | decide | omega) dL_factorAt_13 ⟨rfl, rfl⟩
set_option maxRecDepth 100000 in
set_option maxHeartbeats 400000 in
theorem c_L_order_z {l : Launch} {D : va_G} {k : Nat → ClassId} (o : Nat) (h : Nat) (pp : Nat) (x2 : Nat) (x3 : Nat) (x4 : Nat) (o2 : Nat) (o4 : Nat) (o9 : Nat) (o7 : Nat) (o0 : Nat) (o1 : Nat) (jj : Nat) (dd : Nat) (oo : Nat) (fl : Nat → Int64)  : CMW l D k yL_order cL_order 3 (some .int) [((0 : Nat), (7 : Nat), (10 : Nat), (40 : Nat))] 8 122 [.ref o, .ref oo] [(o, .inr (14, [.ref h, .ref pp, .ref x2, .ref x3, .ref x4, .ref o2, .ref o4, .ref o9, .ref o7, .ref o0, .ref o1])), (h, .inr (7, [.ref jj, .ref dd, .int (nI 0), .int (nI 0)])), (jj, aI k 36 (fun _ => 0)), (dd, aI k 6 (fun _ => 0)), (oo, aJ k 1 fl)] (is1 (some (.int 1)) [(o, .inr (14, [.ref h, .ref pp, .ref x2, .ref x3, .ref x4, .ref o2, .ref o4, .ref o9, .ref o7, .ref o0, .ref o1])), (h, .inr (7, [.ref jj, .ref dd, .int (nI 0), .int (nI 0)])), (jj, aI k 36 (fun _ => 0)), (dd, aI k 6 (fun _ => 0)), (oo, aJ k 1 fl)]) 1 6 0 := by
  refine CMW.of (lv0 := [(0, .ref o), (1, .ref oo)]) (by decide +kernel) (Nat.le_of_ble_eq_true rfl) rfl ?_
  intro p9 e9 s9 m9 bl9 me9 co9 C hr hlk hin had htab
  refine g_aload_n (pc := 0) C 1 rfl rfl dL_order_0 ?_
  refine g_iconst (pc := 1) (v := 0) C (by decide) dL_order_1 ?_
  refine g_aload_n (pc := 2) C 0 rfl rfl dL_order_2 ?_
  refine g_callVT (pc := 3) (cells := 0) (slots := 0) (g := 0) (As := []) (st := [.int 0, .ref oo]) (T := TX10) (q0 := 0) C (nA := 0) rfl (c_X10_order_x o h pp x2 x3 x4 o2 o4 o9 o7 o0 o1 jj dd ) q_399 q_401 q_400 q_203 q_398 (by decide +kernel) rfl rfl dL_order_3 ⟨Nat.le_of_ble_eq_true rfl, Nat.le_of_ble_eq_true rfl⟩ [0, 1, 2, 3] [4] rfl (wr := [(oo, aJ k 1 fl)]) rfl (by decide) (by decide) (by decide) (Nat.le_of_ble_eq_true rfl) ⟨Nat.le_of_ble_eq_true rfl, Nat.le_of_ble_eq_true rfl⟩ ?_
  refine GT.re [1, 2, 3, 4, 0] (ws' := [(o, .inr (14, [.ref h, .ref pp, .ref x2, .ref x3, .ref x4, .ref o2, .ref o4, .ref o9, .ref o7, .ref o0, .ref o1])), (h, .inr (7, [.ref jj, .ref dd, .int (nI 0), .int (nI 0)])), (jj, aI k 36 (fun _ => 0)), (dd, aI k 6 (fun _ => 0)), (oo, aJ k 1 fl)]) (cells' := 1) (slots' := 6) (by decide) rfl rfl rfl ?_
  refine GT.catch C [] ⟨0, 7, 10, 40⟩ [] (htab.trans rfl) (fun z h => nomatch h) (by decide) (by decide) (by decide) q_377 (fun qx1 => ?_)
  refine g_astore_n (pc := 10) C [(2, .ref qx1), (0, .ref o), (1, .ref oo)] rfl dL_order_10 (by decide) rfl ?_
  refine g_iconst (pc := 11) (v := 1) C (by decide) dL_order_11 ?_
  exact g_iret (pc := 12) C hr hlk (by first | decide | omega) (by first | decide | omega) (by first | decide | omega) dL_order_12 ⟨rfl, rfl⟩
set_option maxRecDepth 100000 in
set_option maxHeartbeats 400000 in
theorem c_L_areTree_z {l : Launch} {D : va_G} {k : Nat → ClassId} (o : Nat) (h : Nat) (pp : Nat) (x2 : Nat) (x3 : Nat) (x4 : Nat) (o2 : Nat) (o4 : Nat) (o9 : Nat) (o7 : Nat) (o0 : Nat) (o1 : Nat) (jj : Nat) (dd : Nat) (oo : Nat) (fl : Nat → Int64)  : CMW l D k yL_areTree cL_areTree 3 (some .int) [((0 : Nat), (15 : Nat), (18 : Nat), (40 : Nat))] 8 122 [.ref o, .ref oo] [(o, .inr (14, [.ref h, .ref pp, .ref x2, .ref x3, .ref x4, .ref o2, .ref o4, .ref o9, .ref o7, .ref o0, .ref o1])), (h, .inr (7, [.ref jj, .ref dd, .int (nI 0), .int (nI 0)])), (jj, aI k 36 (fun _ => 0)), (dd, aI k 6 (fun _ => 0)), (oo, aJ k 1 fl)] (is1 (some (.int 1)) [(o, .inr (14, [.ref h, .ref pp, .ref x2, .ref x3, .ref x4, .ref o2, .ref o4, .ref o9, .ref o7, .ref o0, .ref o1])), (h, .inr (7, [.ref jj, .ref dd, .int (nI 0), .int (nI 0)])), (jj, aI k 36 (fun _ => 0)), (dd, aI k 6 (fun _ => 0)), (oo, aJ k 1 fl)]) 1 6 0 := by
  refine CMW.of (lv0 := [(0, .ref o), (1, .ref oo)]) (by decide +kernel) (Nat.le_of_ble_eq_true rfl) rfl ?_
  intro p9 e9 s9 m9 bl9 me9 co9 C hr hlk hin had htab
  refine g_aload_n (pc := 0) C 1 rfl rfl dL_areTree_0 ?_
  refine g_iconst (pc := 1) (v := 0) C (by decide) dL_areTree_1 ?_
  refine g_aload_n (pc := 2) C 0 rfl rfl dL_areTree_2 ?_
  refine g_callVT (pc := 3) (cells := 0) (slots := 0) (g := 0) (As := []) (st := [.int 0, .ref oo]) (T := TX10) (q0 := 0) C (nA := 0) rfl (c_X10_areTree_x o h pp x2 x3 x4 o2 o4 o9 o7 o0 o1 jj dd ) q_403 q_405 q_404 q_203 q_402 (by decide +kernel) rfl rfl dL_areTree_3 ⟨Nat.le_of_ble_eq_true rfl, Nat.le_of_ble_eq_true rfl⟩ [0, 1, 2, 3] [4] rfl (wr := [(oo, aJ k 1 fl)]) rfl (by decide) (by decide) (by decide) (Nat.le_of_ble_eq_true rfl) ⟨Nat.le_of_ble_eq_true rfl, Nat.le_of_ble_eq_true rfl⟩ ?_
  refine GT.re [1, 2, 3, 4, 0] (ws' := [(o, .inr (14, [.ref h, .ref pp, .ref x2, .ref x3, .ref x4, .ref o2, .ref o4, .ref o9, .ref o7, .ref o0, .ref o1])), (h, .inr (7, [.ref jj, .ref dd, .int (nI 0), .int (nI 0)])), (jj, aI k 36 (fun _ => 0)), (dd, aI k 6 (fun _ => 0)), (oo, aJ k 1 fl)]) (cells' := 1) (slots' := 6) (by decide) rfl rfl rfl ?_
  refine GT.catch C [] ⟨0, 15, 18, 40⟩ [] (htab.trans rfl) (fun z h => nomatch h) (by decide) (by decide) (by decide) q_377 (fun qx1 => ?_)
  refine g_astore_n (pc := 18) C [(2, .ref qx1), (0, .ref o), (1, .ref oo)] rfl dL_areTree_18 (by decide) rfl ?_
  refine g_iconst (pc := 19) (v := 1) C (by decide) dL_areTree_19 ?_
  exact g_iret (pc := 20) C hr hlk (by first | decide | omega) (by first | decide | omega) (by first | decide | omega) dL_areTree_20 ⟨rfl, rfl⟩
set_option maxRecDepth 100000 in
set_option maxHeartbeats 400000 in
theorem c_L_canPay_z {l : Launch} {D : va_G} {k : Nat → ClassId} (o : Nat) (h : Nat) (pp : Nat) (x2 : Nat) (x3 : Nat) (x4 : Nat) (o2 : Nat) (o4 : Nat) (o9 : Nat) (o7 : Nat) (o0 : Nat) (o1 : Nat) (jj : Nat) (dd : Nat) (oo : Nat) (fl : Nat → Int64)  : CMW l D k yL_canPay cL_canPay 3 (some .int) [((0 : Nat), (15 : Nat), (18 : Nat), (40 : Nat))] 8 122 [.ref o, .ref oo] [(o, .inr (14, [.ref h, .ref pp, .ref x2, .ref x3, .ref x4, .ref o2, .ref o4, .ref o9, .ref o7, .ref o0, .ref o1])), (h, .inr (7, [.ref jj, .ref dd, .int (nI 0), .int (nI 0)])), (jj, aI k 36 (fun _ => 0)), (dd, aI k 6 (fun _ => 0)), (oo, aJ k 1 fl)] (is1 (some (.int 1)) [(o, .inr (14, [.ref h, .ref pp, .ref x2, .ref x3, .ref x4, .ref o2, .ref o4, .ref o9, .ref o7, .ref o0, .ref o1])), (h, .inr (7, [.ref jj, .ref dd, .int (nI 0), .int (nI 0)])), (jj, aI k 36 (fun _ => 0)), (dd, aI k 6 (fun _ => 0)), (oo, aJ k 1 fl)]) 1 6 0 := by
  refine CMW.of (lv0 := [(0, .ref o), (1, .ref oo)]) (by decide +kernel) (Nat.le_of_ble_eq_true rfl) rfl ?_
  intro p9 e9 s9 m9 bl9 me9 co9 C hr hlk hin had htab
  refine g_aload_n (pc := 0) C 1 rfl rfl dL_canPay_0 ?_
  refine g_iconst (pc := 1) (v := 0) C (by decide) dL_canPay_1 ?_
  refine g_aload_n (pc := 2) C 0 rfl rfl dL_canPay_2 ?_
  refine g_callVT (pc := 3) (cells := 0) (slots := 0) (g := 0) (As := []) (st := [.int 0, .ref oo]) (T := TX10) (q0 := 0) C (nA := 0) rfl (c_X10_canPay_x o h pp x2 x3 x4 o2 o4 o9 o7 o0 o1 jj dd ) q_407 q_409 q_408 q_203 q_406 (by decide +kernel) rfl rfl dL_canPay_3 ⟨Nat.le_of_ble_eq_true rfl, Nat.le_of_ble_eq_true rfl⟩ [0, 1, 2, 3] [4] rfl (wr := [(oo, aJ k 1 fl)]) rfl (by decide) (by decide) (by decide) (Nat.le_of_ble_eq_true rfl) ⟨Nat.le_of_ble_eq_true rfl, Nat.le_of_ble_eq_true rfl⟩ ?_
  refine GT.re [1, 2, 3, 4, 0] (ws' := [(o, .inr (14, [.ref h, .ref pp, .ref x2, .ref x3, .ref x4, .ref o2, .ref o4, .ref o9, .ref o7, .ref o0, .ref o1])), (h, .inr (7, [.ref jj, .ref dd, .int (nI 0), .int (nI 0)])), (jj, aI k 36 (fun _ => 0)), (dd, aI k 6 (fun _ => 0)), (oo, aJ k 1 fl)]) (cells' := 1) (slots' := 6) (by decide) rfl rfl rfl ?_
  refine GT.catch C [] ⟨0, 15, 18, 40⟩ [] (htab.trans rfl) (fun z h => nomatch h) (by decide) (by decide) (by decide) q_377 (fun qx1 => ?_)
  refine g_astore_n (pc := 18) C [(2, .ref qx1), (0, .ref o), (1, .ref oo)] rfl dL_canPay_18 (by decide) rfl ?_
  refine g_iconst (pc := 19) (v := 1) C (by decide) dL_canPay_19 ?_
  exact g_iret (pc := 20) C hr hlk (by first | decide | omega) (by first | decide | omega) (by first | decide | omega) dL_canPay_20 ⟨rfl, rfl⟩
set_option maxRecDepth 100000 in
set_option maxHeartbeats 400000 in
theorem c_L_rank_z {l : Launch} {D : va_G} {k : Nat → ClassId} (o : Nat) (h : Nat) (pp : Nat) (x2 : Nat) (x3 : Nat) (x4 : Nat) (o2 : Nat) (o4 : Nat) (o9 : Nat) (o7 : Nat) (o0 : Nat) (o1 : Nat) (jj : Nat) (dd : Nat) (oo : Nat) (fl : Nat → Int64)  : CMW l D k yL_rank cL_rank 3 (some .int) [((0 : Nat), (8 : Nat), (11 : Nat), (40 : Nat)), ((0 : Nat), (8 : Nat), (14 : Nat), (13 : Nat))] 8 122 [.ref o, .ref oo] [(o, .inr (14, [.ref h, .ref pp, .ref x2, .ref x3, .ref x4, .ref o2, .ref o4, .ref o9, .ref o7, .ref o0, .ref o1])), (h, .inr (7, [.ref jj, .ref dd, .int (nI 0), .int (nI 0)])), (jj, aI k 36 (fun _ => 0)), (dd, aI k 6 (fun _ => 0)), (oo, aJ k 1 fl)] (is1 (some (.int 1)) [(o, .inr (14, [.ref h, .ref pp, .ref x2, .ref x3, .ref x4, .ref o2, .ref o4, .ref o9, .ref o7, .ref o0, .ref o1])), (h, .inr (7, [.ref jj, .ref dd, .int (nI 0), .int (nI 0)])), (jj, aI k 36 (fun _ => 0)), (dd, aI k 6 (fun _ => 0)), (oo, aJ k 1 fl)]) 1 6 0 := by
  refine CMW.of (lv0 := [(0, .ref o), (1, .ref oo)]) (by decide +kernel) (Nat.le_of_ble_eq_true rfl) rfl ?_
  intro p9 e9 s9 m9 bl9 me9 co9 C hr hlk hin had htab
  refine g_aload_n (pc := 0) C 1 rfl rfl dL_rank_0 ?_
  refine g_iconst (pc := 1) (v := 0) C (by decide) dL_rank_1 ?_
  refine g_aload_n (pc := 2) C 0 rfl rfl dL_rank_2 ?_
  refine g_callVT (pc := 3) (cells := 0) (slots := 0) (g := 0) (As := []) (st := [.int 0, .ref oo]) (T := TX10) (q0 := 0) C (nA := 0) rfl (c_X10_rank_x o h pp x2 x3 x4 o2 o4 o9 o7 o0 o1 jj dd ) q_411 q_413 q_412 q_203 q_410 (by decide +kernel) rfl rfl dL_rank_3 ⟨Nat.le_of_ble_eq_true rfl, Nat.le_of_ble_eq_true rfl⟩ [0, 1, 2, 3] [4] rfl (wr := [(oo, aJ k 1 fl)]) rfl (by decide) (by decide) (by decide) (Nat.le_of_ble_eq_true rfl) ⟨Nat.le_of_ble_eq_true rfl, Nat.le_of_ble_eq_true rfl⟩ ?_
  refine GT.re [1, 2, 3, 4, 0] (ws' := [(o, .inr (14, [.ref h, .ref pp, .ref x2, .ref x3, .ref x4, .ref o2, .ref o4, .ref o9, .ref o7, .ref o0, .ref o1])), (h, .inr (7, [.ref jj, .ref dd, .int (nI 0), .int (nI 0)])), (jj, aI k 36 (fun _ => 0)), (dd, aI k 6 (fun _ => 0)), (oo, aJ k 1 fl)]) (cells' := 1) (slots' := 6) (by decide) rfl rfl rfl ?_
  refine GT.catch C [] ⟨0, 8, 11, 40⟩ [⟨0, 8, 14, 13⟩] (htab.trans rfl) (fun z h => nomatch h) (by decide) (by decide) (by decide) q_377 (fun qx1 => ?_)
  refine g_astore_n (pc := 11) C [(2, .ref qx1), (0, .ref o), (1, .ref oo)] rfl dL_rank_11 (by decide) rfl ?_
  refine g_iconst (pc := 12) (v := 1) C (by decide) dL_rank_12 ?_
  exact g_iret (pc := 13) C hr hlk (by first | decide | omega) (by first | decide | omega) (by first | decide | omega) dL_rank_13 ⟨rfl, rfl⟩
set_option maxRecDepth 100000 in
set_option maxHeartbeats 400000 in
theorem c_L_pixel_z {l : Launch} {D : va_G} {k : Nat → ClassId} (o : Nat) (h : Nat) (pp : Nat) (x2 : Nat) (x3 : Nat) (x4 : Nat) (o2 : Nat) (o4 : Nat) (o9 : Nat) (o7 : Nat) (o0 : Nat) (o1 : Nat) (d1 : Nat) (oo : Nat) (fl : Nat → Int64) (v : Int32)  : CMW l D k yL_pixel cL_pixel 4 (some .int) [((0 : Nat), (9 : Nat), (12 : Nat), (112 : Nat)), ((0 : Nat), (9 : Nat), (15 : Nat), (19 : Nat))] 7 103 [.ref o, .int v, .ref oo] [(o, .inr (14, [.ref h, .ref pp, .ref x2, .ref x3, .ref x4, .ref o2, .ref o4, .ref o9, .ref o7, .ref o0, .ref o1])), (o1, .inr (5, [.ref d1, .int 0])), (oo, aJ k 1 fl)] (is1 (some (.int 1)) [(o, .inr (14, [.ref h, .ref pp, .ref x2, .ref x3, .ref x4, .ref o2, .ref o4, .ref o9, .ref o7, .ref o0, .ref o1])), (o1, .inr (5, [.ref d1, .int 0])), (oo, aJ k 1 fl)]) 1 6 0 := by
  refine CMW.of (lv0 := [(0, .ref o), (1, .int v), (2, .ref oo)]) (by decide +kernel) (Nat.le_of_ble_eq_true rfl) rfl ?_
  intro p9 e9 s9 m9 bl9 me9 co9 C hr hlk hin had htab
  refine g_aload_n (pc := 0) C 2 rfl rfl dL_pixel_0 ?_
  refine g_iconst (pc := 1) (v := 0) C (by decide) dL_pixel_1 ?_
  refine g_aload_n (pc := 2) C 0 rfl rfl dL_pixel_2 ?_
  refine g_iload_n (pc := 3) C 1 rfl rfl dL_pixel_3 ?_
  refine g_callVT (pc := 4) (cells := 0) (slots := 0) (g := 0) (As := [.int v]) (st := [.int 0, .ref oo]) (T := TX10) (q0 := 0) C (nA := 1) rfl (c_X10_pixel_x o h pp x2 x3 x4 o2 o4 o9 o7 o0 o1 d1 v ) q_415 q_417 q_416 q_203 q_414 (by decide +kernel) rfl rfl dL_pixel_4 ⟨Nat.le_of_ble_eq_true rfl, Nat.le_of_ble_eq_true rfl⟩ [0, 1] [2] rfl (wr := [(oo, aJ k 1 fl)]) rfl (by decide) (by decide) (by decide) (Nat.le_of_ble_eq_true rfl) ⟨Nat.le_of_ble_eq_true rfl, Nat.le_of_ble_eq_true rfl⟩ ?_
  refine GT.re [1, 2, 0] (ws' := [(o, .inr (14, [.ref h, .ref pp, .ref x2, .ref x3, .ref x4, .ref o2, .ref o4, .ref o9, .ref o7, .ref o0, .ref o1])), (o1, .inr (5, [.ref d1, .int 0])), (oo, aJ k 1 fl)]) (cells' := 1) (slots' := 6) (by decide) rfl rfl rfl ?_
  refine GT.catch C [] ⟨0, 9, 12, 112⟩ [⟨0, 9, 15, 19⟩] (htab.trans rfl) (fun z h => nomatch h) (by decide) (by decide) (by decide) q_418 (fun qx1 => ?_)
  refine g_astore_n (pc := 12) C [(3, .ref qx1), (0, .ref o), (1, .int v), (2, .ref oo)] rfl dL_pixel_12 (by decide) rfl ?_
  refine g_iconst (pc := 13) (v := 1) C (by decide) dL_pixel_13 ?_
  exact g_iret (pc := 14) C hr hlk (by first | decide | omega) (by first | decide | omega) (by first | decide | omega) dL_pixel_14 ⟨rfl, rfl⟩
set_option maxRecDepth 100000 in
set_option maxHeartbeats 400000 in
theorem c_L_settledShare_z {l : Launch} {D : va_G} {k : Nat → ClassId} (o : Nat) (h : Nat) (pp : Nat) (x2 : Nat) (x3 : Nat) (x4 : Nat) (o2 : Nat) (o4 : Nat) (o9 : Nat) (o7 : Nat) (o0 : Nat) (o1 : Nat) (jj : Nat) (dd : Nat) (od : Nat) (fd1 : Nat → UInt64)  : CMW l D k yL_settledShare cL_settledShare 3 (some .int) [((0 : Nat), (8 : Nat), (11 : Nat), (118 : Nat))] 7 105 [.ref o, .ref od] [(o, .inr (14, [.ref h, .ref pp, .ref x2, .ref x3, .ref x4, .ref o2, .ref o4, .ref o9, .ref o7, .ref o0, .ref o1])), (h, .inr (7, [.ref jj, .ref dd, .int (nI 0), .int (nI 0)])), (jj, aI k 36 (fun _ => 0)), (dd, aI k 6 (fun _ => 0)), (od, aD k 1 fd1)] (is1 (some (.int 1)) [(o, .inr (14, [.ref h, .ref pp, .ref x2, .ref x3, .ref x4, .ref o2, .ref o4, .ref o9, .ref o7, .ref o0, .ref o1])), (h, .inr (7, [.ref jj, .ref dd, .int (nI 0), .int (nI 0)])), (jj, aI k 36 (fun _ => 0)), (dd, aI k 6 (fun _ => 0)), (od, aD k 1 fd1)]) 1 6 0 := by
  refine CMW.of (lv0 := [(0, .ref o), (1, .ref od)]) (by decide +kernel) (Nat.le_of_ble_eq_true rfl) rfl ?_
  intro p9 e9 s9 m9 bl9 me9 co9 C hr hlk hin had htab
  refine g_aload_n (pc := 0) C 1 rfl rfl dL_settledShare_0 ?_
  refine g_iconst (pc := 1) (v := 0) C (by decide) dL_settledShare_1 ?_
  refine g_aload_n (pc := 2) C 0 rfl rfl dL_settledShare_2 ?_
  refine g_callVT (pc := 3) (cells := 0) (slots := 0) (g := 0) (As := []) (st := [.int 0, .ref od]) (T := TX10) (q0 := 0) C (nA := 0) rfl (c_X10_settledShare_x o h pp x2 x3 x4 o2 o4 o9 o7 o0 o1 jj dd ) q_420 q_422 q_421 q_203 q_419 (by decide +kernel) rfl rfl dL_settledShare_3 ⟨Nat.le_of_ble_eq_true rfl, Nat.le_of_ble_eq_true rfl⟩ [0, 1, 2, 3] [4] rfl (wr := [(od, aD k 1 fd1)]) rfl (by decide) (by decide) (by decide) (Nat.le_of_ble_eq_true rfl) ⟨Nat.le_of_ble_eq_true rfl, Nat.le_of_ble_eq_true rfl⟩ ?_
  refine GT.re [1, 2, 3, 4, 0] (ws' := [(o, .inr (14, [.ref h, .ref pp, .ref x2, .ref x3, .ref x4, .ref o2, .ref o4, .ref o9, .ref o7, .ref o0, .ref o1])), (h, .inr (7, [.ref jj, .ref dd, .int (nI 0), .int (nI 0)])), (jj, aI k 36 (fun _ => 0)), (dd, aI k 6 (fun _ => 0)), (od, aD k 1 fd1)]) (cells' := 1) (slots' := 6) (by decide) rfl rfl rfl ?_
  refine GT.catch C [] ⟨0, 8, 11, 118⟩ [] (htab.trans rfl) (fun z h => nomatch h) (by decide) (by decide) (by decide) q_423 (fun qx1 => ?_)
  refine g_astore_n (pc := 11) C [(2, .ref qx1), (0, .ref o), (1, .ref od)] rfl dL_settledShare_11 (by decide) rfl ?_
  refine g_iconst (pc := 12) (v := 1) C (by decide) dL_settledShare_12 ?_
  exact g_iret (pc := 13) C hr hlk (by first | decide | omega) (by first | decide | omega) (by first | decide | omega) dL_settledShare_13 ⟨rfl, rfl⟩
set_option maxRecDepth 100000 in
set_option maxHeartbeats 400000 in
theorem c_L_meanChips_z {l : Launch} {D : va_G} {k : Nat → ClassId} (o : Nat) (h : Nat) (pp : Nat) (x2 : Nat) (x3 : Nat) (x4 : Nat) (o2 : Nat) (o4 : Nat) (o9 : Nat) (o7 : Nat) (o0 : Nat) (o1 : Nat) (jj : Nat) (dd : Nat) (od : Nat) (fd1 : Nat → UInt64)  : CMW l D k yL_meanChips cL_meanChips 3 (some .int) [((0 : Nat), (7 : Nat), (10 : Nat), (118 : Nat))] 7 103 [.ref o, .ref od] [(o, .inr (14, [.ref h, .ref pp, .ref x2, .ref x3, .ref x4, .ref o2, .ref o4, .ref o9, .ref o7, .ref o0, .ref o1])), (h, .inr (7, [.ref jj, .ref dd, .int (nI 0), .int (nI 0)])), (jj, aI k 36 (fun _ => 0)), (dd, aI k 6 (fun _ => 0)), (od, aD k 1 fd1)] (is1 (some (.int 1)) [(o, .inr (14, [.ref h, .ref pp, .ref x2, .ref x3, .ref x4, .ref o2, .ref o4, .ref o9, .ref o7, .ref o0, .ref o1])), (h, .inr (7, [.ref jj, .ref dd, .int (nI 0), .int (nI 0)])), (jj, aI k 36 (fun _ => 0)), (dd, aI k 6 (fun _ => 0)), (od, aD k 1 fd1)]) 1 6 0 := by
  refine CMW.of (lv0 := [(0, .ref o), (1, .ref od)]) (by decide +kernel) (Nat.le_of_ble_eq_true rfl) rfl ?_
  intro p9 e9 s9 m9 bl9 me9 co9 C hr hlk hin had htab
  refine g_aload_n (pc := 0) C 1 rfl rfl dL_meanChips_0 ?_
  refine g_iconst (pc := 1) (v := 0) C (by decide) dL_meanChips_1 ?_
  refine g_aload_n (pc := 2) C 0 rfl rfl dL_meanChips_2 ?_
  refine g_callVT (pc := 3) (cells := 0) (slots := 0) (g := 0) (As := []) (st := [.int 0, .ref od]) (T := TX10) (q0 := 0) C (nA := 0) rfl (c_X10_meanChips_x o h pp x2 x3 x4 o2 o4 o9 o7 o0 o1 jj dd ) q_425 q_427 q_426 q_203 q_424 (by decide +kernel) rfl rfl dL_meanChips_3 ⟨Nat.le_of_ble_eq_true rfl, Nat.le_of_ble_eq_true rfl⟩ [0, 1, 2, 3] [4] rfl (wr := [(od, aD k 1 fd1)]) rfl (by decide) (by decide) (by decide) (Nat.le_of_ble_eq_true rfl) ⟨Nat.le_of_ble_eq_true rfl, Nat.le_of_ble_eq_true rfl⟩ ?_
  refine GT.re [1, 2, 3, 4, 0] (ws' := [(o, .inr (14, [.ref h, .ref pp, .ref x2, .ref x3, .ref x4, .ref o2, .ref o4, .ref o9, .ref o7, .ref o0, .ref o1])), (h, .inr (7, [.ref jj, .ref dd, .int (nI 0), .int (nI 0)])), (jj, aI k 36 (fun _ => 0)), (dd, aI k 6 (fun _ => 0)), (od, aD k 1 fd1)]) (cells' := 1) (slots' := 6) (by decide) rfl rfl rfl ?_
  refine GT.catch C [] ⟨0, 7, 10, 118⟩ [] (htab.trans rfl) (fun z h => nomatch h) (by decide) (by decide) (by decide) q_423 (fun qx1 => ?_)
  refine g_astore_n (pc := 10) C [(2, .ref qx1), (0, .ref o), (1, .ref od)] rfl dL_meanChips_10 (by decide) rfl ?_
  refine g_iconst (pc := 11) (v := 1) C (by decide) dL_meanChips_11 ?_
  exact g_iret (pc := 12) C hr hlk (by first | decide | omega) (by first | decide | omega) (by first | decide | omega) dL_meanChips_12 ⟨rfl, rfl⟩
set_option maxRecDepth 100000 in
set_option maxHeartbeats 400000 in
theorem c_L_vertex {l : Launch} {D : va_G} {k : Nat → ClassId} (o : Nat) (h : Nat) (pp : Nat) (x2 : Nat) (x3 : Nat) (x4 : Nat) (o2 : Nat) (o4 : Nat) (o9 : Nat) (o7 : Nat) (o0 : Nat) (o1 : Nat) (jj : Nat) (dd : Nat) (n : Nat) (z : Nat) (fj : Nat → Int32) (fd : Nat → Int32) (r1 : Nat) (a1 : Nat) (r2 : Nat) (a2 : Nat) (f : Nat → Int32) (ct : Nat → Int32) (tk : Int32) (s1 : Nat) (b1 : Nat) (s2 : Nat) (b2 : Nat) (f7 : Nat → Int32) (g7 : Nat → Int32) (t1 : Nat) (t2 : Nat) (t3 : Nat) (t4 : Nat) (t5 : Nat) (u1 : Nat) (f0 : Nat → Int32) (oo : Nat) (fl : Nat → Int64) (hn : n < 6) : CMW l D k yL_vertex cL_vertex 3 (some .int) [((0 : Nat), (8 : Nat), (11 : Nat), (13 : Nat))] 4 83 [.ref o, .ref oo] [(o, .inr (14, [.ref h, .ref pp, .ref x2, .ref x3, .ref x4, .ref o2, .ref o4, .ref o9, .ref o7, .ref o0, .ref o1])), (h, .inr (7, [.ref jj, .ref dd, .int (nI n), .int (nI z)])), (jj, aI k 36 fj), (dd, aI k 6 fd), (pp, .inr (10, [.ref h, .ref r1, .ref r2, .int tk])), (r1, .inr (12, [.ref a1])), (a1, aI k 6 f), (r2, .inr (12, [.ref a2])), (a2, aI k 6 ct), (o7, .inr (11, [.ref h, .ref s1, .ref s2])), (s1, .inr (12, [.ref b1])), (b1, aI k 6 f7), (s2, .inr (12, [.ref b2])), (b2, aI k 6 g7), (o0, .inr (4, [.ref h, .ref o2, .ref t1, .ref t2, .ref t3, .ref t4, .ref t5])), (t1, .inr (12, [.ref u1])), (u1, aI k 6 f0), (oo, aJ k 1 fl)] (is1 (some (.int 0)) [(o, .inr (14, [.ref h, .ref pp, .ref x2, .ref x3, .ref x4, .ref o2, .ref o4, .ref o9, .ref o7, .ref o0, .ref o1])), (h, .inr (7, [.ref jj, .ref dd, .int (nI (n + 1)), .int (nI z)])), (jj, aI k 36 fj), (dd, aI k 6 fd), (pp, .inr (10, [.ref h, .ref r1, .ref r2, .int 0])), (r1, .inr (12, [.ref a1])), (a1, aI k 6 (fun _ => 0)), (r2, .inr (12, [.ref a2])), (a2, aI k 6 (fun _ => 0)), (o7, .inr (11, [.ref h, .ref s1, .ref s2])), (s1, .inr (12, [.ref b1])), (b1, aI k 6 (fun _ => 0)), (s2, .inr (12, [.ref b2])), (b2, aI k 6 (fun _ => 0)), (o0, .inr (4, [.ref h, .ref o2, .ref t1, .ref t2, .ref t3, .ref t4, .ref t5])), (t1, .inr (12, [.ref u1])), (u1, aI k 6 (fun _ => 0)), (oo, aJ k 1 (fun _ => (nI n).toInt64))]) 0 0 0 := by
  refine CMW.of (lv0 := [(0, .ref o), (1, .ref oo)]) (by decide +kernel) (Nat.le_of_ble_eq_true rfl) rfl ?_
  intro p9 e9 s9 m9 bl9 me9 co9 C hr hlk hin had htab
  refine g_aload_n (pc := 0) C 1 rfl rfl dL_vertex_0 ?_
  refine g_iconst (pc := 1) (v := 0) C (by decide) dL_vertex_1 ?_
  refine g_aload_n (pc := 2) C 0 rfl rfl dL_vertex_2 ?_
  refine g_callV (pc := 3) (cells := 0) (slots := 0) (g := 0) (As := []) (st := [.int 0, .ref oo]) (T := TX10) (q0 := 0) C (nA := 0) rfl (c_X10_vertex o h pp x2 x3 x4 o2 o4 o9 o7 o0 o1 jj dd n z fj fd r1 a1 r2 a2 f ct tk s1 b1 s2 b2 f7 g7 t1 t2 t3 t4 t5 u1 f0 (by first | assumption | decide | omega)) q_430 q_431 q_429 q_203 q_428 (by decide +kernel) rfl rfl dL_vertex_3 ⟨Nat.le_of_ble_eq_true rfl, Nat.le_of_ble_eq_true rfl⟩ [0, 1, 2, 3, 4, 5, 6, 7, 8, 9, 10, 11, 12, 13, 14, 15, 16] [17] rfl (wr := [(oo, aJ k 1 fl)]) rfl (by decide) (by decide) (by decide) (Nat.le_of_ble_eq_true rfl) ⟨Nat.le_of_ble_eq_true rfl, Nat.le_of_ble_eq_true rfl⟩ (fun rv w1 h1 => ?_)
  obtain ⟨rfl, rfl⟩ := h1
  refine G.aft [1, 2, 3, 4, 5, 6, 7, 8, 9, 10, 11, 12, 13, 14, 15, 16, 17, 0] (ws' := [(o, .inr (14, [.ref h, .ref pp, .ref x2, .ref x3, .ref x4, .ref o2, .ref o4, .ref o9, .ref o7, .ref o0, .ref o1])), (h, .inr (7, [.ref jj, .ref dd, .int (nI (n + 1)), .int (nI z)])), (jj, aI k 36 fj), (dd, aI k 6 fd), (pp, .inr (10, [.ref h, .ref r1, .ref r2, .int 0])), (r1, .inr (12, [.ref a1])), (a1, aI k 6 (fun _ => 0)), (r2, .inr (12, [.ref a2])), (a2, aI k 6 (fun _ => 0)), (o7, .inr (11, [.ref h, .ref s1, .ref s2])), (s1, .inr (12, [.ref b1])), (b1, aI k 6 (fun _ => 0)), (s2, .inr (12, [.ref b2])), (b2, aI k 6 (fun _ => 0)), (o0, .inr (4, [.ref h, .ref o2, .ref t1, .ref t2, .ref t3, .ref t4, .ref t5])), (t1, .inr (12, [.ref u1])), (u1, aI k 6 (fun _ => 0)), (oo, aJ k 1 fl)]) (st' := [.int (nI n), .int 0, .ref oo]) (cells' := 0) (slots' := 0) (g' := 0) (by decide) rfl rfl rfl rfl rfl ?_
  refine g_i2l (pc := 6) C dL_vertex_6 ?_
  refine g_last_n (pc := 7) C (j := 0) 17 [(o, .inr (14, [.ref h, .ref pp, .ref x2, .ref x3, .ref x4, .ref o2, .ref o4, .ref o9, .ref o7, .ref o0, .ref o1])), (h, .inr (7, [.ref jj, .ref dd, .int (nI (n + 1)), .int (nI z)])), (jj, aI k 36 fj), (dd, aI k 6 fd), (pp, .inr (10, [.ref h, .ref r1, .ref r2, .int 0])), (r1, .inr (12, [.ref a1])), (a1, aI k 6 (fun _ => 0)), (r2, .inr (12, [.ref a2])), (a2, aI k 6 (fun _ => 0)), (o7, .inr (11, [.ref h, .ref s1, .ref s2])), (s1, .inr (12, [.ref b1])), (b1, aI k 6 (fun _ => 0)), (s2, .inr (12, [.ref b2])), (b2, aI k 6 (fun _ => 0)), (o0, .inr (4, [.ref h, .ref o2, .ref t1, .ref t2, .ref t3, .ref t4, .ref t5])), (t1, .inr (12, [.ref u1])), (u1, aI k 6 (fun _ => 0)), (oo, aJ k 1 (vp_updL fl 0 ((nI n).toInt64)))] rfl (by omega) (by first | decide | omega) rfl rfl dL_vertex_7 ?_
  refine g_goto (pc := 8) C 14 (by decide) dL_vertex_8 ?_
  refine g_iconst (pc := 14) (v := 0) C (by decide) dL_vertex_14 ?_
  refine G.fnJ (fun _ => (nI n).toInt64) 17 [(o, .inr (14, [.ref h, .ref pp, .ref x2, .ref x3, .ref x4, .ref o2, .ref o4, .ref o9, .ref o7, .ref o0, .ref o1])), (h, .inr (7, [.ref jj, .ref dd, .int (nI (n + 1)), .int (nI z)])), (jj, aI k 36 fj), (dd, aI k 6 fd), (pp, .inr (10, [.ref h, .ref r1, .ref r2, .int 0])), (r1, .inr (12, [.ref a1])), (a1, aI k 6 (fun _ => 0)), (r2, .inr (12, [.ref a2])), (a2, aI k 6 (fun _ => 0)), (o7, .inr (11, [.ref h, .ref s1, .ref s2])), (s1, .inr (12, [.ref b1])), (b1, aI k 6 (fun _ => 0)), (s2, .inr (12, [.ref b2])), (b2, aI k 6 (fun _ => 0)), (o0, .inr (4, [.ref h, .ref o2, .ref t1, .ref t2, .ref t3, .ref t4, .ref t5])), (t1, .inr (12, [.ref u1])), (u1, aI k 6 (fun _ => 0)), (oo, aJ k 1 (fun _ => (nI n).toInt64))] rfl (fun j hj => by first | rfl | simp [vp_updL, show j = 0 by omega]) rfl ?_
  exact g_iret (pc := 15) C hr hlk (by first | decide | omega) (by first | decide | omega) (by first | decide | omega) dL_vertex_15 ⟨rfl, rfl⟩
