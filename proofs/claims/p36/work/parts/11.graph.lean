theorem dX3_init_0 : decode cX3_init 0 = .ok (.aload_n 0, 1) := by decide +kernel
theorem dX3_init_1 : decode cX3_init 1 = .ok (.invokespecial 3, 3) := by decide +kernel
theorem q_10 : (Jvm.Cond.methodLink "Chipfold$Graph" (3 : Nat) ({ cls := "java/lang/Object", name := "<init>", desc := "()V" } : Jvm.MethodName)) ∈ WG := wg_1 (List.mem_of_getElem? (i := 50) (by decide +kernel)) (by decide +kernel)
theorem dX3_init_4 : decode cX3_init 4 = .ok (.aload_n 0, 1) := by decide +kernel
theorem dX3_init_5 : decode cX3_init 5 = .ok (.bipush 36, 2) := by decide +kernel
theorem dX3_init_7 : decode cX3_init 7 = .ok (.newarray .int, 2) := by decide +kernel
theorem dX3_init_9 : decode cX3_init 9 = .ok (.putfield 9, 3) := by decide +kernel
theorem q_11 : (Jvm.Cond.fieldLink "Chipfold$Graph" (9 : Nat) "Chipfold$Graph" "joined" "[I") ∈ WG := wg_1 (List.mem_of_getElem? (i := 51) (by decide +kernel)) (by decide +kernel)
theorem inX3 : ∀ w ∈ u_ws RX3 TX3 4, w ∈ WG := by decide +kernel
theorem dX3_init_12 : decode cX3_init 12 = .ok (.aload_n 0, 1) := by decide +kernel
theorem dX3_init_13 : decode cX3_init 13 = .ok (.bipush 6, 2) := by decide +kernel
theorem dX3_init_15 : decode cX3_init 15 = .ok (.newarray .int, 2) := by decide +kernel
theorem dX3_init_17 : decode cX3_init 17 = .ok (.putfield 15, 3) := by decide +kernel
theorem q_12 : (Jvm.Cond.fieldLink "Chipfold$Graph" (15 : Nat) "Chipfold$Graph" "degrees" "[I") ∈ WG := wg_1 (List.mem_of_getElem? (i := 52) (by decide +kernel)) (by decide +kernel)
theorem dX3_init_20 : decode cX3_init 20 = .ok (.aload_n 0, 1) := by decide +kernel
theorem dX3_init_21 : decode cX3_init 21 = .ok (.iconst 0, 1) := by decide +kernel
theorem dX3_init_22 : decode cX3_init 22 = .ok (.putfield 18, 3) := by decide +kernel
theorem q_13 : (Jvm.Cond.fieldLink "Chipfold$Graph" (18 : Nat) "Chipfold$Graph" "vertices" "I") ∈ WG := wg_1 (List.mem_of_getElem? (i := 53) (by decide +kernel)) (by decide +kernel)
theorem dX3_init_25 : decode cX3_init 25 = .ok (.aload_n 0, 1) := by decide +kernel
theorem dX3_init_26 : decode cX3_init 26 = .ok (.iconst 0, 1) := by decide +kernel
theorem dX3_init_27 : decode cX3_init 27 = .ok (.putfield 22, 3) := by decide +kernel
theorem q_14 : (Jvm.Cond.fieldLink "Chipfold$Graph" (22 : Nat) "Chipfold$Graph" "sinkNow" "I") ∈ WG := wg_1 (List.mem_of_getElem? (i := 54) (by decide +kernel)) (by decide +kernel)
theorem dX3_init_30 : decode cX3_init 30 = .ok (.return_, 1) := by decide +kernel
theorem dX3_size_0 : decode cX3_size 0 = .ok (.aload_n 0, 1) := by decide +kernel
theorem dX3_size_1 : decode cX3_size 1 = .ok (.getfield 18, 3) := by decide +kernel
theorem dX3_size_4 : decode cX3_size 4 = .ok (.ireturn, 1) := by decide +kernel
theorem dX3_sinkVertex_0 : decode cX3_sinkVertex 0 = .ok (.aload_n 0, 1) := by decide +kernel
theorem dX3_sinkVertex_1 : decode cX3_sinkVertex 1 = .ok (.getfield 22, 3) := by decide +kernel
theorem dX3_sinkVertex_4 : decode cX3_sinkVertex 4 = .ok (.ireturn, 1) := by decide +kernel
theorem dX3_has_0 : decode cX3_has 0 = .ok (.iload_n 1, 1) := by decide +kernel
theorem dX3_has_1 : decode cX3_has 1 = .ok (.ifCond .lt 15, 3) := by decide +kernel
theorem dX3_has_16 : decode cX3_has 16 = .ok (.iconst 0, 1) := by decide +kernel
theorem dX3_has_17 : decode cX3_has 17 = .ok (.ireturn, 1) := by decide +kernel
theorem dX3_has_4 : decode cX3_has 4 = .ok (.iload_n 1, 1) := by decide +kernel
theorem dX3_has_5 : decode cX3_has 5 = .ok (.aload_n 0, 1) := by decide +kernel
theorem dX3_has_6 : decode cX3_has 6 = .ok (.getfield 18, 3) := by decide +kernel
theorem dX3_has_9 : decode cX3_has 9 = .ok (.if_icmp .ge 7, 3) := by decide +kernel
theorem dX3_has_12 : decode cX3_has 12 = .ok (.iconst 1, 1) := by decide +kernel
theorem dX3_has_13 : decode cX3_has 13 = .ok (.goto 4, 3) := by decide +kernel
theorem dX3_grow_0 : decode cX3_grow 0 = .ok (.aload_n 0, 1) := by decide +kernel
theorem dX3_grow_1 : decode cX3_grow 1 = .ok (.getfield 18, 3) := by decide +kernel
theorem dX3_grow_4 : decode cX3_grow 4 = .ok (.istore_n 1, 1) := by decide +kernel
theorem dX3_grow_5 : decode cX3_grow 5 = .ok (.aload_n 0, 1) := by decide +kernel
theorem dX3_grow_6 : decode cX3_grow 6 = .ok (.dup, 1) := by decide +kernel
theorem dX3_grow_7 : decode cX3_grow 7 = .ok (.getfield 18, 3) := by decide +kernel
theorem dX3_grow_10 : decode cX3_grow 10 = .ok (.iconst 1, 1) := by decide +kernel
theorem dX3_grow_11 : decode cX3_grow 11 = .ok (.iadd, 1) := by decide +kernel
theorem dX3_grow_12 : decode cX3_grow 12 = .ok (.putfield 18, 3) := by decide +kernel
theorem dX3_grow_15 : decode cX3_grow 15 = .ok (.iload_n 1, 1) := by decide +kernel
theorem dX3_grow_16 : decode cX3_grow 16 = .ok (.ireturn, 1) := by decide +kernel
theorem dX3_isSink_0 : decode cX3_isSink 0 = .ok (.iload_n 1, 1) := by decide +kernel
theorem dX3_isSink_1 : decode cX3_isSink 1 = .ok (.aload_n 0, 1) := by decide +kernel
theorem dX3_isSink_2 : decode cX3_isSink 2 = .ok (.getfield 22, 3) := by decide +kernel
theorem dX3_isSink_5 : decode cX3_isSink 5 = .ok (.if_icmp .ne 7, 3) := by decide +kernel
theorem dX3_isSink_12 : decode cX3_isSink 12 = .ok (.iconst 0, 1) := by decide +kernel
theorem dX3_isSink_13 : decode cX3_isSink 13 = .ok (.ireturn, 1) := by decide +kernel
theorem dX3_isSink_8 : decode cX3_isSink 8 = .ok (.iconst 1, 1) := by decide +kernel
theorem dX3_isSink_9 : decode cX3_isSink 9 = .ok (.goto 4, 3) := by decide +kernel
theorem dX3_moveSink_0 : decode cX3_moveSink 0 = .ok (.aload_n 0, 1) := by decide +kernel
theorem dX3_moveSink_1 : decode cX3_moveSink 1 = .ok (.iload_n 1, 1) := by decide +kernel
theorem dX3_moveSink_2 : decode cX3_moveSink 2 = .ok (.putfield 22, 3) := by decide +kernel
theorem dX3_moveSink_5 : decode cX3_moveSink 5 = .ok (.return_, 1) := by decide +kernel
theorem dX3_between_0 : decode cX3_between 0 = .ok (.iload_n 1, 1) := by decide +kernel
theorem dX3_between_1 : decode cX3_between 1 = .ok (.ifCond .lt 23, 3) := by decide +kernel
theorem dX3_between_4 : decode cX3_between 4 = .ok (.iload_n 1, 1) := by decide +kernel
theorem dX3_between_5 : decode cX3_between 5 = .ok (.aload_n 0, 1) := by decide +kernel
theorem dX3_between_6 : decode cX3_between 6 = .ok (.getfield 18, 3) := by decide +kernel
theorem dX3_between_9 : decode cX3_between 9 = .ok (.if_icmp .ge 15, 3) := by decide +kernel
theorem dX3_between_12 : decode cX3_between 12 = .ok (.iload_n 2, 1) := by decide +kernel
theorem dX3_between_13 : decode cX3_between 13 = .ok (.ifCond .lt 11, 3) := by decide +kernel
theorem dX3_between_16 : decode cX3_between 16 = .ok (.iload_n 2, 1) := by decide +kernel
theorem dX3_between_17 : decode cX3_between 17 = .ok (.aload_n 0, 1) := by decide +kernel
theorem dX3_between_18 : decode cX3_between 18 = .ok (.getfield 18, 3) := by decide +kernel
theorem dX3_between_21 : decode cX3_between 21 = .ok (.if_icmp .lt 5, 3) := by decide +kernel
theorem dX3_between_26 : decode cX3_between 26 = .ok (.iload_n 1, 1) := by decide +kernel
theorem dX3_between_27 : decode cX3_between 27 = .ok (.bipush 6, 2) := by decide +kernel
theorem dX3_between_29 : decode cX3_between 29 = .ok (.imul, 1) := by decide +kernel
theorem dX3_between_30 : decode cX3_between 30 = .ok (.iload_n 2, 1) := by decide +kernel
theorem dX3_between_31 : decode cX3_between 31 = .ok (.iadd, 1) := by decide +kernel
theorem dX3_between_32 : decode cX3_between 32 = .ok (.istore_n 3, 1) := by decide +kernel
theorem dX3_between_33 : decode cX3_between 33 = .ok (.iload_n 3, 1) := by decide +kernel
theorem dX3_between_34 : decode cX3_between 34 = .ok (.ifCond .lt 21, 3) := by decide +kernel
theorem dX3_between_37 : decode cX3_between 37 = .ok (.iload_n 3, 1) := by decide +kernel
theorem dX3_between_38 : decode cX3_between 38 = .ok (.aload_n 0, 1) := by decide +kernel
theorem dX3_between_39 : decode cX3_between 39 = .ok (.getfield 9, 3) := by decide +kernel
theorem dX3_between_42 : decode cX3_between 42 = .ok (.arraylength, 1) := by decide +kernel
theorem dX3_between_43 : decode cX3_between 43 = .ok (.if_icmp .ge 12, 3) := by decide +kernel
theorem dX3_between_46 : decode cX3_between 46 = .ok (.aload_n 0, 1) := by decide +kernel
theorem dX3_between_47 : decode cX3_between 47 = .ok (.getfield 9, 3) := by decide +kernel
theorem dX3_between_50 : decode cX3_between 50 = .ok (.iload_n 3, 1) := by decide +kernel
theorem dX3_between_51 : decode cX3_between 51 = .ok (.iaload, 1) := by decide +kernel
theorem dX3_between_52 : decode cX3_between 52 = .ok (.goto 4, 3) := by decide +kernel
theorem dX3_between_56 : decode cX3_between 56 = .ok (.ireturn, 1) := by decide +kernel
theorem dX3_degreeOf_0 : decode cX3_degreeOf 0 = .ok (.iload_n 1, 1) := by decide +kernel
theorem dX3_degreeOf_1 : decode cX3_degreeOf 1 = .ok (.ifCond .lt 21, 3) := by decide +kernel
theorem dX3_degreeOf_4 : decode cX3_degreeOf 4 = .ok (.iload_n 1, 1) := by decide +kernel
theorem dX3_degreeOf_5 : decode cX3_degreeOf 5 = .ok (.aload_n 0, 1) := by decide +kernel
theorem dX3_degreeOf_6 : decode cX3_degreeOf 6 = .ok (.getfield 15, 3) := by decide +kernel
theorem dX3_degreeOf_9 : decode cX3_degreeOf 9 = .ok (.arraylength, 1) := by decide +kernel
theorem dX3_degreeOf_10 : decode cX3_degreeOf 10 = .ok (.if_icmp .ge 12, 3) := by decide +kernel
theorem dX3_degreeOf_13 : decode cX3_degreeOf 13 = .ok (.aload_n 0, 1) := by decide +kernel
theorem dX3_degreeOf_14 : decode cX3_degreeOf 14 = .ok (.getfield 15, 3) := by decide +kernel
theorem dX3_degreeOf_17 : decode cX3_degreeOf 17 = .ok (.iload_n 1, 1) := by decide +kernel
theorem dX3_degreeOf_18 : decode cX3_degreeOf 18 = .ok (.iaload, 1) := by decide +kernel
theorem dX3_degreeOf_19 : decode cX3_degreeOf 19 = .ok (.goto 4, 3) := by decide +kernel
theorem dX3_degreeOf_23 : decode cX3_degreeOf 23 = .ok (.ireturn, 1) := by decide +kernel
theorem dX3_joinOneWay_0 : decode cX3_joinOneWay 0 = .ok (.iload_n 1, 1) := by decide +kernel
theorem dX3_joinOneWay_1 : decode cX3_joinOneWay 1 = .ok (.ifCond .lt 23, 3) := by decide +kernel
theorem dX3_joinOneWay_4 : decode cX3_joinOneWay 4 = .ok (.iload_n 1, 1) := by decide +kernel
theorem dX3_joinOneWay_5 : decode cX3_joinOneWay 5 = .ok (.aload_n 0, 1) := by decide +kernel
theorem dX3_joinOneWay_6 : decode cX3_joinOneWay 6 = .ok (.getfield 18, 3) := by decide +kernel
theorem dX3_joinOneWay_9 : decode cX3_joinOneWay 9 = .ok (.if_icmp .ge 15, 3) := by decide +kernel
theorem dX3_joinOneWay_12 : decode cX3_joinOneWay 12 = .ok (.iload_n 2, 1) := by decide +kernel
theorem dX3_joinOneWay_13 : decode cX3_joinOneWay 13 = .ok (.ifCond .lt 11, 3) := by decide +kernel
theorem dX3_joinOneWay_16 : decode cX3_joinOneWay 16 = .ok (.iload_n 2, 1) := by decide +kernel
theorem dX3_joinOneWay_17 : decode cX3_joinOneWay 17 = .ok (.aload_n 0, 1) := by decide +kernel
theorem dX3_joinOneWay_18 : decode cX3_joinOneWay 18 = .ok (.getfield 18, 3) := by decide +kernel
theorem dX3_joinOneWay_21 : decode cX3_joinOneWay 21 = .ok (.if_icmp .lt 4, 3) := by decide +kernel
theorem dX3_joinOneWay_25 : decode cX3_joinOneWay 25 = .ok (.iload_n 1, 1) := by decide +kernel
theorem dX3_joinOneWay_26 : decode cX3_joinOneWay 26 = .ok (.bipush 6, 2) := by decide +kernel
theorem dX3_joinOneWay_28 : decode cX3_joinOneWay 28 = .ok (.imul, 1) := by decide +kernel
theorem dX3_joinOneWay_29 : decode cX3_joinOneWay 29 = .ok (.iload_n 2, 1) := by decide +kernel
theorem dX3_joinOneWay_30 : decode cX3_joinOneWay 30 = .ok (.iadd, 1) := by decide +kernel
theorem dX3_joinOneWay_31 : decode cX3_joinOneWay 31 = .ok (.istore 4, 2) := by decide +kernel
theorem dX3_joinOneWay_33 : decode cX3_joinOneWay 33 = .ok (.iload 4, 2) := by decide +kernel
theorem dX3_joinOneWay_35 : decode cX3_joinOneWay 35 = .ok (.ifCond .lt 48, 3) := by decide +kernel
theorem dX3_joinOneWay_38 : decode cX3_joinOneWay 38 = .ok (.iload 4, 2) := by decide +kernel
theorem dX3_joinOneWay_40 : decode cX3_joinOneWay 40 = .ok (.aload_n 0, 1) := by decide +kernel
theorem dX3_joinOneWay_41 : decode cX3_joinOneWay 41 = .ok (.getfield 9, 3) := by decide +kernel
theorem dX3_joinOneWay_44 : decode cX3_joinOneWay 44 = .ok (.arraylength, 1) := by decide +kernel
theorem dX3_joinOneWay_45 : decode cX3_joinOneWay 45 = .ok (.if_icmp .ge 38, 3) := by decide +kernel
theorem dX3_joinOneWay_48 : decode cX3_joinOneWay 48 = .ok (.iload_n 1, 1) := by decide +kernel
theorem dX3_joinOneWay_49 : decode cX3_joinOneWay 49 = .ok (.aload_n 0, 1) := by decide +kernel
theorem dX3_joinOneWay_50 : decode cX3_joinOneWay 50 = .ok (.getfield 15, 3) := by decide +kernel
theorem dX3_joinOneWay_53 : decode cX3_joinOneWay 53 = .ok (.arraylength, 1) := by decide +kernel
theorem dX3_joinOneWay_54 : decode cX3_joinOneWay 54 = .ok (.if_icmp .ge 29, 3) := by decide +kernel
theorem dX3_joinOneWay_57 : decode cX3_joinOneWay 57 = .ok (.aload_n 0, 1) := by decide +kernel
theorem dX3_joinOneWay_58 : decode cX3_joinOneWay 58 = .ok (.getfield 15, 3) := by decide +kernel
theorem dX3_joinOneWay_61 : decode cX3_joinOneWay 61 = .ok (.iload_n 1, 1) := by decide +kernel
theorem dX3_joinOneWay_62 : decode cX3_joinOneWay 62 = .ok (.dup2, 1) := by decide +kernel
theorem dX3_joinOneWay_63 : decode cX3_joinOneWay 63 = .ok (.iaload, 1) := by decide +kernel
theorem dX3_joinOneWay_64 : decode cX3_joinOneWay 64 = .ok (.iload_n 3, 1) := by decide +kernel
theorem dX3_joinOneWay_65 : decode cX3_joinOneWay 65 = .ok (.aload_n 0, 1) := by decide +kernel
theorem dX3_joinOneWay_66 : decode cX3_joinOneWay 66 = .ok (.getfield 9, 3) := by decide +kernel
theorem dX3_joinOneWay_69 : decode cX3_joinOneWay 69 = .ok (.iload 4, 2) := by decide +kernel
theorem dX3_joinOneWay_71 : decode cX3_joinOneWay 71 = .ok (.iaload, 1) := by decide +kernel
theorem dX3_joinOneWay_72 : decode cX3_joinOneWay 72 = .ok (.isub, 1) := by decide +kernel
theorem dX3_joinOneWay_73 : decode cX3_joinOneWay 73 = .ok (.iadd, 1) := by decide +kernel
theorem dX3_joinOneWay_74 : decode cX3_joinOneWay 74 = .ok (.iastore, 1) := by decide +kernel
theorem dX3_joinOneWay_75 : decode cX3_joinOneWay 75 = .ok (.aload_n 0, 1) := by decide +kernel
theorem dX3_joinOneWay_76 : decode cX3_joinOneWay 76 = .ok (.getfield 9, 3) := by decide +kernel
theorem dX3_joinOneWay_79 : decode cX3_joinOneWay 79 = .ok (.iload 4, 2) := by decide +kernel
theorem dX3_joinOneWay_81 : decode cX3_joinOneWay 81 = .ok (.iload_n 3, 1) := by decide +kernel
theorem dX3_joinOneWay_82 : decode cX3_joinOneWay 82 = .ok (.iastore, 1) := by decide +kernel
theorem dX3_joinOneWay_83 : decode cX3_joinOneWay 83 = .ok (.return_, 1) := by decide +kernel
theorem dX3_join_0 : decode cX3_join 0 = .ok (.aload_n 0, 1) := by decide +kernel
theorem dX3_join_1 : decode cX3_join 1 = .ok (.iload_n 1, 1) := by decide +kernel
theorem dX3_join_2 : decode cX3_join 2 = .ok (.iload_n 2, 1) := by decide +kernel
theorem dX3_join_3 : decode cX3_join 3 = .ok (.iload_n 3, 1) := by decide +kernel
theorem dX3_join_4 : decode cX3_join 4 = .ok (.invokevirtual 25, 3) := by decide +kernel
theorem q_15 : (Jvm.Cond.code ({ cls := "Chipfold$Graph", name := "joinOneWay", desc := "(III)V" } : Jvm.MethodName) prog_5_method_7_code (5 : Nat) (Option.none : Option Jvm.ClassFile.FieldType)) ∈ WG := wg_3 (List.mem_of_getElem? (i := 199) rfl) rfl
theorem q_16 : (Jvm.Cond.initialized "Chipfold$Graph") ∈ WG := wg_1 (List.mem_of_getElem? (i := 2) (by decide +kernel)) (by decide +kernel)
theorem q_17 : (Jvm.Cond.selects "Chipfold$Graph" ({ cls := "Chipfold$Graph", name := "joinOneWay", desc := "(III)V" } : Jvm.MethodName) ({ cls := "Chipfold$Graph", name := "joinOneWay", desc := "(III)V" } : Jvm.MethodName)) ∈ WG := wg_0 (by decide +kernel) (by decide +kernel)
theorem q_18 : (Jvm.Cond.methodLink "Chipfold$Graph" (25 : Nat) ({ cls := "Chipfold$Graph", name := "joinOneWay", desc := "(III)V" } : Jvm.MethodName)) ∈ WG := wg_3 (List.mem_of_getElem? (i := 196) (by decide +kernel)) (by decide +kernel)
theorem q_19 : (Jvm.Cond.instanceMethod ({ cls := "Chipfold$Graph", name := "joinOneWay", desc := "(III)V" } : Jvm.MethodName)) ∈ WG := wg_3 (List.mem_of_getElem? (i := 198) (by decide +kernel)) (by decide +kernel)
theorem dX3_join_7 : decode cX3_join 7 = .ok (.aload_n 0, 1) := by decide +kernel
theorem dX3_join_8 : decode cX3_join 8 = .ok (.iload_n 2, 1) := by decide +kernel
theorem dX3_join_9 : decode cX3_join 9 = .ok (.iload_n 1, 1) := by decide +kernel
theorem dX3_join_10 : decode cX3_join 10 = .ok (.iload_n 3, 1) := by decide +kernel
theorem dX3_join_11 : decode cX3_join 11 = .ok (.invokevirtual 25, 3) := by decide +kernel
theorem dX3_join_14 : decode cX3_join 14 = .ok (.return_, 1) := by decide +kernel
theorem dX3_neighboursOf_0 : decode cX3_neighboursOf 0 = .ok (.iconst 0, 1) := by decide +kernel
theorem dX3_neighboursOf_1 : decode cX3_neighboursOf 1 = .ok (.istore_n 2, 1) := by decide +kernel
theorem dX3_neighboursOf_2 : decode cX3_neighboursOf 2 = .ok (.iconst 0, 1) := by decide +kernel
theorem dX3_neighboursOf_3 : decode cX3_neighboursOf 3 = .ok (.istore_n 3, 1) := by decide +kernel
theorem dX3_neighboursOf_4 : decode cX3_neighboursOf 4 = .ok (.iload_n 3, 1) := by decide +kernel
theorem dX3_neighboursOf_5 : decode cX3_neighboursOf 5 = .ok (.aload_n 0, 1) := by decide +kernel
theorem dX3_neighboursOf_6 : decode cX3_neighboursOf 6 = .ok (.getfield 18, 3) := by decide +kernel
theorem dX3_neighboursOf_9 : decode cX3_neighboursOf 9 = .ok (.if_icmp .ge 53, 3) := by decide +kernel
theorem dX3_neighboursOf_62 : decode cX3_neighboursOf 62 = .ok (.iload_n 2, 1) := by decide +kernel
theorem dX3_neighboursOf_63 : decode cX3_neighboursOf 63 = .ok (.ireturn, 1) := by decide +kernel
theorem dX3_neighboursOf_12 : decode cX3_neighboursOf 12 = .ok (.iconst 0, 1) := by decide +kernel
theorem dX3_neighboursOf_13 : decode cX3_neighboursOf 13 = .ok (.istore 4, 2) := by decide +kernel
theorem dX3_neighboursOf_15 : decode cX3_neighboursOf 15 = .ok (.iload 4, 2) := by decide +kernel
theorem dX3_neighboursOf_17 : decode cX3_neighboursOf 17 = .ok (.aload_n 0, 1) := by decide +kernel
theorem dX3_neighboursOf_18 : decode cX3_neighboursOf 18 = .ok (.getfield 18, 3) := by decide +kernel
theorem dX3_neighboursOf_21 : decode cX3_neighboursOf 21 = .ok (.if_icmp .ge 35, 3) := by decide +kernel
theorem dX3_neighboursOf_56 : decode cX3_neighboursOf 56 = .ok (.iinc 3 1, 3) := by decide +kernel
theorem dX3_neighboursOf_59 : decode cX3_neighboursOf 59 = .ok (.goto (-55), 3) := by decide +kernel
theorem dX3_neighboursOf_24 : decode cX3_neighboursOf 24 = .ok (.iload_n 1, 1) := by decide +kernel
theorem dX3_neighboursOf_25 : decode cX3_neighboursOf 25 = .ok (.iload_n 3, 1) := by decide +kernel
theorem dX3_neighboursOf_26 : decode cX3_neighboursOf 26 = .ok (.ishr, 1) := by decide +kernel
theorem dX3_neighboursOf_27 : decode cX3_neighboursOf 27 = .ok (.iconst 1, 1) := by decide +kernel
theorem dX3_neighboursOf_28 : decode cX3_neighboursOf 28 = .ok (.iand, 1) := by decide +kernel
theorem dX3_neighboursOf_29 : decode cX3_neighboursOf 29 = .ok (.iconst 1, 1) := by decide +kernel
theorem dX3_neighboursOf_30 : decode cX3_neighboursOf 30 = .ok (.if_icmp .ne 20, 3) := by decide +kernel
theorem dX3_neighboursOf_50 : decode cX3_neighboursOf 50 = .ok (.iinc 4 1, 3) := by decide +kernel
theorem dX3_neighboursOf_53 : decode cX3_neighboursOf 53 = .ok (.goto (-38), 3) := by decide +kernel
theorem dX3_neighboursOf_33 : decode cX3_neighboursOf 33 = .ok (.aload_n 0, 1) := by decide +kernel
theorem dX3_neighboursOf_34 : decode cX3_neighboursOf 34 = .ok (.iload_n 3, 1) := by decide +kernel
theorem dX3_neighboursOf_35 : decode cX3_neighboursOf 35 = .ok (.iload 4, 2) := by decide +kernel
theorem dX3_neighboursOf_37 : decode cX3_neighboursOf 37 = .ok (.invokevirtual 33, 3) := by decide +kernel
theorem q_20 : (Jvm.Cond.code ({ cls := "Chipfold$Graph", name := "between", desc := "(II)I" } : Jvm.MethodName) prog_5_method_5_code (4 : Nat) (Option.some Jvm.ClassFile.FieldType.int)) ∈ WG := wg_2 (List.mem_of_getElem? (i := 34) rfl) rfl
theorem q_21 : (Jvm.Cond.selects "Chipfold$Graph" ({ cls := "Chipfold$Graph", name := "between", desc := "(II)I" } : Jvm.MethodName) ({ cls := "Chipfold$Graph", name := "between", desc := "(II)I" } : Jvm.MethodName)) ∈ WG := wg_2 (List.mem_of_getElem? (i := 33) (by decide +kernel)) (by decide +kernel)
theorem q_22 : (Jvm.Cond.methodLink "Chipfold$Graph" (33 : Nat) ({ cls := "Chipfold$Graph", name := "between", desc := "(II)I" } : Jvm.MethodName)) ∈ WG := wg_2 (List.mem_of_getElem? (i := 31) (by decide +kernel)) (by decide +kernel)
theorem q_23 : (Jvm.Cond.instanceMethod ({ cls := "Chipfold$Graph", name := "between", desc := "(II)I" } : Jvm.MethodName)) ∈ WG := wg_2 (List.mem_of_getElem? (i := 32) (by decide +kernel)) (by decide +kernel)
theorem dX3_neighboursOf_40 : decode cX3_neighboursOf 40 = .ok (.ifCond .le 10, 3) := by decide +kernel
theorem dX3_neighboursOf_43 : decode cX3_neighboursOf 43 = .ok (.iload_n 2, 1) := by decide +kernel
theorem dX3_neighboursOf_44 : decode cX3_neighboursOf 44 = .ok (.iconst 1, 1) := by decide +kernel
theorem dX3_neighboursOf_45 : decode cX3_neighboursOf 45 = .ok (.iload 4, 2) := by decide +kernel
theorem dX3_neighboursOf_47 : decode cX3_neighboursOf 47 = .ok (.ishl, 1) := by decide +kernel
theorem dX3_neighboursOf_48 : decode cX3_neighboursOf 48 = .ok (.ior, 1) := by decide +kernel
theorem dX3_neighboursOf_49 : decode cX3_neighboursOf 49 = .ok (.istore_n 2, 1) := by decide +kernel
theorem dX3_isConnected_0 : decode cX3_isConnected 0 = .ok (.aload_n 0, 1) := by decide +kernel
theorem dX3_isConnected_1 : decode cX3_isConnected 1 = .ok (.getfield 18, 3) := by decide +kernel
theorem dX3_isConnected_4 : decode cX3_isConnected 4 = .ok (.iconst 2, 1) := by decide +kernel
theorem dX3_isConnected_5 : decode cX3_isConnected 5 = .ok (.if_icmp .ge 5, 3) := by decide +kernel
theorem dX3_isConnected_10 : decode cX3_isConnected 10 = .ok (.iconst 1, 1) := by decide +kernel
theorem dX3_isConnected_11 : decode cX3_isConnected 11 = .ok (.aload_n 0, 1) := by decide +kernel
theorem dX3_isConnected_12 : decode cX3_isConnected 12 = .ok (.getfield 18, 3) := by decide +kernel
theorem dX3_isConnected_15 : decode cX3_isConnected 15 = .ok (.ishl, 1) := by decide +kernel
theorem dX3_isConnected_16 : decode cX3_isConnected 16 = .ok (.iconst 1, 1) := by decide +kernel
theorem dX3_isConnected_17 : decode cX3_isConnected 17 = .ok (.isub, 1) := by decide +kernel
theorem dX3_isConnected_18 : decode cX3_isConnected 18 = .ok (.istore_n 1, 1) := by decide +kernel
theorem dX3_isConnected_19 : decode cX3_isConnected 19 = .ok (.iconst 1, 1) := by decide +kernel
theorem dX3_isConnected_20 : decode cX3_isConnected 20 = .ok (.istore_n 2, 1) := by decide +kernel
theorem dX3_isConnected_21 : decode cX3_isConnected 21 = .ok (.iconst 1, 1) := by decide +kernel
theorem dX3_isConnected_22 : decode cX3_isConnected 22 = .ok (.istore_n 3, 1) := by decide +kernel
theorem dX3_isConnected_23 : decode cX3_isConnected 23 = .ok (.iload_n 3, 1) := by decide +kernel
theorem dX3_isConnected_24 : decode cX3_isConnected 24 = .ok (.aload_n 0, 1) := by decide +kernel
theorem dX3_isConnected_25 : decode cX3_isConnected 25 = .ok (.getfield 18, 3) := by decide +kernel
theorem dX3_isConnected_28 : decode cX3_isConnected 28 = .ok (.if_icmp .ge 17, 3) := by decide +kernel
theorem dX3_isConnected_45 : decode cX3_isConnected 45 = .ok (.iload_n 2, 1) := by decide +kernel
theorem dX3_isConnected_46 : decode cX3_isConnected 46 = .ok (.iload_n 1, 1) := by decide +kernel
theorem dX3_isConnected_47 : decode cX3_isConnected 47 = .ok (.if_icmp .ne 7, 3) := by decide +kernel
theorem dX3_isConnected_54 : decode cX3_isConnected 54 = .ok (.iconst 0, 1) := by decide +kernel
theorem dX3_isConnected_55 : decode cX3_isConnected 55 = .ok (.ireturn, 1) := by decide +kernel
theorem dX3_isConnected_50 : decode cX3_isConnected 50 = .ok (.iconst 1, 1) := by decide +kernel
theorem dX3_isConnected_51 : decode cX3_isConnected 51 = .ok (.goto 4, 3) := by decide +kernel
theorem dX3_isConnected_31 : decode cX3_isConnected 31 = .ok (.iload_n 2, 1) := by decide +kernel
theorem dX3_isConnected_32 : decode cX3_isConnected 32 = .ok (.aload_n 0, 1) := by decide +kernel
theorem dX3_isConnected_33 : decode cX3_isConnected 33 = .ok (.iload_n 2, 1) := by decide +kernel
theorem dX3_isConnected_34 : decode cX3_isConnected 34 = .ok (.invokevirtual 29, 3) := by decide +kernel
theorem q_24 : (Jvm.Cond.code ({ cls := "Chipfold$Graph", name := "neighboursOf", desc := "(I)I" } : Jvm.MethodName) prog_5_method_16_code (5 : Nat) (Option.some Jvm.ClassFile.FieldType.int)) ∈ WG := wg_2 (List.mem_of_getElem? (i := 30) rfl) rfl
theorem q_25 : (Jvm.Cond.selects "Chipfold$Graph" ({ cls := "Chipfold$Graph", name := "neighboursOf", desc := "(I)I" } : Jvm.MethodName) ({ cls := "Chipfold$Graph", name := "neighboursOf", desc := "(I)I" } : Jvm.MethodName)) ∈ WG := wg_0 (by decide +kernel) (by decide +kernel)
theorem q_26 : (Jvm.Cond.methodLink "Chipfold$Graph" (29 : Nat) ({ cls := "Chipfold$Graph", name := "neighboursOf", desc := "(I)I" } : Jvm.MethodName)) ∈ WG := wg_2 (List.mem_of_getElem? (i := 27) (by decide +kernel)) (by decide +kernel)
theorem q_27 : (Jvm.Cond.instanceMethod ({ cls := "Chipfold$Graph", name := "neighboursOf", desc := "(I)I" } : Jvm.MethodName)) ∈ WG := wg_2 (List.mem_of_getElem? (i := 29) (by decide +kernel)) (by decide +kernel)
theorem dX3_isConnected_37 : decode cX3_isConnected 37 = .ok (.ior, 1) := by decide +kernel
theorem dX3_isConnected_38 : decode cX3_isConnected 38 = .ok (.istore_n 2, 1) := by decide +kernel
theorem dX3_isConnected_39 : decode cX3_isConnected 39 = .ok (.iinc 3 1, 3) := by decide +kernel
theorem dX3_isConnected_42 : decode cX3_isConnected 42 = .ok (.goto (-19), 3) := by decide +kernel
theorem dX3_isConnected_8 : decode cX3_isConnected 8 = .ok (.iconst 0, 1) := by decide +kernel
theorem dX3_isConnected_9 : decode cX3_isConnected 9 = .ok (.ireturn, 1) := by decide +kernel
set_option maxRecDepth 100000 in
set_option maxHeartbeats 400000 in
theorem c_X3_init {l : Launch} {D : va_G} {k : Nat → ClassId} (h : Nat)  : CM l D k yX3_init cX3_init 1 none  1 12 [.ref h] [(h, .inr (7, [.null, .null, .int 0, .int 0]))] (fun rv9 w9 => rv9 = none ∧ ∃ (jj : Nat) (dd : Nat), w9 = [(h, .inr (7, [.ref jj, .ref dd, .int (nI 0), .int (nI 0)])), (jj, aI k 36 (fun _ => 0)), (dd, aI k 6 (fun _ => 0))]) 2 42 2 := by
  refine CM.of (lv0 := [(0, .ref h)]) (by decide +kernel) (Nat.le_of_ble_eq_true rfl) rfl ?_
  intro p e s m below meth c C hr hlk hin had
  refine g_aload_n (pc := 0) C 0 rfl rfl dX3_init_0 ?_
  refine g_obj (pc := 1) C q_10 q_2 q_3 (Nat.le_of_ble_eq_true rfl) (Nat.le_of_ble_eq_true rfl) dX3_init_1 ?_
  refine g_aload_n (pc := 4) C 0 rfl rfl dX3_init_4 ?_
  refine g_bipush (pc := 5) (v := 36) C (by decide) dX3_init_5 ?_
  refine g_newI (pc := 7) (cells := 0) (slots := 0) (g := 0) C 36 q_4 (by decide) (by decide) (Nat.le_of_ble_eq_true rfl) (Nat.le_of_ble_eq_true rfl) (Nat.le_of_ble_eq_true rfl) dX3_init_7 (fun q1 => ?_)
  refine G.eqw (ws' := [(h, .inr (7, [.null, .null, .int 0, .int 0])), (q1, aI k 36 (fun _ => 0))]) rfl ?_
  refine g_putF (pc := 9) C (T := TX3) inX3 0 rfl rfl 0 (by decide) q_11 rfl tyX3 tyX3_ok nmX3 rfl hin rfl [(h, .inr (7, [.ref q1, .null, .int 0, .int 0])), (q1, aI k 36 (fun _ => 0))] (tyX3_ok 0 (by decide)) rfl rfl (Nat.le_of_ble_eq_true rfl) rfl dX3_init_9 ?_
  refine g_aload_n (pc := 12) C 0 rfl rfl dX3_init_12 ?_
  refine g_bipush (pc := 13) (v := 6) C (by decide) dX3_init_13 ?_
  refine g_newI (pc := 15) (cells := 1) (slots := 36) (g := 1) C 6 q_4 (by decide) (by decide) (Nat.le_of_ble_eq_true rfl) (Nat.le_of_ble_eq_true rfl) (Nat.le_of_ble_eq_true rfl) dX3_init_15 (fun q2 => ?_)
  refine G.eqw (ws' := [(h, .inr (7, [.ref q1, .null, .int 0, .int 0])), (q1, aI k 36 (fun _ => 0)), (q2, aI k 6 (fun _ => 0))]) rfl ?_
  refine g_putF (pc := 17) C (T := TX3) inX3 0 rfl rfl 1 (by decide) q_12 rfl tyX3 tyX3_ok nmX3 rfl hin rfl [(h, .inr (7, [.ref q1, .ref q2, .int 0, .int 0])), (q1, aI k 36 (fun _ => 0)), (q2, aI k 6 (fun _ => 0))] (tyX3_ok 1 (by decide)) rfl rfl (Nat.le_of_ble_eq_true rfl) rfl dX3_init_17 ?_
  refine g_aload_n (pc := 20) C 0 rfl rfl dX3_init_20 ?_
  refine g_iconst (pc := 21) (v := 0) C (by decide) dX3_init_21 ?_
  refine g_put (pc := 22) C (T := TX3) inX3 0 rfl rfl 2 (by decide) q_13 rfl tyX3 tyX3_ok nmX3 rfl [(h, .inr (7, [.ref q1, .ref q2, .int 0, .int 0])), (q1, aI k 36 (fun _ => 0)), (q2, aI k 6 (fun _ => 0))] (tyX3_ok 2 (by decide)) rfl (by rfl) (Nat.le_of_ble_eq_true rfl) rfl dX3_init_22 ?_
  refine g_aload_n (pc := 25) C 0 rfl rfl dX3_init_25 ?_
  refine g_iconst (pc := 26) (v := 0) C (by decide) dX3_init_26 ?_
  refine g_put (pc := 27) C (T := TX3) inX3 0 rfl rfl 3 (by decide) q_14 rfl tyX3 tyX3_ok nmX3 rfl [(h, .inr (7, [.ref q1, .ref q2, .int 0, .int 0])), (q1, aI k 36 (fun _ => 0)), (q2, aI k 6 (fun _ => 0))] (tyX3_ok 3 (by decide)) rfl (by rfl) (Nat.le_of_ble_eq_true rfl) rfl dX3_init_27 ?_
  refine G.eqw (ws' := [(h, .inr (7, [.ref q1, .ref q2, .int (nI 0), .int 0])), (q1, aI k 36 (fun _ => 0)), (q2, aI k 6 (fun _ => 0))]) (congrArg (β := va_W) (fun z9 => [(h, .inr (7, [.ref q1, .ref q2, .int z9, .int 0])), (q1, aI k 36 (fun _ => 0)), (q2, aI k 6 (fun _ => 0))]) (show (0 : Int32) = (nI 0) from by first | rfl | simp_all)) ?_
  refine G.eqw (ws' := [(h, .inr (7, [.ref q1, .ref q2, .int (nI 0), .int (nI 0)])), (q1, aI k 36 (fun _ => 0)), (q2, aI k 6 (fun _ => 0))]) (congrArg (β := va_W) (fun z9 => [(h, .inr (7, [.ref q1, .ref q2, .int (nI 0), .int z9])), (q1, aI k 36 (fun _ => 0)), (q2, aI k 6 (fun _ => 0))]) (show (0 : Int32) = (nI 0) from by first | rfl | simp_all)) ?_
  exact g_vret (pc := 30) C hr hlk (by first | decide | omega) (by first | decide | omega) (by first | decide | omega) dX3_init_30 ⟨rfl, q1, q2, rfl⟩
set_option maxRecDepth 100000 in
set_option maxHeartbeats 400000 in
theorem c_X3_size {l : Launch} {D : va_G} {k : Nat → ClassId} (h : Nat) (jj : Nat) (dd : Nat) (n : Nat) (z : Nat) (fj : Nat → Int32) (fd : Nat → Int32)  : CM l D k yX3_size cX3_size 1 (some .int)  0 0 [.ref h] [(h, .inr (7, [.ref jj, .ref dd, .int (nI n), .int (nI z)])), (jj, aI k 36 fj), (dd, aI k 6 fd)] (is1 (some (.int (nI n))) [(h, .inr (7, [.ref jj, .ref dd, .int (nI n), .int (nI z)])), (jj, aI k 36 fj), (dd, aI k 6 fd)]) 0 0 0 := by
  refine CM.of (lv0 := [(0, .ref h)]) (by decide +kernel) (Nat.le_of_ble_eq_true rfl) rfl ?_
  intro p e s m below meth c C hr hlk hin had
  refine g_aload_n (pc := 0) C 0 rfl rfl dX3_size_0 ?_
  refine g_get (pc := 1) C (T := TX3) inX3 0 rfl rfl 2 (by decide) q_13 rfl rfl dX3_size_1 ?_
  exact g_iret (pc := 4) C hr hlk (by first | decide | omega) (by first | decide | omega) (by first | decide | omega) dX3_size_4 ⟨rfl, rfl⟩
set_option maxRecDepth 100000 in
set_option maxHeartbeats 400000 in
theorem c_X3_sinkVertex {l : Launch} {D : va_G} {k : Nat → ClassId} (h : Nat) (jj : Nat) (dd : Nat) (n : Nat) (z : Nat) (fj : Nat → Int32) (fd : Nat → Int32)  : CM l D k yX3_sinkVertex cX3_sinkVertex 1 (some .int)  0 0 [.ref h] [(h, .inr (7, [.ref jj, .ref dd, .int (nI n), .int (nI z)])), (jj, aI k 36 fj), (dd, aI k 6 fd)] (is1 (some (.int (nI z))) [(h, .inr (7, [.ref jj, .ref dd, .int (nI n), .int (nI z)])), (jj, aI k 36 fj), (dd, aI k 6 fd)]) 0 0 0 := by
  refine CM.of (lv0 := [(0, .ref h)]) (by decide +kernel) (Nat.le_of_ble_eq_true rfl) rfl ?_
  intro p e s m below meth c C hr hlk hin had
  refine g_aload_n (pc := 0) C 0 rfl rfl dX3_sinkVertex_0 ?_
  refine g_get (pc := 1) C (T := TX3) inX3 0 rfl rfl 3 (by decide) q_14 rfl rfl dX3_sinkVertex_1 ?_
  exact g_iret (pc := 4) C hr hlk (by first | decide | omega) (by first | decide | omega) (by first | decide | omega) dX3_sinkVertex_4 ⟨rfl, rfl⟩
def gHas (n : Nat) (v : Int32) : Bool := decide (¬ v < 0 ∧ ¬ nI n ≤ v)
set_option maxRecDepth 100000 in
set_option maxHeartbeats 400000 in
theorem c_X3_has {l : Launch} {D : va_G} {k : Nat → ClassId} (h : Nat) (jj : Nat) (dd : Nat) (n : Nat) (z : Nat) (fj : Nat → Int32) (fd : Nat → Int32) (v : Int32)  : CM l D k yX3_has cX3_has 2 (some .boolean)  0 0 [.ref h, .int v] [(h, .inr (7, [.ref jj, .ref dd, .int (nI n), .int (nI z)])), (jj, aI k 36 fj), (dd, aI k 6 fd)] (is1 (some (.int (bI (gHas n v)))) [(h, .inr (7, [.ref jj, .ref dd, .int (nI n), .int (nI z)])), (jj, aI k 36 fj), (dd, aI k 6 fd)]) 0 0 0 := by
  refine CM.of (lv0 := [(0, .ref h), (1, .int v)]) (by decide +kernel) (Nat.le_of_ble_eq_true rfl) rfl ?_
  intro p e s m below meth c C hr hlk hin had
  refine g_iload_n (pc := 0) C 1 rfl rfl dX3_has_0 ?_
  refine g_if_lt (pc := 1) C 16 (by decide) dX3_has_1 (fun c_1 => ?_) (fun c_1 => ?_)
  · refine g_iconst (pc := 16) (v := 0) C (by decide) dX3_has_16 ?_
    refine G.eqs (st' := [.int (bI (gHas n v))]) (congrArg (fun z9 => [Value.int z9]) (show (0 : Int32) = (bI (gHas n v)) from by simp [gHas, bI, *])) ?_
    exact g_zret (pc := 17) C hr (by first | rfl | exact bI_nar _) hlk (by first | decide | omega) (by first | decide | omega) (by first | decide | omega) dX3_has_17 ⟨rfl, rfl⟩
  · refine g_iload_n (pc := 4) C 1 rfl rfl dX3_has_4 ?_
    refine g_aload_n (pc := 5) C 0 rfl rfl dX3_has_5 ?_
    refine g_get (pc := 6) C (T := TX3) inX3 0 rfl rfl 2 (by decide) q_13 rfl rfl dX3_has_6 ?_
    refine g_icmp_ge (pc := 9) C 16 (by decide) dX3_has_9 (fun c_9 => ?_) (fun c_9 => ?_)
    · refine g_iconst (pc := 16) (v := 0) C (by decide) dX3_has_16 ?_
      refine G.eqs (st' := [.int (bI (gHas n v))]) (congrArg (fun z9 => [Value.int z9]) (show (0 : Int32) = (bI (gHas n v)) from by simp [gHas, bI, *])) ?_
      exact g_zret (pc := 17) C hr (by first | rfl | exact bI_nar _) hlk (by first | decide | omega) (by first | decide | omega) (by first | decide | omega) dX3_has_17 ⟨rfl, rfl⟩
    · refine g_iconst (pc := 12) (v := 1) C (by decide) dX3_has_12 ?_
      refine g_goto (pc := 13) C 17 (by decide) dX3_has_13 ?_
      refine G.eqs (st' := [.int (bI (gHas n v))]) (congrArg (fun z9 => [Value.int z9]) (show (1 : Int32) = (bI (gHas n v)) from by simp [gHas, bI, *])) ?_
      exact g_zret (pc := 17) C hr (by first | rfl | exact bI_nar _) hlk (by first | decide | omega) (by first | decide | omega) (by first | decide | omega) dX3_has_17 ⟨rfl, rfl⟩
set_option maxRecDepth 100000 in
set_option maxHeartbeats 400000 in
theorem c_X3_grow {l : Launch} {D : va_G} {k : Nat → ClassId} (h : Nat) (jj : Nat) (dd : Nat) (n : Nat) (z : Nat) (fj : Nat → Int32) (fd : Nat → Int32)  : CM l D k yX3_grow cX3_grow 2 (some .int)  0 0 [.ref h] [(h, .inr (7, [.ref jj, .ref dd, .int (nI n), .int (nI z)])), (jj, aI k 36 fj), (dd, aI k 6 fd)] (is1 (some (.int (nI n))) [(h, .inr (7, [.ref jj, .ref dd, .int (nI (n + 1)), .int (nI z)])), (jj, aI k 36 fj), (dd, aI k 6 fd)]) 0 0 0 := by
  refine CM.of (lv0 := [(0, .ref h)]) (by decide +kernel) (Nat.le_of_ble_eq_true rfl) rfl ?_
  intro p e s m below meth c C hr hlk hin had
  refine g_aload_n (pc := 0) C 0 rfl rfl dX3_grow_0 ?_
  refine g_get (pc := 1) C (T := TX3) inX3 0 rfl rfl 2 (by decide) q_13 rfl rfl dX3_grow_1 ?_
  refine g_istore_n (pc := 4) C [(1, .int (nI n)), (0, .ref h)] rfl dX3_grow_4 (by decide) rfl ?_
  refine g_aload_n (pc := 5) C 1 rfl rfl dX3_grow_5 ?_
  refine g_dup (pc := 6) C rfl dX3_grow_6 ?_
  refine g_get (pc := 7) C (T := TX3) inX3 0 rfl rfl 2 (by decide) q_13 rfl rfl dX3_grow_7 ?_
  refine g_iconst (pc := 10) (v := 1) C (by decide) dX3_grow_10 ?_
  refine g_iadd (pc := 11) C dX3_grow_11 ?_
  refine G.eqs (st' := [.int (nI (n + 1)), .ref h]) (congrArg (β := List Value) (fun z9 => [.int z9, .ref h]) (show (((nI n) + 1) : Int32) = (nI (n + 1)) from nI_1 n)) ?_
  refine g_put (pc := 12) C (T := TX3) inX3 0 rfl rfl 2 (by decide) q_13 rfl tyX3 tyX3_ok nmX3 rfl [(h, .inr (7, [.ref jj, .ref dd, .int (nI (n + 1)), .int (nI z)])), (jj, aI k 36 fj), (dd, aI k 6 fd)] (tyX3_ok 2 (by decide)) rfl (by rfl) (Nat.le_of_ble_eq_true rfl) rfl dX3_grow_12 ?_
  refine g_iload_n (pc := 15) C 0 rfl rfl dX3_grow_15 ?_
  exact g_iret (pc := 16) C hr hlk (by first | decide | omega) (by first | decide | omega) (by first | decide | omega) dX3_grow_16 ⟨rfl, rfl⟩
set_option maxRecDepth 100000 in
set_option maxHeartbeats 400000 in
theorem c_X3_isSink {l : Launch} {D : va_G} {k : Nat → ClassId} (h : Nat) (jj : Nat) (dd : Nat) (n : Nat) (z : Nat) (fj : Nat → Int32) (fd : Nat → Int32) (v : Nat) (hv : v < 2 ^ 31) (hz : z < 2 ^ 31) : CM l D k yX3_isSink cX3_isSink 2 (some .boolean)  0 0 [.ref h, .int (nI v)] [(h, .inr (7, [.ref jj, .ref dd, .int (nI n), .int (nI z)])), (jj, aI k 36 fj), (dd, aI k 6 fd)] (is1 (some (.int (bI (decide (v = z))))) [(h, .inr (7, [.ref jj, .ref dd, .int (nI n), .int (nI z)])), (jj, aI k 36 fj), (dd, aI k 6 fd)]) 0 0 0 := by
  refine CM.of (lv0 := [(0, .ref h), (1, .int (nI v))]) (by decide +kernel) (Nat.le_of_ble_eq_true rfl) rfl ?_
  intro p e s m below meth c C hr hlk hin had
  refine g_iload_n (pc := 0) C 1 rfl rfl dX3_isSink_0 ?_
  refine g_aload_n (pc := 1) C 0 rfl rfl dX3_isSink_1 ?_
  refine g_get (pc := 2) C (T := TX3) inX3 0 rfl rfl 3 (by decide) q_14 rfl rfl dX3_isSink_2 ?_
  refine g_icmp_ne (pc := 5) C 12 (by decide) dX3_isSink_5 (fun c_5 => ?_) (fun c_5 => ?_)
  · refine g_iconst (pc := 12) (v := 0) C (by decide) dX3_isSink_12 ?_
    refine G.eqs (st' := [.int (bI (decide (v = z)))]) (congrArg (fun z9 => [Value.int z9]) (show (0 : Int32) = (bI (decide (v = z))) from by first | (rw [nI_eq hv hz] at c_5; simp [bI, c_5]) | (simp [bI, c_5]))) ?_
    exact g_zret (pc := 13) C hr (by first | rfl | exact bI_nar _) hlk (by first | decide | omega) (by first | decide | omega) (by first | decide | omega) dX3_isSink_13 ⟨rfl, rfl⟩
  · refine g_iconst (pc := 8) (v := 1) C (by decide) dX3_isSink_8 ?_
    refine g_goto (pc := 9) C 13 (by decide) dX3_isSink_9 ?_
    refine G.eqs (st' := [.int (bI (decide (v = z)))]) (congrArg (fun z9 => [Value.int z9]) (show (1 : Int32) = (bI (decide (v = z))) from by first | (rw [nI_eq hv hz] at c_5; simp [bI, c_5]) | (simp [bI, c_5]))) ?_
    exact g_zret (pc := 13) C hr (by first | rfl | exact bI_nar _) hlk (by first | decide | omega) (by first | decide | omega) (by first | decide | omega) dX3_isSink_13 ⟨rfl, rfl⟩
set_option maxRecDepth 100000 in
set_option maxHeartbeats 400000 in
theorem c_X3_moveSink {l : Launch} {D : va_G} {k : Nat → ClassId} (h : Nat) (jj : Nat) (dd : Nat) (n : Nat) (z : Nat) (fj : Nat → Int32) (fd : Nat → Int32) (v : Nat)  : CM l D k yX3_moveSink cX3_moveSink 2 none  0 0 [.ref h, .int (nI v)] [(h, .inr (7, [.ref jj, .ref dd, .int (nI n), .int (nI z)])), (jj, aI k 36 fj), (dd, aI k 6 fd)] (is1 none [(h, .inr (7, [.ref jj, .ref dd, .int (nI n), .int (nI v)])), (jj, aI k 36 fj), (dd, aI k 6 fd)]) 0 0 0 := by
  refine CM.of (lv0 := [(0, .ref h), (1, .int (nI v))]) (by decide +kernel) (Nat.le_of_ble_eq_true rfl) rfl ?_
  intro p e s m below meth c C hr hlk hin had
  refine g_aload_n (pc := 0) C 0 rfl rfl dX3_moveSink_0 ?_
  refine g_iload_n (pc := 1) C 1 rfl rfl dX3_moveSink_1 ?_
  refine g_put (pc := 2) C (T := TX3) inX3 0 rfl rfl 3 (by decide) q_14 rfl tyX3 tyX3_ok nmX3 rfl [(h, .inr (7, [.ref jj, .ref dd, .int (nI n), .int (nI v)])), (jj, aI k 36 fj), (dd, aI k 6 fd)] (tyX3_ok 3 (by decide)) rfl (by rfl) (Nat.le_of_ble_eq_true rfl) rfl dX3_moveSink_2 ?_
  exact g_vret (pc := 5) C hr hlk (by first | decide | omega) (by first | decide | omega) (by first | decide | omega) dX3_moveSink_5 ⟨rfl, rfl⟩
set_option maxRecDepth 100000 in
set_option maxHeartbeats 400000 in
theorem c_X3_between {l : Launch} {D : va_G} {k : Nat → ClassId} (h : Nat) (jj : Nat) (dd : Nat) (n : Nat) (z : Nat) (fj : Nat → Int32) (fd : Nat → Int32) (v : Nat) (w : Nat) (hn : n ≤ 6) (hv : v < n) (hw : w < n) : CM l D k yX3_between cX3_between 4 (some .int)  0 0 [.ref h, .int (nI v), .int (nI w)] [(h, .inr (7, [.ref jj, .ref dd, .int (nI n), .int (nI z)])), (jj, aI k 36 fj), (dd, aI k 6 fd)] (is1 (some (.int (fj (v * 6 + w)))) [(h, .inr (7, [.ref jj, .ref dd, .int (nI n), .int (nI z)])), (jj, aI k 36 fj), (dd, aI k 6 fd)]) 0 0 0 := by
  refine CM.of (lv0 := [(0, .ref h), (1, .int (nI v)), (2, .int (nI w))]) (by decide +kernel) (Nat.le_of_ble_eq_true rfl) rfl ?_
  intro p e s m below meth c C hr hlk hin had
  refine g_iload_n (pc := 0) C 1 rfl rfl dX3_between_0 ?_
  refine g_if_lt (pc := 1) C 24 (by decide) dX3_between_1 (fun c_1 => ?_) (fun c_1 => ?_)
  · exact absurd c_1 (nI_pos (by omega))
  · refine g_iload_n (pc := 4) C 1 rfl rfl dX3_between_4 ?_
    refine g_aload_n (pc := 5) C 0 rfl rfl dX3_between_5 ?_
    refine g_get (pc := 6) C (T := TX3) inX3 0 rfl rfl 2 (by decide) q_13 rfl rfl dX3_between_6 ?_
    refine g_icmp_ge (pc := 9) C 24 (by decide) dX3_between_9 (fun c_9 => ?_) (fun c_9 => ?_)
    · exact absurd c_9 (nI_ge hv (by omega))
    · refine g_iload_n (pc := 12) C 2 rfl rfl dX3_between_12 ?_
      refine g_if_lt (pc := 13) C 24 (by decide) dX3_between_13 (fun c_13 => ?_) (fun c_13 => ?_)
      · exact absurd c_13 (nI_pos (by omega))
      · refine g_iload_n (pc := 16) C 2 rfl rfl dX3_between_16 ?_
        refine g_aload_n (pc := 17) C 0 rfl rfl dX3_between_17 ?_
        refine g_get (pc := 18) C (T := TX3) inX3 0 rfl rfl 2 (by decide) q_13 rfl rfl dX3_between_18 ?_
        refine g_icmp_lt (pc := 21) C 26 (by decide) dX3_between_21 (fun c_21 => ?_) (fun c_21 => ?_)
        · refine g_iload_n (pc := 26) C 1 rfl rfl dX3_between_26 ?_
          refine g_bipush (pc := 27) (v := 6) C (by decide) dX3_between_27 ?_
          refine g_imul (pc := 29) C dX3_between_29 ?_
          refine g_iload_n (pc := 30) C 2 rfl rfl dX3_between_30 ?_
          refine g_iadd (pc := 31) C dX3_between_31 ?_
          refine G.eqs (st' := [.int (nI (v * 6 + w))]) (congrArg (β := List Value) (fun z9 => [.int z9]) (show ((((nI v) * 6) + (nI w)) : Int32) = (nI (v * 6 + w)) from by rw [show (6 : Int32) = nI 6 from rfl, pk_mul, nI_add])) ?_
          refine g_istore_n (pc := 32) C [(3, .int (nI (v * 6 + w))), (0, .ref h), (1, .int (nI v)), (2, .int (nI w))] rfl dX3_between_32 (by decide) rfl ?_
          refine g_iload_n (pc := 33) C 0 rfl rfl dX3_between_33 ?_
          refine g_if_lt (pc := 34) C 55 (by decide) dX3_between_34 (fun c_34 => ?_) (fun c_34 => ?_)
          · exact absurd c_34 (nI_pos (by omega))
          · refine g_iload_n (pc := 37) C 0 rfl rfl dX3_between_37 ?_
            refine g_aload_n (pc := 38) C 1 rfl rfl dX3_between_38 ?_
            refine g_get (pc := 39) C (T := TX3) inX3 0 rfl rfl 0 (by decide) q_11 rfl rfl dX3_between_39 ?_
            refine g_alen (pc := 42) C 1 rfl (t0 := 0) rfl (v := (nI 36)) rfl dX3_between_42 ?_
            refine g_icmp_ge (pc := 43) C 55 (by decide) dX3_between_43 (fun c_43 => ?_) (fun c_43 => ?_)
            · exact absurd c_43 (nI_ge (show v * 6 + w < 36 by omega) (by omega))
            · refine g_aload_n (pc := 46) C 1 rfl rfl dX3_between_46 ?_
              refine g_get (pc := 47) C (T := TX3) inX3 0 rfl rfl 0 (by decide) q_11 rfl rfl dX3_between_47 ?_
              refine g_iload_n (pc := 50) C 0 rfl rfl dX3_between_50 ?_
              refine g_iald_n (pc := 51) C (j := (v * 6 + w)) 1 rfl (by omega) (by first | decide | omega) rfl dX3_between_51 ?_
              refine g_goto (pc := 52) C 56 (by decide) dX3_between_52 ?_
              exact g_iret (pc := 56) C hr hlk (by first | decide | omega) (by first | decide | omega) (by first | decide | omega) dX3_between_56 ⟨rfl, rfl⟩
        · exact absurd (nI_lt hw (by omega)) c_21
set_option maxRecDepth 100000 in
set_option maxHeartbeats 400000 in
theorem c_X3_degreeOf {l : Launch} {D : va_G} {k : Nat → ClassId} (h : Nat) (jj : Nat) (dd : Nat) (n : Nat) (z : Nat) (fj : Nat → Int32) (fd : Nat → Int32) (v : Nat) (hv : v < 6) : CM l D k yX3_degreeOf cX3_degreeOf 2 (some .int)  0 0 [.ref h, .int (nI v)] [(h, .inr (7, [.ref jj, .ref dd, .int (nI n), .int (nI z)])), (jj, aI k 36 fj), (dd, aI k 6 fd)] (is1 (some (.int (fd v))) [(h, .inr (7, [.ref jj, .ref dd, .int (nI n), .int (nI z)])), (jj, aI k 36 fj), (dd, aI k 6 fd)]) 0 0 0 := by
  refine CM.of (lv0 := [(0, .ref h), (1, .int (nI v))]) (by decide +kernel) (Nat.le_of_ble_eq_true rfl) rfl ?_
  intro p e s m below meth c C hr hlk hin had
  refine g_iload_n (pc := 0) C 1 rfl rfl dX3_degreeOf_0 ?_
  refine g_if_lt (pc := 1) C 22 (by decide) dX3_degreeOf_1 (fun c_1 => ?_) (fun c_1 => ?_)
  · exact absurd c_1 (nI_pos (by omega))
  · refine g_iload_n (pc := 4) C 1 rfl rfl dX3_degreeOf_4 ?_
    refine g_aload_n (pc := 5) C 0 rfl rfl dX3_degreeOf_5 ?_
    refine g_get (pc := 6) C (T := TX3) inX3 0 rfl rfl 1 (by decide) q_12 rfl rfl dX3_degreeOf_6 ?_
    refine g_alen (pc := 9) C 2 rfl (t0 := 0) rfl (v := (nI 6)) rfl dX3_degreeOf_9 ?_
    refine g_icmp_ge (pc := 10) C 22 (by decide) dX3_degreeOf_10 (fun c_10 => ?_) (fun c_10 => ?_)
    · exact absurd c_10 (nI_ge hv (by omega))
    · refine g_aload_n (pc := 13) C 0 rfl rfl dX3_degreeOf_13 ?_
      refine g_get (pc := 14) C (T := TX3) inX3 0 rfl rfl 1 (by decide) q_12 rfl rfl dX3_degreeOf_14 ?_
      refine g_iload_n (pc := 17) C 1 rfl rfl dX3_degreeOf_17 ?_
      refine g_iald_n (pc := 18) C (j := v) 2 rfl (by omega) (by first | decide | omega) rfl dX3_degreeOf_18 ?_
      refine g_goto (pc := 19) C 23 (by decide) dX3_degreeOf_19 ?_
      exact g_iret (pc := 23) C hr hlk (by first | decide | omega) (by first | decide | omega) (by first | decide | omega) dX3_degreeOf_23 ⟨rfl, rfl⟩
set_option maxRecDepth 100000 in
set_option maxHeartbeats 400000 in
theorem c_X3_joinOneWay {l : Launch} {D : va_G} {k : Nat → ClassId} (h : Nat) (jj : Nat) (dd : Nat) (n : Nat) (z : Nat) (fj : Nat → Int32) (fd : Nat → Int32) (v : Nat) (w : Nat) (x : Int32) (hn : n ≤ 6) (hv : v < n) (hw : w < n) : CM l D k yX3_joinOneWay cX3_joinOneWay 5 none  0 0 [.ref h, .int (nI v), .int (nI w), .int x] [(h, .inr (7, [.ref jj, .ref dd, .int (nI n), .int (nI z)])), (jj, aI k 36 fj), (dd, aI k 6 fd)] (is1 none [(h, .inr (7, [.ref jj, .ref dd, .int (nI n), .int (nI z)])), (jj, aI k 36 (upd fj (v * 6 + w) x)), (dd, aI k 6 (upd fd v (fd v + (x - fj (v * 6 + w)))))]) 0 0 0 := by
  refine CM.of (lv0 := [(0, .ref h), (1, .int (nI v)), (2, .int (nI w)), (3, .int x)]) (by decide +kernel) (Nat.le_of_ble_eq_true rfl) rfl ?_
  intro p e s m below meth c C hr hlk hin had
  refine g_iload_n (pc := 0) C 1 rfl rfl dX3_joinOneWay_0 ?_
  refine g_if_lt (pc := 1) C 24 (by decide) dX3_joinOneWay_1 (fun c_1 => ?_) (fun c_1 => ?_)
  · exact absurd c_1 (nI_pos (by omega))
  · refine g_iload_n (pc := 4) C 1 rfl rfl dX3_joinOneWay_4 ?_
    refine g_aload_n (pc := 5) C 0 rfl rfl dX3_joinOneWay_5 ?_
    refine g_get (pc := 6) C (T := TX3) inX3 0 rfl rfl 2 (by decide) q_13 rfl rfl dX3_joinOneWay_6 ?_
    refine g_icmp_ge (pc := 9) C 24 (by decide) dX3_joinOneWay_9 (fun c_9 => ?_) (fun c_9 => ?_)
    · exact absurd c_9 (nI_ge hv (by omega))
    · refine g_iload_n (pc := 12) C 2 rfl rfl dX3_joinOneWay_12 ?_
      refine g_if_lt (pc := 13) C 24 (by decide) dX3_joinOneWay_13 (fun c_13 => ?_) (fun c_13 => ?_)
      · exact absurd c_13 (nI_pos (by omega))
      · refine g_iload_n (pc := 16) C 2 rfl rfl dX3_joinOneWay_16 ?_
        refine g_aload_n (pc := 17) C 0 rfl rfl dX3_joinOneWay_17 ?_
        refine g_get (pc := 18) C (T := TX3) inX3 0 rfl rfl 2 (by decide) q_13 rfl rfl dX3_joinOneWay_18 ?_
        refine g_icmp_lt (pc := 21) C 25 (by decide) dX3_joinOneWay_21 (fun c_21 => ?_) (fun c_21 => ?_)
        · refine g_iload_n (pc := 25) C 1 rfl rfl dX3_joinOneWay_25 ?_
          refine g_bipush (pc := 26) (v := 6) C (by decide) dX3_joinOneWay_26 ?_
          refine g_imul (pc := 28) C dX3_joinOneWay_28 ?_
          refine g_iload_n (pc := 29) C 2 rfl rfl dX3_joinOneWay_29 ?_
          refine g_iadd (pc := 30) C dX3_joinOneWay_30 ?_
          refine G.eqs (st' := [.int (nI (v * 6 + w))]) (congrArg (β := List Value) (fun z9 => [.int z9]) (show ((((nI v) * 6) + (nI w)) : Int32) = (nI (v * 6 + w)) from by rw [show (6 : Int32) = nI 6 from rfl, pk_mul, nI_add])) ?_
          refine g_istore (pc := 31) C [(4, .int (nI (v * 6 + w))), (0, .ref h), (1, .int (nI v)), (2, .int (nI w)), (3, .int x)] dX3_joinOneWay_31 (by decide) rfl ?_
          refine g_iload (pc := 33) C 0 rfl dX3_joinOneWay_33 ?_
          refine g_if_lt (pc := 35) C 83 (by decide) dX3_joinOneWay_35 (fun c_35 => ?_) (fun c_35 => ?_)
          · exact absurd c_35 (nI_pos (by omega))
          · refine g_iload (pc := 38) C 0 rfl dX3_joinOneWay_38 ?_
            refine g_aload_n (pc := 40) C 1 rfl rfl dX3_joinOneWay_40 ?_
            refine g_get (pc := 41) C (T := TX3) inX3 0 rfl rfl 0 (by decide) q_11 rfl rfl dX3_joinOneWay_41 ?_
            refine g_alen (pc := 44) C 1 rfl (t0 := 0) rfl (v := (nI 36)) rfl dX3_joinOneWay_44 ?_
            refine g_icmp_ge (pc := 45) C 83 (by decide) dX3_joinOneWay_45 (fun c_45 => ?_) (fun c_45 => ?_)
            · exact absurd c_45 (nI_ge (show v * 6 + w < 36 by omega) (by omega))
            · refine g_iload_n (pc := 48) C 2 rfl rfl dX3_joinOneWay_48 ?_
              refine g_aload_n (pc := 49) C 1 rfl rfl dX3_joinOneWay_49 ?_
              refine g_get (pc := 50) C (T := TX3) inX3 0 rfl rfl 1 (by decide) q_12 rfl rfl dX3_joinOneWay_50 ?_
              refine g_alen (pc := 53) C 2 rfl (t0 := 0) rfl (v := (nI 6)) rfl dX3_joinOneWay_53 ?_
              refine g_icmp_ge (pc := 54) C 83 (by decide) dX3_joinOneWay_54 (fun c_54 => ?_) (fun c_54 => ?_)
              · exact absurd c_54 (nI_ge (show v < 6 by omega) (by omega))
              · refine g_aload_n (pc := 57) C 1 rfl rfl dX3_joinOneWay_57 ?_
                refine g_get (pc := 58) C (T := TX3) inX3 0 rfl rfl 1 (by decide) q_12 rfl rfl dX3_joinOneWay_58 ?_
                refine g_iload_n (pc := 61) C 2 rfl rfl dX3_joinOneWay_61 ?_
                refine g_dup2 (pc := 62) C rfl rfl dX3_joinOneWay_62 ?_
                refine g_iald_n (pc := 63) C (j := v) 2 rfl (by omega) (by first | decide | omega) rfl dX3_joinOneWay_63 ?_
                refine g_iload_n (pc := 64) C 4 rfl rfl dX3_joinOneWay_64 ?_
                refine g_aload_n (pc := 65) C 1 rfl rfl dX3_joinOneWay_65 ?_
                refine g_get (pc := 66) C (T := TX3) inX3 0 rfl rfl 0 (by decide) q_11 rfl rfl dX3_joinOneWay_66 ?_
                refine g_iload (pc := 69) C 0 rfl dX3_joinOneWay_69 ?_
                refine g_iald_n (pc := 71) C (j := (v * 6 + w)) 1 rfl (by omega) (by first | decide | omega) rfl dX3_joinOneWay_71 ?_
                refine g_isub (pc := 72) C dX3_joinOneWay_72 ?_
                refine g_iadd (pc := 73) C dX3_joinOneWay_73 ?_
                refine g_iast_n (pc := 74) C (j := v) 2 [(h, .inr (7, [.ref jj, .ref dd, .int (nI n), .int (nI z)])), (jj, aI k 36 fj), (dd, aI k 6 (upd fd v ((fd v) + (x - (fj (v * 6 + w))))))] rfl (by omega) (by first | decide | omega) rfl rfl dX3_joinOneWay_74 ?_
                refine g_aload_n (pc := 75) C 1 rfl rfl dX3_joinOneWay_75 ?_
                refine g_get (pc := 76) C (T := TX3) inX3 0 rfl rfl 0 (by decide) q_11 rfl rfl dX3_joinOneWay_76 ?_
                refine g_iload (pc := 79) C 0 rfl dX3_joinOneWay_79 ?_
                refine g_iload_n (pc := 81) C 4 rfl rfl dX3_joinOneWay_81 ?_
                refine g_iast_n (pc := 82) C (j := (v * 6 + w)) 1 [(h, .inr (7, [.ref jj, .ref dd, .int (nI n), .int (nI z)])), (jj, aI k 36 (upd fj (v * 6 + w) x)), (dd, aI k 6 (upd fd v ((fd v) + (x - (fj (v * 6 + w))))))] rfl (by omega) (by first | decide | omega) rfl rfl dX3_joinOneWay_82 ?_
                exact g_vret (pc := 83) C hr hlk (by first | decide | omega) (by first | decide | omega) (by first | decide | omega) dX3_joinOneWay_83 ⟨rfl, rfl⟩
        · exact absurd (nI_lt hw (by omega)) c_21
/-- one way, then the other -/
def jnJ (fj : Nat → Int32) (v w : Nat) (x : Int32) : Nat → Int32 := upd (upd fj (v * 6 + w) x) (w * 6 + v) x
def jnD (fj fd : Nat → Int32) (v w : Nat) (x : Int32) : Nat → Int32 := upd (upd fd v (fd v + (x - fj (v * 6 + w)))) w (upd fd v (fd v + (x - fj (v * 6 + w))) w + (x - upd fj (v * 6 + w) x (w * 6 + v)))
set_option maxRecDepth 100000 in
set_option maxHeartbeats 400000 in
theorem c_X3_join {l : Launch} {D : va_G} {k : Nat → ClassId} (h : Nat) (jj : Nat) (dd : Nat) (n : Nat) (z : Nat) (fj : Nat → Int32) (fd : Nat → Int32) (v : Nat) (w : Nat) (x : Int32) (hn : n ≤ 6) (hv : v < n) (hw : w < n) : CM l D k yX3_join cX3_join 4 none  1 24 [.ref h, .int (nI v), .int (nI w), .int x] [(h, .inr (7, [.ref jj, .ref dd, .int (nI n), .int (nI z)])), (jj, aI k 36 fj), (dd, aI k 6 fd)] (is1 none [(h, .inr (7, [.ref jj, .ref dd, .int (nI n), .int (nI z)])), (jj, aI k 36 (jnJ fj v w x)), (dd, aI k 6 (jnD fj fd v w x))]) 0 0 0 := by
  refine CM.of (lv0 := [(0, .ref h), (1, .int (nI v)), (2, .int (nI w)), (3, .int x)]) (by decide +kernel) (Nat.le_of_ble_eq_true rfl) rfl ?_
  intro p e s m below meth c C hr hlk hin had
  refine g_aload_n (pc := 0) C 0 rfl rfl dX3_join_0 ?_
  refine g_iload_n (pc := 1) C 1 rfl rfl dX3_join_1 ?_
  refine g_iload_n (pc := 2) C 2 rfl rfl dX3_join_2 ?_
  refine g_iload_n (pc := 3) C 3 rfl rfl dX3_join_3 ?_
  refine g_callV (pc := 4) (cells := 0) (slots := 0) (g := 0) (As := [.int (nI v), .int (nI w), .int x]) (st := []) (T := TX3) (q0 := 0) C (nA := 3) rfl (c_X3_joinOneWay h jj dd n z fj fd v w x (by first | assumption | decide | omega) (by first | assumption | decide | omega) (by first | assumption | decide | omega)) q_18 q_19 q_17 q_16 q_15 (by decide +kernel) rfl rfl dX3_join_4 ⟨Nat.le_of_ble_eq_true rfl, Nat.le_of_ble_eq_true rfl⟩ [0, 1, 2] [] rfl (wr := []) rfl (by decide) (by decide) (by decide) (Nat.le_of_ble_eq_true rfl) ⟨Nat.le_of_ble_eq_true rfl, Nat.le_of_ble_eq_true rfl⟩ (fun rv w1 h1 => ?_)
  obtain ⟨rfl, rfl⟩ := h1
  refine G.aft [0, 1, 2] (ws' := [(h, .inr (7, [.ref jj, .ref dd, .int (nI n), .int (nI z)])), (jj, aI k 36 (upd fj (v * 6 + w) x)), (dd, aI k 6 (upd fd v (fd v + (x - fj (v * 6 + w)))))]) (st' := []) (cells' := 0) (slots' := 0) (g' := 0) (by decide) rfl rfl rfl rfl rfl ?_
  refine g_aload_n (pc := 7) C 0 rfl rfl dX3_join_7 ?_
  refine g_iload_n (pc := 8) C 2 rfl rfl dX3_join_8 ?_
  refine g_iload_n (pc := 9) C 1 rfl rfl dX3_join_9 ?_
  refine g_iload_n (pc := 10) C 3 rfl rfl dX3_join_10 ?_
  refine g_callV (pc := 11) (cells := 0) (slots := 0) (g := 0) (As := [.int (nI w), .int (nI v), .int x]) (st := []) (T := TX3) (q0 := 0) C (nA := 3) rfl (c_X3_joinOneWay h jj dd n z (upd fj (v * 6 + w) x) (upd fd v (fd v + (x - fj (v * 6 + w)))) w v x (by first | assumption | decide | omega) (by first | assumption | decide | omega) (by first | assumption | decide | omega)) q_18 q_19 q_17 q_16 q_15 (by decide +kernel) rfl rfl dX3_join_11 ⟨Nat.le_of_ble_eq_true rfl, Nat.le_of_ble_eq_true rfl⟩ [0, 1, 2] [] rfl (wr := []) rfl (by decide) (by decide) (by decide) (Nat.le_of_ble_eq_true rfl) ⟨Nat.le_of_ble_eq_true rfl, Nat.le_of_ble_eq_true rfl⟩ (fun rv w1 h1 => ?_)
  obtain ⟨rfl, rfl⟩ := h1
  refine G.aft [0, 1, 2] (ws' := [(h, .inr (7, [.ref jj, .ref dd, .int (nI n), .int (nI z)])), (jj, aI k 36 (upd (upd fj (v * 6 + w) x) (w * 6 + v) x)), (dd, aI k 6 (upd (upd fd v (fd v + (x - fj (v * 6 + w)))) w ((upd fd v (fd v + (x - fj (v * 6 + w)))) w + (x - (upd fj (v * 6 + w) x) (w * 6 + v)))))]) (st' := []) (cells' := 0) (slots' := 0) (g' := 0) (by decide) rfl rfl rfl rfl rfl ?_
  refine G.fn (jnJ fj v w x) 1 [(h, .inr (7, [.ref jj, .ref dd, .int (nI n), .int (nI z)])), (jj, aI k 36 (jnJ fj v w x)), (dd, aI k 6 (upd (upd fd v (fd v + (x - fj (v * 6 + w)))) w ((upd fd v (fd v + (x - fj (v * 6 + w)))) w + (x - (upd fj (v * 6 + w) x) (w * 6 + v)))))] rfl (fun j hj => by rfl) rfl ?_
  refine G.fn (jnD fj fd v w x) 2 [(h, .inr (7, [.ref jj, .ref dd, .int (nI n), .int (nI z)])), (jj, aI k 36 (jnJ fj v w x)), (dd, aI k 6 (jnD fj fd v w x))] rfl (fun j hj => by rfl) rfl ?_
  exact g_vret (pc := 14) C hr hlk (by first | decide | omega) (by first | decide | omega) (by first | decide | omega) dX3_join_14 ⟨rfl, rfl⟩
/-- the neighbours in a row of bits: of v up to w; of all up to v -/
def nbI (fj : Nat → Int32) (S : Int32) (v : Nat) (acc : Int32) : Nat → Int32
  | 0 => acc
  | w + 1 => if ((S >>> (nI v &&& 31)) &&& 1) = 1 ∧ ¬ fj (v * 6 + w) ≤ 0 then nbI fj S v acc w ||| (1 <<< (nI w &&& 31)) else nbI fj S v acc w
def nbO (fj : Nat → Int32) (n : Nat) (S : Int32) : Nat → Int32
  | 0 => 0
  | v + 1 => nbI fj S v (nbO fj n S v) n
set_option maxRecDepth 100000 in
set_option maxHeartbeats 400000 in
theorem c_X3_neighboursOf {l : Launch} {D : va_G} {k : Nat → ClassId} (h : Nat) (jj : Nat) (dd : Nat) (n : Nat) (z : Nat) (fj : Nat → Int32) (fd : Nat → Int32) (S : Int32) (hn : n ≤ 6) : CM l D k yX3_neighboursOf cX3_neighboursOf 5 (some .int)  1 23 [.ref h, .int S] [(h, .inr (7, [.ref jj, .ref dd, .int (nI n), .int (nI z)])), (jj, aI k 36 fj), (dd, aI k 6 fd)] (is1 (some (.int (nbO fj n S n))) [(h, .inr (7, [.ref jj, .ref dd, .int (nI n), .int (nI z)])), (jj, aI k 36 fj), (dd, aI k 6 fd)]) 0 0 0 := by
  refine CM.of (lv0 := [(0, .ref h), (1, .int S)]) (by decide +kernel) (Nat.le_of_ble_eq_true rfl) rfl ?_
  intro p e s m below meth c C hr hlk hin had
  refine g_iconst (pc := 0) (v := 0) C (by decide) dX3_neighboursOf_0 ?_
  refine g_istore_n (pc := 1) C [(2, .int 0), (0, .ref h), (1, .int S)] rfl dX3_neighboursOf_1 (by decide) rfl ?_
  refine g_iconst (pc := 2) (v := 0) C (by decide) dX3_neighboursOf_2 ?_
  refine g_istore_n (pc := 3) C [(3, .int 0), (2, .int 0), (0, .ref h), (1, .int S)] rfl dX3_neighboursOf_3 (by decide) rfl ?_
  have key_4 : ∀ (fuel : Nat) (i : Nat), i ≤ n → n - i < fuel → G p l e { frames := 1, cells := 0, slots := 0, locals := 23 } s m ([.ref h, .int S] : List Value).toArray below meth c D 5 (va_A [(h, .inr (7, [.ref jj, .ref dd, .int (nI n), .int (nI z)])), (jj, aI k 36 fj), (dd, aI k 6 fd)] s.heap.size) (QM below D ([.ref h, .int S] : List Value).toArray s [(h, .inr (7, [.ref jj, .ref dd, .int (nI n), .int (nI z)])), (jj, aI k 36 fj), (dd, aI k 6 fd)] (is1 (some (.int (nbO fj n S n))) [(h, .inr (7, [.ref jj, .ref dd, .int (nI n), .int (nI z)])), (jj, aI k 36 fj), (dd, aI k 6 fd)]) 0 0 0) [(h, .inr (7, [.ref jj, .ref dd, .int (nI n), .int (nI z)])), (jj, aI k 36 fj), (dd, aI k 6 fd)] [(0, .ref h), (1, .int S), (2, .int (nbO fj n S i)), (3, .int (nI i))] 0 0 0 4 [] := by
    intro fuel
    induction fuel with
    | zero => intro i hi hm; exact absurd hm (Nat.not_lt_zero _)
    | succ fuel ih =>
      intro i hi hm
      have ih_4 := ih
      refine g_iload_n (pc := 4) C 3 rfl rfl dX3_neighboursOf_4 ?_
      refine g_aload_n (pc := 5) C 0 rfl rfl dX3_neighboursOf_5 ?_
      refine g_get (pc := 6) C (T := TX3) inX3 0 rfl rfl 2 (by decide) q_13 rfl rfl dX3_neighboursOf_6 ?_
      refine g_icmp_ge (pc := 9) C 62 (by decide) dX3_neighboursOf_9 (fun c_9 => ?_) (fun c_9 => ?_)
      · refine g_iload_n (pc := 62) C 2 rfl rfl dX3_neighboursOf_62 ?_
        refine G.eqs (st' := [.int (nbO fj n S n)]) (congrArg (fun z9 => [Value.int z9]) (show ((nbO fj n S i) : Int32) = (nbO fj n S n) from by { have h3 : i = n := (by { rcases Nat.lt_or_ge i n with q | q; exact absurd c_9 (nI_ge q (by omega)); omega }); rw [h3] })) ?_
        exact g_iret (pc := 63) C hr hlk (by first | decide | omega) (by first | decide | omega) (by first | decide | omega) dX3_neighboursOf_63 ⟨rfl, rfl⟩
      · have hl9 : i < n := by rcases Nat.lt_or_ge i n with q | q; exact q; exact absurd (nI_le q (by omega)) c_9
        refine g_iconst (pc := 12) (v := 0) C (by decide) dX3_neighboursOf_12 ?_
        refine g_istore (pc := 13) C [(4, .int 0), (0, .ref h), (1, .int S), (2, .int (nbO fj n S i)), (3, .int (nI i))] dX3_neighboursOf_13 (by decide) rfl ?_
        have key_15 : ∀ (fuel : Nat) (w : Nat), w ≤ n → n - w < fuel → G p l e { frames := 1, cells := 0, slots := 0, locals := 23 } s m ([.ref h, .int S] : List Value).toArray below meth c D 5 (va_A [(h, .inr (7, [.ref jj, .ref dd, .int (nI n), .int (nI z)])), (jj, aI k 36 fj), (dd, aI k 6 fd)] s.heap.size) (QM below D ([.ref h, .int S] : List Value).toArray s [(h, .inr (7, [.ref jj, .ref dd, .int (nI n), .int (nI z)])), (jj, aI k 36 fj), (dd, aI k 6 fd)] (is1 (some (.int (nbO fj n S n))) [(h, .inr (7, [.ref jj, .ref dd, .int (nI n), .int (nI z)])), (jj, aI k 36 fj), (dd, aI k 6 fd)]) 0 0 0) [(h, .inr (7, [.ref jj, .ref dd, .int (nI n), .int (nI z)])), (jj, aI k 36 fj), (dd, aI k 6 fd)] [(0, .ref h), (1, .int S), (2, .int (nbI fj S i (nbO fj n S i) w)), (3, .int (nI i)), (4, .int (nI w))] 0 0 0 15 [] := by
          intro fuel
          induction fuel with
          | zero => intro w hw hm; exact absurd hm (Nat.not_lt_zero _)
          | succ fuel ih =>
            intro w hw hm
            have ih_15 := ih
            refine g_iload (pc := 15) C 4 rfl dX3_neighboursOf_15 ?_
            refine g_aload_n (pc := 17) C 0 rfl rfl dX3_neighboursOf_17 ?_
            refine g_get (pc := 18) C (T := TX3) inX3 0 rfl rfl 2 (by decide) q_13 rfl rfl dX3_neighboursOf_18 ?_
            refine g_icmp_ge (pc := 21) C 56 (by decide) dX3_neighboursOf_21 (fun c_21 => ?_) (fun c_21 => ?_)
            · refine g_iinc (pc := 56) (n := 1) (v := (nI (i + 1))) C 3 [(3, .int (nI (i + 1))), (0, .ref h), (1, .int S), (2, .int (nbI fj S i (nbO fj n S i) w)), (4, .int (nI w))] rfl (nI_1 i) dX3_neighboursOf_56 (by decide) rfl ?_
              refine g_goto (pc := 59) C 4 (by decide) dX3_neighboursOf_59 ?_
              refine G.loc [1, 2, 3, 0] (lv' := [(0, .ref h), (1, .int S), (2, .int (nbI fj S i (nbO fj n S i) w)), (3, .int (nI (i + 1)))]) rfl ?_
              refine G.eql (lv' := [(0, .ref h), (1, .int S), (2, .int (nbO fj n S (i + 1))), (3, .int (nI (i + 1)))]) (congrArg (β := List (Nat × Value)) (fun z9 => [(0, .ref h), (1, .int S), (2, .int z9), (3, .int (nI (i + 1)))]) (show ((nbI fj S i (nbO fj n S i) w) : Int32) = (nbO fj n S (i + 1)) from by { have h3 : w = n := (by { rcases Nat.lt_or_ge w n with q | q; exact absurd c_21 (nI_ge q (by omega)); omega }); subst h3; rfl })) ?_
              exact ih_4 (i + 1) (by omega) (by omega)
            · have hl21 : w < n := by rcases Nat.lt_or_ge w n with q | q; exact q; exact absurd (nI_le q (by omega)) c_21
              refine g_iload_n (pc := 24) C 1 rfl rfl dX3_neighboursOf_24 ?_
              refine g_iload_n (pc := 25) C 3 rfl rfl dX3_neighboursOf_25 ?_
              refine g_ishr (pc := 26) C dX3_neighboursOf_26 ?_
              refine g_iconst (pc := 27) (v := 1) C (by decide) dX3_neighboursOf_27 ?_
              refine g_iand (pc := 28) C dX3_neighboursOf_28 ?_
              refine g_iconst (pc := 29) (v := 1) C (by decide) dX3_neighboursOf_29 ?_
              refine g_icmp_ne (pc := 30) C 50 (by decide) dX3_neighboursOf_30 (fun c_30 => ?_) (fun c_30 => ?_)
              · refine g_iinc (pc := 50) (n := 1) (v := (nI (w + 1))) C 4 [(4, .int (nI (w + 1))), (0, .ref h), (1, .int S), (2, .int (nbI fj S i (nbO fj n S i) w)), (3, .int (nI i))] rfl (nI_1 w) dX3_neighboursOf_50 (by decide) rfl ?_
                refine g_goto (pc := 53) C 15 (by decide) dX3_neighboursOf_53 ?_
                refine G.loc [1, 2, 3, 4, 0] (lv' := [(0, .ref h), (1, .int S), (2, .int (nbI fj S i (nbO fj n S i) w)), (3, .int (nI i)), (4, .int (nI (w + 1)))]) rfl ?_
                refine G.eql (lv' := [(0, .ref h), (1, .int S), (2, .int (nbI fj S i (nbO fj n S i) (w + 1))), (3, .int (nI i)), (4, .int (nI (w + 1)))]) (congrArg (β := List (Nat × Value)) (fun z9 => [(0, .ref h), (1, .int S), (2, .int z9), (3, .int (nI i)), (4, .int (nI (w + 1)))]) (show ((nbI fj S i (nbO fj n S i) w) : Int32) = (nbI fj S i (nbO fj n S i) (w + 1)) from by simp [nbI, *])) ?_
                exact ih_15 (w + 1) (by omega) (by omega)
              · refine g_aload_n (pc := 33) C 0 rfl rfl dX3_neighboursOf_33 ?_
                refine g_iload_n (pc := 34) C 3 rfl rfl dX3_neighboursOf_34 ?_
                refine g_iload (pc := 35) C 4 rfl dX3_neighboursOf_35 ?_
                refine g_callV (pc := 37) (cells := 0) (slots := 0) (g := 0) (As := [.int (nI i), .int (nI w)]) (st := []) (T := TX3) (q0 := 0) C (nA := 2) rfl (c_X3_between h jj dd n z fj fd i w (by first | assumption | decide | omega) (by first | assumption | decide | omega) (by first | assumption | decide | omega)) q_22 q_23 q_21 q_16 q_20 (by decide +kernel) rfl rfl dX3_neighboursOf_37 ⟨Nat.le_of_ble_eq_true rfl, Nat.le_of_ble_eq_true rfl⟩ [0, 1, 2] [] rfl (wr := []) rfl (by decide) (by decide) (by decide) (Nat.le_of_ble_eq_true rfl) ⟨Nat.le_of_ble_eq_true rfl, Nat.le_of_ble_eq_true rfl⟩ (fun rv w1 h1 => ?_)
                obtain ⟨rfl, rfl⟩ := h1
                refine G.aft [0, 1, 2] (ws' := [(h, .inr (7, [.ref jj, .ref dd, .int (nI n), .int (nI z)])), (jj, aI k 36 fj), (dd, aI k 6 fd)]) (st' := [.int (fj (i * 6 + w))]) (cells' := 0) (slots' := 0) (g' := 0) (by decide) rfl rfl rfl rfl rfl ?_
                refine g_if_le (pc := 40) C 50 (by decide) dX3_neighboursOf_40 (fun c_40 => ?_) (fun c_40 => ?_)
                · refine g_iinc (pc := 50) (n := 1) (v := (nI (w + 1))) C 4 [(4, .int (nI (w + 1))), (0, .ref h), (1, .int S), (2, .int (nbI fj S i (nbO fj n S i) w)), (3, .int (nI i))] rfl (nI_1 w) dX3_neighboursOf_50 (by decide) rfl ?_
                  refine g_goto (pc := 53) C 15 (by decide) dX3_neighboursOf_53 ?_
                  refine G.loc [1, 2, 3, 4, 0] (lv' := [(0, .ref h), (1, .int S), (2, .int (nbI fj S i (nbO fj n S i) w)), (3, .int (nI i)), (4, .int (nI (w + 1)))]) rfl ?_
                  refine G.eql (lv' := [(0, .ref h), (1, .int S), (2, .int (nbI fj S i (nbO fj n S i) (w + 1))), (3, .int (nI i)), (4, .int (nI (w + 1)))]) (congrArg (β := List (Nat × Value)) (fun z9 => [(0, .ref h), (1, .int S), (2, .int z9), (3, .int (nI i)), (4, .int (nI (w + 1)))]) (show ((nbI fj S i (nbO fj n S i) w) : Int32) = (nbI fj S i (nbO fj n S i) (w + 1)) from by simp [nbI, *])) ?_
                  exact ih_15 (w + 1) (by omega) (by omega)
                · refine g_iload_n (pc := 43) C 2 rfl rfl dX3_neighboursOf_43 ?_
                  refine g_iconst (pc := 44) (v := 1) C (by decide) dX3_neighboursOf_44 ?_
                  refine g_iload (pc := 45) C 4 rfl dX3_neighboursOf_45 ?_
                  refine g_ishl (pc := 47) C dX3_neighboursOf_47 ?_
                  refine g_ior (pc := 48) C dX3_neighboursOf_48 ?_
                  refine g_istore_n (pc := 49) C [(2, .int ((nbI fj S i (nbO fj n S i) w) ||| (1 <<< ((nI w) &&& 31)))), (0, .ref h), (1, .int S), (3, .int (nI i)), (4, .int (nI w))] rfl dX3_neighboursOf_49 (by decide) rfl ?_
                  refine g_iinc (pc := 50) (n := 1) (v := (nI (w + 1))) C 4 [(4, .int (nI (w + 1))), (2, .int ((nbI fj S i (nbO fj n S i) w) ||| (1 <<< ((nI w) &&& 31)))), (0, .ref h), (1, .int S), (3, .int (nI i))] rfl (nI_1 w) dX3_neighboursOf_50 (by decide) rfl ?_
                  refine g_goto (pc := 53) C 15 (by decide) dX3_neighboursOf_53 ?_
                  refine G.loc [2, 3, 1, 4, 0] (lv' := [(0, .ref h), (1, .int S), (2, .int ((nbI fj S i (nbO fj n S i) w) ||| (1 <<< ((nI w) &&& 31)))), (3, .int (nI i)), (4, .int (nI (w + 1)))]) rfl ?_
                  refine G.eql (lv' := [(0, .ref h), (1, .int S), (2, .int (nbI fj S i (nbO fj n S i) (w + 1))), (3, .int (nI i)), (4, .int (nI (w + 1)))]) (congrArg (β := List (Nat × Value)) (fun z9 => [(0, .ref h), (1, .int S), (2, .int z9), (3, .int (nI i)), (4, .int (nI (w + 1)))]) (show (((nbI fj S i (nbO fj n S i) w) ||| (1 <<< ((nI w) &&& 31))) : Int32) = (nbI fj S i (nbO fj n S i) (w + 1)) from by simp [nbI, *])) ?_
                  exact ih_15 (w + 1) (by omega) (by omega)
        refine G.loc [1, 2, 3, 4, 0] (lv' := [(0, .ref h), (1, .int S), (2, .int (nbO fj n S i)), (3, .int (nI i)), (4, .int 0)]) rfl ?_
        refine G.eql (lv' := [(0, .ref h), (1, .int S), (2, .int (nbI fj S i (nbO fj n S i) 0)), (3, .int (nI i)), (4, .int (nI 0))]) ((congrArg (β := List (Nat × Value)) (fun z9 => [(0, .ref h), (1, .int S), (2, .int z9), (3, .int (nI i)), (4, .int 0)]) (show ((nbO fj n S i) : Int32) = (nbI fj S i (nbO fj n S i) 0) from by first | rfl | exact nI_0.symm)).trans (congrArg (β := List (Nat × Value)) (fun z9 => [(0, .ref h), (1, .int S), (2, .int (nbI fj S i (nbO fj n S i) 0)), (3, .int (nI i)), (4, .int z9)]) (show (0 : Int32) = (nI 0) from by first | rfl | exact nI_0.symm))) ?_
        exact key_15 (n - 0 + 1) 0 (by omega) (Nat.lt_succ_self _)
  refine G.loc [2, 3, 1, 0] (lv' := [(0, .ref h), (1, .int S), (2, .int 0), (3, .int 0)]) rfl ?_
  refine G.eql (lv' := [(0, .ref h), (1, .int S), (2, .int (nbO fj n S 0)), (3, .int (nI 0))]) ((congrArg (β := List (Nat × Value)) (fun z9 => [(0, .ref h), (1, .int S), (2, .int z9), (3, .int 0)]) (show (0 : Int32) = (nbO fj n S 0) from by first | rfl | exact nI_0.symm)).trans (congrArg (β := List (Nat × Value)) (fun z9 => [(0, .ref h), (1, .int S), (2, .int (nbO fj n S 0)), (3, .int z9)]) (show (0 : Int32) = (nI 0) from by first | rfl | exact nI_0.symm))) ?_
  exact key_4 (n - 0 + 1) 0 (by omega) (Nat.lt_succ_self _)
/-- what is reached from vertex 0 by so many rounds -/
def gRe (fj : Nat → Int32) (n : Nat) : Nat → Int32
  | 0 => 1
  | r + 1 => gRe fj n r ||| nbO fj n (gRe fj n r) n
def gConn (fj : Nat → Int32) (n : Nat) : Bool := decide (2 ≤ n) && decide (gRe fj n (n - 1) = (1 <<< (nI n &&& 31)) - 1)
set_option maxRecDepth 100000 in
set_option maxHeartbeats 400000 in
theorem c_X3_isConnected {l : Launch} {D : va_G} {k : Nat → ClassId} (h : Nat) (jj : Nat) (dd : Nat) (n : Nat) (z : Nat) (fj : Nat → Int32) (fd : Nat → Int32) (hn : n ≤ 6) : CM l D k yX3_isConnected cX3_isConnected 4 (some .boolean)  2 47 [.ref h] [(h, .inr (7, [.ref jj, .ref dd, .int (nI n), .int (nI z)])), (jj, aI k 36 fj), (dd, aI k 6 fd)] (is1 (some (.int (bI (gConn fj n)))) [(h, .inr (7, [.ref jj, .ref dd, .int (nI n), .int (nI z)])), (jj, aI k 36 fj), (dd, aI k 6 fd)]) 0 0 0 := by
  refine CM.of (lv0 := [(0, .ref h)]) (by decide +kernel) (Nat.le_of_ble_eq_true rfl) rfl ?_
  intro p e s m below meth c C hr hlk hin had
  refine g_aload_n (pc := 0) C 0 rfl rfl dX3_isConnected_0 ?_
  refine g_get (pc := 1) C (T := TX3) inX3 0 rfl rfl 2 (by decide) q_13 rfl rfl dX3_isConnected_1 ?_
  refine g_iconst (pc := 4) (v := 2) C (by decide) dX3_isConnected_4 ?_
  refine g_icmp_ge (pc := 5) C 10 (by decide) dX3_isConnected_5 (fun c_5 => ?_) (fun c_5 => ?_)
  · have h2 : 2 ≤ n := by { rcases Nat.lt_or_ge n 2 with q | q; exact absurd (show nI 2 ≤ nI n from c_5) (nI_ge q (by omega)); exact q }
    refine g_iconst (pc := 10) (v := 1) C (by decide) dX3_isConnected_10 ?_
    refine g_aload_n (pc := 11) C 0 rfl rfl dX3_isConnected_11 ?_
    refine g_get (pc := 12) C (T := TX3) inX3 0 rfl rfl 2 (by decide) q_13 rfl rfl dX3_isConnected_12 ?_
    refine g_ishl (pc := 15) C dX3_isConnected_15 ?_
    refine g_iconst (pc := 16) (v := 1) C (by decide) dX3_isConnected_16 ?_
    refine g_isub (pc := 17) C dX3_isConnected_17 ?_
    refine g_istore_n (pc := 18) C [(1, .int ((1 <<< ((nI n) &&& 31)) - 1)), (0, .ref h)] rfl dX3_isConnected_18 (by decide) rfl ?_
    refine g_iconst (pc := 19) (v := 1) C (by decide) dX3_isConnected_19 ?_
    refine g_istore_n (pc := 20) C [(2, .int 1), (1, .int ((1 <<< ((nI n) &&& 31)) - 1)), (0, .ref h)] rfl dX3_isConnected_20 (by decide) rfl ?_
    refine g_iconst (pc := 21) (v := 1) C (by decide) dX3_isConnected_21 ?_
    refine g_istore_n (pc := 22) C [(3, .int 1), (2, .int 1), (1, .int ((1 <<< ((nI n) &&& 31)) - 1)), (0, .ref h)] rfl dX3_isConnected_22 (by decide) rfl ?_
    have key_23 : ∀ (fuel : Nat) (r : Nat), r + 1 ≤ n → n - r < fuel → G p l e { frames := 2, cells := 0, slots := 0, locals := 47 } s m ([.ref h] : List Value).toArray below meth c D 4 (va_A [(h, .inr (7, [.ref jj, .ref dd, .int (nI n), .int (nI z)])), (jj, aI k 36 fj), (dd, aI k 6 fd)] s.heap.size) (QM below D ([.ref h] : List Value).toArray s [(h, .inr (7, [.ref jj, .ref dd, .int (nI n), .int (nI z)])), (jj, aI k 36 fj), (dd, aI k 6 fd)] (is1 (some (.int (bI (gConn fj n)))) [(h, .inr (7, [.ref jj, .ref dd, .int (nI n), .int (nI z)])), (jj, aI k 36 fj), (dd, aI k 6 fd)]) 0 0 0) [(h, .inr (7, [.ref jj, .ref dd, .int (nI n), .int (nI z)])), (jj, aI k 36 fj), (dd, aI k 6 fd)] [(0, .ref h), (1, .int ((1 <<< (nI n &&& 31)) - 1)), (2, .int (gRe fj n r)), (3, .int (nI (r + 1)))] 0 0 0 23 [] := by
      intro fuel
      induction fuel with
      | zero => intro r hr1 hm; exact absurd hm (Nat.not_lt_zero _)
      | succ fuel ih =>
        intro r hr1 hm
        have ih_23 := ih
        refine g_iload_n (pc := 23) C 3 rfl rfl dX3_isConnected_23 ?_
        refine g_aload_n (pc := 24) C 0 rfl rfl dX3_isConnected_24 ?_
        refine g_get (pc := 25) C (T := TX3) inX3 0 rfl rfl 2 (by decide) q_13 rfl rfl dX3_isConnected_25 ?_
        refine g_icmp_ge (pc := 28) C 45 (by decide) dX3_isConnected_28 (fun c_28 => ?_) (fun c_28 => ?_)
        · refine g_iload_n (pc := 45) C 2 rfl rfl dX3_isConnected_45 ?_
          refine g_iload_n (pc := 46) C 1 rfl rfl dX3_isConnected_46 ?_
          refine g_icmp_ne (pc := 47) C 54 (by decide) dX3_isConnected_47 (fun c_47 => ?_) (fun c_47 => ?_)
          · refine g_iconst (pc := 54) (v := 0) C (by decide) dX3_isConnected_54 ?_
            refine G.eqs (st' := [.int (bI (gConn fj n))]) (congrArg (fun z9 => [Value.int z9]) (show (0 : Int32) = (bI (gConn fj n)) from by { have h3 : r = n - 1 := (by { rcases Nat.lt_or_ge (r + 1) n with q | q; exact absurd c_28 (nI_ge q (by omega)); omega }); subst h3; simp [gConn, bI, h2, *] })) ?_
            exact g_zret (pc := 55) C hr (by first | rfl | exact bI_nar _) hlk (by first | decide | omega) (by first | decide | omega) (by first | decide | omega) dX3_isConnected_55 ⟨rfl, rfl⟩
          · refine g_iconst (pc := 50) (v := 1) C (by decide) dX3_isConnected_50 ?_
            refine g_goto (pc := 51) C 55 (by decide) dX3_isConnected_51 ?_
            refine G.eqs (st' := [.int (bI (gConn fj n))]) (congrArg (fun z9 => [Value.int z9]) (show (1 : Int32) = (bI (gConn fj n)) from by { have h3 : r = n - 1 := (by { rcases Nat.lt_or_ge (r + 1) n with q | q; exact absurd c_28 (nI_ge q (by omega)); omega }); subst h3; simp [gConn, bI, h2, *] })) ?_
            exact g_zret (pc := 55) C hr (by first | rfl | exact bI_nar _) hlk (by first | decide | omega) (by first | decide | omega) (by first | decide | omega) dX3_isConnected_55 ⟨rfl, rfl⟩
        · have hl28 : r + 1 < n := by rcases Nat.lt_or_ge (r + 1) n with q | q; exact q; exact absurd (nI_le q (by omega)) c_28
          refine g_iload_n (pc := 31) C 2 rfl rfl dX3_isConnected_31 ?_
          refine g_aload_n (pc := 32) C 0 rfl rfl dX3_isConnected_32 ?_
          refine g_iload_n (pc := 33) C 2 rfl rfl dX3_isConnected_33 ?_
          refine g_callV (pc := 34) (cells := 0) (slots := 0) (g := 0) (As := [.int (gRe fj n r)]) (st := [.int (gRe fj n r)]) (T := TX3) (q0 := 0) C (nA := 1) rfl (c_X3_neighboursOf h jj dd n z fj fd (gRe fj n r) (by first | assumption | decide | omega)) q_26 q_27 q_25 q_16 q_24 (by decide +kernel) rfl rfl dX3_isConnected_34 ⟨Nat.le_of_ble_eq_true rfl, Nat.le_of_ble_eq_true rfl⟩ [0, 1, 2] [] rfl (wr := []) rfl (by decide) (by decide) (by decide) (Nat.le_of_ble_eq_true rfl) ⟨Nat.le_of_ble_eq_true rfl, Nat.le_of_ble_eq_true rfl⟩ (fun rv w1 h1 => ?_)
          obtain ⟨rfl, rfl⟩ := h1
          refine G.aft [0, 1, 2] (ws' := [(h, .inr (7, [.ref jj, .ref dd, .int (nI n), .int (nI z)])), (jj, aI k 36 fj), (dd, aI k 6 fd)]) (st' := [.int (nbO fj n (gRe fj n r) n), .int (gRe fj n r)]) (cells' := 0) (slots' := 0) (g' := 0) (by decide) rfl rfl rfl rfl rfl ?_
          refine g_ior (pc := 37) C dX3_isConnected_37 ?_
          refine g_istore_n (pc := 38) C [(2, .int ((gRe fj n r) ||| (nbO fj n (gRe fj n r) n))), (0, .ref h), (1, .int ((1 <<< (nI n &&& 31)) - 1)), (3, .int (nI (r + 1)))] rfl dX3_isConnected_38 (by decide) rfl ?_
          refine g_iinc (pc := 39) (n := 1) (v := (nI ((r + 1) + 1))) C 3 [(3, .int (nI ((r + 1) + 1))), (2, .int ((gRe fj n r) ||| (nbO fj n (gRe fj n r) n))), (0, .ref h), (1, .int ((1 <<< (nI n &&& 31)) - 1))] rfl (nI_1 (r + 1)) dX3_isConnected_39 (by decide) rfl ?_
          refine g_goto (pc := 42) C 23 (by decide) dX3_isConnected_42 ?_
          refine G.loc [2, 3, 1, 0] (lv' := [(0, .ref h), (1, .int ((1 <<< (nI n &&& 31)) - 1)), (2, .int ((gRe fj n r) ||| (nbO fj n (gRe fj n r) n))), (3, .int (nI ((r + 1) + 1)))]) rfl ?_
          refine G.eql (lv' := [(0, .ref h), (1, .int ((1 <<< (nI n &&& 31)) - 1)), (2, .int (gRe fj n (r + 1))), (3, .int (nI ((r + 1) + 1)))]) (congrArg (β := List (Nat × Value)) (fun z9 => [(0, .ref h), (1, .int ((1 <<< (nI n &&& 31)) - 1)), (2, .int z9), (3, .int (nI ((r + 1) + 1)))]) (show (((gRe fj n r) ||| (nbO fj n (gRe fj n r) n)) : Int32) = (gRe fj n (r + 1)) from by rfl)) ?_
          exact ih_23 (r + 1) (by omega) (by omega)
    refine G.loc [3, 2, 1, 0] (lv' := [(0, .ref h), (1, .int ((1 <<< ((nI n) &&& 31)) - 1)), (2, .int 1), (3, .int 1)]) rfl ?_
    refine G.eql (lv' := [(0, .ref h), (1, .int ((1 <<< (nI n &&& 31)) - 1)), (2, .int (gRe fj n 0)), (3, .int (nI (0 + 1)))]) ((congrArg (β := List (Nat × Value)) (fun z9 => [(0, .ref h), (1, .int ((1 <<< ((nI n) &&& 31)) - 1)), (2, .int z9), (3, .int 1)]) (show (1 : Int32) = (gRe fj n 0) from by rfl)).trans (congrArg (β := List (Nat × Value)) (fun z9 => [(0, .ref h), (1, .int ((1 <<< ((nI n) &&& 31)) - 1)), (2, .int (gRe fj n 0)), (3, .int z9)]) (show (1 : Int32) = (nI (0 + 1)) from by rfl))) ?_
    exact key_23 (n - 0 + 1) 0 (by omega) (Nat.lt_succ_self _)
  · refine g_iconst (pc := 8) (v := 0) C (by decide) dX3_isConnected_8 ?_
    refine G.eqs (st' := [.int (bI (gConn fj n))]) (congrArg (fun z9 => [Value.int z9]) (show (0 : Int32) = (bI (gConn fj n)) from by { have h2 : ¬ 2 ≤ n := (fun q => c_5 (show nI 2 ≤ nI n from nI_le q (by omega))); simp [gConn, bI, h2] })) ?_
    exact g_zret (pc := 9) C hr (by first | rfl | exact bI_nar _) hlk (by first | decide | omega) (by first | decide | omega) (by first | decide | omega) dX3_isConnected_9 ⟨rfl, rfl⟩
