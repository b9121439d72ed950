theorem dX7_target_0 : decode cX7_target 0 = .ok (.aload_n 0, 1) := by decide +kernel
theorem dX7_target_1 : decode cX7_target 1 = .ok (.getfield 23, 3) := by decide +kernel
theorem dX7_target_4 : decode cX7_target 4 = .ok (.iload_n 1, 1) := by decide +kernel
theorem dX7_target_5 : decode cX7_target 5 = .ok (.aload_n 0, 1) := by decide +kernel
theorem dX7_target_6 : decode cX7_target 6 = .ok (.getfield 14, 3) := by decide +kernel
theorem dX7_target_9 : decode cX7_target 9 = .ok (.iload_n 1, 1) := by decide +kernel
theorem dX7_target_10 : decode cX7_target 10 = .ok (.invokevirtual 30, 3) := by decide +kernel
theorem q_319 : (Jvm.Cond.methodLink "Chipfold$Rotors" (30 : Nat) ({ cls := "Chipfold$Row", name := "at", desc := "(I)I" } : Jvm.MethodName)) ∈ WG := wg_4 (List.mem_of_getElem? (i := 156) (by decide +kernel)) (by decide +kernel)
theorem dX7_target_13 : decode cX7_target 13 = .ok (.invokevirtual 34, 3) := by decide +kernel
theorem q_320 : (Jvm.Cond.code ({ cls := "Chipfold$Graph", name := "endOf", desc := "(II)I" } : Jvm.MethodName) prog_5_method_17_code (5 : Nat) (Option.some Jvm.ClassFile.FieldType.int)) ∈ WG := wg_4 (List.mem_of_getElem? (i := 160) rfl) rfl
theorem q_321 : (Jvm.Cond.selects "Chipfold$Graph" ({ cls := "Chipfold$Graph", name := "endOf", desc := "(II)I" } : Jvm.MethodName) ({ cls := "Chipfold$Graph", name := "endOf", desc := "(II)I" } : Jvm.MethodName)) ∈ WG := wg_4 (List.mem_of_getElem? (i := 159) (by decide +kernel)) (by decide +kernel)
theorem q_322 : (Jvm.Cond.methodLink "Chipfold$Rotors" (34 : Nat) ({ cls := "Chipfold$Graph", name := "endOf", desc := "(II)I" } : Jvm.MethodName)) ∈ WG := wg_4 (List.mem_of_getElem? (i := 157) (by decide +kernel)) (by decide +kernel)
theorem q_323 : (Jvm.Cond.instanceMethod ({ cls := "Chipfold$Graph", name := "endOf", desc := "(II)I" } : Jvm.MethodName)) ∈ WG := wg_4 (List.mem_of_getElem? (i := 158) (by decide +kernel)) (by decide +kernel)
theorem dX7_target_16 : decode cX7_target 16 = .ok (.ireturn, 1) := by decide +kernel
theorem dX7_visitsAt_0 : decode cX7_visitsAt 0 = .ok (.aload_n 0, 1) := by decide +kernel
theorem dX7_visitsAt_1 : decode cX7_visitsAt 1 = .ok (.getfield 20, 3) := by decide +kernel
theorem dX7_visitsAt_4 : decode cX7_visitsAt 4 = .ok (.iload_n 1, 1) := by decide +kernel
theorem dX7_visitsAt_5 : decode cX7_visitsAt 5 = .ok (.invokevirtual 30, 3) := by decide +kernel
theorem dX7_visitsAt_8 : decode cX7_visitsAt 8 = .ok (.ireturn, 1) := by decide +kernel
theorem dX7_turn_0 : decode cX7_turn 0 = .ok (.aload_n 0, 1) := by decide +kernel
theorem dX7_turn_1 : decode cX7_turn 1 = .ok (.getfield 14, 3) := by decide +kernel
theorem dX7_turn_4 : decode cX7_turn 4 = .ok (.iload_n 1, 1) := by decide +kernel
theorem dX7_turn_5 : decode cX7_turn 5 = .ok (.invokevirtual 30, 3) := by decide +kernel
theorem dX7_turn_8 : decode cX7_turn 8 = .ok (.iconst 1, 1) := by decide +kernel
theorem dX7_turn_9 : decode cX7_turn 9 = .ok (.iadd, 1) := by decide +kernel
theorem dX7_turn_10 : decode cX7_turn 10 = .ok (.istore_n 2, 1) := by decide +kernel
theorem dX7_turn_11 : decode cX7_turn 11 = .ok (.aload_n 0, 1) := by decide +kernel
theorem dX7_turn_12 : decode cX7_turn 12 = .ok (.getfield 14, 3) := by decide +kernel
theorem dX7_turn_15 : decode cX7_turn 15 = .ok (.iload_n 1, 1) := by decide +kernel
theorem dX7_turn_16 : decode cX7_turn 16 = .ok (.iload_n 2, 1) := by decide +kernel
theorem dX7_turn_17 : decode cX7_turn 17 = .ok (.aload_n 0, 1) := by decide +kernel
theorem dX7_turn_18 : decode cX7_turn 18 = .ok (.getfield 23, 3) := by decide +kernel
theorem dX7_turn_21 : decode cX7_turn 21 = .ok (.iload_n 1, 1) := by decide +kernel
theorem dX7_turn_22 : decode cX7_turn 22 = .ok (.invokevirtual 55, 3) := by decide +kernel
theorem q_324 : (Jvm.Cond.methodLink "Chipfold$Rotors" (55 : Nat) ({ cls := "Chipfold$Graph", name := "degreeOf", desc := "(I)I" } : Jvm.MethodName)) ∈ WG := wg_4 (List.mem_of_getElem? (i := 165) (by decide +kernel)) (by decide +kernel)
theorem dX7_turn_25 : decode cX7_turn 25 = .ok (.if_icmp .ge 7, 3) := by decide +kernel
theorem dX7_turn_32 : decode cX7_turn 32 = .ok (.iconst 0, 1) := by decide +kernel
theorem dX7_turn_33 : decode cX7_turn 33 = .ok (.invokevirtual 58, 3) := by decide +kernel
theorem q_325 : (Jvm.Cond.methodLink "Chipfold$Rotors" (58 : Nat) ({ cls := "Chipfold$Row", name := "write", desc := "(II)V" } : Jvm.MethodName)) ∈ WG := wg_4 (List.mem_of_getElem? (i := 166) (by decide +kernel)) (by decide +kernel)
theorem dX7_turn_36 : decode cX7_turn 36 = .ok (.return_, 1) := by decide +kernel
theorem dX7_turn_28 : decode cX7_turn 28 = .ok (.iload_n 2, 1) := by decide +kernel
theorem dX7_turn_29 : decode cX7_turn 29 = .ok (.goto 4, 3) := by decide +kernel
theorem dX7_lead_0 : decode cX7_lead 0 = .ok (.iload_n 1, 1) := by decide +kernel
theorem dX7_lead_1 : decode cX7_lead 1 = .ok (.istore_n 2, 1) := by decide +kernel
theorem dX7_lead_2 : decode cX7_lead 2 = .ok (.iconst 0, 1) := by decide +kernel
theorem dX7_lead_3 : decode cX7_lead 3 = .ok (.istore_n 3, 1) := by decide +kernel
theorem dX7_lead_4 : decode cX7_lead 4 = .ok (.aload_n 0, 1) := by decide +kernel
theorem dX7_lead_5 : decode cX7_lead 5 = .ok (.getfield 20, 3) := by decide +kernel
theorem dX7_lead_8 : decode cX7_lead 8 = .ok (.iload_n 2, 1) := by decide +kernel
theorem dX7_lead_9 : decode cX7_lead 9 = .ok (.iconst 1, 1) := by decide +kernel
theorem dX7_lead_10 : decode cX7_lead 10 = .ok (.invokevirtual 40, 3) := by decide +kernel
theorem q_326 : (Jvm.Cond.methodLink "Chipfold$Rotors" (40 : Nat) ({ cls := "Chipfold$Row", name := "add", desc := "(II)V" } : Jvm.MethodName)) ∈ WG := wg_4 (List.mem_of_getElem? (i := 149) (by decide +kernel)) (by decide +kernel)
theorem dX7_lead_13 : decode cX7_lead 13 = .ok (.iload_n 3, 1) := by decide +kernel
theorem dX7_lead_14 : decode cX7_lead 14 = .ok (.ldc 44, 2) := by decide +kernel
theorem q_327 : (Jvm.Cond.constant "Chipfold$Rotors" (44 : Nat) (1000000 : Int32)) ∈ WG := wg_4 (List.mem_of_getElem? (i := 150) (by decide +kernel)) (by decide +kernel)
theorem dX7_lead_16 : decode cX7_lead 16 = .ok (.if_icmp .ge 44, 3) := by decide +kernel
theorem dX7_lead_60 : decode cX7_lead 60 = .ok (.iload_n 3, 1) := by decide +kernel
theorem dX7_lead_61 : decode cX7_lead 61 = .ok (.ireturn, 1) := by decide +kernel
theorem dX7_lead_19 : decode cX7_lead 19 = .ok (.aload_n 0, 1) := by decide +kernel
theorem dX7_lead_20 : decode cX7_lead 20 = .ok (.getfield 23, 3) := by decide +kernel
theorem dX7_lead_23 : decode cX7_lead 23 = .ok (.iload_n 2, 1) := by decide +kernel
theorem dX7_lead_24 : decode cX7_lead 24 = .ok (.invokevirtual 45, 3) := by decide +kernel
theorem q_328 : (Jvm.Cond.methodLink "Chipfold$Rotors" (45 : Nat) ({ cls := "Chipfold$Graph", name := "isSink", desc := "(I)Z" } : Jvm.MethodName)) ∈ WG := wg_4 (List.mem_of_getElem? (i := 151) (by decide +kernel)) (by decide +kernel)
theorem dX7_lead_27 : decode cX7_lead 27 = .ok (.ifCond .ne 33, 3) := by decide +kernel
theorem dX7_lead_30 : decode cX7_lead 30 = .ok (.aload_n 0, 1) := by decide +kernel
theorem dX7_lead_31 : decode cX7_lead 31 = .ok (.iload_n 2, 1) := by decide +kernel
theorem dX7_lead_32 : decode cX7_lead 32 = .ok (.invokevirtual 49, 3) := by decide +kernel
theorem q_329 : (Jvm.Cond.code ({ cls := "Chipfold$Rotors", name := "target", desc := "(I)I" } : Jvm.MethodName) prog_9_method_3_code (2 : Nat) (Option.some Jvm.ClassFile.FieldType.int)) ∈ WG := wg_4 (List.mem_of_getElem? (i := 155) rfl) rfl
theorem q_330 : (Jvm.Cond.selects "Chipfold$Rotors" ({ cls := "Chipfold$Rotors", name := "target", desc := "(I)I" } : Jvm.MethodName) ({ cls := "Chipfold$Rotors", name := "target", desc := "(I)I" } : Jvm.MethodName)) ∈ WG := wg_4 (List.mem_of_getElem? (i := 154) (by decide +kernel)) (by decide +kernel)
theorem q_331 : (Jvm.Cond.methodLink "Chipfold$Rotors" (49 : Nat) ({ cls := "Chipfold$Rotors", name := "target", desc := "(I)I" } : Jvm.MethodName)) ∈ WG := wg_4 (List.mem_of_getElem? (i := 152) (by decide +kernel)) (by decide +kernel)
theorem q_332 : (Jvm.Cond.instanceMethod ({ cls := "Chipfold$Rotors", name := "target", desc := "(I)I" } : Jvm.MethodName)) ∈ WG := wg_4 (List.mem_of_getElem? (i := 153) (by decide +kernel)) (by decide +kernel)
theorem dX7_lead_35 : decode cX7_lead 35 = .ok (.istore 4, 2) := by decide +kernel
theorem dX7_lead_37 : decode cX7_lead 37 = .ok (.aload_n 0, 1) := by decide +kernel
theorem dX7_lead_38 : decode cX7_lead 38 = .ok (.iload_n 2, 1) := by decide +kernel
theorem dX7_lead_39 : decode cX7_lead 39 = .ok (.invokevirtual 52, 3) := by decide +kernel
theorem q_333 : (Jvm.Cond.code ({ cls := "Chipfold$Rotors", name := "turn", desc := "(I)V" } : Jvm.MethodName) prog_9_method_6_code (3 : Nat) (Option.none : Option Jvm.ClassFile.FieldType)) ∈ WG := wg_4 (List.mem_of_getElem? (i := 164) rfl) rfl
theorem q_334 : (Jvm.Cond.selects "Chipfold$Rotors" ({ cls := "Chipfold$Rotors", name := "turn", desc := "(I)V" } : Jvm.MethodName) ({ cls := "Chipfold$Rotors", name := "turn", desc := "(I)V" } : Jvm.MethodName)) ∈ WG := wg_0 (by decide +kernel) (by decide +kernel)
theorem q_335 : (Jvm.Cond.methodLink "Chipfold$Rotors" (52 : Nat) ({ cls := "Chipfold$Rotors", name := "turn", desc := "(I)V" } : Jvm.MethodName)) ∈ WG := wg_4 (List.mem_of_getElem? (i := 161) (by decide +kernel)) (by decide +kernel)
theorem q_336 : (Jvm.Cond.instanceMethod ({ cls := "Chipfold$Rotors", name := "turn", desc := "(I)V" } : Jvm.MethodName)) ∈ WG := wg_4 (List.mem_of_getElem? (i := 163) (by decide +kernel)) (by decide +kernel)
theorem dX7_lead_42 : decode cX7_lead 42 = .ok (.iload 4, 2) := by decide +kernel
theorem dX7_lead_44 : decode cX7_lead 44 = .ok (.istore_n 2, 1) := by decide +kernel
theorem dX7_lead_45 : decode cX7_lead 45 = .ok (.aload_n 0, 1) := by decide +kernel
theorem dX7_lead_46 : decode cX7_lead 46 = .ok (.getfield 20, 3) := by decide +kernel
theorem dX7_lead_49 : decode cX7_lead 49 = .ok (.iload_n 2, 1) := by decide +kernel
theorem dX7_lead_50 : decode cX7_lead 50 = .ok (.iconst 1, 1) := by decide +kernel
theorem dX7_lead_51 : decode cX7_lead 51 = .ok (.invokevirtual 40, 3) := by decide +kernel
theorem dX7_lead_54 : decode cX7_lead 54 = .ok (.iinc 3 1, 3) := by decide +kernel
theorem dX7_lead_57 : decode cX7_lead 57 = .ok (.goto (-44), 3) := by decide +kernel
set_option maxRecDepth 100000 in
set_option maxHeartbeats 400000 in
theorem c_X7_target {l : Launch} {D : va_G} {k : Nat → ClassId} (h : Nat) (jj : Nat) (dd : Nat) (n : Nat) (z : Nat) (fj : Nat → Int32) (fd : Nat → Int32) (o7 : Nat) (s1 : Nat) (b1 : Nat) (s2 : Nat) (fp : Nat → Int32) (v : Nat) (hn : n ≤ 6) (hv : v < n) : CM l D k yX7_target cX7_target 2 (some .int)  2 47 [.ref o7, .int (nI v)] [(o7, .inr (9, [.ref h, .ref s1, .ref s2])), (h, .inr (5, [.ref jj, .ref dd, .int (nI n), .int (nI z)])), (jj, aI k 36 fj), (dd, aI k 6 fd), (s1, .inr (10, [.ref b1])), (b1, aI k 6 fp)] (is1 (some (.int (nI (endN fj n z v (fp v))))) [(o7, .inr (9, [.ref h, .ref s1, .ref s2])), (h, .inr (5, [.ref jj, .ref dd, .int (nI n), .int (nI z)])), (jj, aI k 36 fj), (dd, aI k 6 fd), (s1, .inr (10, [.ref b1])), (b1, aI k 6 fp)]) 0 0 0 := by
  refine CM.of (lv0 := [(0, .ref o7), (1, .int (nI v))]) (by decide +kernel) (Nat.le_of_ble_eq_true rfl) rfl ?_
  intro p9 e9 s9 m9 bl9 me9 co9 C hr hlk hin had
  refine g_aload_n (pc := 0) C 0 rfl rfl dX7_target_0 ?_
  refine g_get (pc := 1) C (T := TX7) inX7 0 rfl rfl 0 (by decide) q_82 rfl rfl dX7_target_1 ?_
  refine g_iload_n (pc := 4) C 1 rfl rfl dX7_target_4 ?_
  refine g_aload_n (pc := 5) C 0 rfl rfl dX7_target_5 ?_
  refine g_get (pc := 6) C (T := TX7) inX7 0 rfl rfl 1 (by decide) q_80 rfl rfl dX7_target_6 ?_
  refine g_iload_n (pc := 9) C 1 rfl rfl dX7_target_9 ?_
  refine g_callV (pc := 10) (cells := 0) (slots := 0) (g := 0) (As := [.int (nI v)]) (st := [.int (nI v), .ref h]) (T := TX8) (q0 := 4) C (nA := 1) rfl (c_X8_at_n s1 b1 6 fp v (by first | assumption | decide | omega) (by first | assumption | decide | omega)) q_319 q_9 q_7 q_6 q_5 (by decide +kernel) rfl rfl dX7_target_10 ⟨Nat.le_of_ble_eq_true rfl, Nat.le_of_ble_eq_true rfl⟩ [4, 5] [0, 1, 2, 3] rfl (wr := [(o7, .inr (9, [.ref h, .ref s1, .ref s2])), (h, .inr (5, [.ref jj, .ref dd, .int (nI n), .int (nI z)])), (jj, aI k 36 fj), (dd, aI k 6 fd)]) rfl (by decide) (by decide) (by decide) (Nat.le_of_ble_eq_true rfl) ⟨Nat.le_of_ble_eq_true rfl, Nat.le_of_ble_eq_true rfl⟩ (fun rv w1 h1 => ?_)
  obtain ⟨rfl, rfl⟩ := h1
  refine G.aft [0, 1, 2, 3, 4, 5] (ws' := [(o7, .inr (9, [.ref h, .ref s1, .ref s2])), (h, .inr (5, [.ref jj, .ref dd, .int (nI n), .int (nI z)])), (jj, aI k 36 fj), (dd, aI k 6 fd), (s1, .inr (10, [.ref b1])), (b1, aI k 6 fp)]) (st' := [.int (fp v), .int (nI v), .ref h]) (cells' := 0) (slots' := 0) (g' := 0) (by decide) rfl rfl rfl rfl rfl ?_
  refine g_callV (pc := 13) (cells := 0) (slots := 0) (g := 0) (As := [.int (nI v), .int (fp v)]) (st := []) (T := TX3) (q0 := 1) C (nA := 2) rfl (c_X3_endOf h jj dd n z fj fd v (fp v) (by first | assumption | decide | omega) (by first | assumption | decide | omega)) q_322 q_323 q_321 q_16 q_320 (by decide +kernel) rfl rfl dX7_target_13 ⟨Nat.le_of_ble_eq_true rfl, Nat.le_of_ble_eq_true rfl⟩ [1, 2, 3] [0, 4, 5] rfl (wr := [(o7, .inr (9, [.ref h, .ref s1, .ref s2])), (s1, .inr (10, [.ref b1])), (b1, aI k 6 fp)]) rfl (by decide) (by decide) (by decide) (Nat.le_of_ble_eq_true rfl) ⟨Nat.le_of_ble_eq_true rfl, Nat.le_of_ble_eq_true rfl⟩ (fun rv w1 h1 => ?_)
  obtain ⟨rfl, rfl⟩ := h1
  refine G.aft [0, 3, 4, 5, 1, 2] (ws' := [(o7, .inr (9, [.ref h, .ref s1, .ref s2])), (h, .inr (5, [.ref jj, .ref dd, .int (nI n), .int (nI z)])), (jj, aI k 36 fj), (dd, aI k 6 fd), (s1, .inr (10, [.ref b1])), (b1, aI k 6 fp)]) (st' := [.int (nI (endN fj n z v (fp v)))]) (cells' := 0) (slots' := 0) (g' := 0) (by decide) rfl rfl rfl rfl rfl ?_
  exact g_iret (pc := 16) C hr hlk (by first | decide | omega) (by first | decide | omega) (by first | decide | omega) dX7_target_16 ⟨rfl, rfl⟩
set_option maxRecDepth 100000 in
set_option maxHeartbeats 400000 in
theorem c_X7_visitsAt {l : Launch} {D : va_G} {k : Nat → ClassId} (h : Nat) (o7 : Nat) (s1 : Nat) (s2 : Nat) (b2 : Nat) (fv : Nat → Int32) (v : Nat) (hv : v < 6) : CM l D k yX7_visitsAt cX7_visitsAt 2 (some .int)  1 21 [.ref o7, .int (nI v)] [(o7, .inr (9, [.ref h, .ref s1, .ref s2])), (s2, .inr (10, [.ref b2])), (b2, aI k 6 fv)] (is1 (some (.int (fv v))) [(o7, .inr (9, [.ref h, .ref s1, .ref s2])), (s2, .inr (10, [.ref b2])), (b2, aI k 6 fv)]) 0 0 0 := by
  refine CM.of (lv0 := [(0, .ref o7), (1, .int (nI v))]) (by decide +kernel) (Nat.le_of_ble_eq_true rfl) rfl ?_
  intro p9 e9 s9 m9 bl9 me9 co9 C hr hlk hin had
  refine g_aload_n (pc := 0) C 0 rfl rfl dX7_visitsAt_0 ?_
  refine g_get (pc := 1) C (T := TX7) inX7 0 rfl rfl 2 (by decide) q_81 rfl rfl dX7_visitsAt_1 ?_
  refine g_iload_n (pc := 4) C 1 rfl rfl dX7_visitsAt_4 ?_
  refine g_callV (pc := 5) (cells := 0) (slots := 0) (g := 0) (As := [.int (nI v)]) (st := []) (T := TX8) (q0 := 1) C (nA := 1) rfl (c_X8_at_n s2 b2 6 fv v (by first | assumption | decide | omega) (by first | assumption | decide | omega)) q_319 q_9 q_7 q_6 q_5 (by decide +kernel) rfl rfl dX7_visitsAt_5 ⟨Nat.le_of_ble_eq_true rfl, Nat.le_of_ble_eq_true rfl⟩ [1, 2] [0] rfl (wr := [(o7, .inr (9, [.ref h, .ref s1, .ref s2]))]) rfl (by decide) (by decide) (by decide) (Nat.le_of_ble_eq_true rfl) ⟨Nat.le_of_ble_eq_true rfl, Nat.le_of_ble_eq_true rfl⟩ (fun rv w1 h1 => ?_)
  obtain ⟨rfl, rfl⟩ := h1
  refine G.aft [0, 1, 2] (ws' := [(o7, .inr (9, [.ref h, .ref s1, .ref s2])), (s2, .inr (10, [.ref b2])), (b2, aI k 6 fv)]) (st' := [.int (fv v)]) (cells' := 0) (slots' := 0) (g' := 0) (by decide) rfl rfl rfl rfl rfl ?_
  exact g_iret (pc := 8) C hr hlk (by first | decide | omega) (by first | decide | omega) (by first | decide | omega) dX7_visitsAt_8 ⟨rfl, rfl⟩
def trnI (fd fp : Nat → Int32) (v : Nat) : Nat → Int32 := upd fp v (if fp v + 1 < fd v then fp v + 1 else 0)
set_option maxRecDepth 100000 in
set_option maxHeartbeats 400000 in
theorem c_X7_turn {l : Launch} {D : va_G} {k : Nat → ClassId} (h : Nat) (jj : Nat) (dd : Nat) (n : Nat) (z : Nat) (fj : Nat → Int32) (fd : Nat → Int32) (o7 : Nat) (s1 : Nat) (b1 : Nat) (s2 : Nat) (fp : Nat → Int32) (v : Nat) (hv : v < 6) : CM l D k yX7_turn cX7_turn 3 none  1 22 [.ref o7, .int (nI v)] [(o7, .inr (9, [.ref h, .ref s1, .ref s2])), (h, .inr (5, [.ref jj, .ref dd, .int (nI n), .int (nI z)])), (jj, aI k 36 fj), (dd, aI k 6 fd), (s1, .inr (10, [.ref b1])), (b1, aI k 6 fp)] (is1 none [(o7, .inr (9, [.ref h, .ref s1, .ref s2])), (h, .inr (5, [.ref jj, .ref dd, .int (nI n), .int (nI z)])), (jj, aI k 36 fj), (dd, aI k 6 fd), (s1, .inr (10, [.ref b1])), (b1, aI k 6 (trnI fd fp v))]) 0 0 0 := by
  refine CM.of (lv0 := [(0, .ref o7), (1, .int (nI v))]) (by decide +kernel) (Nat.le_of_ble_eq_true rfl) rfl ?_
  intro p9 e9 s9 m9 bl9 me9 co9 C hr hlk hin had
  refine g_aload_n (pc := 0) C 0 rfl rfl dX7_turn_0 ?_
  refine g_get (pc := 1) C (T := TX7) inX7 0 rfl rfl 1 (by decide) q_80 rfl rfl dX7_turn_1 ?_
  refine g_iload_n (pc := 4) C 1 rfl rfl dX7_turn_4 ?_
  refine g_callV (pc := 5) (cells := 0) (slots := 0) (g := 0) (As := [.int (nI v)]) (st := []) (T := TX8) (q0 := 4) C (nA := 1) rfl (c_X8_at_n s1 b1 6 fp v (by first | assumption | decide | omega) (by first | assumption | decide | omega)) q_319 q_9 q_7 q_6 q_5 (by decide +kernel) rfl rfl dX7_turn_5 ⟨Nat.le_of_ble_eq_true rfl, Nat.le_of_ble_eq_true rfl⟩ [4, 5] [0, 1, 2, 3] rfl (wr := [(o7, .inr (9, [.ref h, .ref s1, .ref s2])), (h, .inr (5, [.ref jj, .ref dd, .int (nI n), .int (nI z)])), (jj, aI k 36 fj), (dd, aI k 6 fd)]) rfl (by decide) (by decide) (by decide) (Nat.le_of_ble_eq_true rfl) ⟨Nat.le_of_ble_eq_true rfl, Nat.le_of_ble_eq_true rfl⟩ (fun rv w1 h1 => ?_)
  obtain ⟨rfl, rfl⟩ := h1
  refine G.aft [0, 1, 2, 3, 4, 5] (ws' := [(o7, .inr (9, [.ref h, .ref s1, .ref s2])), (h, .inr (5, [.ref jj, .ref dd, .int (nI n), .int (nI z)])), (jj, aI k 36 fj), (dd, aI k 6 fd), (s1, .inr (10, [.ref b1])), (b1, aI k 6 fp)]) (st' := [.int (fp v)]) (cells' := 0) (slots' := 0) (g' := 0) (by decide) rfl rfl rfl rfl rfl ?_
  refine g_iconst (pc := 8) (v := 1) C (by decide) dX7_turn_8 ?_
  refine g_iadd (pc := 9) C dX7_turn_9 ?_
  refine g_istore_n (pc := 10) C [(2, .int ((fp v) + 1)), (0, .ref o7), (1, .int (nI v))] rfl dX7_turn_10 (by decide) rfl ?_
  refine g_aload_n (pc := 11) C 1 rfl rfl dX7_turn_11 ?_
  refine g_get (pc := 12) C (T := TX7) inX7 0 rfl rfl 1 (by decide) q_80 rfl rfl dX7_turn_12 ?_
  refine g_iload_n (pc := 15) C 2 rfl rfl dX7_turn_15 ?_
  refine g_iload_n (pc := 16) C 0 rfl rfl dX7_turn_16 ?_
  refine g_aload_n (pc := 17) C 1 rfl rfl dX7_turn_17 ?_
  refine g_get (pc := 18) C (T := TX7) inX7 0 rfl rfl 0 (by decide) q_82 rfl rfl dX7_turn_18 ?_
  refine g_iload_n (pc := 21) C 2 rfl rfl dX7_turn_21 ?_
  refine g_callV (pc := 22) (cells := 0) (slots := 0) (g := 0) (As := [.int (nI v)]) (st := [.int ((fp v) + 1), .int (nI v), .ref s1]) (T := TX3) (q0 := 1) C (nA := 1) rfl (c_X3_degreeOf h jj dd n z fj fd v (by first | assumption | decide | omega)) q_324 q_63 q_61 q_16 q_60 (by decide +kernel) rfl rfl dX7_turn_22 ⟨Nat.le_of_ble_eq_true rfl, Nat.le_of_ble_eq_true rfl⟩ [1, 2, 3] [0, 4, 5] rfl (wr := [(o7, .inr (9, [.ref h, .ref s1, .ref s2])), (s1, .inr (10, [.ref b1])), (b1, aI k 6 fp)]) rfl (by decide) (by decide) (by decide) (Nat.le_of_ble_eq_true rfl) ⟨Nat.le_of_ble_eq_true rfl, Nat.le_of_ble_eq_true rfl⟩ (fun rv w1 h1 => ?_)
  obtain ⟨rfl, rfl⟩ := h1
  refine G.aft [0, 3, 4, 5, 1, 2] (ws' := [(o7, .inr (9, [.ref h, .ref s1, .ref s2])), (h, .inr (5, [.ref jj, .ref dd, .int (nI n), .int (nI z)])), (jj, aI k 36 fj), (dd, aI k 6 fd), (s1, .inr (10, [.ref b1])), (b1, aI k 6 fp)]) (st' := [.int (fd v), .int ((fp v) + 1), .int (nI v), .ref s1]) (cells' := 0) (slots' := 0) (g' := 0) (by decide) rfl rfl rfl rfl rfl ?_
  refine g_icmp_ge (pc := 25) C 32 (by decide) dX7_turn_25 (fun c_25 => ?_) (fun c_25 => ?_)
  · refine g_iconst (pc := 32) (v := 0) C (by decide) dX7_turn_32 ?_
    refine g_callV (pc := 33) (cells := 0) (slots := 0) (g := 0) (As := [.int (nI v), .int 0]) (st := []) (T := TX8) (q0 := 4) C (nA := 2) rfl (c_X8_write_n s1 b1 6 fp v 0 (by first | assumption | decide | omega) (by first | assumption | decide | omega)) q_325 q_202 q_200 q_6 q_199 (by decide +kernel) rfl rfl dX7_turn_33 ⟨Nat.le_of_ble_eq_true rfl, Nat.le_of_ble_eq_true rfl⟩ [4, 5] [0, 1, 2, 3] rfl (wr := [(o7, .inr (9, [.ref h, .ref s1, .ref s2])), (h, .inr (5, [.ref jj, .ref dd, .int (nI n), .int (nI z)])), (jj, aI k 36 fj), (dd, aI k 6 fd)]) rfl (by decide) (by decide) (by decide) (Nat.le_of_ble_eq_true rfl) ⟨Nat.le_of_ble_eq_true rfl, Nat.le_of_ble_eq_true rfl⟩ (fun rv w1 h1 => ?_)
    obtain ⟨rfl, rfl⟩ := h1
    refine G.aft [0, 1, 2, 3, 4, 5] (ws' := [(o7, .inr (9, [.ref h, .ref s1, .ref s2])), (h, .inr (5, [.ref jj, .ref dd, .int (nI n), .int (nI z)])), (jj, aI k 36 fj), (dd, aI k 6 fd), (s1, .inr (10, [.ref b1])), (b1, aI k 6 (upd fp v 0))]) (st' := []) (cells' := 0) (slots' := 0) (g' := 0) (by decide) rfl rfl rfl rfl rfl ?_
    refine G.fn (trnI fd fp v) 5 [(o7, .inr (9, [.ref h, .ref s1, .ref s2])), (h, .inr (5, [.ref jj, .ref dd, .int (nI n), .int (nI z)])), (jj, aI k 36 fj), (dd, aI k 6 fd), (s1, .inr (10, [.ref b1])), (b1, aI k 6 (trnI fd fp v))] rfl (fun j hj => by first | (rw [trnI, if_pos (Int32.not_le.mp c_25)]) | (rw [trnI, if_neg (Int32.not_lt.mpr c_25)])) rfl ?_
    exact g_vret (pc := 36) C hr hlk (by first | decide | omega) (by first | decide | omega) (by first | decide | omega) dX7_turn_36 ⟨rfl, rfl⟩
  · refine g_iload_n (pc := 28) C 0 rfl rfl dX7_turn_28 ?_
    refine g_goto (pc := 29) C 33 (by decide) dX7_turn_29 ?_
    refine g_callV (pc := 33) (cells := 0) (slots := 0) (g := 0) (As := [.int (nI v), .int ((fp v) + 1)]) (st := []) (T := TX8) (q0 := 4) C (nA := 2) rfl (c_X8_write_n s1 b1 6 fp v ((fp v) + 1) (by first | assumption | decide | omega) (by first | assumption | decide | omega)) q_325 q_202 q_200 q_6 q_199 (by decide +kernel) rfl rfl dX7_turn_33 ⟨Nat.le_of_ble_eq_true rfl, Nat.le_of_ble_eq_true rfl⟩ [4, 5] [0, 1, 2, 3] rfl (wr := [(o7, .inr (9, [.ref h, .ref s1, .ref s2])), (h, .inr (5, [.ref jj, .ref dd, .int (nI n), .int (nI z)])), (jj, aI k 36 fj), (dd, aI k 6 fd)]) rfl (by decide) (by decide) (by decide) (Nat.le_of_ble_eq_true rfl) ⟨Nat.le_of_ble_eq_true rfl, Nat.le_of_ble_eq_true rfl⟩ (fun rv w1 h1 => ?_)
    obtain ⟨rfl, rfl⟩ := h1
    refine G.aft [0, 1, 2, 3, 4, 5] (ws' := [(o7, .inr (9, [.ref h, .ref s1, .ref s2])), (h, .inr (5, [.ref jj, .ref dd, .int (nI n), .int (nI z)])), (jj, aI k 36 fj), (dd, aI k 6 fd), (s1, .inr (10, [.ref b1])), (b1, aI k 6 (upd fp v ((fp v) + 1)))]) (st' := []) (cells' := 0) (slots' := 0) (g' := 0) (by decide) rfl rfl rfl rfl rfl ?_
    refine G.fn (trnI fd fp v) 5 [(o7, .inr (9, [.ref h, .ref s1, .ref s2])), (h, .inr (5, [.ref jj, .ref dd, .int (nI n), .int (nI z)])), (jj, aI k 36 fj), (dd, aI k 6 fd), (s1, .inr (10, [.ref b1])), (b1, aI k 6 (trnI fd fp v))] rfl (fun j hj => by first | (rw [trnI, if_pos (Int32.not_le.mp c_25)]) | (rw [trnI, if_neg (Int32.not_lt.mpr c_25)])) rfl ?_
    exact g_vret (pc := 36) C hr hlk (by first | decide | omega) (by first | decide | omega) (by first | decide | omega) dX7_turn_36 ⟨rfl, rfl⟩
/-- the walker's steps: how many, where, the rotors, the visits -/
def ldL (fj fd : Nat → Int32) (n z : Nat) : Nat → Nat → Nat × (Nat → Int32) × (Nat → Int32) → Nat × Nat × (Nat → Int32) × (Nat → Int32)
  | 0, s, T => (s, T)
  | r + 1, s, T => if T.1 = z then (s, T) else ldL fj fd n z r (s + 1) (endN fj n z T.1 (T.2.1 T.1), trnI fd T.2.1 T.1, upd T.2.2 (endN fj n z T.1 (T.2.1 T.1)) (T.2.2 (endN fj n z T.1 (T.2.1 T.1)) + 1))
theorem ldL_n {fj fd : Nat → Int32} {n z r k s : Nat} {T : Nat × (Nat → Int32) × (Nat → Int32)} {U : Nat × Nat × (Nat → Int32) × (Nat → Int32)} (hr : r = k + 1) (h : ldL fj fd n z r s T = U) (hz : ¬ T.1 = z) : ldL fj fd n z k (s + 1) (endN fj n z T.1 (T.2.1 T.1), trnI fd T.2.1 T.1, upd T.2.2 (endN fj n z T.1 (T.2.1 T.1)) (T.2.2 (endN fj n z T.1 (T.2.1 T.1)) + 1)) = U := by
  subst hr
  rw [← h]
  show _ = (if _ then _ else _)
  rw [if_neg hz]
theorem ldL_e {fj fd : Nat → Int32} {n z r s : Nat} {T : Nat × (Nat → Int32) × (Nat → Int32)} {U : Nat × Nat × (Nat → Int32) × (Nat → Int32)} (h : ldL fj fd n z r s T = U) (hz : T.1 = z) : U = (s, T) := by
  rw [← h]
  cases r with
  | zero => rfl
  | succ k => show (if _ then _ else _) = _; rw [if_pos hz]
theorem endN_lt {fj : Nat → Int32} {n z v : Nat} {e : Int32} (hz : z < n) : endN fj n z v e < n := by
  unfold endN
  cases h : low (fun w => decide (endL fj v e (w + 1) < 0)) n with
  | none => exact hz
  | some w => exact (low_some.mp h).1
set_option maxRecDepth 100000 in
set_option maxHeartbeats 400000 in
theorem c_X7_lead {l : Launch} {D : va_G} {k : Nat → ClassId} (h : Nat) (jj : Nat) (dd : Nat) (n : Nat) (z : Nat) (fj : Nat → Int32) (fd : Nat → Int32) (o7 : Nat) (s1 : Nat) (b1 : Nat) (s2 : Nat) (b2 : Nat) (fp : Nat → Int32) (fv : Nat → Int32) (v : Nat) (hn : n ≤ 6) (hv : v < n) (hz : z < n) : CM l D k yX7_lead cX7_lead 5 (some .int)  3 68 [.ref o7, .int (nI v)] [(o7, .inr (9, [.ref h, .ref s1, .ref s2])), (h, .inr (5, [.ref jj, .ref dd, .int (nI n), .int (nI z)])), (jj, aI k 36 fj), (dd, aI k 6 fd), (s1, .inr (10, [.ref b1])), (b1, aI k 6 fp), (s2, .inr (10, [.ref b2])), (b2, aI k 6 fv)] (is1 (some (.int (nI (ldL fj fd n z mR 0 (v, fp, upd fv v (fv v + 1))).1))) [(o7, .inr (9, [.ref h, .ref s1, .ref s2])), (h, .inr (5, [.ref jj, .ref dd, .int (nI n), .int (nI z)])), (jj, aI k 36 fj), (dd, aI k 6 fd), (s1, .inr (10, [.ref b1])), (b1, aI k 6 ((ldL fj fd n z mR 0 (v, fp, upd fv v (fv v + 1))).2.2.1)), (s2, .inr (10, [.ref b2])), (b2, aI k 6 ((ldL fj fd n z mR 0 (v, fp, upd fv v (fv v + 1))).2.2.2))]) 0 0 0 := by
  refine CM.of (lv0 := [(0, .ref o7), (1, .int (nI v))]) (by decide +kernel) (Nat.le_of_ble_eq_true rfl) rfl ?_
  intro p9 e9 s9 m9 bl9 me9 co9 C hr hlk hin had
  refine g_iload_n (pc := 0) C 1 rfl rfl dX7_lead_0 ?_
  refine g_istore_n (pc := 1) C [(2, .int (nI v)), (0, .ref o7), (1, .int (nI v))] rfl dX7_lead_1 (by decide) rfl ?_
  refine g_iconst (pc := 2) (v := 0) C (by decide) dX7_lead_2 ?_
  refine g_istore_n (pc := 3) C [(3, .int 0), (2, .int (nI v)), (0, .ref o7), (1, .int (nI v))] rfl dX7_lead_3 (by decide) rfl ?_
  refine g_aload_n (pc := 4) C 2 rfl rfl dX7_lead_4 ?_
  refine g_get (pc := 5) C (T := TX7) inX7 0 rfl rfl 2 (by decide) q_81 rfl rfl dX7_lead_5 ?_
  refine g_iload_n (pc := 8) C 1 rfl rfl dX7_lead_8 ?_
  refine g_iconst (pc := 9) (v := 1) C (by decide) dX7_lead_9 ?_
  refine g_callV (pc := 10) (cells := 0) (slots := 0) (g := 0) (As := [.int (nI v), .int 1]) (st := []) (T := TX8) (q0 := 6) C (nA := 2) rfl (c_X8_add_n s2 b2 6 fv v 1 (by first | assumption | decide | omega) (by first | assumption | decide | omega)) q_326 q_59 q_57 q_6 q_56 (by decide +kernel) rfl rfl dX7_lead_10 ⟨Nat.le_of_ble_eq_true rfl, Nat.le_of_ble_eq_true rfl⟩ [6, 7] [0, 1, 2, 3, 4, 5] rfl (wr := [(o7, .inr (9, [.ref h, .ref s1, .ref s2])), (h, .inr (5, [.ref jj, .ref dd, .int (nI n), .int (nI z)])), (jj, aI k 36 fj), (dd, aI k 6 fd), (s1, .inr (10, [.ref b1])), (b1, aI k 6 fp)]) rfl (by decide) (by decide) (by decide) (Nat.le_of_ble_eq_true rfl) ⟨Nat.le_of_ble_eq_true rfl, Nat.le_of_ble_eq_true rfl⟩ (fun rv w1 h1 => ?_)
  obtain ⟨rfl, rfl⟩ := h1
  refine G.aft [0, 1, 2, 3, 4, 5, 6, 7] (ws' := [(o7, .inr (9, [.ref h, .ref s1, .ref s2])), (h, .inr (5, [.ref jj, .ref dd, .int (nI n), .int (nI z)])), (jj, aI k 36 fj), (dd, aI k 6 fd), (s1, .inr (10, [.ref b1])), (b1, aI k 6 fp), (s2, .inr (10, [.ref b2])), (b2, aI k 6 (upd fv v (fv v + 1)))]) (st' := []) (cells' := 0) (slots' := 0) (g' := 0) (by decide) rfl rfl rfl rfl rfl ?_
  have key_13 : ∀ (fuel : Nat) (s : Nat) (T : Nat × (Nat → Int32) × (Nat → Int32)), s ≤ mR → ldL fj fd n z (mR - s) s T = (ldL fj fd n z mR 0 (v, fp, upd fv v (fv v + 1))) → T.1 < n → mR - s < fuel → G p9 l e9 { frames := 3, cells := 0, slots := 0, locals := 68 } s9 m9 ([.ref o7, .int (nI v)] : List Value).toArray bl9 me9 co9 D 5 (va_A [(o7, .inr (9, [.ref h, .ref s1, .ref s2])), (h, .inr (5, [.ref jj, .ref dd, .int (nI n), .int (nI z)])), (jj, aI k 36 fj), (dd, aI k 6 fd), (s1, .inr (10, [.ref b1])), (b1, aI k 6 fp), (s2, .inr (10, [.ref b2])), (b2, aI k 6 fv)] s9.heap.size) (QM bl9 D ([.ref o7, .int (nI v)] : List Value).toArray s9 [(o7, .inr (9, [.ref h, .ref s1, .ref s2])), (h, .inr (5, [.ref jj, .ref dd, .int (nI n), .int (nI z)])), (jj, aI k 36 fj), (dd, aI k 6 fd), (s1, .inr (10, [.ref b1])), (b1, aI k 6 fp), (s2, .inr (10, [.ref b2])), (b2, aI k 6 fv)] (is1 (some (.int (nI (ldL fj fd n z mR 0 (v, fp, upd fv v (fv v + 1))).1))) [(o7, .inr (9, [.ref h, .ref s1, .ref s2])), (h, .inr (5, [.ref jj, .ref dd, .int (nI n), .int (nI z)])), (jj, aI k 36 fj), (dd, aI k 6 fd), (s1, .inr (10, [.ref b1])), (b1, aI k 6 ((ldL fj fd n z mR 0 (v, fp, upd fv v (fv v + 1))).2.2.1)), (s2, .inr (10, [.ref b2])), (b2, aI k 6 ((ldL fj fd n z mR 0 (v, fp, upd fv v (fv v + 1))).2.2.2))]) 0 0 0) [(o7, .inr (9, [.ref h, .ref s1, .ref s2])), (h, .inr (5, [.ref jj, .ref dd, .int (nI n), .int (nI z)])), (jj, aI k 36 fj), (dd, aI k 6 fd), (s1, .inr (10, [.ref b1])), (b1, aI k 6 T.2.1), (s2, .inr (10, [.ref b2])), (b2, aI k 6 T.2.2)] [(0, .ref o7), (2, .int (nI T.1)), (3, .int (nI s))] 0 0 0 13 [] := by
    intro fuel
    induction fuel with
    | zero => intro s T hs hT hv1 hm; exact absurd hm (Nat.not_lt_zero _)
    | succ fuel ih =>
      intro s T hs hT hv1 hm
      have ih_13 := ih
      have hmR : mR = 1000000 := rfl
      refine g_iload_n (pc := 13) C 2 rfl rfl dX7_lead_13 ?_
      refine g_ldc (pc := 14) C (v := 1000000) q_327 dX7_lead_14 ?_
      refine g_icmp_ge (pc := 16) C 60 (by decide) dX7_lead_16 (fun c_16 => ?_) (fun c_16 => ?_)
      · have h7 : s = mR := by { have := nle_ge (b := mR) (by rw [mR_e]; omega) c_16; omega }
        have hU : (ldL fj fd n z mR 0 (v, fp, upd fv v (fv v + 1))) = (s, T) := by { subst h7; rw [Nat.sub_self] at hT; exact hT.symm }
        refine g_iload_n (pc := 60) C 2 rfl rfl dX7_lead_60 ?_
        refine G.fn ((ldL fj fd n z mR 0 (v, fp, upd fv v (fv v + 1))).2.2.1) 5 [(o7, .inr (9, [.ref h, .ref s1, .ref s2])), (h, .inr (5, [.ref jj, .ref dd, .int (nI n), .int (nI z)])), (jj, aI k 36 fj), (dd, aI k 6 fd), (s1, .inr (10, [.ref b1])), (b1, aI k 6 ((ldL fj fd n z mR 0 (v, fp, upd fv v (fv v + 1))).2.2.1)), (s2, .inr (10, [.ref b2])), (b2, aI k 6 T.2.2)] rfl (fun j hj => by rw [hU]) rfl ?_
        refine G.fn ((ldL fj fd n z mR 0 (v, fp, upd fv v (fv v + 1))).2.2.2) 7 [(o7, .inr (9, [.ref h, .ref s1, .ref s2])), (h, .inr (5, [.ref jj, .ref dd, .int (nI n), .int (nI z)])), (jj, aI k 36 fj), (dd, aI k 6 fd), (s1, .inr (10, [.ref b1])), (b1, aI k 6 ((ldL fj fd n z mR 0 (v, fp, upd fv v (fv v + 1))).2.2.1)), (s2, .inr (10, [.ref b2])), (b2, aI k 6 ((ldL fj fd n z mR 0 (v, fp, upd fv v (fv v + 1))).2.2.2))] rfl (fun j hj => by rw [hU]) rfl ?_
        refine G.eqs (st' := [.int (nI (ldL fj fd n z mR 0 (v, fp, upd fv v (fv v + 1))).1)]) (congrArg (fun z9 => [Value.int z9]) (show ((nI s) : Int32) = (nI (ldL fj fd n z mR 0 (v, fp, upd fv v (fv v + 1))).1) from by rw [hU])) ?_
        exact g_iret (pc := 61) C hr hlk (by first | decide | omega) (by first | decide | omega) (by first | decide | omega) dX7_lead_61 ⟨rfl, rfl⟩
      · have h7 : s < mR := nle_lt (b := mR) (by omega) c_16
        refine g_aload_n (pc := 19) C 0 rfl rfl dX7_lead_19 ?_
        refine g_get (pc := 20) C (T := TX7) inX7 0 rfl rfl 0 (by decide) q_82 rfl rfl dX7_lead_20 ?_
        refine g_iload_n (pc := 23) C 1 rfl rfl dX7_lead_23 ?_
        refine g_callV (pc := 24) (cells := 0) (slots := 0) (g := 0) (As := [.int (nI T.1)]) (st := []) (T := TX3) (q0 := 1) C (nA := 1) rfl (c_X3_isSink h jj dd n z fj fd T.1 (by first | assumption | decide | omega) (by first | assumption | decide | omega)) q_328 q_55 q_53 q_16 q_52 (by decide +kernel) rfl rfl dX7_lead_24 ⟨Nat.le_of_ble_eq_true rfl, Nat.le_of_ble_eq_true rfl⟩ [1, 2, 3] [0, 4, 5, 6, 7] rfl (wr := [(o7, .inr (9, [.ref h, .ref s1, .ref s2])), (s1, .inr (10, [.ref b1])), (b1, aI k 6 T.2.1), (s2, .inr (10, [.ref b2])), (b2, aI k 6 T.2.2)]) rfl (by decide) (by decide) (by decide) (Nat.le_of_ble_eq_true rfl) ⟨Nat.le_of_ble_eq_true rfl, Nat.le_of_ble_eq_true rfl⟩ (fun rv w1 h1 => ?_)
        obtain ⟨rfl, rfl⟩ := h1
        refine G.aft [0, 5, 6, 7, 1, 2, 3, 4] (ws' := [(o7, .inr (9, [.ref h, .ref s1, .ref s2])), (h, .inr (5, [.ref jj, .ref dd, .int (nI n), .int (nI z)])), (jj, aI k 36 fj), (dd, aI k 6 fd), (s1, .inr (10, [.ref b1])), (b1, aI k 6 T.2.1), (s2, .inr (10, [.ref b2])), (b2, aI k 6 T.2.2)]) (st' := [.int (bI (decide (T.1 = z)))]) (cells' := 0) (slots' := 0) (g' := 0) (by decide) rfl rfl rfl rfl rfl ?_
        refine g_if_ne (pc := 27) C 60 (by decide) dX7_lead_27 (fun c_27 => ?_) (fun c_27 => ?_)
        · simp only [bI_0, decide_eq_false_iff_not, decide_eq_true_eq, Bool.not_eq_false, Decidable.not_not] at c_27
          have hU := ldL_e hT c_27
          refine g_iload_n (pc := 60) C 2 rfl rfl dX7_lead_60 ?_
          refine G.fn ((ldL fj fd n z mR 0 (v, fp, upd fv v (fv v + 1))).2.2.1) 5 [(o7, .inr (9, [.ref h, .ref s1, .ref s2])), (h, .inr (5, [.ref jj, .ref dd, .int (nI n), .int (nI z)])), (jj, aI k 36 fj), (dd, aI k 6 fd), (s1, .inr (10, [.ref b1])), (b1, aI k 6 ((ldL fj fd n z mR 0 (v, fp, upd fv v (fv v + 1))).2.2.1)), (s2, .inr (10, [.ref b2])), (b2, aI k 6 T.2.2)] rfl (fun j hj => by rw [hU]) rfl ?_
          refine G.fn ((ldL fj fd n z mR 0 (v, fp, upd fv v (fv v + 1))).2.2.2) 7 [(o7, .inr (9, [.ref h, .ref s1, .ref s2])), (h, .inr (5, [.ref jj, .ref dd, .int (nI n), .int (nI z)])), (jj, aI k 36 fj), (dd, aI k 6 fd), (s1, .inr (10, [.ref b1])), (b1, aI k 6 ((ldL fj fd n z mR 0 (v, fp, upd fv v (fv v + 1))).2.2.1)), (s2, .inr (10, [.ref b2])), (b2, aI k 6 ((ldL fj fd n z mR 0 (v, fp, upd fv v (fv v + 1))).2.2.2))] rfl (fun j hj => by rw [hU]) rfl ?_
          refine G.eqs (st' := [.int (nI (ldL fj fd n z mR 0 (v, fp, upd fv v (fv v + 1))).1)]) (congrArg (fun z9 => [Value.int z9]) (show ((nI s) : Int32) = (nI (ldL fj fd n z mR 0 (v, fp, upd fv v (fv v + 1))).1) from by rw [hU])) ?_
          exact g_iret (pc := 61) C hr hlk (by first | decide | omega) (by first | decide | omega) (by first | decide | omega) dX7_lead_61 ⟨rfl, rfl⟩
        · simp only [bI_0, decide_eq_false_iff_not, decide_eq_true_eq, Bool.not_eq_false, Decidable.not_not] at c_27
          refine g_aload_n (pc := 30) C 0 rfl rfl dX7_lead_30 ?_
          refine g_iload_n (pc := 31) C 1 rfl rfl dX7_lead_31 ?_
          refine g_callV (pc := 32) (cells := 0) (slots := 0) (g := 0) (As := [.int (nI T.1)]) (st := []) (T := TX7) (q0 := 0) C (nA := 1) rfl (c_X7_target h jj dd n z fj fd o7 s1 b1 s2 T.2.1 T.1 (by first | assumption | decide | omega) (by first | assumption | decide | omega)) q_331 q_332 q_330 q_168 q_329 (by decide +kernel) rfl rfl dX7_lead_32 ⟨Nat.le_of_ble_eq_true rfl, Nat.le_of_ble_eq_true rfl⟩ [0, 1, 2, 3, 4, 5] [6, 7] rfl (wr := [(s2, .inr (10, [.ref b2])), (b2, aI k 6 T.2.2)]) rfl (by decide) (by decide) (by decide) (Nat.le_of_ble_eq_true rfl) ⟨Nat.le_of_ble_eq_true rfl, Nat.le_of_ble_eq_true rfl⟩ (fun rv w1 h1 => ?_)
          obtain ⟨rfl, rfl⟩ := h1
          refine G.aft [2, 3, 4, 5, 6, 7, 0, 1] (ws' := [(o7, .inr (9, [.ref h, .ref s1, .ref s2])), (h, .inr (5, [.ref jj, .ref dd, .int (nI n), .int (nI z)])), (jj, aI k 36 fj), (dd, aI k 6 fd), (s1, .inr (10, [.ref b1])), (b1, aI k 6 T.2.1), (s2, .inr (10, [.ref b2])), (b2, aI k 6 T.2.2)]) (st' := [.int (nI (endN fj n z T.1 (T.2.1 T.1)))]) (cells' := 0) (slots' := 0) (g' := 0) (by decide) rfl rfl rfl rfl rfl ?_
          refine g_istore (pc := 35) C [(4, .int (nI (endN fj n z T.1 (T.2.1 T.1)))), (0, .ref o7), (2, .int (nI T.1)), (3, .int (nI s))] dX7_lead_35 (by decide) rfl ?_
          refine g_aload_n (pc := 37) C 1 rfl rfl dX7_lead_37 ?_
          refine g_iload_n (pc := 38) C 2 rfl rfl dX7_lead_38 ?_
          refine g_callV (pc := 39) (cells := 0) (slots := 0) (g := 0) (As := [.int (nI T.1)]) (st := []) (T := TX7) (q0 := 0) C (nA := 1) rfl (c_X7_turn h jj dd n z fj fd o7 s1 b1 s2 T.2.1 T.1 (by first | assumption | decide | omega)) q_335 q_336 q_334 q_168 q_333 (by decide +kernel) rfl rfl dX7_lead_39 ⟨Nat.le_of_ble_eq_true rfl, Nat.le_of_ble_eq_true rfl⟩ [0, 1, 2, 3, 4, 5] [6, 7] rfl (wr := [(s2, .inr (10, [.ref b2])), (b2, aI k 6 T.2.2)]) rfl (by decide) (by decide) (by decide) (Nat.le_of_ble_eq_true rfl) ⟨Nat.le_of_ble_eq_true rfl, Nat.le_of_ble_eq_true rfl⟩ (fun rv w1 h1 => ?_)
          obtain ⟨rfl, rfl⟩ := h1
          refine G.aft [2, 3, 4, 5, 6, 7, 0, 1] (ws' := [(o7, .inr (9, [.ref h, .ref s1, .ref s2])), (h, .inr (5, [.ref jj, .ref dd, .int (nI n), .int (nI z)])), (jj, aI k 36 fj), (dd, aI k 6 fd), (s1, .inr (10, [.ref b1])), (b1, aI k 6 (trnI fd T.2.1 T.1)), (s2, .inr (10, [.ref b2])), (b2, aI k 6 T.2.2)]) (st' := []) (cells' := 0) (slots' := 0) (g' := 0) (by decide) rfl rfl rfl rfl rfl ?_
          refine g_iload (pc := 42) C 0 rfl dX7_lead_42 ?_
          refine g_istore_n (pc := 44) C [(2, .int (nI (endN fj n z T.1 (T.2.1 T.1)))), (4, .int (nI (endN fj n z T.1 (T.2.1 T.1)))), (0, .ref o7), (3, .int (nI s))] rfl dX7_lead_44 (by decide) rfl ?_
          refine g_aload_n (pc := 45) C 2 rfl rfl dX7_lead_45 ?_
          refine g_get (pc := 46) C (T := TX7) inX7 0 rfl rfl 2 (by decide) q_81 rfl rfl dX7_lead_46 ?_
          refine g_iload_n (pc := 49) C 0 rfl rfl dX7_lead_49 ?_
          refine g_iconst (pc := 50) (v := 1) C (by decide) dX7_lead_50 ?_
          refine g_callV (pc := 51) (cells := 0) (slots := 0) (g := 0) (As := [.int (nI (endN fj n z T.1 (T.2.1 T.1))), .int 1]) (st := []) (T := TX8) (q0 := 6) C (nA := 2) rfl (c_X8_add_n s2 b2 6 T.2.2 (endN fj n z T.1 (T.2.1 T.1)) 1 (by first | assumption | decide | omega) (Nat.lt_of_lt_of_le (endN_lt hz) hn)) q_326 q_59 q_57 q_6 q_56 (by decide +kernel) rfl rfl dX7_lead_51 ⟨Nat.le_of_ble_eq_true rfl, Nat.le_of_ble_eq_true rfl⟩ [6, 7] [0, 1, 2, 3, 4, 5] rfl (wr := [(o7, .inr (9, [.ref h, .ref s1, .ref s2])), (h, .inr (5, [.ref jj, .ref dd, .int (nI n), .int (nI z)])), (jj, aI k 36 fj), (dd, aI k 6 fd), (s1, .inr (10, [.ref b1])), (b1, aI k 6 (trnI fd T.2.1 T.1))]) rfl (by decide) (by decide) (by decide) (Nat.le_of_ble_eq_true rfl) ⟨Nat.le_of_ble_eq_true rfl, Nat.le_of_ble_eq_true rfl⟩ (fun rv w1 h1 => ?_)
          obtain ⟨rfl, rfl⟩ := h1
          refine G.aft [0, 1, 2, 3, 4, 5, 6, 7] (ws' := [(o7, .inr (9, [.ref h, .ref s1, .ref s2])), (h, .inr (5, [.ref jj, .ref dd, .int (nI n), .int (nI z)])), (jj, aI k 36 fj), (dd, aI k 6 fd), (s1, .inr (10, [.ref b1])), (b1, aI k 6 (trnI fd T.2.1 T.1)), (s2, .inr (10, [.ref b2])), (b2, aI k 6 (upd T.2.2 (endN fj n z T.1 (T.2.1 T.1)) (T.2.2 (endN fj n z T.1 (T.2.1 T.1)) + 1)))]) (st' := []) (cells' := 0) (slots' := 0) (g' := 0) (by decide) rfl rfl rfl rfl rfl ?_
          refine g_iinc (pc := 54) (n := 1) (v := (nI (s + 1))) C 3 [(3, .int (nI (s + 1))), (2, .int (nI (endN fj n z T.1 (T.2.1 T.1)))), (4, .int (nI (endN fj n z T.1 (T.2.1 T.1)))), (0, .ref o7)] rfl (nI_1 s) dX7_lead_54 (by decide) rfl ?_
          refine g_goto (pc := 57) C 13 (by decide) dX7_lead_57 ?_
          refine G.loc [3, 1, 0] (lv' := [(0, .ref o7), (2, .int (nI (endN fj n z T.1 (T.2.1 T.1)))), (3, .int (nI (s + 1)))]) rfl ?_
          refine G.fn ((endN fj n z T.1 (T.2.1 T.1), trnI fd T.2.1 T.1, upd T.2.2 (endN fj n z T.1 (T.2.1 T.1)) (T.2.2 (endN fj n z T.1 (T.2.1 T.1)) + 1)).2.1) 5 [(o7, .inr (9, [.ref h, .ref s1, .ref s2])), (h, .inr (5, [.ref jj, .ref dd, .int (nI n), .int (nI z)])), (jj, aI k 36 fj), (dd, aI k 6 fd), (s1, .inr (10, [.ref b1])), (b1, aI k 6 ((endN fj n z T.1 (T.2.1 T.1), trnI fd T.2.1 T.1, upd T.2.2 (endN fj n z T.1 (T.2.1 T.1)) (T.2.2 (endN fj n z T.1 (T.2.1 T.1)) + 1)).2.1)), (s2, .inr (10, [.ref b2])), (b2, aI k 6 (upd T.2.2 (endN fj n z T.1 (T.2.1 T.1)) (T.2.2 (endN fj n z T.1 (T.2.1 T.1)) + 1)))] rfl (fun j hj => by rfl) rfl ?_
          refine G.fn ((endN fj n z T.1 (T.2.1 T.1), trnI fd T.2.1 T.1, upd T.2.2 (endN fj n z T.1 (T.2.1 T.1)) (T.2.2 (endN fj n z T.1 (T.2.1 T.1)) + 1)).2.2) 7 [(o7, .inr (9, [.ref h, .ref s1, .ref s2])), (h, .inr (5, [.ref jj, .ref dd, .int (nI n), .int (nI z)])), (jj, aI k 36 fj), (dd, aI k 6 fd), (s1, .inr (10, [.ref b1])), (b1, aI k 6 ((endN fj n z T.1 (T.2.1 T.1), trnI fd T.2.1 T.1, upd T.2.2 (endN fj n z T.1 (T.2.1 T.1)) (T.2.2 (endN fj n z T.1 (T.2.1 T.1)) + 1)).2.1)), (s2, .inr (10, [.ref b2])), (b2, aI k 6 ((endN fj n z T.1 (T.2.1 T.1), trnI fd T.2.1 T.1, upd T.2.2 (endN fj n z T.1 (T.2.1 T.1)) (T.2.2 (endN fj n z T.1 (T.2.1 T.1)) + 1)).2.2))] rfl (fun j hj => by rfl) rfl ?_
          refine G.eql (lv' := [(0, .ref o7), (2, .int (nI (endN fj n z T.1 (T.2.1 T.1), trnI fd T.2.1 T.1, upd T.2.2 (endN fj n z T.1 (T.2.1 T.1)) (T.2.2 (endN fj n z T.1 (T.2.1 T.1)) + 1)).1)), (3, .int (nI (s + 1)))]) (congrArg (β := List (Nat × Value)) (fun z9 => [(0, .ref o7), (2, .int z9), (3, .int (nI (s + 1)))]) (show ((nI (endN fj n z T.1 (T.2.1 T.1))) : Int32) = (nI (endN fj n z T.1 (T.2.1 T.1), trnI fd T.2.1 T.1, upd T.2.2 (endN fj n z T.1 (T.2.1 T.1)) (T.2.2 (endN fj n z T.1 (T.2.1 T.1)) + 1)).1) from by rfl)) ?_
          exact ih_13 (s + 1) (endN fj n z T.1 (T.2.1 T.1), trnI fd T.2.1 T.1, upd T.2.2 (endN fj n z T.1 (T.2.1 T.1)) (T.2.2 (endN fj n z T.1 (T.2.1 T.1)) + 1)) (by omega) (ldL_n (show mR - s = (mR - (s + 1)) + 1 by omega) hT c_27) (endN_lt hz) (by omega)
  refine G.loc [2, 1, 0] (lv' := [(0, .ref o7), (2, .int (nI v)), (3, .int 0)]) rfl ?_
  refine G.fn ((v, fp, upd fv v (fv v + 1)).2.1) 5 [(o7, .inr (9, [.ref h, .ref s1, .ref s2])), (h, .inr (5, [.ref jj, .ref dd, .int (nI n), .int (nI z)])), (jj, aI k 36 fj), (dd, aI k 6 fd), (s1, .inr (10, [.ref b1])), (b1, aI k 6 ((v, fp, upd fv v (fv v + 1)).2.1)), (s2, .inr (10, [.ref b2])), (b2, aI k 6 (upd fv v (fv v + 1)))] rfl (fun j hj => by rfl) rfl ?_
  refine G.fn ((v, fp, upd fv v (fv v + 1)).2.2) 7 [(o7, .inr (9, [.ref h, .ref s1, .ref s2])), (h, .inr (5, [.ref jj, .ref dd, .int (nI n), .int (nI z)])), (jj, aI k 36 fj), (dd, aI k 6 fd), (s1, .inr (10, [.ref b1])), (b1, aI k 6 ((v, fp, upd fv v (fv v + 1)).2.1)), (s2, .inr (10, [.ref b2])), (b2, aI k 6 ((v, fp, upd fv v (fv v + 1)).2.2))] rfl (fun j hj => by rfl) rfl ?_
  refine G.eql (lv' := [(0, .ref o7), (2, .int (nI (v, fp, upd fv v (fv v + 1)).1)), (3, .int (nI 0))]) ((congrArg (β := List (Nat × Value)) (fun z9 => [(0, .ref o7), (2, .int z9), (3, .int 0)]) (show ((nI v) : Int32) = (nI (v, fp, upd fv v (fv v + 1)).1) from by first | rfl | exact nI_0.symm)).trans (congrArg (β := List (Nat × Value)) (fun z9 => [(0, .ref o7), (2, .int (nI (v, fp, upd fv v (fv v + 1)).1)), (3, .int z9)]) (show (0 : Int32) = (nI 0) from by first | rfl | exact nI_0.symm))) ?_
  exact key_13 (mR - 0 + 1) 0 (v, fp, upd fv v (fv v + 1)) (by omega) rfl hv (Nat.lt_succ_self _)
