theorem dX11_in_0 : decode cX11_in 0 = .ok (.iload_n 0, 1) := by decide +kernel
theorem dX11_in_1 : decode cX11_in 1 = .ok (.iload_n 1, 1) := by decide +kernel
theorem dX11_in_2 : decode cX11_in 2 = .ok (.if_icmp .lt 12, 3) := by decide +kernel
theorem dX11_in_14 : decode cX11_in 14 = .ok (.iconst 0, 1) := by decide +kernel
theorem dX11_in_15 : decode cX11_in 15 = .ok (.ireturn, 1) := by decide +kernel
theorem dX11_in_5 : decode cX11_in 5 = .ok (.iload_n 0, 1) := by decide +kernel
theorem dX11_in_6 : decode cX11_in 6 = .ok (.iload_n 2, 1) := by decide +kernel
theorem dX11_in_7 : decode cX11_in 7 = .ok (.if_icmp .gt 7, 3) := by decide +kernel
theorem dX11_in_10 : decode cX11_in 10 = .ok (.iconst 1, 1) := by decide +kernel
theorem dX11_in_11 : decode cX11_in 11 = .ok (.goto 4, 3) := by decide +kernel
theorem dX11_isVertex_0 : decode cX11_isVertex 0 = .ok (.iload_n 1, 1) := by decide +kernel
theorem dX11_isVertex_1 : decode cX11_isVertex 1 = .ok (.iconst 0, 1) := by decide +kernel
theorem dX11_isVertex_2 : decode cX11_isVertex 2 = .ok (.aload_n 0, 1) := by decide +kernel
theorem dX11_isVertex_3 : decode cX11_isVertex 3 = .ok (.getfield 33, 3) := by decide +kernel
theorem q_244 : (Jvm.Cond.fieldLink "ChipfoldModel" (33 : Nat) "ChipfoldModel" "size" "I") ∈ WG := wg_5 (List.mem_of_getElem? (i := 168) (by decide +kernel)) (by decide +kernel)
theorem inX11 : ∀ w ∈ u_ws RX11 TX11 12, w ∈ WG := by decide +kernel
theorem dX11_isVertex_6 : decode cX11_isVertex 6 = .ok (.iconst 1, 1) := by decide +kernel
theorem dX11_isVertex_7 : decode cX11_isVertex 7 = .ok (.isub, 1) := by decide +kernel
theorem dX11_isVertex_8 : decode cX11_isVertex 8 = .ok (.invokestatic 49, 3) := by decide +kernel
theorem q_245 : (Jvm.Cond.code ({ cls := "ChipfoldModel", name := "in", desc := "(III)Z" } : Jvm.MethodName) prog_13_method_3_code (3 : Nat) (Option.some Jvm.ClassFile.FieldType.boolean)) ∈ WG := wg_5 (List.mem_of_getElem? (i := 216) rfl) rfl
theorem q_246 : (Jvm.Cond.initialized "ChipfoldModel") ∈ WG := wg_1 (List.mem_of_getElem? (i := 12) (by decide +kernel)) (by decide +kernel)
theorem q_247 : (Jvm.Cond.methodLink "ChipfoldModel" (49 : Nat) ({ cls := "ChipfoldModel", name := "in", desc := "(III)Z" } : Jvm.MethodName)) ∈ WG := wg_5 (List.mem_of_getElem? (i := 214) (by decide +kernel)) (by decide +kernel)
theorem q_248 : (Jvm.Cond.static ({ cls := "ChipfoldModel", name := "in", desc := "(III)Z" } : Jvm.MethodName)) ∈ WG := wg_5 (List.mem_of_getElem? (i := 215) (by decide +kernel)) (by decide +kernel)
theorem dX11_isVertex_11 : decode cX11_isVertex 11 = .ok (.ireturn, 1) := by decide +kernel
theorem dX11_begin_0 : decode cX11_begin 0 = .ok (.aload_n 0, 1) := by decide +kernel
theorem dX11_begin_1 : decode cX11_begin 1 = .ok (.bipush 6, 2) := by decide +kernel
theorem dX11_begin_3 : decode cX11_begin 3 = .ok (.newarray .int, 2) := by decide +kernel
theorem dX11_begin_5 : decode cX11_begin 5 = .ok (.putfield 14, 3) := by decide +kernel
theorem q_249 : (Jvm.Cond.fieldLink "ChipfoldModel" (14 : Nat) "ChipfoldModel" "chips" "[I") ∈ WG := wg_5 (List.mem_of_getElem? (i := 162) (by decide +kernel)) (by decide +kernel)
theorem dX11_begin_8 : decode cX11_begin 8 = .ok (.aload_n 0, 1) := by decide +kernel
theorem dX11_begin_9 : decode cX11_begin 9 = .ok (.bipush 6, 2) := by decide +kernel
theorem dX11_begin_11 : decode cX11_begin 11 = .ok (.newarray .int, 2) := by decide +kernel
theorem dX11_begin_13 : decode cX11_begin 13 = .ok (.putfield 18, 3) := by decide +kernel
theorem q_250 : (Jvm.Cond.fieldLink "ChipfoldModel" (18 : Nat) "ChipfoldModel" "counts" "[I") ∈ WG := wg_5 (List.mem_of_getElem? (i := 163) (by decide +kernel)) (by decide +kernel)
theorem dX11_begin_16 : decode cX11_begin 16 = .ok (.aload_n 0, 1) := by decide +kernel
theorem dX11_begin_17 : decode cX11_begin 17 = .ok (.bipush 6, 2) := by decide +kernel
theorem dX11_begin_19 : decode cX11_begin 19 = .ok (.newarray .int, 2) := by decide +kernel
theorem dX11_begin_21 : decode cX11_begin 21 = .ok (.putfield 21, 3) := by decide +kernel
theorem q_251 : (Jvm.Cond.fieldLink "ChipfoldModel" (21 : Nat) "ChipfoldModel" "rotors" "[I") ∈ WG := wg_5 (List.mem_of_getElem? (i := 164) (by decide +kernel)) (by decide +kernel)
theorem dX11_begin_24 : decode cX11_begin 24 = .ok (.aload_n 0, 1) := by decide +kernel
theorem dX11_begin_25 : decode cX11_begin 25 = .ok (.bipush 6, 2) := by decide +kernel
theorem dX11_begin_27 : decode cX11_begin 27 = .ok (.newarray .int, 2) := by decide +kernel
theorem dX11_begin_29 : decode cX11_begin 29 = .ok (.putfield 24, 3) := by decide +kernel
theorem q_252 : (Jvm.Cond.fieldLink "ChipfoldModel" (24 : Nat) "ChipfoldModel" "visits" "[I") ∈ WG := wg_5 (List.mem_of_getElem? (i := 165) (by decide +kernel)) (by decide +kernel)
theorem dX11_begin_32 : decode cX11_begin 32 = .ok (.aload_n 0, 1) := by decide +kernel
theorem dX11_begin_33 : decode cX11_begin 33 = .ok (.bipush 6, 2) := by decide +kernel
theorem dX11_begin_35 : decode cX11_begin 35 = .ok (.newarray .int, 2) := by decide +kernel
theorem dX11_begin_37 : decode cX11_begin 37 = .ok (.putfield 27, 3) := by decide +kernel
theorem q_253 : (Jvm.Cond.fieldLink "ChipfoldModel" (27 : Nat) "ChipfoldModel" "debts" "[I") ∈ WG := wg_5 (List.mem_of_getElem? (i := 166) (by decide +kernel)) (by decide +kernel)
theorem dX11_begin_40 : decode cX11_begin 40 = .ok (.aload_n 0, 1) := by decide +kernel
theorem dX11_begin_41 : decode cX11_begin 41 = .ok (.iconst 0, 1) := by decide +kernel
theorem dX11_begin_42 : decode cX11_begin 42 = .ok (.putfield 40, 3) := by decide +kernel
theorem q_254 : (Jvm.Cond.fieldLink "ChipfoldModel" (40 : Nat) "ChipfoldModel" "swallowed" "I") ∈ WG := wg_5 (List.mem_of_getElem? (i := 170) (by decide +kernel)) (by decide +kernel)
theorem dX11_begin_45 : decode cX11_begin 45 = .ok (.return_, 1) := by decide +kernel
theorem dX11_degreeOf_0 : decode cX11_degreeOf 0 = .ok (.iconst 0, 1) := by decide +kernel
theorem dX11_degreeOf_1 : decode cX11_degreeOf 1 = .ok (.istore_n 2, 1) := by decide +kernel
theorem dX11_degreeOf_2 : decode cX11_degreeOf 2 = .ok (.aload_n 0, 1) := by decide +kernel
theorem dX11_degreeOf_3 : decode cX11_degreeOf 3 = .ok (.getfield 9, 3) := by decide +kernel
theorem q_255 : (Jvm.Cond.fieldLink "ChipfoldModel" (9 : Nat) "ChipfoldModel" "edges" "[[I") ∈ WG := wg_5 (List.mem_of_getElem? (i := 161) (by decide +kernel)) (by decide +kernel)
theorem dX11_degreeOf_6 : decode cX11_degreeOf 6 = .ok (.iload_n 1, 1) := by decide +kernel
theorem dX11_degreeOf_7 : decode cX11_degreeOf 7 = .ok (.aaload, 1) := by decide +kernel
theorem dX11_degreeOf_8 : decode cX11_degreeOf 8 = .ok (.astore_n 3, 1) := by decide +kernel
theorem dX11_degreeOf_9 : decode cX11_degreeOf 9 = .ok (.aload_n 3, 1) := by decide +kernel
theorem dX11_degreeOf_10 : decode cX11_degreeOf 10 = .ok (.arraylength, 1) := by decide +kernel
theorem dX11_degreeOf_11 : decode cX11_degreeOf 11 = .ok (.istore 4, 2) := by decide +kernel
theorem dX11_degreeOf_13 : decode cX11_degreeOf 13 = .ok (.iconst 0, 1) := by decide +kernel
theorem dX11_degreeOf_14 : decode cX11_degreeOf 14 = .ok (.istore 5, 2) := by decide +kernel
theorem dX11_degreeOf_16 : decode cX11_degreeOf 16 = .ok (.iload 5, 2) := by decide +kernel
theorem dX11_degreeOf_18 : decode cX11_degreeOf 18 = .ok (.iload 4, 2) := by decide +kernel
theorem dX11_degreeOf_20 : decode cX11_degreeOf 20 = .ok (.if_icmp .ge 20, 3) := by decide +kernel
theorem dX11_degreeOf_40 : decode cX11_degreeOf 40 = .ok (.iload_n 2, 1) := by decide +kernel
theorem dX11_degreeOf_41 : decode cX11_degreeOf 41 = .ok (.ireturn, 1) := by decide +kernel
theorem dX11_degreeOf_23 : decode cX11_degreeOf 23 = .ok (.aload_n 3, 1) := by decide +kernel
theorem dX11_degreeOf_24 : decode cX11_degreeOf 24 = .ok (.iload 5, 2) := by decide +kernel
theorem dX11_degreeOf_26 : decode cX11_degreeOf 26 = .ok (.iaload, 1) := by decide +kernel
theorem dX11_degreeOf_27 : decode cX11_degreeOf 27 = .ok (.istore 6, 2) := by decide +kernel
theorem dX11_degreeOf_29 : decode cX11_degreeOf 29 = .ok (.iload_n 2, 1) := by decide +kernel
theorem dX11_degreeOf_30 : decode cX11_degreeOf 30 = .ok (.iload 6, 2) := by decide +kernel
theorem dX11_degreeOf_32 : decode cX11_degreeOf 32 = .ok (.iadd, 1) := by decide +kernel
theorem dX11_degreeOf_33 : decode cX11_degreeOf 33 = .ok (.istore_n 2, 1) := by decide +kernel
theorem dX11_degreeOf_34 : decode cX11_degreeOf 34 = .ok (.iinc 5 1, 3) := by decide +kernel
theorem dX11_degreeOf_37 : decode cX11_degreeOf 37 = .ok (.goto (-21), 3) := by decide +kernel
theorem dX11_can_0 : decode cX11_can 0 = .ok (.iload_n 2, 1) := by decide +kernel
theorem dX11_can_1 : decode cX11_can 1 = .ok (.aload_n 0, 1) := by decide +kernel
theorem dX11_can_2 : decode cX11_can 2 = .ok (.getfield 37, 3) := by decide +kernel
theorem q_256 : (Jvm.Cond.fieldLink "ChipfoldModel" (37 : Nat) "ChipfoldModel" "sink" "I") ∈ WG := wg_5 (List.mem_of_getElem? (i := 169) (by decide +kernel)) (by decide +kernel)
theorem dX11_can_5 : decode cX11_can 5 = .ok (.if_icmp .eq 26, 3) := by decide +kernel
theorem dX11_can_31 : decode cX11_can 31 = .ok (.iconst 0, 1) := by decide +kernel
theorem dX11_can_32 : decode cX11_can 32 = .ok (.ireturn, 1) := by decide +kernel
theorem dX11_can_8 : decode cX11_can 8 = .ok (.aload_n 0, 1) := by decide +kernel
theorem dX11_can_9 : decode cX11_can 9 = .ok (.iload_n 2, 1) := by decide +kernel
theorem dX11_can_10 : decode cX11_can 10 = .ok (.invokevirtual 64, 3) := by decide +kernel
theorem q_257 : (Jvm.Cond.code ({ cls := "ChipfoldModel", name := "degreeOf", desc := "(I)I" } : Jvm.MethodName) prog_13_method_11_code (7 : Nat) (Option.some Jvm.ClassFile.FieldType.int)) ∈ WG := wg_5 (List.mem_of_getElem? (i := 232) rfl) rfl
theorem q_258 : (Jvm.Cond.selects "ChipfoldModel" ({ cls := "ChipfoldModel", name := "degreeOf", desc := "(I)I" } : Jvm.MethodName) ({ cls := "ChipfoldModel", name := "degreeOf", desc := "(I)I" } : Jvm.MethodName)) ∈ WG := wg_0 (by decide +kernel) (by decide +kernel)
theorem q_259 : (Jvm.Cond.methodLink "ChipfoldModel" (64 : Nat) ({ cls := "ChipfoldModel", name := "degreeOf", desc := "(I)I" } : Jvm.MethodName)) ∈ WG := wg_5 (List.mem_of_getElem? (i := 229) (by decide +kernel)) (by decide +kernel)
theorem q_260 : (Jvm.Cond.instanceMethod ({ cls := "ChipfoldModel", name := "degreeOf", desc := "(I)I" } : Jvm.MethodName)) ∈ WG := wg_5 (List.mem_of_getElem? (i := 231) (by decide +kernel)) (by decide +kernel)
theorem dX11_can_13 : decode cX11_can 13 = .ok (.ifCond .le 18, 3) := by decide +kernel
theorem dX11_can_16 : decode cX11_can 16 = .ok (.aload_n 1, 1) := by decide +kernel
theorem dX11_can_17 : decode cX11_can 17 = .ok (.iload_n 2, 1) := by decide +kernel
theorem dX11_can_18 : decode cX11_can 18 = .ok (.iaload, 1) := by decide +kernel
theorem dX11_can_19 : decode cX11_can 19 = .ok (.aload_n 0, 1) := by decide +kernel
theorem dX11_can_20 : decode cX11_can 20 = .ok (.iload_n 2, 1) := by decide +kernel
theorem dX11_can_21 : decode cX11_can 21 = .ok (.invokevirtual 64, 3) := by decide +kernel
theorem dX11_can_24 : decode cX11_can 24 = .ok (.if_icmp .lt 7, 3) := by decide +kernel
theorem dX11_can_27 : decode cX11_can 27 = .ok (.iconst 1, 1) := by decide +kernel
theorem dX11_can_28 : decode cX11_can 28 = .ok (.goto 4, 3) := by decide +kernel
theorem dX11_topples_0 : decode cX11_topples 0 = .ok (.aload_n 1, 1) := by decide +kernel
theorem dX11_topples_1 : decode cX11_topples 1 = .ok (.iload_n 2, 1) := by decide +kernel
theorem dX11_topples_2 : decode cX11_topples 2 = .ok (.dup2, 1) := by decide +kernel
theorem dX11_topples_3 : decode cX11_topples 3 = .ok (.iaload, 1) := by decide +kernel
theorem dX11_topples_4 : decode cX11_topples 4 = .ok (.iload_n 3, 1) := by decide +kernel
theorem dX11_topples_5 : decode cX11_topples 5 = .ok (.aload_n 0, 1) := by decide +kernel
theorem dX11_topples_6 : decode cX11_topples 6 = .ok (.iload_n 2, 1) := by decide +kernel
theorem dX11_topples_7 : decode cX11_topples 7 = .ok (.invokevirtual 64, 3) := by decide +kernel
theorem dX11_topples_10 : decode cX11_topples 10 = .ok (.imul, 1) := by decide +kernel
theorem dX11_topples_11 : decode cX11_topples 11 = .ok (.isub, 1) := by decide +kernel
theorem dX11_topples_12 : decode cX11_topples 12 = .ok (.iastore, 1) := by decide +kernel
theorem dX11_topples_13 : decode cX11_topples 13 = .ok (.iconst 0, 1) := by decide +kernel
theorem dX11_topples_14 : decode cX11_topples 14 = .ok (.istore 4, 2) := by decide +kernel
theorem dX11_topples_16 : decode cX11_topples 16 = .ok (.iload 4, 2) := by decide +kernel
theorem dX11_topples_18 : decode cX11_topples 18 = .ok (.aload_n 0, 1) := by decide +kernel
theorem dX11_topples_19 : decode cX11_topples 19 = .ok (.getfield 33, 3) := by decide +kernel
theorem dX11_topples_22 : decode cX11_topples 22 = .ok (.if_icmp .ge 27, 3) := by decide +kernel
theorem dX11_topples_49 : decode cX11_topples 49 = .ok (.return_, 1) := by decide +kernel
theorem dX11_topples_25 : decode cX11_topples 25 = .ok (.aload_n 1, 1) := by decide +kernel
theorem dX11_topples_26 : decode cX11_topples 26 = .ok (.iload 4, 2) := by decide +kernel
theorem dX11_topples_28 : decode cX11_topples 28 = .ok (.dup2, 1) := by decide +kernel
theorem dX11_topples_29 : decode cX11_topples 29 = .ok (.iaload, 1) := by decide +kernel
theorem dX11_topples_30 : decode cX11_topples 30 = .ok (.iload_n 3, 1) := by decide +kernel
theorem dX11_topples_31 : decode cX11_topples 31 = .ok (.aload_n 0, 1) := by decide +kernel
theorem dX11_topples_32 : decode cX11_topples 32 = .ok (.getfield 9, 3) := by decide +kernel
theorem dX11_topples_35 : decode cX11_topples 35 = .ok (.iload_n 2, 1) := by decide +kernel
theorem dX11_topples_36 : decode cX11_topples 36 = .ok (.aaload, 1) := by decide +kernel
theorem dX11_topples_37 : decode cX11_topples 37 = .ok (.iload 4, 2) := by decide +kernel
theorem dX11_topples_39 : decode cX11_topples 39 = .ok (.iaload, 1) := by decide +kernel
theorem dX11_topples_40 : decode cX11_topples 40 = .ok (.imul, 1) := by decide +kernel
theorem dX11_topples_41 : decode cX11_topples 41 = .ok (.iadd, 1) := by decide +kernel
theorem dX11_topples_42 : decode cX11_topples 42 = .ok (.iastore, 1) := by decide +kernel
theorem dX11_topples_43 : decode cX11_topples 43 = .ok (.iinc 4 1, 3) := by decide +kernel
theorem dX11_topples_46 : decode cX11_topples 46 = .ok (.goto (-30), 3) := by decide +kernel
def inR (v lo hi : Int32) : Bool := decide (¬ v < lo ∧ ¬ hi < v)
set_option maxRecDepth 100000 in
set_option maxHeartbeats 400000 in
theorem c_X11_in {l : Launch} {D : va_G} {k : Nat → ClassId} (v : Int32) (lo : Int32) (hi : Int32)  : CM l D k yX11_in cX11_in 3 (some .boolean)  0 0 [.int v, .int lo, .int hi] [] (is1 (some (.int (bI (inR v lo hi)))) []) 0 0 0 := by
  refine CM.of (lv0 := [(0, .int v), (1, .int lo), (2, .int hi)]) (by decide +kernel) (Nat.le_of_ble_eq_true rfl) rfl ?_
  intro p e s m below meth c C hr hlk hin had
  refine g_iload_n (pc := 0) C 0 rfl rfl dX11_in_0 ?_
  refine g_iload_n (pc := 1) C 1 rfl rfl dX11_in_1 ?_
  refine g_icmp_lt (pc := 2) C 14 (by decide) dX11_in_2 (fun c_2 => ?_) (fun c_2 => ?_)
  · refine g_iconst (pc := 14) (v := 0) C (by decide) dX11_in_14 ?_
    refine G.eqs (st' := [.int (bI (inR v lo hi))]) (congrArg (fun z9 => [Value.int z9]) (show (0 : Int32) = (bI (inR v lo hi)) from by simp [inR, bI, *])) ?_
    exact g_zret (pc := 15) C hr (by first | rfl | exact bI_nar _) hlk (by first | decide | omega) (by first | decide | omega) (by first | decide | omega) dX11_in_15 ⟨rfl, rfl⟩
  · refine g_iload_n (pc := 5) C 0 rfl rfl dX11_in_5 ?_
    refine g_iload_n (pc := 6) C 2 rfl rfl dX11_in_6 ?_
    refine g_icmp_gt (pc := 7) C 14 (by decide) dX11_in_7 (fun c_7 => ?_) (fun c_7 => ?_)
    · refine g_iconst (pc := 14) (v := 0) C (by decide) dX11_in_14 ?_
      refine G.eqs (st' := [.int (bI (inR v lo hi))]) (congrArg (fun z9 => [Value.int z9]) (show (0 : Int32) = (bI (inR v lo hi)) from by simp [inR, bI, *])) ?_
      exact g_zret (pc := 15) C hr (by first | rfl | exact bI_nar _) hlk (by first | decide | omega) (by first | decide | omega) (by first | decide | omega) dX11_in_15 ⟨rfl, rfl⟩
    · refine g_iconst (pc := 10) (v := 1) C (by decide) dX11_in_10 ?_
      refine g_goto (pc := 11) C 15 (by decide) dX11_in_11 ?_
      refine G.eqs (st' := [.int (bI (inR v lo hi))]) (congrArg (fun z9 => [Value.int z9]) (show (1 : Int32) = (bI (inR v lo hi)) from by simp [inR, bI, *])) ?_
      exact g_zret (pc := 15) C hr (by first | rfl | exact bI_nar _) hlk (by first | decide | omega) (by first | decide | omega) (by first | decide | omega) dX11_in_15 ⟨rfl, rfl⟩
theorem inR_v {n v : Nat} (hv : v < 1000) (hn : n ≤ 6) : inR (nI v) 0 (nI n - 1) = decide (v < n) := by
  unfold inR
  rw [decide_eq_decide]
  have h1 : ¬ nI v < 0 := nI_pos (by omega)
  rcases Nat.eq_zero_or_pos n with h0 | h0
  · subst h0
    have h3 : (nI 0 - 1 : Int32).toInt = -1 := by decide
    have h2 : (nI 0 - 1 : Int32) < nI v := by
      rw [Int32.lt_iff_toInt_lt, nI_toInt (by omega), h3]
      omega
    simp [h1, h2]
  · rw [show (nI n - 1 : Int32) = nI (n - 1) from by rw [show (1 : Int32) = nI 1 from rfl, pk_sub h0]]
    rw [nI_ltI (by omega) (by omega)]
    simp [h1]
    omega
set_option maxRecDepth 100000 in
set_option maxHeartbeats 400000 in
theorem c_X11_isVertex {l : Launch} {D : va_G} {k : Nat → ClassId} (mo : Nat) (e0 : Nat) (c1 : Nat) (c2 : Nat) (c3 : Nat) (c4 : Nat) (c5 : Nat) (n : Nat) (z : Nat) (sw : Int32) (sd : Int32) (th : Int32) (v : Nat) (hv : v < 1000) (hn : n ≤ 6) : CM l D k yX11_isVertex cX11_isVertex 2 (some .boolean)  1 22 [.ref mo, .int (nI v)] [(mo, .inr (15, [.ref e0, .ref c1, .ref c2, .ref c3, .ref c4, .ref c5, .null, .int (nI n), .int (nI z), .int sw, .int sd, .int th]))] (is1 (some (.int (bI (decide (v < n))))) [(mo, .inr (15, [.ref e0, .ref c1, .ref c2, .ref c3, .ref c4, .ref c5, .null, .int (nI n), .int (nI z), .int sw, .int sd, .int th]))]) 0 0 0 := by
  refine CM.of (lv0 := [(0, .ref mo), (1, .int (nI v))]) (by decide +kernel) (Nat.le_of_ble_eq_true rfl) rfl ?_
  intro p e s m below meth c C hr hlk hin had
  refine g_iload_n (pc := 0) C 1 rfl rfl dX11_isVertex_0 ?_
  refine g_iconst (pc := 1) (v := 0) C (by decide) dX11_isVertex_1 ?_
  refine g_aload_n (pc := 2) C 0 rfl rfl dX11_isVertex_2 ?_
  refine g_get (pc := 3) C (T := TX11) inX11 0 rfl rfl 7 (by decide) q_244 rfl rfl dX11_isVertex_3 ?_
  refine g_iconst (pc := 6) (v := 1) C (by decide) dX11_isVertex_6 ?_
  refine g_isub (pc := 7) C dX11_isVertex_7 ?_
  refine g_callS (pc := 8) (cells := 0) (slots := 0) (g := 0) (As := [.int (nI v), .int 0, .int ((nI n) - 1)]) (st := []) (b := 0) C (nA := 3) rfl (c_X11_in (nI v) 0 ((nI n) - 1) ) q_247 q_248 q_246 q_245 (by decide +kernel) dX11_isVertex_8 ⟨Nat.le_of_ble_eq_true rfl, Nat.le_of_ble_eq_true rfl⟩ [] [0] rfl (wr := [(mo, .inr (15, [.ref e0, .ref c1, .ref c2, .ref c3, .ref c4, .ref c5, .null, .int (nI n), .int (nI z), .int sw, .int sd, .int th]))]) rfl (by decide) (by decide) (by decide) (Nat.le_of_ble_eq_true rfl) ⟨Nat.le_of_ble_eq_true rfl, Nat.le_of_ble_eq_true rfl⟩ (fun rv w1 h1 => ?_)
  obtain ⟨rfl, rfl⟩ := h1
  refine G.aft [0] (ws' := [(mo, .inr (15, [.ref e0, .ref c1, .ref c2, .ref c3, .ref c4, .ref c5, .null, .int (nI n), .int (nI z), .int sw, .int sd, .int th]))]) (st' := [.int (bI (inR (nI v) 0 ((nI n) - 1)))]) (cells' := 0) (slots' := 0) (g' := 0) (by decide) rfl rfl rfl rfl rfl ?_
  refine G.eqs (st' := [.int (bI (decide (v < n)))]) (congrArg (fun z9 => [Value.int z9]) (show ((bI (inR (nI v) 0 ((nI n) - 1))) : Int32) = (bI (decide (v < n))) from by rw [inR_v hv hn])) ?_
  exact g_zret (pc := 11) C hr (by first | rfl | exact bI_nar _) hlk (by first | decide | omega) (by first | decide | omega) (by first | decide | omega) dX11_isVertex_11 ⟨rfl, rfl⟩
set_option maxRecDepth 100000 in
set_option maxHeartbeats 400000 in
theorem c_X11_begin {l : Launch} {D : va_G} {k : Nat → ClassId} (mo : Nat) (e0 : Nat) (c1 : Nat) (c2 : Nat) (c3 : Nat) (c4 : Nat) (c5 : Nat) (n : Nat) (z : Nat) (sw : Int32) (sd : Int32) (th : Int32)  : CM l D k yX11_begin cX11_begin 1 none  0 0 [.ref mo] [(mo, .inr (15, [.ref e0, .ref c1, .ref c2, .ref c3, .ref c4, .ref c5, .null, .int (nI n), .int (nI z), .int sw, .int sd, .int th]))] (fun rv9 w9 => rv9 = none ∧ ∃ (b1 : Nat) (b2 : Nat) (b3 : Nat) (b4 : Nat) (b5 : Nat), w9 = [(mo, .inr (15, [.ref e0, .ref b1, .ref b2, .ref b3, .ref b4, .ref b5, .null, .int (nI n), .int (nI z), .int 0, .int sd, .int th])), (b1, aI k 6 (fun _ => 0)), (b2, aI k 6 (fun _ => 0)), (b3, aI k 6 (fun _ => 0)), (b4, aI k 6 (fun _ => 0)), (b5, aI k 6 (fun _ => 0))]) 5 30 5 := by
  refine CM.of (lv0 := [(0, .ref mo)]) (by decide +kernel) (Nat.le_of_ble_eq_true rfl) rfl ?_
  intro p e s m below meth c C hr hlk hin had
  refine g_aload_n (pc := 0) C 0 rfl rfl dX11_begin_0 ?_
  refine g_bipush (pc := 1) (v := 6) C (by decide) dX11_begin_1 ?_
  refine g_newI (pc := 3) (cells := 0) (slots := 0) (g := 0) C 6 q_4 (by decide) (by decide) (Nat.le_of_ble_eq_true rfl) (Nat.le_of_ble_eq_true rfl) (Nat.le_of_ble_eq_true rfl) dX11_begin_3 (fun q1 => ?_)
  refine G.eqw (ws' := [(mo, .inr (15, [.ref e0, .ref c1, .ref c2, .ref c3, .ref c4, .ref c5, .null, .int (nI n), .int (nI z), .int sw, .int sd, .int th])), (q1, aI k 6 (fun _ => 0))]) rfl ?_
  refine g_put (pc := 5) C (T := TX11) inX11 0 rfl rfl 1 (by decide) q_249 rfl tyX11 tyX11_ok nmX11 rfl [(mo, .inr (15, [.ref e0, .ref q1, .ref c2, .ref c3, .ref c4, .ref c5, .null, .int (nI n), .int (nI z), .int sw, .int sd, .int th])), (q1, aI k 6 (fun _ => 0))] (tyX11_ok 1 (by decide)) rfl rfl (Nat.le_of_ble_eq_true rfl) rfl dX11_begin_5 ?_
  refine g_aload_n (pc := 8) C 0 rfl rfl dX11_begin_8 ?_
  refine g_bipush (pc := 9) (v := 6) C (by decide) dX11_begin_9 ?_
  refine g_newI (pc := 11) (cells := 1) (slots := 6) (g := 1) C 6 q_4 (by decide) (by decide) (Nat.le_of_ble_eq_true rfl) (Nat.le_of_ble_eq_true rfl) (Nat.le_of_ble_eq_true rfl) dX11_begin_11 (fun q2 => ?_)
  refine G.eqw (ws' := [(mo, .inr (15, [.ref e0, .ref q1, .ref c2, .ref c3, .ref c4, .ref c5, .null, .int (nI n), .int (nI z), .int sw, .int sd, .int th])), (q1, aI k 6 (fun _ => 0)), (q2, aI k 6 (fun _ => 0))]) rfl ?_
  refine g_put (pc := 13) C (T := TX11) inX11 0 rfl rfl 2 (by decide) q_250 rfl tyX11 tyX11_ok nmX11 rfl [(mo, .inr (15, [.ref e0, .ref q1, .ref q2, .ref c3, .ref c4, .ref c5, .null, .int (nI n), .int (nI z), .int sw, .int sd, .int th])), (q1, aI k 6 (fun _ => 0)), (q2, aI k 6 (fun _ => 0))] (tyX11_ok 2 (by decide)) rfl rfl (Nat.le_of_ble_eq_true rfl) rfl dX11_begin_13 ?_
  refine g_aload_n (pc := 16) C 0 rfl rfl dX11_begin_16 ?_
  refine g_bipush (pc := 17) (v := 6) C (by decide) dX11_begin_17 ?_
  refine g_newI (pc := 19) (cells := 2) (slots := 12) (g := 2) C 6 q_4 (by decide) (by decide) (Nat.le_of_ble_eq_true rfl) (Nat.le_of_ble_eq_true rfl) (Nat.le_of_ble_eq_true rfl) dX11_begin_19 (fun q3 => ?_)
  refine G.eqw (ws' := [(mo, .inr (15, [.ref e0, .ref q1, .ref q2, .ref c3, .ref c4, .ref c5, .null, .int (nI n), .int (nI z), .int sw, .int sd, .int th])), (q1, aI k 6 (fun _ => 0)), (q2, aI k 6 (fun _ => 0)), (q3, aI k 6 (fun _ => 0))]) rfl ?_
  refine g_put (pc := 21) C (T := TX11) inX11 0 rfl rfl 3 (by decide) q_251 rfl tyX11 tyX11_ok nmX11 rfl [(mo, .inr (15, [.ref e0, .ref q1, .ref q2, .ref q3, .ref c4, .ref c5, .null, .int (nI n), .int (nI z), .int sw, .int sd, .int th])), (q1, aI k 6 (fun _ => 0)), (q2, aI k 6 (fun _ => 0)), (q3, aI k 6 (fun _ => 0))] (tyX11_ok 3 (by decide)) rfl rfl (Nat.le_of_ble_eq_true rfl) rfl dX11_begin_21 ?_
  refine g_aload_n (pc := 24) C 0 rfl rfl dX11_begin_24 ?_
  refine g_bipush (pc := 25) (v := 6) C (by decide) dX11_begin_25 ?_
  refine g_newI (pc := 27) (cells := 3) (slots := 18) (g := 3) C 6 q_4 (by decide) (by decide) (Nat.le_of_ble_eq_true rfl) (Nat.le_of_ble_eq_true rfl) (Nat.le_of_ble_eq_true rfl) dX11_begin_27 (fun q4 => ?_)
  refine G.eqw (ws' := [(mo, .inr (15, [.ref e0, .ref q1, .ref q2, .ref q3, .ref c4, .ref c5, .null, .int (nI n), .int (nI z), .int sw, .int sd, .int th])), (q1, aI k 6 (fun _ => 0)), (q2, aI k 6 (fun _ => 0)), (q3, aI k 6 (fun _ => 0)), (q4, aI k 6 (fun _ => 0))]) rfl ?_
  refine g_put (pc := 29) C (T := TX11) inX11 0 rfl rfl 4 (by decide) q_252 rfl tyX11 tyX11_ok nmX11 rfl [(mo, .inr (15, [.ref e0, .ref q1, .ref q2, .ref q3, .ref q4, .ref c5, .null, .int (nI n), .int (nI z), .int sw, .int sd, .int th])), (q1, aI k 6 (fun _ => 0)), (q2, aI k 6 (fun _ => 0)), (q3, aI k 6 (fun _ => 0)), (q4, aI k 6 (fun _ => 0))] (tyX11_ok 4 (by decide)) rfl rfl (Nat.le_of_ble_eq_true rfl) rfl dX11_begin_29 ?_
  refine g_aload_n (pc := 32) C 0 rfl rfl dX11_begin_32 ?_
  refine g_bipush (pc := 33) (v := 6) C (by decide) dX11_begin_33 ?_
  refine g_newI (pc := 35) (cells := 4) (slots := 24) (g := 4) C 6 q_4 (by decide) (by decide) (Nat.le_of_ble_eq_true rfl) (Nat.le_of_ble_eq_true rfl) (Nat.le_of_ble_eq_true rfl) dX11_begin_35 (fun q5 => ?_)
  refine G.eqw (ws' := [(mo, .inr (15, [.ref e0, .ref q1, .ref q2, .ref q3, .ref q4, .ref c5, .null, .int (nI n), .int (nI z), .int sw, .int sd, .int th])), (q1, aI k 6 (fun _ => 0)), (q2, aI k 6 (fun _ => 0)), (q3, aI k 6 (fun _ => 0)), (q4, aI k 6 (fun _ => 0)), (q5, aI k 6 (fun _ => 0))]) rfl ?_
  refine g_put (pc := 37) C (T := TX11) inX11 0 rfl rfl 5 (by decide) q_253 rfl tyX11 tyX11_ok nmX11 rfl [(mo, .inr (15, [.ref e0, .ref q1, .ref q2, .ref q3, .ref q4, .ref q5, .null, .int (nI n), .int (nI z), .int sw, .int sd, .int th])), (q1, aI k 6 (fun _ => 0)), (q2, aI k 6 (fun _ => 0)), (q3, aI k 6 (fun _ => 0)), (q4, aI k 6 (fun _ => 0)), (q5, aI k 6 (fun _ => 0))] (tyX11_ok 5 (by decide)) rfl rfl (Nat.le_of_ble_eq_true rfl) rfl dX11_begin_37 ?_
  refine g_aload_n (pc := 40) C 0 rfl rfl dX11_begin_40 ?_
  refine g_iconst (pc := 41) (v := 0) C (by decide) dX11_begin_41 ?_
  refine g_put (pc := 42) C (T := TX11) inX11 0 rfl rfl 9 (by decide) q_254 rfl tyX11 tyX11_ok nmX11 rfl [(mo, .inr (15, [.ref e0, .ref q1, .ref q2, .ref q3, .ref q4, .ref q5, .null, .int (nI n), .int (nI z), .int 0, .int sd, .int th])), (q1, aI k 6 (fun _ => 0)), (q2, aI k 6 (fun _ => 0)), (q3, aI k 6 (fun _ => 0)), (q4, aI k 6 (fun _ => 0)), (q5, aI k 6 (fun _ => 0))] (tyX11_ok 9 (by decide)) rfl (by rfl) (Nat.le_of_ble_eq_true rfl) rfl dX11_begin_42 ?_
  exact g_vret (pc := 45) C hr hlk (by first | decide | omega) (by first | decide | omega) (by first | decide | omega) dX11_begin_45 ⟨rfl, q1, q2, q3, q4, q5, rfl⟩
set_option maxRecDepth 100000 in
set_option maxHeartbeats 400000 in
theorem c_X11_degreeOf {l : Launch} {D : va_G} {k : Nat → ClassId} (mo : Nat) (e0 : Nat) (c1 : Nat) (c2 : Nat) (c3 : Nat) (c4 : Nat) (c5 : Nat) (er : Nat → Nat) (n : Nat) (z : Nat) (sw : Int32) (sd : Int32) (th : Int32) (M : Nat → Nat → Int32) (v : Nat) (hv : v < 6) : CM l D k yX11_degreeOf cX11_degreeOf 7 (some .int)  0 0 [.ref mo, .int (nI v)] [(mo, .inr (15, [.ref e0, .ref c1, .ref c2, .ref c3, .ref c4, .ref c5, .null, .int (nI n), .int (nI z), .int sw, .int sd, .int th])), (e0, aR k 3 6 (fun i9 => if i9 < 6 then some (er i9) else none)), ((er 0), aI k 6 (M 0)), ((er 1), aI k 6 (M 1)), ((er 2), aI k 6 (M 2)), ((er 3), aI k 6 (M 3)), ((er 4), aI k 6 (M 4)), ((er 5), aI k 6 (M 5))] (is1 (some (.int (rSum (M v) 6))) [(mo, .inr (15, [.ref e0, .ref c1, .ref c2, .ref c3, .ref c4, .ref c5, .null, .int (nI n), .int (nI z), .int sw, .int sd, .int th])), (e0, aR k 3 6 (fun i9 => if i9 < 6 then some (er i9) else none)), ((er 0), aI k 6 (M 0)), ((er 1), aI k 6 (M 1)), ((er 2), aI k 6 (M 2)), ((er 3), aI k 6 (M 3)), ((er 4), aI k 6 (M 4)), ((er 5), aI k 6 (M 5))]) 0 0 0 := by
  refine CM.of (lv0 := [(0, .ref mo), (1, .int (nI v))]) (by decide +kernel) (Nat.le_of_ble_eq_true rfl) rfl ?_
  intro p e s m below meth c C hr hlk hin had
  refine g_iconst (pc := 0) (v := 0) C (by decide) dX11_degreeOf_0 ?_
  refine g_istore_n (pc := 1) C [(2, .int 0), (0, .ref mo), (1, .int (nI v))] rfl dX11_degreeOf_1 (by decide) rfl ?_
  refine g_aload_n (pc := 2) C 1 rfl rfl dX11_degreeOf_2 ?_
  refine g_get (pc := 3) C (T := TX11) inX11 0 rfl rfl 0 (by decide) q_255 rfl rfl dX11_degreeOf_3 ?_
  refine g_iload_n (pc := 6) C 2 rfl rfl dX11_degreeOf_6 ?_
  refine g_aald (pc := 7) C (j := v) (b := er v) 1 rfl (by omega) (by decide) rfl (if_pos (by omega)) dX11_degreeOf_7 ?_
  refine g_astore_n (pc := 8) C [(3, .ref (er v)), (2, .int 0), (0, .ref mo), (1, .int (nI v))] rfl dX11_degreeOf_8 (by decide) rfl ?_
  refine g_aload_n (pc := 9) C 0 rfl rfl dX11_degreeOf_9 ?_
  refine g_alen (pc := 10) (a := (er v)) (cA := k 0) (x := (6, .inl (M v))) C (2 + v) (by rcases (show v = 0 ∨ v = 1 ∨ v = 2 ∨ v = 3 ∨ v = 4 ∨ v = 5 by omega) with h9 | h9 | h9 | h9 | h9 | h9 <;> rw [h9] <;> rfl) (t0 := 0) (ty := .int) rfl (v := (nI 6)) rfl dX11_degreeOf_10 ?_
  refine g_istore (pc := 11) C [(4, .int (nI 6)), (3, .ref (er v)), (2, .int 0), (0, .ref mo), (1, .int (nI v))] dX11_degreeOf_11 (by decide) rfl ?_
  refine g_iconst (pc := 13) (v := 0) C (by decide) dX11_degreeOf_13 ?_
  refine g_istore (pc := 14) C [(5, .int 0), (4, .int (nI 6)), (3, .ref (er v)), (2, .int 0), (0, .ref mo), (1, .int (nI v))] dX11_degreeOf_14 (by decide) rfl ?_
  have key_16 : ∀ (fuel : Nat) (i : Nat), i ≤ 6 → 6 - i < fuel → G p l e { frames := 0, cells := 0, slots := 0, locals := 0 } s m ([.ref mo, .int (nI v)] : List Value).toArray below meth c D 7 (va_A [(mo, .inr (15, [.ref e0, .ref c1, .ref c2, .ref c3, .ref c4, .ref c5, .null, .int (nI n), .int (nI z), .int sw, .int sd, .int th])), (e0, aR k 3 6 (fun i9 => if i9 < 6 then some (er i9) else none)), ((er 0), aI k 6 (M 0)), ((er 1), aI k 6 (M 1)), ((er 2), aI k 6 (M 2)), ((er 3), aI k 6 (M 3)), ((er 4), aI k 6 (M 4)), ((er 5), aI k 6 (M 5))] s.heap.size) (QM below D ([.ref mo, .int (nI v)] : List Value).toArray s [(mo, .inr (15, [.ref e0, .ref c1, .ref c2, .ref c3, .ref c4, .ref c5, .null, .int (nI n), .int (nI z), .int sw, .int sd, .int th])), (e0, aR k 3 6 (fun i9 => if i9 < 6 then some (er i9) else none)), ((er 0), aI k 6 (M 0)), ((er 1), aI k 6 (M 1)), ((er 2), aI k 6 (M 2)), ((er 3), aI k 6 (M 3)), ((er 4), aI k 6 (M 4)), ((er 5), aI k 6 (M 5))] (is1 (some (.int (rSum (M v) 6))) [(mo, .inr (15, [.ref e0, .ref c1, .ref c2, .ref c3, .ref c4, .ref c5, .null, .int (nI n), .int (nI z), .int sw, .int sd, .int th])), (e0, aR k 3 6 (fun i9 => if i9 < 6 then some (er i9) else none)), ((er 0), aI k 6 (M 0)), ((er 1), aI k 6 (M 1)), ((er 2), aI k 6 (M 2)), ((er 3), aI k 6 (M 3)), ((er 4), aI k 6 (M 4)), ((er 5), aI k 6 (M 5))]) 0 0 0) [(mo, .inr (15, [.ref e0, .ref c1, .ref c2, .ref c3, .ref c4, .ref c5, .null, .int (nI n), .int (nI z), .int sw, .int sd, .int th])), (e0, aR k 3 6 (fun i9 => if i9 < 6 then some (er i9) else none)), ((er 0), aI k 6 (M 0)), ((er 1), aI k 6 (M 1)), ((er 2), aI k 6 (M 2)), ((er 3), aI k 6 (M 3)), ((er 4), aI k 6 (M 4)), ((er 5), aI k 6 (M 5))] [(2, .int (rSum (M v) i)), (3, .ref (er v)), (4, .int (nI 6)), (5, .int (nI i))] 0 0 0 16 [] := by
    intro fuel
    induction fuel with
    | zero => intro i hi hm; exact absurd hm (Nat.not_lt_zero _)
    | succ fuel ih =>
      intro i hi hm
      have ih_16 := ih
      refine g_iload (pc := 16) C 3 rfl dX11_degreeOf_16 ?_
      refine g_iload (pc := 18) C 2 rfl dX11_degreeOf_18 ?_
      refine g_icmp_ge (pc := 20) C 40 (by decide) dX11_degreeOf_20 (fun c_20 => ?_) (fun c_20 => ?_)
      · refine g_iload_n (pc := 40) C 0 rfl rfl dX11_degreeOf_40 ?_
        refine G.eqs (st' := [.int (rSum (M v) 6)]) (congrArg (fun z9 => [Value.int z9]) (show ((rSum (M v) i) : Int32) = (rSum (M v) 6) from by { have h3 : i = 6 := (by { rcases Nat.lt_or_ge i 6 with q | q; exact absurd c_20 (nI_ge q (by omega)); omega }); rw [h3] })) ?_
        exact g_iret (pc := 41) C hr hlk (by first | decide | omega) (by first | decide | omega) (by first | decide | omega) dX11_degreeOf_41 ⟨rfl, rfl⟩
      · have hl20 : i < 6 := by rcases Nat.lt_or_ge i 6 with q | q; exact q; exact absurd (nI_le q (by omega)) c_20
        refine g_aload_n (pc := 23) C 1 rfl rfl dX11_degreeOf_23 ?_
        refine g_iload (pc := 24) C 3 rfl dX11_degreeOf_24 ?_
        refine g_iald_n (pc := 26) (a := (er v)) (n := 6) (f := (M v)) C (j := i) (2 + v) (by rcases (show v = 0 ∨ v = 1 ∨ v = 2 ∨ v = 3 ∨ v = 4 ∨ v = 5 by omega) with h9 | h9 | h9 | h9 | h9 | h9 <;> rw [h9] <;> rfl) (by omega) (by first | decide | omega) rfl dX11_degreeOf_26 ?_
        refine g_istore (pc := 27) C [(6, .int ((M v) i)), (2, .int (rSum (M v) i)), (3, .ref (er v)), (4, .int (nI 6)), (5, .int (nI i))] dX11_degreeOf_27 (by decide) rfl ?_
        refine g_iload_n (pc := 29) C 1 rfl rfl dX11_degreeOf_29 ?_
        refine g_iload (pc := 30) C 0 rfl dX11_degreeOf_30 ?_
        refine g_iadd (pc := 32) C dX11_degreeOf_32 ?_
        refine g_istore_n (pc := 33) C [(2, .int ((rSum (M v) i) + ((M v) i))), (6, .int ((M v) i)), (3, .ref (er v)), (4, .int (nI 6)), (5, .int (nI i))] rfl dX11_degreeOf_33 (by decide) rfl ?_
        refine g_iinc (pc := 34) (n := 1) (v := (nI (i + 1))) C 4 [(5, .int (nI (i + 1))), (2, .int ((rSum (M v) i) + ((M v) i))), (6, .int ((M v) i)), (3, .ref (er v)), (4, .int (nI 6))] rfl (nI_1 i) dX11_degreeOf_34 (by decide) rfl ?_
        refine g_goto (pc := 37) C 16 (by decide) dX11_degreeOf_37 ?_
        refine G.loc [1, 3, 4, 0] (lv' := [(2, .int ((rSum (M v) i) + ((M v) i))), (3, .ref (er v)), (4, .int (nI 6)), (5, .int (nI (i + 1)))]) rfl ?_
        refine G.eql (lv' := [(2, .int (rSum (M v) (i + 1))), (3, .ref (er v)), (4, .int (nI 6)), (5, .int (nI (i + 1)))]) (congrArg (β := List (Nat × Value)) (fun z9 => [(2, .int z9), (3, .ref (er v)), (4, .int (nI 6)), (5, .int (nI (i + 1)))]) (show (((rSum (M v) i) + ((M v) i)) : Int32) = (rSum (M v) (i + 1)) from by rfl)) ?_
        exact ih_16 (i + 1) (by omega) (by omega)
  refine G.loc [3, 2, 1, 0] (lv' := [(2, .int 0), (3, .ref (er v)), (4, .int (nI 6)), (5, .int 0)]) rfl ?_
  refine G.eql (lv' := [(2, .int (rSum (M v) 0)), (3, .ref (er v)), (4, .int (nI 6)), (5, .int (nI 0))]) ((congrArg (β := List (Nat × Value)) (fun z9 => [(2, .int z9), (3, .ref (er v)), (4, .int (nI 6)), (5, .int 0)]) (show (0 : Int32) = (rSum (M v) 0) from by first | rfl | exact nI_0.symm)).trans (congrArg (β := List (Nat × Value)) (fun z9 => [(2, .int (rSum (M v) 0)), (3, .ref (er v)), (4, .int (nI 6)), (5, .int z9)]) (show (0 : Int32) = (nI 0) from by first | rfl | exact nI_0.symm))) ?_
  exact key_16 (6 - 0 + 1) 0 (by omega) (Nat.lt_succ_self _)
/-- the reference: whether a vertex can topple -/
def rCan (z : Nat) (M : Nat → Nat → Int32) (f : Nat → Int32) (v : Nat) : Bool := decide (¬ v = z) && (decide (¬ rSum (M v) 6 ≤ 0) && decide (¬ f v < rSum (M v) 6))
set_option maxRecDepth 100000 in
set_option maxHeartbeats 400000 in
theorem c_X11_can {l : Launch} {D : va_G} {k : Nat → ClassId} (mo : Nat) (e0 : Nat) (c1 : Nat) (c2 : Nat) (c3 : Nat) (c4 : Nat) (c5 : Nat) (er : Nat → Nat) (n : Nat) (z : Nat) (sw : Int32) (sd : Int32) (th : Int32) (M : Nat → Nat → Int32) (pa : Nat) (f : Nat → Int32) (v : Nat) (hv : v < 6) (hz : z < 6) : CM l D k yX11_can cX11_can 3 (some .boolean)  1 26 [.ref mo, .ref pa, .int (nI v)] [(mo, .inr (15, [.ref e0, .ref c1, .ref c2, .ref c3, .ref c4, .ref c5, .null, .int (nI n), .int (nI z), .int sw, .int sd, .int th])), (e0, aR k 3 6 (fun i9 => if i9 < 6 then some (er i9) else none)), ((er 0), aI k 6 (M 0)), ((er 1), aI k 6 (M 1)), ((er 2), aI k 6 (M 2)), ((er 3), aI k 6 (M 3)), ((er 4), aI k 6 (M 4)), ((er 5), aI k 6 (M 5)), (pa, aI k 6 f)] (is1 (some (.int (bI (rCan z M f v)))) [(mo, .inr (15, [.ref e0, .ref c1, .ref c2, .ref c3, .ref c4, .ref c5, .null, .int (nI n), .int (nI z), .int sw, .int sd, .int th])), (e0, aR k 3 6 (fun i9 => if i9 < 6 then some (er i9) else none)), ((er 0), aI k 6 (M 0)), ((er 1), aI k 6 (M 1)), ((er 2), aI k 6 (M 2)), ((er 3), aI k 6 (M 3)), ((er 4), aI k 6 (M 4)), ((er 5), aI k 6 (M 5)), (pa, aI k 6 f)]) 0 0 0 := by
  refine CM.of (lv0 := [(0, .ref mo), (1, .ref pa), (2, .int (nI v))]) (by decide +kernel) (Nat.le_of_ble_eq_true rfl) rfl ?_
  intro p e s m below meth c C hr hlk hin had
  refine g_iload_n (pc := 0) C 2 rfl rfl dX11_can_0 ?_
  refine g_aload_n (pc := 1) C 0 rfl rfl dX11_can_1 ?_
  refine g_get (pc := 2) C (T := TX11) inX11 0 rfl rfl 8 (by decide) q_256 rfl rfl dX11_can_2 ?_
  refine g_icmp_eq (pc := 5) C 31 (by decide) dX11_can_5 (fun c_5 => ?_) (fun c_5 => ?_)
  · rw [nI_eq (by omega) (by omega)] at c_5
    refine g_iconst (pc := 31) (v := 0) C (by decide) dX11_can_31 ?_
    refine G.eqs (st' := [.int (bI (rCan z M f v))]) (congrArg (fun z9 => [Value.int z9]) (show (0 : Int32) = (bI (rCan z M f v)) from by simp [rCan, bI, *])) ?_
    exact g_zret (pc := 32) C hr (by first | rfl | exact bI_nar _) hlk (by first | decide | omega) (by first | decide | omega) (by first | decide | omega) dX11_can_32 ⟨rfl, rfl⟩
  · rw [nI_eq (by omega) (by omega)] at c_5
    refine g_aload_n (pc := 8) C 0 rfl rfl dX11_can_8 ?_
    refine g_iload_n (pc := 9) C 2 rfl rfl dX11_can_9 ?_
    refine g_callV (pc := 10) (cells := 0) (slots := 0) (g := 0) (As := [.int (nI v)]) (st := []) (T := TX11) (q0 := 0) C (nA := 1) rfl (c_X11_degreeOf mo e0 c1 c2 c3 c4 c5 er n z sw sd th M v (by first | assumption | decide | omega)) q_259 q_260 q_258 q_246 q_257 (by decide +kernel) rfl rfl dX11_can_10 ⟨Nat.le_of_ble_eq_true rfl, Nat.le_of_ble_eq_true rfl⟩ [0, 1, 2, 3, 4, 5, 6, 7] [8] rfl (wr := [(pa, aI k 6 f)]) rfl (by decide) (by decide) (by decide) (Nat.le_of_ble_eq_true rfl) ⟨Nat.le_of_ble_eq_true rfl, Nat.le_of_ble_eq_true rfl⟩ (fun rv w1 h1 => ?_)
    obtain ⟨rfl, rfl⟩ := h1
    refine G.aft [1, 2, 3, 4, 5, 6, 7, 8, 0] (ws' := [(mo, .inr (15, [.ref e0, .ref c1, .ref c2, .ref c3, .ref c4, .ref c5, .null, .int (nI n), .int (nI z), .int sw, .int sd, .int th])), (e0, aR k 3 6 (fun i9 => if i9 < 6 then some (er i9) else none)), ((er 0), aI k 6 (M 0)), ((er 1), aI k 6 (M 1)), ((er 2), aI k 6 (M 2)), ((er 3), aI k 6 (M 3)), ((er 4), aI k 6 (M 4)), ((er 5), aI k 6 (M 5)), (pa, aI k 6 f)]) (st' := [.int (rSum (M v) 6)]) (cells' := 0) (slots' := 0) (g' := 0) (by decide) rfl rfl rfl rfl rfl ?_
    refine g_if_le (pc := 13) C 31 (by decide) dX11_can_13 (fun c_13 => ?_) (fun c_13 => ?_)
    · refine g_iconst (pc := 31) (v := 0) C (by decide) dX11_can_31 ?_
      refine G.eqs (st' := [.int (bI (rCan z M f v))]) (congrArg (fun z9 => [Value.int z9]) (show (0 : Int32) = (bI (rCan z M f v)) from by simp [rCan, bI, *])) ?_
      exact g_zret (pc := 32) C hr (by first | rfl | exact bI_nar _) hlk (by first | decide | omega) (by first | decide | omega) (by first | decide | omega) dX11_can_32 ⟨rfl, rfl⟩
    · refine g_aload_n (pc := 16) C 1 rfl rfl dX11_can_16 ?_
      refine g_iload_n (pc := 17) C 2 rfl rfl dX11_can_17 ?_
      refine g_iald_n (pc := 18) C (j := v) 8 rfl (by omega) (by first | decide | omega) rfl dX11_can_18 ?_
      refine g_aload_n (pc := 19) C 0 rfl rfl dX11_can_19 ?_
      refine g_iload_n (pc := 20) C 2 rfl rfl dX11_can_20 ?_
      refine g_callV (pc := 21) (cells := 0) (slots := 0) (g := 0) (As := [.int (nI v)]) (st := [.int (f v)]) (T := TX11) (q0 := 0) C (nA := 1) rfl (c_X11_degreeOf mo e0 c1 c2 c3 c4 c5 er n z sw sd th M v (by first | assumption | decide | omega)) q_259 q_260 q_258 q_246 q_257 (by decide +kernel) rfl rfl dX11_can_21 ⟨Nat.le_of_ble_eq_true rfl, Nat.le_of_ble_eq_true rfl⟩ [0, 1, 2, 3, 4, 5, 6, 7] [8] rfl (wr := [(pa, aI k 6 f)]) rfl (by decide) (by decide) (by decide) (Nat.le_of_ble_eq_true rfl) ⟨Nat.le_of_ble_eq_true rfl, Nat.le_of_ble_eq_true rfl⟩ (fun rv w1 h1 => ?_)
      obtain ⟨rfl, rfl⟩ := h1
      refine G.aft [1, 2, 3, 4, 5, 6, 7, 8, 0] (ws' := [(mo, .inr (15, [.ref e0, .ref c1, .ref c2, .ref c3, .ref c4, .ref c5, .null, .int (nI n), .int (nI z), .int sw, .int sd, .int th])), (e0, aR k 3 6 (fun i9 => if i9 < 6 then some (er i9) else none)), ((er 0), aI k 6 (M 0)), ((er 1), aI k 6 (M 1)), ((er 2), aI k 6 (M 2)), ((er 3), aI k 6 (M 3)), ((er 4), aI k 6 (M 4)), ((er 5), aI k 6 (M 5)), (pa, aI k 6 f)]) (st' := [.int (rSum (M v) 6), .int (f v)]) (cells' := 0) (slots' := 0) (g' := 0) (by decide) rfl rfl rfl rfl rfl ?_
      refine g_icmp_lt (pc := 24) C 31 (by decide) dX11_can_24 (fun c_24 => ?_) (fun c_24 => ?_)
      · refine g_iconst (pc := 31) (v := 0) C (by decide) dX11_can_31 ?_
        refine G.eqs (st' := [.int (bI (rCan z M f v))]) (congrArg (fun z9 => [Value.int z9]) (show (0 : Int32) = (bI (rCan z M f v)) from by simp [rCan, bI, *])) ?_
        exact g_zret (pc := 32) C hr (by first | rfl | exact bI_nar _) hlk (by first | decide | omega) (by first | decide | omega) (by first | decide | omega) dX11_can_32 ⟨rfl, rfl⟩
      · refine g_iconst (pc := 27) (v := 1) C (by decide) dX11_can_27 ?_
        refine g_goto (pc := 28) C 32 (by decide) dX11_can_28 ?_
        refine G.eqs (st' := [.int (bI (rCan z M f v))]) (congrArg (fun z9 => [Value.int z9]) (show (1 : Int32) = (bI (rCan z M f v)) from by simp [rCan, bI, *])) ?_
        exact g_zret (pc := 32) C hr (by first | rfl | exact bI_nar _) hlk (by first | decide | omega) (by first | decide | omega) (by first | decide | omega) dX11_can_32 ⟨rfl, rfl⟩
def rTp (M : Nat → Nat → Int32) (x : Int32) (v : Nat) (f : Nat → Int32) : Nat → (Nat → Int32)
  | 0 => upd f v (f v - x * rSum (M v) 6)
  | w + 1 => upd (rTp M x v f w) w (rTp M x v f w w + x * M v w)
set_option maxRecDepth 100000 in
set_option maxHeartbeats 400000 in
theorem c_X11_topples {l : Launch} {D : va_G} {k : Nat → ClassId} (mo : Nat) (e0 : Nat) (c1 : Nat) (c2 : Nat) (c3 : Nat) (c4 : Nat) (c5 : Nat) (er : Nat → Nat) (n : Nat) (z : Nat) (sw : Int32) (sd : Int32) (th : Int32) (M : Nat → Nat → Int32) (pa : Nat) (f : Nat → Int32) (v : Nat) (x : Int32) (hv : v < 6) (hn : n ≤ 6) : CM l D k yX11_topples cX11_topples 5 none  1 26 [.ref mo, .ref pa, .int (nI v), .int x] [(mo, .inr (15, [.ref e0, .ref c1, .ref c2, .ref c3, .ref c4, .ref c5, .null, .int (nI n), .int (nI z), .int sw, .int sd, .int th])), (e0, aR k 3 6 (fun i9 => if i9 < 6 then some (er i9) else none)), ((er 0), aI k 6 (M 0)), ((er 1), aI k 6 (M 1)), ((er 2), aI k 6 (M 2)), ((er 3), aI k 6 (M 3)), ((er 4), aI k 6 (M 4)), ((er 5), aI k 6 (M 5)), (pa, aI k 6 f)] (is1 none [(mo, .inr (15, [.ref e0, .ref c1, .ref c2, .ref c3, .ref c4, .ref c5, .null, .int (nI n), .int (nI z), .int sw, .int sd, .int th])), (e0, aR k 3 6 (fun i9 => if i9 < 6 then some (er i9) else none)), ((er 0), aI k 6 (M 0)), ((er 1), aI k 6 (M 1)), ((er 2), aI k 6 (M 2)), ((er 3), aI k 6 (M 3)), ((er 4), aI k 6 (M 4)), ((er 5), aI k 6 (M 5)), (pa, aI k 6 (rTp M x v f n))]) 0 0 0 := by
  refine CM.of (lv0 := [(0, .ref mo), (1, .ref pa), (2, .int (nI v)), (3, .int x)]) (by decide +kernel) (Nat.le_of_ble_eq_true rfl) rfl ?_
  intro p e s m below meth c C hr hlk hin had
  refine g_aload_n (pc := 0) C 1 rfl rfl dX11_topples_0 ?_
  refine g_iload_n (pc := 1) C 2 rfl rfl dX11_topples_1 ?_
  refine g_dup2 (pc := 2) C rfl rfl dX11_topples_2 ?_
  refine g_iald_n (pc := 3) C (j := v) 8 rfl (by omega) (by first | decide | omega) rfl dX11_topples_3 ?_
  refine g_iload_n (pc := 4) C 3 rfl rfl dX11_topples_4 ?_
  refine g_aload_n (pc := 5) C 0 rfl rfl dX11_topples_5 ?_
  refine g_iload_n (pc := 6) C 2 rfl rfl dX11_topples_6 ?_
  refine g_callV (pc := 7) (cells := 0) (slots := 0) (g := 0) (As := [.int (nI v)]) (st := [.int x, .int (f v), .int (nI v), .ref pa]) (T := TX11) (q0 := 0) C (nA := 1) rfl (c_X11_degreeOf mo e0 c1 c2 c3 c4 c5 er n z sw sd th M v (by first | assumption | decide | omega)) q_259 q_260 q_258 q_246 q_257 (by decide +kernel) rfl rfl dX11_topples_7 ⟨Nat.le_of_ble_eq_true rfl, Nat.le_of_ble_eq_true rfl⟩ [0, 1, 2, 3, 4, 5, 6, 7] [8] rfl (wr := [(pa, aI k 6 f)]) rfl (by decide) (by decide) (by decide) (Nat.le_of_ble_eq_true rfl) ⟨Nat.le_of_ble_eq_true rfl, Nat.le_of_ble_eq_true rfl⟩ (fun rv w1 h1 => ?_)
  obtain ⟨rfl, rfl⟩ := h1
  refine G.aft [1, 2, 3, 4, 5, 6, 7, 8, 0] (ws' := [(mo, .inr (15, [.ref e0, .ref c1, .ref c2, .ref c3, .ref c4, .ref c5, .null, .int (nI n), .int (nI z), .int sw, .int sd, .int th])), (e0, aR k 3 6 (fun i9 => if i9 < 6 then some (er i9) else none)), ((er 0), aI k 6 (M 0)), ((er 1), aI k 6 (M 1)), ((er 2), aI k 6 (M 2)), ((er 3), aI k 6 (M 3)), ((er 4), aI k 6 (M 4)), ((er 5), aI k 6 (M 5)), (pa, aI k 6 f)]) (st' := [.int (rSum (M v) 6), .int x, .int (f v), .int (nI v), .ref pa]) (cells' := 0) (slots' := 0) (g' := 0) (by decide) rfl rfl rfl rfl rfl ?_
  refine g_imul (pc := 10) C dX11_topples_10 ?_
  refine g_isub (pc := 11) C dX11_topples_11 ?_
  refine g_iast_n (pc := 12) C (j := v) 8 [(mo, .inr (15, [.ref e0, .ref c1, .ref c2, .ref c3, .ref c4, .ref c5, .null, .int (nI n), .int (nI z), .int sw, .int sd, .int th])), (e0, aR k 3 6 (fun i9 => if i9 < 6 then some (er i9) else none)), ((er 0), aI k 6 (M 0)), ((er 1), aI k 6 (M 1)), ((er 2), aI k 6 (M 2)), ((er 3), aI k 6 (M 3)), ((er 4), aI k 6 (M 4)), ((er 5), aI k 6 (M 5)), (pa, aI k 6 (upd f v ((f v) - (x * (rSum (M v) 6)))))] rfl (by omega) (by first | decide | omega) rfl rfl dX11_topples_12 ?_
  refine g_iconst (pc := 13) (v := 0) C (by decide) dX11_topples_13 ?_
  refine g_istore (pc := 14) C [(4, .int 0), (0, .ref mo), (1, .ref pa), (2, .int (nI v)), (3, .int x)] dX11_topples_14 (by decide) rfl ?_
  have key_16 : ∀ (fuel : Nat) (w : Nat), w ≤ n → n - w < fuel → G p l e { frames := 1, cells := 0, slots := 0, locals := 26 } s m ([.ref mo, .ref pa, .int (nI v), .int x] : List Value).toArray below meth c D 5 (va_A [(mo, .inr (15, [.ref e0, .ref c1, .ref c2, .ref c3, .ref c4, .ref c5, .null, .int (nI n), .int (nI z), .int sw, .int sd, .int th])), (e0, aR k 3 6 (fun i9 => if i9 < 6 then some (er i9) else none)), ((er 0), aI k 6 (M 0)), ((er 1), aI k 6 (M 1)), ((er 2), aI k 6 (M 2)), ((er 3), aI k 6 (M 3)), ((er 4), aI k 6 (M 4)), ((er 5), aI k 6 (M 5)), (pa, aI k 6 f)] s.heap.size) (QM below D ([.ref mo, .ref pa, .int (nI v), .int x] : List Value).toArray s [(mo, .inr (15, [.ref e0, .ref c1, .ref c2, .ref c3, .ref c4, .ref c5, .null, .int (nI n), .int (nI z), .int sw, .int sd, .int th])), (e0, aR k 3 6 (fun i9 => if i9 < 6 then some (er i9) else none)), ((er 0), aI k 6 (M 0)), ((er 1), aI k 6 (M 1)), ((er 2), aI k 6 (M 2)), ((er 3), aI k 6 (M 3)), ((er 4), aI k 6 (M 4)), ((er 5), aI k 6 (M 5)), (pa, aI k 6 f)] (is1 none [(mo, .inr (15, [.ref e0, .ref c1, .ref c2, .ref c3, .ref c4, .ref c5, .null, .int (nI n), .int (nI z), .int sw, .int sd, .int th])), (e0, aR k 3 6 (fun i9 => if i9 < 6 then some (er i9) else none)), ((er 0), aI k 6 (M 0)), ((er 1), aI k 6 (M 1)), ((er 2), aI k 6 (M 2)), ((er 3), aI k 6 (M 3)), ((er 4), aI k 6 (M 4)), ((er 5), aI k 6 (M 5)), (pa, aI k 6 (rTp M x v f n))]) 0 0 0) [(mo, .inr (15, [.ref e0, .ref c1, .ref c2, .ref c3, .ref c4, .ref c5, .null, .int (nI n), .int (nI z), .int sw, .int sd, .int th])), (e0, aR k 3 6 (fun i9 => if i9 < 6 then some (er i9) else none)), ((er 0), aI k 6 (M 0)), ((er 1), aI k 6 (M 1)), ((er 2), aI k 6 (M 2)), ((er 3), aI k 6 (M 3)), ((er 4), aI k 6 (M 4)), ((er 5), aI k 6 (M 5)), (pa, aI k 6 (rTp M x v f w))] [(0, .ref mo), (1, .ref pa), (2, .int (nI v)), (3, .int x), (4, .int (nI w))] 0 0 0 16 [] := by
    intro fuel
    induction fuel with
    | zero => intro w hw hm; exact absurd hm (Nat.not_lt_zero _)
    | succ fuel ih =>
      intro w hw hm
      have ih_16 := ih
      refine g_iload (pc := 16) C 4 rfl dX11_topples_16 ?_
      refine g_aload_n (pc := 18) C 0 rfl rfl dX11_topples_18 ?_
      refine g_get (pc := 19) C (T := TX11) inX11 0 rfl rfl 7 (by decide) q_244 rfl rfl dX11_topples_19 ?_
      refine g_icmp_ge (pc := 22) C 49 (by decide) dX11_topples_22 (fun c_22 => ?_) (fun c_22 => ?_)
      · refine G.fn (rTp M x v f n) 8 [(mo, .inr (15, [.ref e0, .ref c1, .ref c2, .ref c3, .ref c4, .ref c5, .null, .int (nI n), .int (nI z), .int sw, .int sd, .int th])), (e0, aR k 3 6 (fun i9 => if i9 < 6 then some (er i9) else none)), ((er 0), aI k 6 (M 0)), ((er 1), aI k 6 (M 1)), ((er 2), aI k 6 (M 2)), ((er 3), aI k 6 (M 3)), ((er 4), aI k 6 (M 4)), ((er 5), aI k 6 (M 5)), (pa, aI k 6 (rTp M x v f n))] rfl (fun j hj => by { have h3 : w = n := (by { rcases Nat.lt_or_ge w n with q | q; exact absurd c_22 (nI_ge q (by omega)); omega }); rw [h3] }) rfl ?_
        exact g_vret (pc := 49) C hr hlk (by first | decide | omega) (by first | decide | omega) (by first | decide | omega) dX11_topples_49 ⟨rfl, rfl⟩
      · have hl22 : w < n := by rcases Nat.lt_or_ge w n with q | q; exact q; exact absurd (nI_le q (by omega)) c_22
        refine g_aload_n (pc := 25) C 1 rfl rfl dX11_topples_25 ?_
        refine g_iload (pc := 26) C 4 rfl dX11_topples_26 ?_
        refine g_dup2 (pc := 28) C rfl rfl dX11_topples_28 ?_
        refine g_iald_n (pc := 29) C (j := w) 8 rfl (by omega) (by first | decide | omega) rfl dX11_topples_29 ?_
        refine g_iload_n (pc := 30) C 3 rfl rfl dX11_topples_30 ?_
        refine g_aload_n (pc := 31) C 0 rfl rfl dX11_topples_31 ?_
        refine g_get (pc := 32) C (T := TX11) inX11 0 rfl rfl 0 (by decide) q_255 rfl rfl dX11_topples_32 ?_
        refine g_iload_n (pc := 35) C 2 rfl rfl dX11_topples_35 ?_
        refine g_aald (pc := 36) C (j := v) (b := er v) 1 rfl (by omega) (by decide) rfl (if_pos (by omega)) dX11_topples_36 ?_
        refine g_iload (pc := 37) C 4 rfl dX11_topples_37 ?_
        refine g_iald_n (pc := 39) (a := (er v)) (n := 6) (f := (M v)) C (j := w) (2 + v) (by rcases (show v = 0 ∨ v = 1 ∨ v = 2 ∨ v = 3 ∨ v = 4 ∨ v = 5 by omega) with h9 | h9 | h9 | h9 | h9 | h9 <;> rw [h9] <;> rfl) (by omega) (by first | decide | omega) rfl dX11_topples_39 ?_
        refine g_imul (pc := 40) C dX11_topples_40 ?_
        refine g_iadd (pc := 41) C dX11_topples_41 ?_
        refine g_iast_n (pc := 42) C (j := w) 8 [(mo, .inr (15, [.ref e0, .ref c1, .ref c2, .ref c3, .ref c4, .ref c5, .null, .int (nI n), .int (nI z), .int sw, .int sd, .int th])), (e0, aR k 3 6 (fun i9 => if i9 < 6 then some (er i9) else none)), ((er 0), aI k 6 (M 0)), ((er 1), aI k 6 (M 1)), ((er 2), aI k 6 (M 2)), ((er 3), aI k 6 (M 3)), ((er 4), aI k 6 (M 4)), ((er 5), aI k 6 (M 5)), (pa, aI k 6 (upd (rTp M x v f w) w (((rTp M x v f w) w) + (x * ((M v) w)))))] rfl (by omega) (by first | decide | omega) rfl rfl dX11_topples_42 ?_
        refine g_iinc (pc := 43) (n := 1) (v := (nI (w + 1))) C 4 [(4, .int (nI (w + 1))), (0, .ref mo), (1, .ref pa), (2, .int (nI v)), (3, .int x)] rfl (nI_1 w) dX11_topples_43 (by decide) rfl ?_
        refine g_goto (pc := 46) C 16 (by decide) dX11_topples_46 ?_
        refine G.loc [1, 2, 3, 4, 0] (lv' := [(0, .ref mo), (1, .ref pa), (2, .int (nI v)), (3, .int x), (4, .int (nI (w + 1)))]) rfl ?_
        refine G.fn (rTp M x v f (w + 1)) 8 [(mo, .inr (15, [.ref e0, .ref c1, .ref c2, .ref c3, .ref c4, .ref c5, .null, .int (nI n), .int (nI z), .int sw, .int sd, .int th])), (e0, aR k 3 6 (fun i9 => if i9 < 6 then some (er i9) else none)), ((er 0), aI k 6 (M 0)), ((er 1), aI k 6 (M 1)), ((er 2), aI k 6 (M 2)), ((er 3), aI k 6 (M 3)), ((er 4), aI k 6 (M 4)), ((er 5), aI k 6 (M 5)), (pa, aI k 6 (rTp M x v f (w + 1)))] rfl (fun j hj => by rfl) rfl ?_
        exact ih_16 (w + 1) (by omega) (by omega)
  refine G.loc [1, 2, 3, 4, 0] (lv' := [(0, .ref mo), (1, .ref pa), (2, .int (nI v)), (3, .int x), (4, .int 0)]) rfl ?_
  refine G.fn (rTp M x v f 0) 8 [(mo, .inr (15, [.ref e0, .ref c1, .ref c2, .ref c3, .ref c4, .ref c5, .null, .int (nI n), .int (nI z), .int sw, .int sd, .int th])), (e0, aR k 3 6 (fun i9 => if i9 < 6 then some (er i9) else none)), ((er 0), aI k 6 (M 0)), ((er 1), aI k 6 (M 1)), ((er 2), aI k 6 (M 2)), ((er 3), aI k 6 (M 3)), ((er 4), aI k 6 (M 4)), ((er 5), aI k 6 (M 5)), (pa, aI k 6 (rTp M x v f 0))] rfl (fun j hj => by rfl) rfl ?_
  refine G.eql (lv' := [(0, .ref mo), (1, .ref pa), (2, .int (nI v)), (3, .int x), (4, .int (nI 0))]) (congrArg (β := List (Nat × Value)) (fun z9 => [(0, .ref mo), (1, .ref pa), (2, .int (nI v)), (3, .int x), (4, .int z9)]) (show (0 : Int32) = (nI 0) from by exact nI_0.symm)) ?_
  exact key_16 (n - 0 + 1) 0 (by omega) (Nat.lt_succ_self _)
