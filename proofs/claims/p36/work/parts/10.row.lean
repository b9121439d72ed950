theorem dX8_at_0 : decode cX8_at 0 = .ok (.iload_n 1, 1) := by decide +kernel
theorem dX8_at_1 : decode cX8_at 1 = .ok (.ifCond .lt 21, 3) := by decide +kernel
theorem dX8_at_22 : decode cX8_at 22 = .ok (.iconst 0, 1) := by decide +kernel
theorem dX8_at_23 : decode cX8_at 23 = .ok (.ireturn, 1) := by decide +kernel
theorem dX8_at_4 : decode cX8_at 4 = .ok (.iload_n 1, 1) := by decide +kernel
theorem dX8_at_5 : decode cX8_at 5 = .ok (.aload_n 0, 1) := by decide +kernel
theorem dX8_at_6 : decode cX8_at 6 = .ok (.getfield 7, 3) := by decide +kernel
theorem q_0 : (Jvm.Cond.fieldLink "Chipfold$Row" (7 : Nat) "Chipfold$Row" "cells" "[I") ∈ WG := wg_1 (List.mem_of_getElem? (i := 77) (by decide +kernel)) (by decide +kernel)
theorem inX8 : ∀ w ∈ u_ws RX8 TX8 1, w ∈ WG := by decide +kernel
theorem dX8_at_9 : decode cX8_at 9 = .ok (.arraylength, 1) := by decide +kernel
theorem dX8_at_10 : decode cX8_at 10 = .ok (.if_icmp .ge 12, 3) := by decide +kernel
theorem dX8_at_13 : decode cX8_at 13 = .ok (.aload_n 0, 1) := by decide +kernel
theorem dX8_at_14 : decode cX8_at 14 = .ok (.getfield 7, 3) := by decide +kernel
theorem dX8_at_17 : decode cX8_at 17 = .ok (.iload_n 1, 1) := by decide +kernel
theorem dX8_at_18 : decode cX8_at 18 = .ok (.iaload, 1) := by decide +kernel
theorem dX8_at_19 : decode cX8_at 19 = .ok (.goto 4, 3) := by decide +kernel
theorem dX8_write_0 : decode cX8_write 0 = .ok (.iload_n 1, 1) := by decide +kernel
theorem dX8_write_1 : decode cX8_write 1 = .ok (.ifCond .lt 19, 3) := by decide +kernel
theorem dX8_write_20 : decode cX8_write 20 = .ok (.return_, 1) := by decide +kernel
theorem dX8_write_4 : decode cX8_write 4 = .ok (.iload_n 1, 1) := by decide +kernel
theorem dX8_write_5 : decode cX8_write 5 = .ok (.aload_n 0, 1) := by decide +kernel
theorem dX8_write_6 : decode cX8_write 6 = .ok (.getfield 7, 3) := by decide +kernel
theorem dX8_write_9 : decode cX8_write 9 = .ok (.arraylength, 1) := by decide +kernel
theorem dX8_write_10 : decode cX8_write 10 = .ok (.if_icmp .ge 10, 3) := by decide +kernel
theorem dX8_write_13 : decode cX8_write 13 = .ok (.aload_n 0, 1) := by decide +kernel
theorem dX8_write_14 : decode cX8_write 14 = .ok (.getfield 7, 3) := by decide +kernel
theorem dX8_write_17 : decode cX8_write 17 = .ok (.iload_n 1, 1) := by decide +kernel
theorem dX8_write_18 : decode cX8_write 18 = .ok (.iload_n 2, 1) := by decide +kernel
theorem dX8_write_19 : decode cX8_write 19 = .ok (.iastore, 1) := by decide +kernel
theorem dX8_add_0 : decode cX8_add 0 = .ok (.iload_n 1, 1) := by decide +kernel
theorem dX8_add_1 : decode cX8_add 1 = .ok (.ifCond .lt 22, 3) := by decide +kernel
theorem dX8_add_23 : decode cX8_add 23 = .ok (.return_, 1) := by decide +kernel
theorem dX8_add_4 : decode cX8_add 4 = .ok (.iload_n 1, 1) := by decide +kernel
theorem dX8_add_5 : decode cX8_add 5 = .ok (.aload_n 0, 1) := by decide +kernel
theorem dX8_add_6 : decode cX8_add 6 = .ok (.getfield 7, 3) := by decide +kernel
theorem dX8_add_9 : decode cX8_add 9 = .ok (.arraylength, 1) := by decide +kernel
theorem dX8_add_10 : decode cX8_add 10 = .ok (.if_icmp .ge 13, 3) := by decide +kernel
theorem dX8_add_13 : decode cX8_add 13 = .ok (.aload_n 0, 1) := by decide +kernel
theorem dX8_add_14 : decode cX8_add 14 = .ok (.getfield 7, 3) := by decide +kernel
theorem dX8_add_17 : decode cX8_add 17 = .ok (.iload_n 1, 1) := by decide +kernel
theorem dX8_add_18 : decode cX8_add 18 = .ok (.dup2, 1) := by decide +kernel
theorem dX8_add_19 : decode cX8_add 19 = .ok (.iaload, 1) := by decide +kernel
theorem dX8_add_20 : decode cX8_add 20 = .ok (.iload_n 2, 1) := by decide +kernel
theorem dX8_add_21 : decode cX8_add 21 = .ok (.iadd, 1) := by decide +kernel
theorem dX8_add_22 : decode cX8_add 22 = .ok (.iastore, 1) := by decide +kernel
theorem dX8_init_0 : decode cX8_init 0 = .ok (.aload_n 0, 1) := by decide +kernel
theorem dX8_init_1 : decode cX8_init 1 = .ok (.invokespecial 1, 3) := by decide +kernel
theorem q_1 : (Jvm.Cond.methodLink "Chipfold$Row" (1 : Nat) ({ cls := "java/lang/Object", name := "<init>", desc := "()V" } : Jvm.MethodName)) ∈ WG := wg_1 (List.mem_of_getElem? (i := 76) (by decide +kernel)) (by decide +kernel)
theorem q_2 : (Jvm.Cond.instanceMethod ({ cls := "java/lang/Object", name := "<init>", desc := "()V" } : Jvm.MethodName)) ∈ WG := wg_1 (List.mem_of_getElem? (i := 43) (by decide +kernel)) (by decide +kernel)
theorem q_3 : (Jvm.Cond.code ({ cls := "java/lang/Object", name := "<init>", desc := "()V" } : Jvm.MethodName) object_method_1_code (1 : Nat) (Option.none : Option Jvm.ClassFile.FieldType)) ∈ WG := wg_1 (List.mem_of_getElem? (i := 44) rfl) rfl
theorem dX8_init_4 : decode cX8_init 4 = .ok (.aload_n 0, 1) := by decide +kernel
theorem dX8_init_5 : decode cX8_init 5 = .ok (.iload_n 1, 1) := by decide +kernel
theorem dX8_init_6 : decode cX8_init 6 = .ok (.ifCond .ge 7, 3) := by decide +kernel
theorem dX8_init_13 : decode cX8_init 13 = .ok (.iload_n 1, 1) := by decide +kernel
theorem dX8_init_14 : decode cX8_init 14 = .ok (.newarray .int, 2) := by decide +kernel
theorem q_4 : (Jvm.Cond.arrayClass Jvm.ClassFile.FieldType.int) ∈ WG := wg_1 (List.mem_of_getElem? (i := 64) (by decide +kernel)) (by decide +kernel)
theorem dX8_init_16 : decode cX8_init 16 = .ok (.putfield 7, 3) := by decide +kernel
theorem dX8_init_19 : decode cX8_init 19 = .ok (.return_, 1) := by decide +kernel
theorem dX8_fill_0 : decode cX8_fill 0 = .ok (.iconst 0, 1) := by decide +kernel
theorem dX8_fill_1 : decode cX8_fill 1 = .ok (.istore_n 2, 1) := by decide +kernel
theorem dX8_fill_2 : decode cX8_fill 2 = .ok (.iload_n 2, 1) := by decide +kernel
theorem dX8_fill_3 : decode cX8_fill 3 = .ok (.aload_n 0, 1) := by decide +kernel
theorem dX8_fill_4 : decode cX8_fill 4 = .ok (.getfield 7, 3) := by decide +kernel
theorem dX8_fill_7 : decode cX8_fill 7 = .ok (.arraylength, 1) := by decide +kernel
theorem dX8_fill_8 : decode cX8_fill 8 = .ok (.if_icmp .ge 16, 3) := by decide +kernel
theorem dX8_fill_24 : decode cX8_fill 24 = .ok (.return_, 1) := by decide +kernel
theorem dX8_fill_11 : decode cX8_fill 11 = .ok (.aload_n 0, 1) := by decide +kernel
theorem dX8_fill_12 : decode cX8_fill 12 = .ok (.getfield 7, 3) := by decide +kernel
theorem dX8_fill_15 : decode cX8_fill 15 = .ok (.iload_n 2, 1) := by decide +kernel
theorem dX8_fill_16 : decode cX8_fill 16 = .ok (.iload_n 1, 1) := by decide +kernel
theorem dX8_fill_17 : decode cX8_fill 17 = .ok (.iastore, 1) := by decide +kernel
theorem dX8_fill_18 : decode cX8_fill 18 = .ok (.iinc 2 1, 3) := by decide +kernel
theorem dX8_fill_21 : decode cX8_fill 21 = .ok (.goto (-19), 3) := by decide +kernel
theorem dX8_copy_0 : decode cX8_copy 0 = .ok (.iconst 0, 1) := by decide +kernel
theorem dX8_copy_1 : decode cX8_copy 1 = .ok (.istore_n 2, 1) := by decide +kernel
theorem dX8_copy_2 : decode cX8_copy 2 = .ok (.iload_n 2, 1) := by decide +kernel
theorem dX8_copy_3 : decode cX8_copy 3 = .ok (.aload_n 0, 1) := by decide +kernel
theorem dX8_copy_4 : decode cX8_copy 4 = .ok (.getfield 7, 3) := by decide +kernel
theorem dX8_copy_7 : decode cX8_copy 7 = .ok (.arraylength, 1) := by decide +kernel
theorem dX8_copy_8 : decode cX8_copy 8 = .ok (.if_icmp .ge 20, 3) := by decide +kernel
theorem dX8_copy_28 : decode cX8_copy 28 = .ok (.return_, 1) := by decide +kernel
theorem dX8_copy_11 : decode cX8_copy 11 = .ok (.aload_n 0, 1) := by decide +kernel
theorem dX8_copy_12 : decode cX8_copy 12 = .ok (.getfield 7, 3) := by decide +kernel
theorem dX8_copy_15 : decode cX8_copy 15 = .ok (.iload_n 2, 1) := by decide +kernel
theorem dX8_copy_16 : decode cX8_copy 16 = .ok (.aload_n 1, 1) := by decide +kernel
theorem dX8_copy_17 : decode cX8_copy 17 = .ok (.iload_n 2, 1) := by decide +kernel
theorem dX8_copy_18 : decode cX8_copy 18 = .ok (.invokevirtual 13, 3) := by decide +kernel
theorem q_5 : (Jvm.Cond.code ({ cls := "Chipfold$Row", name := "at", desc := "(I)I" } : Jvm.MethodName) prog_10_method_2_code (2 : Nat) (Option.some Jvm.ClassFile.FieldType.int)) ∈ WG := wg_2 (List.mem_of_getElem? (i := 124) rfl) rfl
theorem q_6 : (Jvm.Cond.initialized "Chipfold$Row") ∈ WG := wg_1 (List.mem_of_getElem? (i := 4) (by decide +kernel)) (by decide +kernel)
theorem q_7 : (Jvm.Cond.selects "Chipfold$Row" ({ cls := "Chipfold$Row", name := "at", desc := "(I)I" } : Jvm.MethodName) ({ cls := "Chipfold$Row", name := "at", desc := "(I)I" } : Jvm.MethodName)) ∈ WG := wg_2 (List.mem_of_getElem? (i := 123) (by decide +kernel)) (by decide +kernel)
theorem q_8 : (Jvm.Cond.methodLink "Chipfold$Row" (13 : Nat) ({ cls := "Chipfold$Row", name := "at", desc := "(I)I" } : Jvm.MethodName)) ∈ WG := wg_2 (List.mem_of_getElem? (i := 152) (by decide +kernel)) (by decide +kernel)
theorem q_9 : (Jvm.Cond.instanceMethod ({ cls := "Chipfold$Row", name := "at", desc := "(I)I" } : Jvm.MethodName)) ∈ WG := wg_2 (List.mem_of_getElem? (i := 122) (by decide +kernel)) (by decide +kernel)
theorem dX8_copy_21 : decode cX8_copy 21 = .ok (.iastore, 1) := by decide +kernel
theorem dX8_copy_22 : decode cX8_copy 22 = .ok (.iinc 2 1, 3) := by decide +kernel
theorem dX8_copy_25 : decode cX8_copy 25 = .ok (.goto (-23), 3) := by decide +kernel
theorem dX8_sum_0 : decode cX8_sum 0 = .ok (.iconst 0, 1) := by decide +kernel
theorem dX8_sum_1 : decode cX8_sum 1 = .ok (.istore_n 1, 1) := by decide +kernel
theorem dX8_sum_2 : decode cX8_sum 2 = .ok (.iconst 0, 1) := by decide +kernel
theorem dX8_sum_3 : decode cX8_sum 3 = .ok (.istore_n 2, 1) := by decide +kernel
theorem dX8_sum_4 : decode cX8_sum 4 = .ok (.iload_n 2, 1) := by decide +kernel
theorem dX8_sum_5 : decode cX8_sum 5 = .ok (.aload_n 0, 1) := by decide +kernel
theorem dX8_sum_6 : decode cX8_sum 6 = .ok (.getfield 7, 3) := by decide +kernel
theorem dX8_sum_9 : decode cX8_sum 9 = .ok (.arraylength, 1) := by decide +kernel
theorem dX8_sum_10 : decode cX8_sum 10 = .ok (.if_icmp .ge 18, 3) := by decide +kernel
theorem dX8_sum_28 : decode cX8_sum 28 = .ok (.iload_n 1, 1) := by decide +kernel
theorem dX8_sum_29 : decode cX8_sum 29 = .ok (.ireturn, 1) := by decide +kernel
theorem dX8_sum_13 : decode cX8_sum 13 = .ok (.iload_n 1, 1) := by decide +kernel
theorem dX8_sum_14 : decode cX8_sum 14 = .ok (.aload_n 0, 1) := by decide +kernel
theorem dX8_sum_15 : decode cX8_sum 15 = .ok (.getfield 7, 3) := by decide +kernel
theorem dX8_sum_18 : decode cX8_sum 18 = .ok (.iload_n 2, 1) := by decide +kernel
theorem dX8_sum_19 : decode cX8_sum 19 = .ok (.iaload, 1) := by decide +kernel
theorem dX8_sum_20 : decode cX8_sum 20 = .ok (.iadd, 1) := by decide +kernel
theorem dX8_sum_21 : decode cX8_sum 21 = .ok (.istore_n 1, 1) := by decide +kernel
theorem dX8_sum_22 : decode cX8_sum 22 = .ok (.iinc 2 1, 3) := by decide +kernel
theorem dX8_sum_25 : decode cX8_sum 25 = .ok (.goto (-21), 3) := by decide +kernel
theorem dX8_isLike_0 : decode cX8_isLike 0 = .ok (.iconst 0, 1) := by decide +kernel
theorem dX8_isLike_1 : decode cX8_isLike 1 = .ok (.istore_n 2, 1) := by decide +kernel
theorem dX8_isLike_2 : decode cX8_isLike 2 = .ok (.iload_n 2, 1) := by decide +kernel
theorem dX8_isLike_3 : decode cX8_isLike 3 = .ok (.aload_n 0, 1) := by decide +kernel
theorem dX8_isLike_4 : decode cX8_isLike 4 = .ok (.getfield 7, 3) := by decide +kernel
theorem dX8_isLike_7 : decode cX8_isLike 7 = .ok (.arraylength, 1) := by decide +kernel
theorem dX8_isLike_8 : decode cX8_isLike 8 = .ok (.if_icmp .ge 25, 3) := by decide +kernel
theorem dX8_isLike_33 : decode cX8_isLike 33 = .ok (.iconst 1, 1) := by decide +kernel
theorem dX8_isLike_34 : decode cX8_isLike 34 = .ok (.ireturn, 1) := by decide +kernel
theorem dX8_isLike_11 : decode cX8_isLike 11 = .ok (.aload_n 0, 1) := by decide +kernel
theorem dX8_isLike_12 : decode cX8_isLike 12 = .ok (.getfield 7, 3) := by decide +kernel
theorem dX8_isLike_15 : decode cX8_isLike 15 = .ok (.iload_n 2, 1) := by decide +kernel
theorem dX8_isLike_16 : decode cX8_isLike 16 = .ok (.iaload, 1) := by decide +kernel
theorem dX8_isLike_17 : decode cX8_isLike 17 = .ok (.aload_n 1, 1) := by decide +kernel
theorem dX8_isLike_18 : decode cX8_isLike 18 = .ok (.iload_n 2, 1) := by decide +kernel
theorem dX8_isLike_19 : decode cX8_isLike 19 = .ok (.invokevirtual 13, 3) := by decide +kernel
theorem dX8_isLike_22 : decode cX8_isLike 22 = .ok (.if_icmp .eq 5, 3) := by decide +kernel
theorem dX8_isLike_27 : decode cX8_isLike 27 = .ok (.iinc 2 1, 3) := by decide +kernel
theorem dX8_isLike_30 : decode cX8_isLike 30 = .ok (.goto (-28), 3) := by decide +kernel
theorem dX8_isLike_25 : decode cX8_isLike 25 = .ok (.iconst 0, 1) := by decide +kernel
theorem dX8_isLike_26 : decode cX8_isLike 26 = .ok (.ireturn, 1) := by decide +kernel
/-- what a row answers at an index: 0 outside of it -/
def rAt (n : Nat) (f : Nat → Int32) (i : Int32) : Int32 := if ¬ i < 0 ∧ ¬ nI n ≤ i then f i.toNatClampNeg else 0
theorem rAt_n {n : Nat} (hn : n < 2 ^ 31) (f : Nat → Int32) {j : Nat} (h : j < n) : rAt n f (nI j) = f j := by
  have h1 : ¬ nI j < 0 := nI_pos (by omega)
  have h2 : ¬ nI n ≤ nI j := nI_ge h hn
  simp [rAt, h1, h2, nI_clamp (show j < 2 ^ 31 by omega)]
theorem rAt_o {n : Nat} (hn : n < 2 ^ 31) (f : Nat → Int32) {j : Nat} (h : n ≤ j) (hj : j < 2 ^ 31) : rAt n f (nI j) = 0 := by
  have h2 : nI n ≤ nI j := nI_le h hj
  simp [rAt, h2]
theorem upd_s (f : Nat → Int32) (i : Nat) (x : Int32) : upd f i x i = x := by simp [upd]
theorem upd_n (f : Nat → Int32) {i j : Nat} (x : Int32) (h : ¬ j = i) : upd f i x j = f j := by simp [upd, h]
set_option maxRecDepth 100000 in
set_option maxHeartbeats 400000 in
theorem c_X8_at {l : Launch} {D : va_G} {k : Nat → ClassId} (h : Nat) (a : Nat) (n : Nat) (f : Nat → Int32) (i : Int32) (hn : n < 2 ^ 31) : CM l D k yX8_at cX8_at 2 (some .int)  0 0 [.ref h, .int i] [(h, .inr (12, [.ref a])), (a, aI k n f)] (is1 (some (.int (rAt n f i))) [(h, .inr (12, [.ref a])), (a, aI k n f)]) 0 0 0 := by
  refine CM.of (lv0 := [(0, .ref h), (1, .int i)]) (by decide +kernel) (Nat.le_of_ble_eq_true rfl) rfl ?_
  intro p e s m below meth c C hr hlk hin had
  refine g_iload_n (pc := 0) C 1 rfl rfl dX8_at_0 ?_
  refine g_if_lt (pc := 1) C 22 (by decide) dX8_at_1 (fun c_1 => ?_) (fun c_1 => ?_)
  · refine g_iconst (pc := 22) (v := 0) C (by decide) dX8_at_22 ?_
    refine G.eqs (st' := [.int (rAt n f i)]) (congrArg (fun z9 => [Value.int z9]) (show (0 : Int32) = (rAt n f i) from by simp [rAt, *])) ?_
    exact g_iret (pc := 23) C hr hlk (by first | decide | omega) (by first | decide | omega) (by first | decide | omega) dX8_at_23 ⟨rfl, rfl⟩
  · refine g_iload_n (pc := 4) C 1 rfl rfl dX8_at_4 ?_
    refine g_aload_n (pc := 5) C 0 rfl rfl dX8_at_5 ?_
    refine g_get (pc := 6) C (T := TX8) inX8 0 rfl rfl 0 (by decide) q_0 rfl rfl dX8_at_6 ?_
    refine g_alen (pc := 9) C 1 rfl (t0 := 0) rfl (v := (nI n)) rfl dX8_at_9 ?_
    refine g_icmp_ge (pc := 10) C 22 (by decide) dX8_at_10 (fun c_10 => ?_) (fun c_10 => ?_)
    · refine g_iconst (pc := 22) (v := 0) C (by decide) dX8_at_22 ?_
      refine G.eqs (st' := [.int (rAt n f i)]) (congrArg (fun z9 => [Value.int z9]) (show (0 : Int32) = (rAt n f i) from by simp [rAt, *])) ?_
      exact g_iret (pc := 23) C hr hlk (by first | decide | omega) (by first | decide | omega) (by first | decide | omega) dX8_at_23 ⟨rfl, rfl⟩
    · refine g_aload_n (pc := 13) C 0 rfl rfl dX8_at_13 ?_
      refine g_get (pc := 14) C (T := TX8) inX8 0 rfl rfl 0 (by decide) q_0 rfl rfl dX8_at_14 ?_
      refine g_iload_n (pc := 17) C 1 rfl rfl dX8_at_17 ?_
      refine g_iald (pc := 18) C 1 rfl (vp_in_c (by assumption) (by assumption) (by first | assumption | decide)) dX8_at_18 ?_
      refine g_goto (pc := 19) C 23 (by decide) dX8_at_19 ?_
      refine G.eqs (st' := [.int (rAt n f i)]) (congrArg (fun z9 => [Value.int z9]) (show ((f i.toNatClampNeg) : Int32) = (rAt n f i) from by simp [rAt, *])) ?_
      exact g_iret (pc := 23) C hr hlk (by first | decide | omega) (by first | decide | omega) (by first | decide | omega) dX8_at_23 ⟨rfl, rfl⟩
def rPut (n : Nat) (f : Nat → Int32) (i x : Int32) : Nat → Int32 := if ¬ i < 0 ∧ ¬ nI n ≤ i then upd f i.toNatClampNeg x else f
set_option maxRecDepth 100000 in
set_option maxHeartbeats 400000 in
theorem c_X8_write {l : Launch} {D : va_G} {k : Nat → ClassId} (h : Nat) (a : Nat) (n : Nat) (f : Nat → Int32) (i : Int32) (x : Int32) (hn : n < 2 ^ 31) : CM l D k yX8_write cX8_write 3 none  0 0 [.ref h, .int i, .int x] [(h, .inr (12, [.ref a])), (a, aI k n f)] (is1 none [(h, .inr (12, [.ref a])), (a, aI k n (rPut n f i x))]) 0 0 0 := by
  refine CM.of (lv0 := [(0, .ref h), (1, .int i), (2, .int x)]) (by decide +kernel) (Nat.le_of_ble_eq_true rfl) rfl ?_
  intro p e s m below meth c C hr hlk hin had
  refine g_iload_n (pc := 0) C 1 rfl rfl dX8_write_0 ?_
  refine g_if_lt (pc := 1) C 20 (by decide) dX8_write_1 (fun c_1 => ?_) (fun c_1 => ?_)
  · refine G.fn (rPut n f i x) 1 [(h, .inr (12, [.ref a])), (a, aI k n (rPut n f i x))] rfl (fun j hj => by simp [rPut, *]) rfl ?_
    exact g_vret (pc := 20) C hr hlk (by first | decide | omega) (by first | decide | omega) (by first | decide | omega) dX8_write_20 ⟨rfl, rfl⟩
  · refine g_iload_n (pc := 4) C 1 rfl rfl dX8_write_4 ?_
    refine g_aload_n (pc := 5) C 0 rfl rfl dX8_write_5 ?_
    refine g_get (pc := 6) C (T := TX8) inX8 0 rfl rfl 0 (by decide) q_0 rfl rfl dX8_write_6 ?_
    refine g_alen (pc := 9) C 1 rfl (t0 := 0) rfl (v := (nI n)) rfl dX8_write_9 ?_
    refine g_icmp_ge (pc := 10) C 20 (by decide) dX8_write_10 (fun c_10 => ?_) (fun c_10 => ?_)
    · refine G.fn (rPut n f i x) 1 [(h, .inr (12, [.ref a])), (a, aI k n (rPut n f i x))] rfl (fun j hj => by simp [rPut, *]) rfl ?_
      exact g_vret (pc := 20) C hr hlk (by first | decide | omega) (by first | decide | omega) (by first | decide | omega) dX8_write_20 ⟨rfl, rfl⟩
    · refine g_aload_n (pc := 13) C 0 rfl rfl dX8_write_13 ?_
      refine g_get (pc := 14) C (T := TX8) inX8 0 rfl rfl 0 (by decide) q_0 rfl rfl dX8_write_14 ?_
      refine g_iload_n (pc := 17) C 1 rfl rfl dX8_write_17 ?_
      refine g_iload_n (pc := 18) C 2 rfl rfl dX8_write_18 ?_
      refine g_iast (pc := 19) C 1 [(h, .inr (12, [.ref a])), (a, aI k n (upd f i.toNatClampNeg x))] rfl (vp_in_c (by assumption) (by assumption) (by first | assumption | decide)) rfl dX8_write_19 ?_
      refine G.fn (rPut n f i x) 1 [(h, .inr (12, [.ref a])), (a, aI k n (rPut n f i x))] rfl (fun j hj => by simp [rPut, *]) rfl ?_
      exact g_vret (pc := 20) C hr hlk (by first | decide | omega) (by first | decide | omega) (by first | decide | omega) dX8_write_20 ⟨rfl, rfl⟩
def rAdd (n : Nat) (f : Nat → Int32) (i x : Int32) : Nat → Int32 := if ¬ i < 0 ∧ ¬ nI n ≤ i then upd f i.toNatClampNeg (f i.toNatClampNeg + x) else f
theorem rAdd_n {n : Nat} (hn : n < 2 ^ 31) (f : Nat → Int32) {j : Nat} (h : j < n) (x : Int32) : rAdd n f (nI j) x = upd f j (f j + x) := by
  have h1 : ¬ nI j < 0 := nI_pos (by omega)
  have h2 : ¬ nI n ≤ nI j := nI_ge h hn
  simp [rAdd, h1, h2, nI_clamp (show j < 2 ^ 31 by omega)]
set_option maxRecDepth 100000 in
set_option maxHeartbeats 400000 in
theorem c_X8_add {l : Launch} {D : va_G} {k : Nat → ClassId} (h : Nat) (a : Nat) (n : Nat) (f : Nat → Int32) (i : Int32) (x : Int32) (hn : n < 2 ^ 31) : CM l D k yX8_add cX8_add 3 none  0 0 [.ref h, .int i, .int x] [(h, .inr (12, [.ref a])), (a, aI k n f)] (is1 none [(h, .inr (12, [.ref a])), (a, aI k n (rAdd n f i x))]) 0 0 0 := by
  refine CM.of (lv0 := [(0, .ref h), (1, .int i), (2, .int x)]) (by decide +kernel) (Nat.le_of_ble_eq_true rfl) rfl ?_
  intro p e s m below meth c C hr hlk hin had
  refine g_iload_n (pc := 0) C 1 rfl rfl dX8_add_0 ?_
  refine g_if_lt (pc := 1) C 23 (by decide) dX8_add_1 (fun c_1 => ?_) (fun c_1 => ?_)
  · refine G.fn (rAdd n f i x) 1 [(h, .inr (12, [.ref a])), (a, aI k n (rAdd n f i x))] rfl (fun j hj => by simp [rAdd, *]) rfl ?_
    exact g_vret (pc := 23) C hr hlk (by first | decide | omega) (by first | decide | omega) (by first | decide | omega) dX8_add_23 ⟨rfl, rfl⟩
  · refine g_iload_n (pc := 4) C 1 rfl rfl dX8_add_4 ?_
    refine g_aload_n (pc := 5) C 0 rfl rfl dX8_add_5 ?_
    refine g_get (pc := 6) C (T := TX8) inX8 0 rfl rfl 0 (by decide) q_0 rfl rfl dX8_add_6 ?_
    refine g_alen (pc := 9) C 1 rfl (t0 := 0) rfl (v := (nI n)) rfl dX8_add_9 ?_
    refine g_icmp_ge (pc := 10) C 23 (by decide) dX8_add_10 (fun c_10 => ?_) (fun c_10 => ?_)
    · refine G.fn (rAdd n f i x) 1 [(h, .inr (12, [.ref a])), (a, aI k n (rAdd n f i x))] rfl (fun j hj => by simp [rAdd, *]) rfl ?_
      exact g_vret (pc := 23) C hr hlk (by first | decide | omega) (by first | decide | omega) (by first | decide | omega) dX8_add_23 ⟨rfl, rfl⟩
    · refine g_aload_n (pc := 13) C 0 rfl rfl dX8_add_13 ?_
      refine g_get (pc := 14) C (T := TX8) inX8 0 rfl rfl 0 (by decide) q_0 rfl rfl dX8_add_14 ?_
      refine g_iload_n (pc := 17) C 1 rfl rfl dX8_add_17 ?_
      refine g_dup2 (pc := 18) C rfl rfl dX8_add_18 ?_
      refine g_iald (pc := 19) C 1 rfl (vp_in_c (by assumption) (by assumption) (by first | assumption | decide)) dX8_add_19 ?_
      refine g_iload_n (pc := 20) C 2 rfl rfl dX8_add_20 ?_
      refine g_iadd (pc := 21) C dX8_add_21 ?_
      refine g_iast (pc := 22) C 1 [(h, .inr (12, [.ref a])), (a, aI k n (upd f i.toNatClampNeg ((f i.toNatClampNeg) + x)))] rfl (vp_in_c (by assumption) (by assumption) (by first | assumption | decide)) rfl dX8_add_22 ?_
      refine G.fn (rAdd n f i x) 1 [(h, .inr (12, [.ref a])), (a, aI k n (rAdd n f i x))] rfl (fun j hj => by simp [rAdd, *]) rfl ?_
      exact g_vret (pc := 23) C hr hlk (by first | decide | omega) (by first | decide | omega) (by first | decide | omega) dX8_add_23 ⟨rfl, rfl⟩
set_option maxRecDepth 100000 in
set_option maxHeartbeats 400000 in
theorem c_X8_at_n {l : Launch} {D : va_G} {k : Nat → ClassId} (h : Nat) (a : Nat) (n : Nat) (f : Nat → Int32) (i : Nat) (hn : n < 2 ^ 31) (hi : i < n) : CM l D k yX8_at cX8_at 2 (some .int)  0 0 [.ref h, .int (nI i)] [(h, .inr (12, [.ref a])), (a, aI k n f)] (is1 (some (.int (f i))) [(h, .inr (12, [.ref a])), (a, aI k n f)]) 0 0 0 := by
  refine CM.of (lv0 := [(0, .ref h), (1, .int (nI i))]) (by decide +kernel) (Nat.le_of_ble_eq_true rfl) rfl ?_
  intro p e s m below meth c C hr hlk hin had
  refine g_iload_n (pc := 0) C 1 rfl rfl dX8_at_0 ?_
  refine g_if_lt (pc := 1) C 22 (by decide) dX8_at_1 (fun c_1 => ?_) (fun c_1 => ?_)
  · exact absurd c_1 (nI_pos (by omega))
  · refine g_iload_n (pc := 4) C 1 rfl rfl dX8_at_4 ?_
    refine g_aload_n (pc := 5) C 0 rfl rfl dX8_at_5 ?_
    refine g_get (pc := 6) C (T := TX8) inX8 0 rfl rfl 0 (by decide) q_0 rfl rfl dX8_at_6 ?_
    refine g_alen (pc := 9) C 1 rfl (t0 := 0) rfl (v := (nI n)) rfl dX8_at_9 ?_
    refine g_icmp_ge (pc := 10) C 22 (by decide) dX8_at_10 (fun c_10 => ?_) (fun c_10 => ?_)
    · exact absurd c_10 (nI_ge hi (by omega))
    · refine g_aload_n (pc := 13) C 0 rfl rfl dX8_at_13 ?_
      refine g_get (pc := 14) C (T := TX8) inX8 0 rfl rfl 0 (by decide) q_0 rfl rfl dX8_at_14 ?_
      refine g_iload_n (pc := 17) C 1 rfl rfl dX8_at_17 ?_
      refine g_iald_n (pc := 18) C (j := i) 1 rfl (by omega) (by first | decide | omega) rfl dX8_at_18 ?_
      refine g_goto (pc := 19) C 23 (by decide) dX8_at_19 ?_
      exact g_iret (pc := 23) C hr hlk (by first | decide | omega) (by first | decide | omega) (by first | decide | omega) dX8_at_23 ⟨rfl, rfl⟩
set_option maxRecDepth 100000 in
set_option maxHeartbeats 400000 in
theorem c_X8_write_n {l : Launch} {D : va_G} {k : Nat → ClassId} (h : Nat) (a : Nat) (n : Nat) (f : Nat → Int32) (i : Nat) (x : Int32) (hn : n < 2 ^ 31) (hi : i < n) : CM l D k yX8_write cX8_write 3 none  0 0 [.ref h, .int (nI i), .int x] [(h, .inr (12, [.ref a])), (a, aI k n f)] (is1 none [(h, .inr (12, [.ref a])), (a, aI k n (upd f i x))]) 0 0 0 := by
  refine CM.of (lv0 := [(0, .ref h), (1, .int (nI i)), (2, .int x)]) (by decide +kernel) (Nat.le_of_ble_eq_true rfl) rfl ?_
  intro p e s m below meth c C hr hlk hin had
  refine g_iload_n (pc := 0) C 1 rfl rfl dX8_write_0 ?_
  refine g_if_lt (pc := 1) C 20 (by decide) dX8_write_1 (fun c_1 => ?_) (fun c_1 => ?_)
  · exact absurd c_1 (nI_pos (by omega))
  · refine g_iload_n (pc := 4) C 1 rfl rfl dX8_write_4 ?_
    refine g_aload_n (pc := 5) C 0 rfl rfl dX8_write_5 ?_
    refine g_get (pc := 6) C (T := TX8) inX8 0 rfl rfl 0 (by decide) q_0 rfl rfl dX8_write_6 ?_
    refine g_alen (pc := 9) C 1 rfl (t0 := 0) rfl (v := (nI n)) rfl dX8_write_9 ?_
    refine g_icmp_ge (pc := 10) C 20 (by decide) dX8_write_10 (fun c_10 => ?_) (fun c_10 => ?_)
    · exact absurd c_10 (nI_ge hi (by omega))
    · refine g_aload_n (pc := 13) C 0 rfl rfl dX8_write_13 ?_
      refine g_get (pc := 14) C (T := TX8) inX8 0 rfl rfl 0 (by decide) q_0 rfl rfl dX8_write_14 ?_
      refine g_iload_n (pc := 17) C 1 rfl rfl dX8_write_17 ?_
      refine g_iload_n (pc := 18) C 2 rfl rfl dX8_write_18 ?_
      refine g_iast_n (pc := 19) C (j := i) 1 [(h, .inr (12, [.ref a])), (a, aI k n (upd f i x))] rfl (by omega) (by first | decide | omega) rfl rfl dX8_write_19 ?_
      exact g_vret (pc := 20) C hr hlk (by first | decide | omega) (by first | decide | omega) (by first | decide | omega) dX8_write_20 ⟨rfl, rfl⟩
set_option maxRecDepth 100000 in
set_option maxHeartbeats 400000 in
theorem c_X8_add_n {l : Launch} {D : va_G} {k : Nat → ClassId} (h : Nat) (a : Nat) (n : Nat) (f : Nat → Int32) (i : Nat) (x : Int32) (hn : n < 2 ^ 31) (hi : i < n) : CM l D k yX8_add cX8_add 3 none  0 0 [.ref h, .int (nI i), .int x] [(h, .inr (12, [.ref a])), (a, aI k n f)] (is1 none [(h, .inr (12, [.ref a])), (a, aI k n (upd f i (f i + x)))]) 0 0 0 := by
  refine CM.of (lv0 := [(0, .ref h), (1, .int (nI i)), (2, .int x)]) (by decide +kernel) (Nat.le_of_ble_eq_true rfl) rfl ?_
  intro p e s m below meth c C hr hlk hin had
  refine g_iload_n (pc := 0) C 1 rfl rfl dX8_add_0 ?_
  refine g_if_lt (pc := 1) C 23 (by decide) dX8_add_1 (fun c_1 => ?_) (fun c_1 => ?_)
  · exact absurd c_1 (nI_pos (by omega))
  · refine g_iload_n (pc := 4) C 1 rfl rfl dX8_add_4 ?_
    refine g_aload_n (pc := 5) C 0 rfl rfl dX8_add_5 ?_
    refine g_get (pc := 6) C (T := TX8) inX8 0 rfl rfl 0 (by decide) q_0 rfl rfl dX8_add_6 ?_
    refine g_alen (pc := 9) C 1 rfl (t0 := 0) rfl (v := (nI n)) rfl dX8_add_9 ?_
    refine g_icmp_ge (pc := 10) C 23 (by decide) dX8_add_10 (fun c_10 => ?_) (fun c_10 => ?_)
    · exact absurd c_10 (nI_ge hi (by omega))
    · refine g_aload_n (pc := 13) C 0 rfl rfl dX8_add_13 ?_
      refine g_get (pc := 14) C (T := TX8) inX8 0 rfl rfl 0 (by decide) q_0 rfl rfl dX8_add_14 ?_
      refine g_iload_n (pc := 17) C 1 rfl rfl dX8_add_17 ?_
      refine g_dup2 (pc := 18) C rfl rfl dX8_add_18 ?_
      refine g_iald_n (pc := 19) C (j := i) 1 rfl (by omega) (by first | decide | omega) rfl dX8_add_19 ?_
      refine g_iload_n (pc := 20) C 2 rfl rfl dX8_add_20 ?_
      refine g_iadd (pc := 21) C dX8_add_21 ?_
      refine g_iast_n (pc := 22) C (j := i) 1 [(h, .inr (12, [.ref a])), (a, aI k n (upd f i ((f i) + x)))] rfl (by omega) (by first | decide | omega) rfl rfl dX8_add_22 ?_
      exact g_vret (pc := 23) C hr hlk (by first | decide | omega) (by first | decide | omega) (by first | decide | omega) dX8_add_23 ⟨rfl, rfl⟩
set_option maxRecDepth 100000 in
set_option maxHeartbeats 400000 in
theorem c_X8_init_6 {l : Launch} {D : va_G} {k : Nat → ClassId} (h : Nat)  : CM l D k yX8_init cX8_init 2 none  1 12 [.ref h, .int 6] [(h, .inr (12, [.null]))] (fun rv9 w9 => rv9 = none ∧ ∃ (a : Nat), w9 = [(h, .inr (12, [.ref a])), (a, aI k 6 (fun _ => 0))]) 1 6 1 := by
  refine CM.of (lv0 := [(0, .ref h), (1, .int 6)]) (by decide +kernel) (Nat.le_of_ble_eq_true rfl) rfl ?_
  intro p e s m below meth c C hr hlk hin had
  refine g_aload_n (pc := 0) C 0 rfl rfl dX8_init_0 ?_
  refine g_obj (pc := 1) C q_1 q_2 q_3 (Nat.le_of_ble_eq_true rfl) (Nat.le_of_ble_eq_true rfl) dX8_init_1 ?_
  refine g_aload_n (pc := 4) C 0 rfl rfl dX8_init_4 ?_
  refine g_iload_n (pc := 5) C 1 rfl rfl dX8_init_5 ?_
  refine g_if_ge (pc := 6) C 13 (by decide) dX8_init_6 (fun c_6 => ?_) (fun c_6 => ?_)
  · refine g_iload_n (pc := 13) C 1 rfl rfl dX8_init_13 ?_
    refine g_newI (pc := 14) (cells := 0) (slots := 0) (g := 0) C 6 q_4 (by decide) (by decide) (Nat.le_of_ble_eq_true rfl) (Nat.le_of_ble_eq_true rfl) (Nat.le_of_ble_eq_true rfl) dX8_init_14 (fun q1 => ?_)
    refine G.eqw (ws' := [(h, .inr (12, [.null])), (q1, aI k 6 (fun _ => 0))]) rfl ?_
    refine g_putF (pc := 16) C (T := TX8) inX8 0 rfl rfl 0 (by decide) q_0 rfl tyX8 tyX8_ok nmX8 rfl hin rfl [(h, .inr (12, [.ref q1])), (q1, aI k 6 (fun _ => 0))] (tyX8_ok 0 (by decide)) rfl rfl (Nat.le_of_ble_eq_true rfl) rfl dX8_init_16 ?_
    exact g_vret (pc := 19) C hr hlk (by first | decide | omega) (by first | decide | omega) (by first | decide | omega) dX8_init_19 ⟨rfl, q1, rfl⟩
  · exact absurd c_6 (by decide)
set_option maxRecDepth 100000 in
set_option maxHeartbeats 400000 in
theorem c_X8_init_81 {l : Launch} {D : va_G} {k : Nat → ClassId} (h : Nat)  : CM l D k yX8_init cX8_init 2 none  1 12 [.ref h, .int 81] [(h, .inr (12, [.null]))] (fun rv9 w9 => rv9 = none ∧ ∃ (a : Nat), w9 = [(h, .inr (12, [.ref a])), (a, aI k 81 (fun _ => 0))]) 1 81 1 := by
  refine CM.of (lv0 := [(0, .ref h), (1, .int 81)]) (by decide +kernel) (Nat.le_of_ble_eq_true rfl) rfl ?_
  intro p e s m below meth c C hr hlk hin had
  refine g_aload_n (pc := 0) C 0 rfl rfl dX8_init_0 ?_
  refine g_obj (pc := 1) C q_1 q_2 q_3 (Nat.le_of_ble_eq_true rfl) (Nat.le_of_ble_eq_true rfl) dX8_init_1 ?_
  refine g_aload_n (pc := 4) C 0 rfl rfl dX8_init_4 ?_
  refine g_iload_n (pc := 5) C 1 rfl rfl dX8_init_5 ?_
  refine g_if_ge (pc := 6) C 13 (by decide) dX8_init_6 (fun c_6 => ?_) (fun c_6 => ?_)
  · refine g_iload_n (pc := 13) C 1 rfl rfl dX8_init_13 ?_
    refine g_newI (pc := 14) (cells := 0) (slots := 0) (g := 0) C 81 q_4 (by decide) (by decide) (Nat.le_of_ble_eq_true rfl) (Nat.le_of_ble_eq_true rfl) (Nat.le_of_ble_eq_true rfl) dX8_init_14 (fun q1 => ?_)
    refine G.eqw (ws' := [(h, .inr (12, [.null])), (q1, aI k 81 (fun _ => 0))]) rfl ?_
    refine g_putF (pc := 16) C (T := TX8) inX8 0 rfl rfl 0 (by decide) q_0 rfl tyX8 tyX8_ok nmX8 rfl hin rfl [(h, .inr (12, [.ref q1])), (q1, aI k 81 (fun _ => 0))] (tyX8_ok 0 (by decide)) rfl rfl (Nat.le_of_ble_eq_true rfl) rfl dX8_init_16 ?_
    exact g_vret (pc := 19) C hr hlk (by first | decide | omega) (by first | decide | omega) (by first | decide | omega) dX8_init_19 ⟨rfl, q1, rfl⟩
  · exact absurd c_6 (by decide)
set_option maxRecDepth 100000 in
set_option maxHeartbeats 400000 in
theorem c_X8_init_252 {l : Launch} {D : va_G} {k : Nat → ClassId} (h : Nat)  : CM l D k yX8_init cX8_init 2 none  1 12 [.ref h, .int 252] [(h, .inr (12, [.null]))] (fun rv9 w9 => rv9 = none ∧ ∃ (a : Nat), w9 = [(h, .inr (12, [.ref a])), (a, aI k 252 (fun _ => 0))]) 1 252 1 := by
  refine CM.of (lv0 := [(0, .ref h), (1, .int 252)]) (by decide +kernel) (Nat.le_of_ble_eq_true rfl) rfl ?_
  intro p e s m below meth c C hr hlk hin had
  refine g_aload_n (pc := 0) C 0 rfl rfl dX8_init_0 ?_
  refine g_obj (pc := 1) C q_1 q_2 q_3 (Nat.le_of_ble_eq_true rfl) (Nat.le_of_ble_eq_true rfl) dX8_init_1 ?_
  refine g_aload_n (pc := 4) C 0 rfl rfl dX8_init_4 ?_
  refine g_iload_n (pc := 5) C 1 rfl rfl dX8_init_5 ?_
  refine g_if_ge (pc := 6) C 13 (by decide) dX8_init_6 (fun c_6 => ?_) (fun c_6 => ?_)
  · refine g_iload_n (pc := 13) C 1 rfl rfl dX8_init_13 ?_
    refine g_newI (pc := 14) (cells := 0) (slots := 0) (g := 0) C 252 q_4 (by decide) (by decide) (Nat.le_of_ble_eq_true rfl) (Nat.le_of_ble_eq_true rfl) (Nat.le_of_ble_eq_true rfl) dX8_init_14 (fun q1 => ?_)
    refine G.eqw (ws' := [(h, .inr (12, [.null])), (q1, aI k 252 (fun _ => 0))]) rfl ?_
    refine g_putF (pc := 16) C (T := TX8) inX8 0 rfl rfl 0 (by decide) q_0 rfl tyX8 tyX8_ok nmX8 rfl hin rfl [(h, .inr (12, [.ref q1])), (q1, aI k 252 (fun _ => 0))] (tyX8_ok 0 (by decide)) rfl rfl (Nat.le_of_ble_eq_true rfl) rfl dX8_init_16 ?_
    exact g_vret (pc := 19) C hr hlk (by first | decide | omega) (by first | decide | omega) (by first | decide | omega) dX8_init_19 ⟨rfl, q1, rfl⟩
  · exact absurd c_6 (by decide)
set_option maxRecDepth 100000 in
set_option maxHeartbeats 400000 in
theorem c_X8_fill {l : Launch} {D : va_G} {k : Nat → ClassId} (h : Nat) (a : Nat) (n : Nat) (f : Nat → Int32) (x : Int32) (hn : n < 2 ^ 31) : CM l D k yX8_fill cX8_fill 3 none  0 0 [.ref h, .int x] [(h, .inr (12, [.ref a])), (a, aI k n f)] (is1 none [(h, .inr (12, [.ref a])), (a, aI k n (fun _ => x))]) 0 0 0 := by
  refine CM.of (lv0 := [(0, .ref h), (1, .int x)]) (by decide +kernel) (Nat.le_of_ble_eq_true rfl) rfl ?_
  intro p e s m below meth c C hr hlk hin had
  refine g_iconst (pc := 0) (v := 0) C (by decide) dX8_fill_0 ?_
  refine g_istore_n (pc := 1) C [(2, .int 0), (0, .ref h), (1, .int x)] rfl dX8_fill_1 (by decide) rfl ?_
  have key_2 : ∀ (fuel : Nat) (i : Nat), i ≤ n → n - i < fuel → G p l e { frames := 0, cells := 0, slots := 0, locals := 0 } s m ([.ref h, .int x] : List Value).toArray below meth c D 3 (va_A [(h, .inr (12, [.ref a])), (a, aI k n f)] s.heap.size) (QM below D ([.ref h, .int x] : List Value).toArray s [(h, .inr (12, [.ref a])), (a, aI k n f)] (is1 none [(h, .inr (12, [.ref a])), (a, aI k n (fun _ => x))]) 0 0 0) [(h, .inr (12, [.ref a])), (a, aI k n (fun j => if j < i then x else f j))] [(0, .ref h), (1, .int x), (2, .int (nI i))] 0 0 0 2 [] := by
    intro fuel
    induction fuel with
    | zero => intro i hi hm; exact absurd hm (Nat.not_lt_zero _)
    | succ fuel ih =>
      intro i hi hm
      have ih_2 := ih
      refine g_iload_n (pc := 2) C 2 rfl rfl dX8_fill_2 ?_
      refine g_aload_n (pc := 3) C 0 rfl rfl dX8_fill_3 ?_
      refine g_get (pc := 4) C (T := TX8) inX8 0 rfl rfl 0 (by decide) q_0 rfl rfl dX8_fill_4 ?_
      refine g_alen (pc := 7) C 1 rfl (t0 := 0) rfl (v := (nI n)) rfl dX8_fill_7 ?_
      refine g_icmp_ge (pc := 8) C 24 (by decide) dX8_fill_8 (fun c_8 => ?_) (fun c_8 => ?_)
      · refine G.fn (fun _ => x) 1 [(h, .inr (12, [.ref a])), (a, aI k n (fun _ => x))] rfl (fun j hj => by have h2 : i = n := by { rcases Nat.lt_or_ge i n with q | q; exact absurd c_8 (nI_ge q hn); omega }; subst h2; simp [hj]) rfl ?_
        exact g_vret (pc := 24) C hr hlk (by first | decide | omega) (by first | decide | omega) (by first | decide | omega) dX8_fill_24 ⟨rfl, rfl⟩
      · have hlt : i < n := by rcases Nat.lt_or_ge i n with q | q; exact q; exact absurd (nI_le q (by omega)) c_8
        refine g_aload_n (pc := 11) C 0 rfl rfl dX8_fill_11 ?_
        refine g_get (pc := 12) C (T := TX8) inX8 0 rfl rfl 0 (by decide) q_0 rfl rfl dX8_fill_12 ?_
        refine g_iload_n (pc := 15) C 2 rfl rfl dX8_fill_15 ?_
        refine g_iload_n (pc := 16) C 1 rfl rfl dX8_fill_16 ?_
        refine g_iast_n (pc := 17) C (j := i) 1 [(h, .inr (12, [.ref a])), (a, aI k n (upd (fun j => if j < i then x else f j) i x))] rfl (by omega) (by first | decide | omega) rfl rfl dX8_fill_17 ?_
        refine g_iinc (pc := 18) (n := 1) (v := (nI (i + 1))) C 2 [(2, .int (nI (i + 1))), (0, .ref h), (1, .int x)] rfl (nI_1 i) dX8_fill_18 (by decide) rfl ?_
        refine g_goto (pc := 21) C 2 (by decide) dX8_fill_21 ?_
        refine G.loc [1, 2, 0] (lv' := [(0, .ref h), (1, .int x), (2, .int (nI (i + 1)))]) rfl ?_
        refine G.fn (fun j => if j < (i + 1) then x else f j) 1 [(h, .inr (12, [.ref a])), (a, aI k n (fun j => if j < (i + 1) then x else f j))] rfl (fun j hj => by by_cases h1 : j = i <;> simp [upd, h1] <;> (by_cases h2 : j < i <;> simp [h2] <;> omega)) rfl ?_
        exact ih_2 (i + 1) (by omega) (by omega)
  refine G.loc [1, 2, 0] (lv' := [(0, .ref h), (1, .int x), (2, .int 0)]) rfl ?_
  refine G.fn (fun j => if j < 0 then x else f j) 1 [(h, .inr (12, [.ref a])), (a, aI k n (fun j => if j < 0 then x else f j))] rfl (fun j hj => by simp) rfl ?_
  refine G.eql (lv' := [(0, .ref h), (1, .int x), (2, .int (nI 0))]) (congrArg (β := List (Nat × Value)) (fun z9 => [(0, .ref h), (1, .int x), (2, .int z9)]) (show (0 : Int32) = (nI 0) from by exact nI_0.symm)) ?_
  exact key_2 (n - 0 + 1) 0 (by omega) (Nat.lt_succ_self _)
set_option maxRecDepth 100000 in
set_option maxHeartbeats 400000 in
theorem c_X8_copy {l : Launch} {D : va_G} {k : Nat → ClassId} (h : Nat) (a : Nat) (n : Nat) (f : Nat → Int32) (h2 : Nat) (a2 : Nat) (f2 : Nat → Int32) (hn : n < 2 ^ 31) : CM l D k yX8_copy cX8_copy 3 none  1 21 [.ref h, .ref h2] [(h, .inr (12, [.ref a])), (a, aI k n f), (h2, .inr (12, [.ref a2])), (a2, aI k n f2)] (is1 none [(h, .inr (12, [.ref a])), (a, aI k n f2), (h2, .inr (12, [.ref a2])), (a2, aI k n f2)]) 0 0 0 := by
  refine CM.of (lv0 := [(0, .ref h), (1, .ref h2)]) (by decide +kernel) (Nat.le_of_ble_eq_true rfl) rfl ?_
  intro p e s m below meth c C hr hlk hin had
  refine g_iconst (pc := 0) (v := 0) C (by decide) dX8_copy_0 ?_
  refine g_istore_n (pc := 1) C [(2, .int 0), (0, .ref h), (1, .ref h2)] rfl dX8_copy_1 (by decide) rfl ?_
  have key_2 : ∀ (fuel : Nat) (i : Nat), i ≤ n → n - i < fuel → G p l e { frames := 1, cells := 0, slots := 0, locals := 21 } s m ([.ref h, .ref h2] : List Value).toArray below meth c D 3 (va_A [(h, .inr (12, [.ref a])), (a, aI k n f), (h2, .inr (12, [.ref a2])), (a2, aI k n f2)] s.heap.size) (QM below D ([.ref h, .ref h2] : List Value).toArray s [(h, .inr (12, [.ref a])), (a, aI k n f), (h2, .inr (12, [.ref a2])), (a2, aI k n f2)] (is1 none [(h, .inr (12, [.ref a])), (a, aI k n f2), (h2, .inr (12, [.ref a2])), (a2, aI k n f2)]) 0 0 0) [(h, .inr (12, [.ref a])), (a, aI k n (fun j => if j < i then f2 j else f j)), (h2, .inr (12, [.ref a2])), (a2, aI k n f2)] [(0, .ref h), (1, .ref h2), (2, .int (nI i))] 0 0 0 2 [] := by
    intro fuel
    induction fuel with
    | zero => intro i hi hm; exact absurd hm (Nat.not_lt_zero _)
    | succ fuel ih =>
      intro i hi hm
      have ih_2 := ih
      refine g_iload_n (pc := 2) C 2 rfl rfl dX8_copy_2 ?_
      refine g_aload_n (pc := 3) C 0 rfl rfl dX8_copy_3 ?_
      refine g_get (pc := 4) C (T := TX8) inX8 0 rfl rfl 0 (by decide) q_0 rfl rfl dX8_copy_4 ?_
      refine g_alen (pc := 7) C 1 rfl (t0 := 0) rfl (v := (nI n)) rfl dX8_copy_7 ?_
      refine g_icmp_ge (pc := 8) C 28 (by decide) dX8_copy_8 (fun c_8 => ?_) (fun c_8 => ?_)
      · refine G.fn f2 1 [(h, .inr (12, [.ref a])), (a, aI k n f2), (h2, .inr (12, [.ref a2])), (a2, aI k n f2)] rfl (fun j hj => by have h3 : i = n := by { rcases Nat.lt_or_ge i n with q | q; exact absurd c_8 (nI_ge q hn); omega }; subst h3; simp [hj]) rfl ?_
        exact g_vret (pc := 28) C hr hlk (by first | decide | omega) (by first | decide | omega) (by first | decide | omega) dX8_copy_28 ⟨rfl, rfl⟩
      · have hlt : i < n := by rcases Nat.lt_or_ge i n with q | q; exact q; exact absurd (nI_le q (by omega)) c_8
        refine g_aload_n (pc := 11) C 0 rfl rfl dX8_copy_11 ?_
        refine g_get (pc := 12) C (T := TX8) inX8 0 rfl rfl 0 (by decide) q_0 rfl rfl dX8_copy_12 ?_
        refine g_iload_n (pc := 15) C 2 rfl rfl dX8_copy_15 ?_
        refine g_aload_n (pc := 16) C 1 rfl rfl dX8_copy_16 ?_
        refine g_iload_n (pc := 17) C 2 rfl rfl dX8_copy_17 ?_
        refine g_callV (pc := 18) (cells := 0) (slots := 0) (g := 0) (As := [.int (nI i)]) (st := [.int (nI i), .ref a]) (T := TX8) (q0 := 2) C (nA := 1) rfl (c_X8_at h2 a2 n f2 (nI i) (by first | assumption | decide | omega)) q_8 q_9 q_7 q_6 q_5 (by decide +kernel) rfl rfl dX8_copy_18 ⟨Nat.le_of_ble_eq_true rfl, Nat.le_of_ble_eq_true rfl⟩ [2, 3] [0, 1] rfl (wr := [(h, .inr (12, [.ref a])), (a, aI k n (fun j => if j < i then f2 j else f j))]) rfl (by decide) (by decide) (by decide) (Nat.le_of_ble_eq_true rfl) ⟨Nat.le_of_ble_eq_true rfl, Nat.le_of_ble_eq_true rfl⟩ (fun rv w1 h1 => ?_)
        obtain ⟨rfl, rfl⟩ := h1
        refine G.aft [0, 1, 2, 3] (ws' := [(h, .inr (12, [.ref a])), (a, aI k n (fun j => if j < i then f2 j else f j)), (h2, .inr (12, [.ref a2])), (a2, aI k n f2)]) (st' := [.int (rAt n f2 (nI i)), .int (nI i), .ref a]) (cells' := 0) (slots' := 0) (g' := 0) (by decide) rfl rfl rfl rfl rfl ?_
        refine g_iast_n (pc := 21) C (j := i) 1 [(h, .inr (12, [.ref a])), (a, aI k n (upd (fun j => if j < i then f2 j else f j) i (rAt n f2 (nI i)))), (h2, .inr (12, [.ref a2])), (a2, aI k n f2)] rfl (by omega) (by first | decide | omega) rfl rfl dX8_copy_21 ?_
        refine g_iinc (pc := 22) (n := 1) (v := (nI (i + 1))) C 2 [(2, .int (nI (i + 1))), (0, .ref h), (1, .ref h2)] rfl (nI_1 i) dX8_copy_22 (by decide) rfl ?_
        refine g_goto (pc := 25) C 2 (by decide) dX8_copy_25 ?_
        refine G.loc [1, 2, 0] (lv' := [(0, .ref h), (1, .ref h2), (2, .int (nI (i + 1)))]) rfl ?_
        refine G.fn (fun j => if j < (i + 1) then f2 j else f j) 1 [(h, .inr (12, [.ref a])), (a, aI k n (fun j => if j < (i + 1) then f2 j else f j)), (h2, .inr (12, [.ref a2])), (a2, aI k n f2)] rfl (fun j hj => by rw [rAt_n hn f2 hlt]; by_cases h1 : j = i <;> simp [upd, h1] <;> (by_cases h2 : j < i <;> simp [h2] <;> omega)) rfl ?_
        exact ih_2 (i + 1) (by omega) (by omega)
  refine G.loc [1, 2, 0] (lv' := [(0, .ref h), (1, .ref h2), (2, .int 0)]) rfl ?_
  refine G.fn (fun j => if j < 0 then f2 j else f j) 1 [(h, .inr (12, [.ref a])), (a, aI k n (fun j => if j < 0 then f2 j else f j)), (h2, .inr (12, [.ref a2])), (a2, aI k n f2)] rfl (fun j hj => by simp) rfl ?_
  refine G.eql (lv' := [(0, .ref h), (1, .ref h2), (2, .int (nI 0))]) (congrArg (β := List (Nat × Value)) (fun z9 => [(0, .ref h), (1, .ref h2), (2, .int z9)]) (show (0 : Int32) = (nI 0) from by exact nI_0.symm)) ?_
  exact key_2 (n - 0 + 1) 0 (by omega) (Nat.lt_succ_self _)
def rSum (f : Nat → Int32) : Nat → Int32
  | 0 => 0
  | n + 1 => rSum f n + f n
set_option maxRecDepth 100000 in
set_option maxHeartbeats 400000 in
theorem c_X8_sum {l : Launch} {D : va_G} {k : Nat → ClassId} (h : Nat) (a : Nat) (n : Nat) (f : Nat → Int32) (hn : n < 2 ^ 31) : CM l D k yX8_sum cX8_sum 3 (some .int)  0 0 [.ref h] [(h, .inr (12, [.ref a])), (a, aI k n f)] (is1 (some (.int (rSum f n))) [(h, .inr (12, [.ref a])), (a, aI k n f)]) 0 0 0 := by
  refine CM.of (lv0 := [(0, .ref h)]) (by decide +kernel) (Nat.le_of_ble_eq_true rfl) rfl ?_
  intro p e s m below meth c C hr hlk hin had
  refine g_iconst (pc := 0) (v := 0) C (by decide) dX8_sum_0 ?_
  refine g_istore_n (pc := 1) C [(1, .int 0), (0, .ref h)] rfl dX8_sum_1 (by decide) rfl ?_
  refine g_iconst (pc := 2) (v := 0) C (by decide) dX8_sum_2 ?_
  refine g_istore_n (pc := 3) C [(2, .int 0), (1, .int 0), (0, .ref h)] rfl dX8_sum_3 (by decide) rfl ?_
  have key_4 : ∀ (fuel : Nat) (i : Nat), i ≤ n → n - i < fuel → G p l e { frames := 0, cells := 0, slots := 0, locals := 0 } s m ([.ref h] : List Value).toArray below meth c D 3 (va_A [(h, .inr (12, [.ref a])), (a, aI k n f)] s.heap.size) (QM below D ([.ref h] : List Value).toArray s [(h, .inr (12, [.ref a])), (a, aI k n f)] (is1 (some (.int (rSum f n))) [(h, .inr (12, [.ref a])), (a, aI k n f)]) 0 0 0) [(h, .inr (12, [.ref a])), (a, aI k n f)] [(0, .ref h), (1, .int (rSum f i)), (2, .int (nI i))] 0 0 0 4 [] := by
    intro fuel
    induction fuel with
    | zero => intro i hi hm; exact absurd hm (Nat.not_lt_zero _)
    | succ fuel ih =>
      intro i hi hm
      have ih_4 := ih
      refine g_iload_n (pc := 4) C 2 rfl rfl dX8_sum_4 ?_
      refine g_aload_n (pc := 5) C 0 rfl rfl dX8_sum_5 ?_
      refine g_get (pc := 6) C (T := TX8) inX8 0 rfl rfl 0 (by decide) q_0 rfl rfl dX8_sum_6 ?_
      refine g_alen (pc := 9) C 1 rfl (t0 := 0) rfl (v := (nI n)) rfl dX8_sum_9 ?_
      refine g_icmp_ge (pc := 10) C 28 (by decide) dX8_sum_10 (fun c_10 => ?_) (fun c_10 => ?_)
      · refine g_iload_n (pc := 28) C 1 rfl rfl dX8_sum_28 ?_
        refine G.eqs (st' := [.int (rSum f n)]) (congrArg (fun z9 => [Value.int z9]) (show ((rSum f i) : Int32) = (rSum f n) from by have h3 : i = n := by { rcases Nat.lt_or_ge i n with q | q; exact absurd c_10 (nI_ge q hn); omega }; rw [h3])) ?_
        exact g_iret (pc := 29) C hr hlk (by first | decide | omega) (by first | decide | omega) (by first | decide | omega) dX8_sum_29 ⟨rfl, rfl⟩
      · have hlt : i < n := by rcases Nat.lt_or_ge i n with q | q; exact q; exact absurd (nI_le q (by omega)) c_10
        refine g_iload_n (pc := 13) C 1 rfl rfl dX8_sum_13 ?_
        refine g_aload_n (pc := 14) C 0 rfl rfl dX8_sum_14 ?_
        refine g_get (pc := 15) C (T := TX8) inX8 0 rfl rfl 0 (by decide) q_0 rfl rfl dX8_sum_15 ?_
        refine g_iload_n (pc := 18) C 2 rfl rfl dX8_sum_18 ?_
        refine g_iald_n (pc := 19) C (j := i) 1 rfl (by omega) (by first | decide | omega) rfl dX8_sum_19 ?_
        refine g_iadd (pc := 20) C dX8_sum_20 ?_
        refine g_istore_n (pc := 21) C [(1, .int ((rSum f i) + (f i))), (0, .ref h), (2, .int (nI i))] rfl dX8_sum_21 (by decide) rfl ?_
        refine g_iinc (pc := 22) (n := 1) (v := (nI (i + 1))) C 2 [(2, .int (nI (i + 1))), (1, .int ((rSum f i) + (f i))), (0, .ref h)] rfl (nI_1 i) dX8_sum_22 (by decide) rfl ?_
        refine g_goto (pc := 25) C 4 (by decide) dX8_sum_25 ?_
        refine G.loc [2, 1, 0] (lv' := [(0, .ref h), (1, .int ((rSum f i) + (f i))), (2, .int (nI (i + 1)))]) rfl ?_
        refine G.eql (lv' := [(0, .ref h), (1, .int (rSum f (i + 1))), (2, .int (nI (i + 1)))]) (congrArg (β := List (Nat × Value)) (fun z9 => [(0, .ref h), (1, .int z9), (2, .int (nI (i + 1)))]) (show (((rSum f i) + (f i)) : Int32) = (rSum f (i + 1)) from by rfl)) ?_
        exact ih_4 (i + 1) (by omega) (by omega)
  refine G.loc [2, 1, 0] (lv' := [(0, .ref h), (1, .int 0), (2, .int 0)]) rfl ?_
  refine G.eql (lv' := [(0, .ref h), (1, .int (rSum f 0)), (2, .int (nI 0))]) ((congrArg (β := List (Nat × Value)) (fun z9 => [(0, .ref h), (1, .int z9), (2, .int 0)]) (show (0 : Int32) = (rSum f 0) from by first | rfl | exact nI_0.symm)).trans (congrArg (β := List (Nat × Value)) (fun z9 => [(0, .ref h), (1, .int (rSum f 0)), (2, .int z9)]) (show (0 : Int32) = (nI 0) from by first | rfl | exact nI_0.symm))) ?_
  exact key_4 (n - 0 + 1) 0 (by omega) (Nat.lt_succ_self _)
def rLike (f f2 : Nat → Int32) (n : Nat) : Bool := (List.range n).all fun j => f j == f2 j
theorem rLike_iff {f f2 : Nat → Int32} {n : Nat} : rLike f f2 n = true ↔ ∀ j, j < n → f j = f2 j := by simp [rLike]
set_option maxRecDepth 100000 in
set_option maxHeartbeats 400000 in
theorem c_X8_isLike {l : Launch} {D : va_G} {k : Nat → ClassId} (h : Nat) (a : Nat) (n : Nat) (f : Nat → Int32) (h2 : Nat) (a2 : Nat) (f2 : Nat → Int32) (hn : n < 2 ^ 31) : CM l D k yX8_isLike cX8_isLike 3 (some .boolean)  1 21 [.ref h, .ref h2] [(h, .inr (12, [.ref a])), (a, aI k n f), (h2, .inr (12, [.ref a2])), (a2, aI k n f2)] (is1 (some (.int (bI (rLike f f2 n)))) [(h, .inr (12, [.ref a])), (a, aI k n f), (h2, .inr (12, [.ref a2])), (a2, aI k n f2)]) 0 0 0 := by
  refine CM.of (lv0 := [(0, .ref h), (1, .ref h2)]) (by decide +kernel) (Nat.le_of_ble_eq_true rfl) rfl ?_
  intro p e s m below meth c C hr hlk hin had
  refine g_iconst (pc := 0) (v := 0) C (by decide) dX8_isLike_0 ?_
  refine g_istore_n (pc := 1) C [(2, .int 0), (0, .ref h), (1, .ref h2)] rfl dX8_isLike_1 (by decide) rfl ?_
  have key_2 : ∀ (fuel : Nat) (i : Nat), i ≤ n → (∀ j, j < i → f j = f2 j) → n - i < fuel → G p l e { frames := 1, cells := 0, slots := 0, locals := 21 } s m ([.ref h, .ref h2] : List Value).toArray below meth c D 3 (va_A [(h, .inr (12, [.ref a])), (a, aI k n f), (h2, .inr (12, [.ref a2])), (a2, aI k n f2)] s.heap.size) (QM below D ([.ref h, .ref h2] : List Value).toArray s [(h, .inr (12, [.ref a])), (a, aI k n f), (h2, .inr (12, [.ref a2])), (a2, aI k n f2)] (is1 (some (.int (bI (rLike f f2 n)))) [(h, .inr (12, [.ref a])), (a, aI k n f), (h2, .inr (12, [.ref a2])), (a2, aI k n f2)]) 0 0 0) [(h, .inr (12, [.ref a])), (a, aI k n f), (h2, .inr (12, [.ref a2])), (a2, aI k n f2)] [(0, .ref h), (1, .ref h2), (2, .int (nI i))] 0 0 0 2 [] := by
    intro fuel
    induction fuel with
    | zero => intro i hi hq hm; exact absurd hm (Nat.not_lt_zero _)
    | succ fuel ih =>
      intro i hi hq hm
      have ih_2 := ih
      refine g_iload_n (pc := 2) C 2 rfl rfl dX8_isLike_2 ?_
      refine g_aload_n (pc := 3) C 0 rfl rfl dX8_isLike_3 ?_
      refine g_get (pc := 4) C (T := TX8) inX8 0 rfl rfl 0 (by decide) q_0 rfl rfl dX8_isLike_4 ?_
      refine g_alen (pc := 7) C 1 rfl (t0 := 0) rfl (v := (nI n)) rfl dX8_isLike_7 ?_
      refine g_icmp_ge (pc := 8) C 33 (by decide) dX8_isLike_8 (fun c_8 => ?_) (fun c_8 => ?_)
      · refine g_iconst (pc := 33) (v := 1) C (by decide) dX8_isLike_33 ?_
        refine G.eqs (st' := [.int (bI (rLike f f2 n))]) (congrArg (fun z9 => [Value.int z9]) (show (1 : Int32) = (bI (rLike f f2 n)) from by have h3 : i = n := by { rcases Nat.lt_or_ge i n with q | q; exact absurd c_8 (nI_ge q hn); omega }; subst h3; rw [rLike_iff.mpr hq]; rfl)) ?_
        exact g_zret (pc := 34) C hr (by first | rfl | exact bI_nar _) hlk (by first | decide | omega) (by first | decide | omega) (by first | decide | omega) dX8_isLike_34 ⟨rfl, rfl⟩
      · have hlt : i < n := by rcases Nat.lt_or_ge i n with q | q; exact q; exact absurd (nI_le q (by omega)) c_8
        refine g_aload_n (pc := 11) C 0 rfl rfl dX8_isLike_11 ?_
        refine g_get (pc := 12) C (T := TX8) inX8 0 rfl rfl 0 (by decide) q_0 rfl rfl dX8_isLike_12 ?_
        refine g_iload_n (pc := 15) C 2 rfl rfl dX8_isLike_15 ?_
        refine g_iald_n (pc := 16) C (j := i) 1 rfl (by omega) (by first | decide | omega) rfl dX8_isLike_16 ?_
        refine g_aload_n (pc := 17) C 1 rfl rfl dX8_isLike_17 ?_
        refine g_iload_n (pc := 18) C 2 rfl rfl dX8_isLike_18 ?_
        refine g_callV (pc := 19) (cells := 0) (slots := 0) (g := 0) (As := [.int (nI i)]) (st := [.int (f i)]) (T := TX8) (q0 := 2) C (nA := 1) rfl (c_X8_at h2 a2 n f2 (nI i) (by first | assumption | decide | omega)) q_8 q_9 q_7 q_6 q_5 (by decide +kernel) rfl rfl dX8_isLike_19 ⟨Nat.le_of_ble_eq_true rfl, Nat.le_of_ble_eq_true rfl⟩ [2, 3] [0, 1] rfl (wr := [(h, .inr (12, [.ref a])), (a, aI k n f)]) rfl (by decide) (by decide) (by decide) (Nat.le_of_ble_eq_true rfl) ⟨Nat.le_of_ble_eq_true rfl, Nat.le_of_ble_eq_true rfl⟩ (fun rv w1 h1 => ?_)
        obtain ⟨rfl, rfl⟩ := h1
        refine G.aft [0, 1, 2, 3] (ws' := [(h, .inr (12, [.ref a])), (a, aI k n f), (h2, .inr (12, [.ref a2])), (a2, aI k n f2)]) (st' := [.int (rAt n f2 (nI i)), .int (f i)]) (cells' := 0) (slots' := 0) (g' := 0) (by decide) rfl rfl rfl rfl rfl ?_
        refine G.eqs (st' := [.int (f2 i), .int (f i)]) (congrArg (β := List Value) (fun z9 => [.int z9, .int (f i)]) (show ((rAt n f2 (nI i)) : Int32) = (f2 i) from rAt_n hn f2 hlt)) ?_
        refine g_icmp_eq (pc := 22) C 27 (by decide) dX8_isLike_22 (fun c_22 => ?_) (fun c_22 => ?_)
        · refine g_iinc (pc := 27) (n := 1) (v := (nI (i + 1))) C 2 [(2, .int (nI (i + 1))), (0, .ref h), (1, .ref h2)] rfl (nI_1 i) dX8_isLike_27 (by decide) rfl ?_
          refine g_goto (pc := 30) C 2 (by decide) dX8_isLike_30 ?_
          refine G.loc [1, 2, 0] (lv' := [(0, .ref h), (1, .ref h2), (2, .int (nI (i + 1)))]) rfl ?_
          exact ih_2 (i + 1) (by omega) (fun j hj => by rcases Nat.lt_or_ge j i with q | q; exact hq j q; have h1 : j = i := (by omega); subst h1; exact c_22) (by omega)
        · refine g_iconst (pc := 25) (v := 0) C (by decide) dX8_isLike_25 ?_
          refine G.eqs (st' := [.int (bI (rLike f f2 n))]) (congrArg (fun z9 => [Value.int z9]) (show (0 : Int32) = (bI (rLike f f2 n)) from by rw [Bool.eq_false_iff.mpr (fun h => c_22 (rLike_iff.mp h i hlt))]; rfl)) ?_
          exact g_zret (pc := 26) C hr (by first | rfl | exact bI_nar _) hlk (by first | decide | omega) (by first | decide | omega) (by first | decide | omega) dX8_isLike_26 ⟨rfl, rfl⟩
  refine G.loc [1, 2, 0] (lv' := [(0, .ref h), (1, .ref h2), (2, .int 0)]) rfl ?_
  refine G.eql (lv' := [(0, .ref h), (1, .ref h2), (2, .int (nI 0))]) (congrArg (β := List (Nat × Value)) (fun z9 => [(0, .ref h), (1, .ref h2), (2, .int z9)]) (show (0 : Int32) = (nI 0) from by exact nI_0.symm)) ?_
  exact key_2 (n - 0 + 1) 0 (by omega) (fun j hj => absurd hj (Nat.not_lt_zero j)) (Nat.lt_succ_self _)
