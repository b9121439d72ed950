theorem dX8_at_0 : decode cX8_at 0 = .ok (.iload_n 1, 1) := by decide +kernel
theorem dX8_at_1 : decode cX8_at 1 = .ok (.ifCond .lt 21, 3) := by decide +kernel
theorem dX8_at_22 : decode cX8_at 22 = .ok (.iconst 0, 1) := by decide +kernel
theorem dX8_at_23 : decode cX8_at 23 = .ok (.ireturn, 1) := by decide +kernel
theorem dX8_at_4 : decode cX8_at 4 = .ok (.iload_n 1, 1) := by decide +kernel
theorem dX8_at_5 : decode cX8_at 5 = .ok (.aload_n 0, 1) := by decide +kernel
theorem dX8_at_6 : decode cX8_at 6 = .ok (.getfield 7, 3) := by decide +kernel
theorem q_0 : (Jvm.Cond.fieldLink "Chipfold$Row" (7 : Nat) "Chipfold$Row" "cells" "[I") ∈ WG := wg_1 (List.mem_of_getElem? (i := 77) (by decide +kernel)) (by decide +kernel)
theorem inX8 : ∀ w ∈ u_ws RX8 TX8 1, w ∈ WG := by decide +kernel
theorem dX8_at_9 : decode cX8_at 9 = .ok (.arraylength, 1) := by decide +kernel
theorem dX8_at_10 : decode cX8_at 10 = .ok (.if_icmp .ge 12, 3) := by decide +kernel
theorem dX8_at_13 : decode cX8_at 13 = .ok (.aload_n 0, 1) := by decide +kernel
theorem dX8_at_14 : decode cX8_at 14 = .ok (.getfield 7, 3) := by decide +kernel
theorem dX8_at_17 : decode cX8_at 17 = .ok (.iload_n 1, 1) := by decide +kernel
theorem dX8_at_18 : decode cX8_at 18 = .ok (.iaload, 1) := by decide +kernel
theorem dX8_at_19 : decode cX8_at 19 = .ok (.goto 4, 3) := by decide +kernel
theorem dX8_write_0 : decode cX8_write 0 = .ok (.iload_n 1, 1) := by decide +kernel
theorem dX8_write_1 : decode cX8_write 1 = .ok (.ifCond .lt 19, 3) := by decide +kernel
theorem dX8_write_20 : decode cX8_write 20 = .ok (.return_, 1) := by decide +kernel
theorem dX8_write_4 : decode cX8_write 4 = .ok (.iload_n 1, 1) := by decide +kernel
theorem dX8_write_5 : decode cX8_write 5 = .ok (.aload_n 0, 1) := by decide +kernel
theorem dX8_write_6 : decode cX8_write 6 = .ok (.getfield 7, 3) := by decide +kernel
theorem dX8_write_9 : decode cX8_write 9 = .ok (.arraylength, 1) := by decide +kernel
theorem dX8_write_10 : decode cX8_write 10 = .ok (.if_icmp .ge 10, 3) := by decide +kernel
theorem dX8_write_13 : decode cX8_write 13 = .ok (.aload_n 0, 1) := by decide +kernel
theorem dX8_write_14 : decode cX8_write 14 = .ok (.getfield 7, 3) := by decide +kernel
theorem dX8_write_17 : decode cX8_write 17 = .ok (.iload_n 1, 1) := by decide +kernel
theorem dX8_write_18 : decode cX8_write 18 = .ok (.iload_n 2, 1) := by decide +kernel
theorem dX8_write_19 : decode cX8_write 19 = .ok (.iastore, 1) := by decide +kernel
theorem dX8_add_0 : decode cX8_add 0 = .ok (.iload_n 1, 1) := by decide +kernel
theorem dX8_add_1 : decode cX8_add 1 = .ok (.ifCond .lt 22, 3) := by decide +kernel
theorem dX8_add_23 : decode cX8_add 23 = .ok (.return_, 1) := by decide +kernel
theorem dX8_add_4 : decode cX8_add 4 = .ok (.iload_n 1, 1) := by decide +kernel
theorem dX8_add_5 : decode cX8_add 5 = .ok (.aload_n 0, 1) := by decide +kernel
theorem dX8_add_6 : decode cX8_add 6 = .ok (.getfield 7, 3) := by decide +kernel
theorem dX8_add_9 : decode cX8_add 9 = .ok (.arraylength, 1) := by decide +kernel
theorem dX8_add_10 : decode cX8_add 10 = .ok (.if_icmp .ge 13, 3) := by decide +kernel
theorem dX8_add_13 : decode cX8_add 13 = .ok (.aload_n 0, 1) := by decide +kernel
theorem dX8_add_14 : decode cX8_add 14 = .ok (.getfield 7, 3) := by decide +kernel
theorem dX8_add_17 : decode cX8_add 17 = .ok (.iload_n 1, 1) := by decide +kernel
theorem dX8_add_18 : decode cX8_add 18 = .ok (.dup2, 1) := by decide +kernel
theorem dX8_add_19 : decode cX8_add 19 = .ok (.iaload, 1) := by decide +kernel
theorem dX8_add_20 : decode cX8_add 20 = .ok (.iload_n 2, 1) := by decide +kernel
theorem dX8_add_21 : decode cX8_add 21 = .ok (.iadd, 1) := by decide +kernel
theorem dX8_add_22 : decode cX8_add 22 = .ok (.iastore, 1) := by decide +kernel
/-- what a row answers at an index: 0 outside of it -/
def rAt (n : Nat) (f : Nat → Int32) (i : Int32) : Int32 := if ¬ i < 0 ∧ ¬ nI n ≤ i then f i.toNatClampNeg else 0
set_option maxRecDepth 100000 in
set_option maxHeartbeats 4000000 in
theorem c_X8_at {l : Launch} {D : va_G} {k : Nat → ClassId} (h : Nat) (a : Nat) (n : Nat) (f : Nat → Int32) (i : Int32) (hn : n < 2 ^ 31) : CM l D k yX8_at cX8_at 2 (some .int) 0 0 [.ref h, .int i] [(h, .inr (12, [.ref a])), (a, aI k n f)] (is1 (some (.int (rAt n f i))) [(h, .inr (12, [.ref a])), (a, aI k n f)]) 0 0 0 := by
  refine CM.of (lv0 := [(0, .ref h), (1, .int i)]) (by decide +kernel) (Nat.le_of_ble_eq_true rfl) rfl ?_
  intro p e s m below meth c C hr hlk hin had
  refine g_iload_n (pc := 0) C 1 rfl rfl dX8_at_0 ?_
  refine g_if_lt (pc := 1) C 22 (by decide) dX8_at_1 (fun c_1 => ?_) (fun c_1 => ?_)
  · refine g_iconst (pc := 22) (v := 0) C (by decide) dX8_at_22 ?_
    refine G.eqs (st' := [.int (rAt n f i)]) (congrArg (fun z9 => [Value.int z9]) (show 0 = (rAt n f i) from by simp [rAt, *])) ?_
    exact g_iret (pc := 23) C hr hlk (by first | decide | omega) (by first | decide | omega) (by first | decide | omega) dX8_at_23 ⟨rfl, rfl⟩
  · refine g_iload_n (pc := 4) C 1 rfl rfl dX8_at_4 ?_
    refine g_aload_n (pc := 5) C 0 rfl rfl dX8_at_5 ?_
    refine g_get (pc := 6) C (T := TX8) inX8 0 rfl rfl 0 (by decide) q_0 rfl rfl dX8_at_6 ?_
    refine g_alen (pc := 9) C 1 rfl (t0 := 0) rfl (v := (nI n)) rfl dX8_at_9 ?_
    refine g_icmp_ge (pc := 10) C 22 (by decide) dX8_at_10 (fun c_10 => ?_) (fun c_10 => ?_)
    · refine g_iconst (pc := 22) (v := 0) C (by decide) dX8_at_22 ?_
      refine G.eqs (st' := [.int (rAt n f i)]) (congrArg (fun z9 => [Value.int z9]) (show 0 = (rAt n f i) from by simp [rAt, *])) ?_
      exact g_iret (pc := 23) C hr hlk (by first | decide | omega) (by first | decide | omega) (by first | decide | omega) dX8_at_23 ⟨rfl, rfl⟩
    · refine g_aload_n (pc := 13) C 0 rfl rfl dX8_at_13 ?_
      refine g_get (pc := 14) C (T := TX8) inX8 0 rfl rfl 0 (by decide) q_0 rfl rfl dX8_at_14 ?_
      refine g_iload_n (pc := 17) C 1 rfl rfl dX8_at_17 ?_
      refine g_iald (pc := 18) C 1 rfl (vp_in_c (by assumption) (by assumption) (by first | assumption | decide)) dX8_at_18 ?_
      refine g_goto (pc := 19) C 23 (by decide) dX8_at_19 ?_
      refine G.eqs (st' := [.int (rAt n f i)]) (congrArg (fun z9 => [Value.int z9]) (show (f i.toNatClampNeg) = (rAt n f i) from by simp [rAt, *])) ?_
      exact g_iret (pc := 23) C hr hlk (by first | decide | omega) (by first | decide | omega) (by first | decide | omega) dX8_at_23 ⟨rfl, rfl⟩
def rPut (n : Nat) (f : Nat → Int32) (i x : Int32) : Nat → Int32 := if ¬ i < 0 ∧ ¬ nI n ≤ i then upd f i.toNatClampNeg x else f
set_option maxRecDepth 100000 in
set_option maxHeartbeats 4000000 in
theorem c_X8_write {l : Launch} {D : va_G} {k : Nat → ClassId} (h : Nat) (a : Nat) (n : Nat) (f : Nat → Int32) (i : Int32) (x : Int32) (hn : n < 2 ^ 31) : CM l D k yX8_write cX8_write 3 none 0 0 [.ref h, .int i, .int x] [(h, .inr (12, [.ref a])), (a, aI k n f)] (is1 none [(h, .inr (12, [.ref a])), (a, aI k n (rPut n f i x))]) 0 0 0 := by
  refine CM.of (lv0 := [(0, .ref h), (1, .int i), (2, .int x)]) (by decide +kernel) (Nat.le_of_ble_eq_true rfl) rfl ?_
  intro p e s m below meth c C hr hlk hin had
  refine g_iload_n (pc := 0) C 1 rfl rfl dX8_write_0 ?_
  refine g_if_lt (pc := 1) C 20 (by decide) dX8_write_1 (fun c_1 => ?_) (fun c_1 => ?_)
  · refine G.eqw (ws' := [(h, .inr (12, [.ref a])), (a, aI k n (rPut n f i x))]) (congrArg (fun z9 => [(h, .inr (12, [.ref a])), (a, aI k n z9)]) (show f = (rPut n f i x) from by simp [rPut, *])) ?_
    exact g_vret (pc := 20) C hr hlk (by first | decide | omega) (by first | decide | omega) (by first | decide | omega) dX8_write_20 ⟨rfl, rfl⟩
  · refine g_iload_n (pc := 4) C 1 rfl rfl dX8_write_4 ?_
    refine g_aload_n (pc := 5) C 0 rfl rfl dX8_write_5 ?_
    refine g_get (pc := 6) C (T := TX8) inX8 0 rfl rfl 0 (by decide) q_0 rfl rfl dX8_write_6 ?_
    refine g_alen (pc := 9) C 1 rfl (t0 := 0) rfl (v := (nI n)) rfl dX8_write_9 ?_
    refine g_icmp_ge (pc := 10) C 20 (by decide) dX8_write_10 (fun c_10 => ?_) (fun c_10 => ?_)
    · refine G.eqw (ws' := [(h, .inr (12, [.ref a])), (a, aI k n (rPut n f i x))]) (congrArg (fun z9 => [(h, .inr (12, [.ref a])), (a, aI k n z9)]) (show f = (rPut n f i x) from by simp [rPut, *])) ?_
      exact g_vret (pc := 20) C hr hlk (by first | decide | omega) (by first | decide | omega) (by first | decide | omega) dX8_write_20 ⟨rfl, rfl⟩
    · refine g_aload_n (pc := 13) C 0 rfl rfl dX8_write_13 ?_
      refine g_get (pc := 14) C (T := TX8) inX8 0 rfl rfl 0 (by decide) q_0 rfl rfl dX8_write_14 ?_
      refine g_iload_n (pc := 17) C 1 rfl rfl dX8_write_17 ?_
      refine g_iload_n (pc := 18) C 2 rfl rfl dX8_write_18 ?_
      refine g_iast (pc := 19) C 1 [(h, .inr (12, [.ref a])), (a, aI k n (upd f i.toNatClampNeg x))] rfl (vp_in_c (by assumption) (by assumption) (by first | assumption | decide)) rfl dX8_write_19 ?_
      refine G.eqw (ws' := [(h, .inr (12, [.ref a])), (a, aI k n (rPut n f i x))]) (congrArg (fun z9 => [(h, .inr (12, [.ref a])), (a, aI k n z9)]) (show (upd f i.toNatClampNeg x) = (rPut n f i x) from by simp [rPut, *])) ?_
      exact g_vret (pc := 20) C hr hlk (by first | decide | omega) (by first | decide | omega) (by first | decide | omega) dX8_write_20 ⟨rfl, rfl⟩
def rAdd (n : Nat) (f : Nat → Int32) (i x : Int32) : Nat → Int32 := if ¬ i < 0 ∧ ¬ nI n ≤ i then upd f i.toNatClampNeg (f i.toNatClampNeg + x) else f
set_option maxRecDepth 100000 in
set_option maxHeartbeats 4000000 in
theorem c_X8_add {l : Launch} {D : va_G} {k : Nat → ClassId} (h : Nat) (a : Nat) (n : Nat) (f : Nat → Int32) (i : Int32) (x : Int32) (hn : n < 2 ^ 31) : CM l D k yX8_add cX8_add 3 none 0 0 [.ref h, .int i, .int x] [(h, .inr (12, [.ref a])), (a, aI k n f)] (is1 none [(h, .inr (12, [.ref a])), (a, aI k n (rAdd n f i x))]) 0 0 0 := by
  refine CM.of (lv0 := [(0, .ref h), (1, .int i), (2, .int x)]) (by decide +kernel) (Nat.le_of_ble_eq_true rfl) rfl ?_
  intro p e s m below meth c C hr hlk hin had
  refine g_iload_n (pc := 0) C 1 rfl rfl dX8_add_0 ?_
  refine g_if_lt (pc := 1) C 23 (by decide) dX8_add_1 (fun c_1 => ?_) (fun c_1 => ?_)
  · refine G.eqw (ws' := [(h, .inr (12, [.ref a])), (a, aI k n (rAdd n f i x))]) (congrArg (fun z9 => [(h, .inr (12, [.ref a])), (a, aI k n z9)]) (show f = (rAdd n f i x) from by simp [rAdd, *])) ?_
    exact g_vret (pc := 23) C hr hlk (by first | decide | omega) (by first | decide | omega) (by first | decide | omega) dX8_add_23 ⟨rfl, rfl⟩
  · refine g_iload_n (pc := 4) C 1 rfl rfl dX8_add_4 ?_
    refine g_aload_n (pc := 5) C 0 rfl rfl dX8_add_5 ?_
    refine g_get (pc := 6) C (T := TX8) inX8 0 rfl rfl 0 (by decide) q_0 rfl rfl dX8_add_6 ?_
    refine g_alen (pc := 9) C 1 rfl (t0 := 0) rfl (v := (nI n)) rfl dX8_add_9 ?_
    refine g_icmp_ge (pc := 10) C 23 (by decide) dX8_add_10 (fun c_10 => ?_) (fun c_10 => ?_)
    · refine G.eqw (ws' := [(h, .inr (12, [.ref a])), (a, aI k n (rAdd n f i x))]) (congrArg (fun z9 => [(h, .inr (12, [.ref a])), (a, aI k n z9)]) (show f = (rAdd n f i x) from by simp [rAdd, *])) ?_
      exact g_vret (pc := 23) C hr hlk (by first | decide | omega) (by first | decide | omega) (by first | decide | omega) dX8_add_23 ⟨rfl, rfl⟩
    · refine g_aload_n (pc := 13) C 0 rfl rfl dX8_add_13 ?_
      refine g_get (pc := 14) C (T := TX8) inX8 0 rfl rfl 0 (by decide) q_0 rfl rfl dX8_add_14 ?_
      refine g_iload_n (pc := 17) C 1 rfl rfl dX8_add_17 ?_
      refine g_dup2 (pc := 18) C rfl rfl dX8_add_18 ?_
      refine g_iald (pc := 19) C 1 rfl (vp_in_c (by assumption) (by assumption) (by first | assumption | decide)) dX8_add_19 ?_
      refine g_iload_n (pc := 20) C 2 rfl rfl dX8_add_20 ?_
      refine g_iadd (pc := 21) C dX8_add_21 ?_
      refine g_iast (pc := 22) C 1 [(h, .inr (12, [.ref a])), (a, aI k n (upd f i.toNatClampNeg ((f i.toNatClampNeg) + x)))] rfl (vp_in_c (by assumption) (by assumption) (by first | assumption | decide)) rfl dX8_add_22 ?_
      refine G.eqw (ws' := [(h, .inr (12, [.ref a])), (a, aI k n (rAdd n f i x))]) (congrArg (fun z9 => [(h, .inr (12, [.ref a])), (a, aI k n z9)]) (show (upd f i.toNatClampNeg ((f i.toNatClampNeg) + x)) = (rAdd n f i x) from by simp [rAdd, *])) ?_
      exact g_vret (pc := 23) C hr hlk (by first | decide | omega) (by first | decide | omega) (by first | decide | omega) dX8_add_23 ⟨rfl, rfl⟩
