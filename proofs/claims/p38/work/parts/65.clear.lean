theorem dL_init_0 : decode cL_init 0 = .ok (.aload_n 0, 1) := by decide +kernel
theorem dL_init_1 : decode cL_init 1 = .ok (.invokespecial 1, 3) := by decide +kernel
theorem q_695 : (Jvm.Cond.methodLink "ChipfoldLaw" (1 : Nat) ({ cls := "java/lang/Object", name := "<init>", desc := "()V" } : Jvm.MethodName)) ∈ WG := wg_2 (List.mem_of_getElem? (i := 11) (by decide +kernel)) (by decide +kernel)
theorem dL_init_4 : decode cL_init 4 = .ok (.aload_n 0, 1) := by decide +kernel
theorem dL_init_5 : decode cL_init 5 = .ok (.bipush 6, 2) := by decide +kernel
theorem dL_init_7 : decode cL_init 7 = .ok (.bipush 6, 2) := by decide +kernel
theorem dL_init_9 : decode cL_init 9 = .ok (.multianewarray 7 2, 4) := by decide +kernel
theorem q_696 : (Jvm.Cond.classLink "ChipfoldLaw" (7 : Nat) "[[I") ∈ WG := wg_2 (List.mem_of_getElem? (i := 12) (by decide +kernel)) (by decide +kernel)
theorem dL_init_13 : decode cL_init 13 = .ok (.putfield 9, 3) := by decide +kernel
theorem dL_init_16 : decode cL_init 16 = .ok (.aload_n 0, 1) := by decide +kernel
theorem dL_init_17 : decode cL_init 17 = .ok (.bipush 6, 2) := by decide +kernel
theorem dL_init_19 : decode cL_init 19 = .ok (.newarray .int, 2) := by decide +kernel
theorem dL_init_21 : decode cL_init 21 = .ok (.putfield 14, 3) := by decide +kernel
theorem dL_init_24 : decode cL_init 24 = .ok (.aload_n 0, 1) := by decide +kernel
theorem dL_init_25 : decode cL_init 25 = .ok (.bipush 6, 2) := by decide +kernel
theorem dL_init_27 : decode cL_init 27 = .ok (.newarray .int, 2) := by decide +kernel
theorem dL_init_29 : decode cL_init 29 = .ok (.putfield 18, 3) := by decide +kernel
theorem q_697 : (Jvm.Cond.fieldLink "ChipfoldLaw" (18 : Nat) "ChipfoldLaw" "counts" "[I") ∈ WG := wg_2 (List.mem_of_getElem? (i := 16) (by decide +kernel)) (by decide +kernel)
theorem dL_init_32 : decode cL_init 32 = .ok (.aload_n 0, 1) := by decide +kernel
theorem dL_init_33 : decode cL_init 33 = .ok (.bipush 6, 2) := by decide +kernel
theorem dL_init_35 : decode cL_init 35 = .ok (.newarray .int, 2) := by decide +kernel
theorem dL_init_37 : decode cL_init 37 = .ok (.putfield 21, 3) := by decide +kernel
theorem q_698 : (Jvm.Cond.fieldLink "ChipfoldLaw" (21 : Nat) "ChipfoldLaw" "debts" "[I") ∈ WG := wg_2 (List.mem_of_getElem? (i := 17) (by decide +kernel)) (by decide +kernel)
theorem dL_init_40 : decode cL_init 40 = .ok (.aload_n 0, 1) := by decide +kernel
theorem dL_init_41 : decode cL_init 41 = .ok (.bipush 6, 2) := by decide +kernel
theorem dL_init_43 : decode cL_init 43 = .ok (.newarray .int, 2) := by decide +kernel
theorem dL_init_45 : decode cL_init 45 = .ok (.putfield 24, 3) := by decide +kernel
theorem dL_init_48 : decode cL_init 48 = .ok (.aload_n 0, 1) := by decide +kernel
theorem dL_init_49 : decode cL_init 49 = .ok (.bipush 6, 2) := by decide +kernel
theorem dL_init_51 : decode cL_init 51 = .ok (.newarray .int, 2) := by decide +kernel
theorem dL_init_53 : decode cL_init 53 = .ok (.putfield 27, 3) := by decide +kernel
theorem q_699 : (Jvm.Cond.fieldLink "ChipfoldLaw" (27 : Nat) "ChipfoldLaw" "visits" "[I") ∈ WG := wg_2 (List.mem_of_getElem? (i := 19) (by decide +kernel)) (by decide +kernel)
theorem dL_init_56 : decode cL_init 56 = .ok (.return_, 1) := by decide +kernel
theorem dL_clear_0 : decode cL_clear 0 = .ok (.iconst 5, 1) := by decide +kernel
theorem dL_clear_1 : decode cL_clear 1 = .ok (.anewarray 159, 3) := by decide +kernel
theorem q_700 : (Jvm.Cond.classLink "ChipfoldLaw" (159 : Nat) "[I") ∈ WG := wg_2 (List.mem_of_getElem? (i := 173) (by decide +kernel)) (by decide +kernel)
theorem dL_clear_4 : decode cL_clear 4 = .ok (.dup, 1) := by decide +kernel
theorem dL_clear_5 : decode cL_clear 5 = .ok (.iconst 0, 1) := by decide +kernel
theorem dL_clear_6 : decode cL_clear 6 = .ok (.aload_n 0, 1) := by decide +kernel
theorem dL_clear_7 : decode cL_clear 7 = .ok (.getfield 14, 3) := by decide +kernel
theorem dL_clear_10 : decode cL_clear 10 = .ok (.aastore, 1) := by decide +kernel
theorem dL_clear_11 : decode cL_clear 11 = .ok (.dup, 1) := by decide +kernel
theorem dL_clear_12 : decode cL_clear 12 = .ok (.iconst 1, 1) := by decide +kernel
theorem dL_clear_13 : decode cL_clear 13 = .ok (.aload_n 0, 1) := by decide +kernel
theorem dL_clear_14 : decode cL_clear 14 = .ok (.getfield 18, 3) := by decide +kernel
theorem dL_clear_17 : decode cL_clear 17 = .ok (.aastore, 1) := by decide +kernel
theorem dL_clear_18 : decode cL_clear 18 = .ok (.dup, 1) := by decide +kernel
theorem dL_clear_19 : decode cL_clear 19 = .ok (.iconst 2, 1) := by decide +kernel
theorem dL_clear_20 : decode cL_clear 20 = .ok (.aload_n 0, 1) := by decide +kernel
theorem dL_clear_21 : decode cL_clear 21 = .ok (.getfield 21, 3) := by decide +kernel
theorem dL_clear_24 : decode cL_clear 24 = .ok (.aastore, 1) := by decide +kernel
theorem dL_clear_25 : decode cL_clear 25 = .ok (.dup, 1) := by decide +kernel
theorem dL_clear_26 : decode cL_clear 26 = .ok (.iconst 3, 1) := by decide +kernel
theorem dL_clear_27 : decode cL_clear 27 = .ok (.aload_n 0, 1) := by decide +kernel
theorem dL_clear_28 : decode cL_clear 28 = .ok (.getfield 24, 3) := by decide +kernel
theorem dL_clear_31 : decode cL_clear 31 = .ok (.aastore, 1) := by decide +kernel
theorem dL_clear_32 : decode cL_clear 32 = .ok (.dup, 1) := by decide +kernel
theorem dL_clear_33 : decode cL_clear 33 = .ok (.iconst 4, 1) := by decide +kernel
theorem dL_clear_34 : decode cL_clear 34 = .ok (.aload_n 0, 1) := by decide +kernel
theorem dL_clear_35 : decode cL_clear 35 = .ok (.getfield 27, 3) := by decide +kernel
theorem dL_clear_38 : decode cL_clear 38 = .ok (.aastore, 1) := by decide +kernel
theorem dL_clear_39 : decode cL_clear 39 = .ok (.astore_n 1, 1) := by decide +kernel
theorem dL_clear_40 : decode cL_clear 40 = .ok (.aload_n 1, 1) := by decide +kernel
theorem dL_clear_41 : decode cL_clear 41 = .ok (.arraylength, 1) := by decide +kernel
theorem dL_clear_42 : decode cL_clear 42 = .ok (.istore_n 2, 1) := by decide +kernel
theorem dL_clear_43 : decode cL_clear 43 = .ok (.iconst 0, 1) := by decide +kernel
theorem dL_clear_44 : decode cL_clear 44 = .ok (.istore_n 3, 1) := by decide +kernel
theorem dL_clear_45 : decode cL_clear 45 = .ok (.iload_n 3, 1) := by decide +kernel
theorem dL_clear_46 : decode cL_clear 46 = .ok (.iload_n 2, 1) := by decide +kernel
theorem dL_clear_47 : decode cL_clear 47 = .ok (.if_icmp .ge 36, 3) := by decide +kernel
theorem dL_clear_50 : decode cL_clear 50 = .ok (.aload_n 1, 1) := by decide +kernel
theorem dL_clear_51 : decode cL_clear 51 = .ok (.iload_n 3, 1) := by decide +kernel
theorem dL_clear_52 : decode cL_clear 52 = .ok (.aaload, 1) := by decide +kernel
theorem dL_clear_53 : decode cL_clear 53 = .ok (.astore 4, 2) := by decide +kernel
theorem dL_clear_55 : decode cL_clear 55 = .ok (.iconst 0, 1) := by decide +kernel
theorem dL_clear_56 : decode cL_clear 56 = .ok (.istore 5, 2) := by decide +kernel
theorem dL_clear_58 : decode cL_clear 58 = .ok (.iload 5, 2) := by decide +kernel
theorem dL_clear_60 : decode cL_clear 60 = .ok (.bipush 6, 2) := by decide +kernel
theorem dL_clear_62 : decode cL_clear 62 = .ok (.if_icmp .ge 15, 3) := by decide +kernel
theorem dL_clear_65 : decode cL_clear 65 = .ok (.aload 4, 2) := by decide +kernel
theorem dL_clear_67 : decode cL_clear 67 = .ok (.iload 5, 2) := by decide +kernel
theorem dL_clear_69 : decode cL_clear 69 = .ok (.iconst 0, 1) := by decide +kernel
theorem dL_clear_70 : decode cL_clear 70 = .ok (.iastore, 1) := by decide +kernel
theorem dL_clear_71 : decode cL_clear 71 = .ok (.iinc 5 1, 3) := by decide +kernel
theorem dL_clear_74 : decode cL_clear 74 = .ok (.goto (-16), 3) := by decide +kernel
theorem dL_clear_77 : decode cL_clear 77 = .ok (.iinc 3 1, 3) := by decide +kernel
theorem dL_clear_80 : decode cL_clear 80 = .ok (.goto (-35), 3) := by decide +kernel
theorem dL_clear_83 : decode cL_clear 83 = .ok (.aload_n 0, 1) := by decide +kernel
theorem dL_clear_84 : decode cL_clear 84 = .ok (.iconst 0, 1) := by decide +kernel
theorem dL_clear_85 : decode cL_clear 85 = .ok (.putfield 160, 3) := by decide +kernel
theorem dL_clear_88 : decode cL_clear 88 = .ok (.return_, 1) := by decide +kernel
set_option maxRecDepth 100000 in
set_option maxHeartbeats 400000 in
theorem c_L_init {l : Launch} {D : va_G} {k : Nat → ClassId} (lo : Nat)  : CM l D k yL_init cL_init 1 none  1 12 [.ref lo] [(lo, .inr (13, [.null, .null, .null, .null, .null, .null, .int 0, .int 0, .int 0]))] (fun rv9 w9 => rv9 = none ∧ ∃ (eo : Nat) (er : Nat → Nat) (e1 : Nat) (e2 : Nat) (e3 : Nat) (e4 : Nat) (e5 : Nat), w9 = [(lo, .inr (13, [.ref eo, .ref e1, .ref e2, .ref e3, .ref e4, .ref e5, .int 0, .int 0, .int 0])), (eo, aR k 3 6 (fun i9 => if i9 < 6 then some (er i9) else none)), ((er 0), aI k 6 (EN (fun _ _ => 0) 0)), ((er 1), aI k 6 (EN (fun _ _ => 0) 1)), ((er 2), aI k 6 (EN (fun _ _ => 0) 2)), ((er 3), aI k 6 (EN (fun _ _ => 0) 3)), ((er 4), aI k 6 (EN (fun _ _ => 0) 4)), ((er 5), aI k 6 (EN (fun _ _ => 0) 5)), (e1, aI k 6 (fun _ => 0)), (e2, aI k 6 (fun _ => 0)), (e3, aI k 6 (fun _ => 0)), (e4, aI k 6 (fun _ => 0)), (e5, aI k 6 (fun _ => 0))]) 12 72 5 := by
  refine CM.of (lv0 := [(0, .ref lo)]) (by decide +kernel) (Nat.le_of_ble_eq_true rfl) rfl ?_
  intro p9 e9 s9 m9 bl9 me9 co9 C hr hlk hin had
  refine g_aload_n (pc := 0) C 0 rfl rfl dL_init_0 ?_
  refine g_obj (pc := 1) C q_695 q_2 q_3 (Nat.le_of_ble_eq_true rfl) (Nat.le_of_ble_eq_true rfl) dL_init_1 ?_
  refine g_aload_n (pc := 4) C 0 rfl rfl dL_init_4 ?_
  refine g_bipush (pc := 5) (v := 6) C (by decide) dL_init_5 ?_
  refine g_bipush (pc := 7) (v := 6) C (by decide) dL_init_7 ?_
  refine g_mnaI (pc := 9) (cells := 0) (slots := 0) (g := 0) C q_696 q_4 (Nat.le_of_ble_eq_true rfl) (Nat.le_of_ble_eq_true rfl) dL_init_9 (fun q1 r2 => ?_)
  refine G.eqw (ws' := [(lo, .inr (13, [.null, .null, .null, .null, .null, .null, .int 0, .int 0, .int 0])), (q1, aR k 3 6 (fun i9 => if i9 < 6 then some (r2 i9) else none)), ((r2 0), aI k 6 (fun _ => 0)), ((r2 1), aI k 6 (fun _ => 0)), ((r2 2), aI k 6 (fun _ => 0)), ((r2 3), aI k 6 (fun _ => 0)), ((r2 4), aI k 6 (fun _ => 0)), ((r2 5), aI k 6 (fun _ => 0))]) rfl ?_
  refine g_putF (pc := 13) C (T := TXL) inXL 0 rfl rfl 0 (by decide) q_561 rfl tyXL tyXL_ok nmXL rfl hin rfl [(lo, .inr (13, [.ref q1, .null, .null, .null, .null, .null, .int 0, .int 0, .int 0])), (q1, aR k 3 6 (fun i9 => if i9 < 6 then some (r2 i9) else none)), ((r2 0), aI k 6 (fun _ => 0)), ((r2 1), aI k 6 (fun _ => 0)), ((r2 2), aI k 6 (fun _ => 0)), ((r2 3), aI k 6 (fun _ => 0)), ((r2 4), aI k 6 (fun _ => 0)), ((r2 5), aI k 6 (fun _ => 0))] (tyXL_ok 0 (by decide)) rfl rfl (Nat.le_of_ble_eq_true rfl) rfl dL_init_13 ?_
  refine g_aload_n (pc := 16) C 0 rfl rfl dL_init_16 ?_
  refine g_bipush (pc := 17) (v := 6) C (by decide) dL_init_17 ?_
  refine g_newI (pc := 19) (cells := 7) (slots := 42) (g := 0) C 6 q_4 (by decide) (by decide) (Nat.le_of_ble_eq_true rfl) (Nat.le_of_ble_eq_true rfl) (Nat.le_of_ble_eq_true rfl) dL_init_19 (fun q3 => ?_)
  refine G.eqw (ws' := [(lo, .inr (13, [.ref q1, .null, .null, .null, .null, .null, .int 0, .int 0, .int 0])), (q1, aR k 3 6 (fun i9 => if i9 < 6 then some (r2 i9) else none)), ((r2 0), aI k 6 (fun _ => 0)), ((r2 1), aI k 6 (fun _ => 0)), ((r2 2), aI k 6 (fun _ => 0)), ((r2 3), aI k 6 (fun _ => 0)), ((r2 4), aI k 6 (fun _ => 0)), ((r2 5), aI k 6 (fun _ => 0)), (q3, aI k 6 (fun _ => 0))]) rfl ?_
  refine g_putF (pc := 21) C (T := TXL) inXL 0 rfl rfl 1 (by decide) q_566 rfl tyXL tyXL_ok nmXL rfl hin rfl [(lo, .inr (13, [.ref q1, .ref q3, .null, .null, .null, .null, .int 0, .int 0, .int 0])), (q1, aR k 3 6 (fun i9 => if i9 < 6 then some (r2 i9) else none)), ((r2 0), aI k 6 (fun _ => 0)), ((r2 1), aI k 6 (fun _ => 0)), ((r2 2), aI k 6 (fun _ => 0)), ((r2 3), aI k 6 (fun _ => 0)), ((r2 4), aI k 6 (fun _ => 0)), ((r2 5), aI k 6 (fun _ => 0)), (q3, aI k 6 (fun _ => 0))] (tyXL_ok 1 (by decide)) rfl rfl (Nat.le_of_ble_eq_true rfl) rfl dL_init_21 ?_
  refine g_aload_n (pc := 24) C 0 rfl rfl dL_init_24 ?_
  refine g_bipush (pc := 25) (v := 6) C (by decide) dL_init_25 ?_
  refine g_newI (pc := 27) (cells := 8) (slots := 48) (g := 1) C 6 q_4 (by decide) (by decide) (Nat.le_of_ble_eq_true rfl) (Nat.le_of_ble_eq_true rfl) (Nat.le_of_ble_eq_true rfl) dL_init_27 (fun q4 => ?_)
  refine G.eqw (ws' := [(lo, .inr (13, [.ref q1, .ref q3, .null, .null, .null, .null, .int 0, .int 0, .int 0])), (q1, aR k 3 6 (fun i9 => if i9 < 6 then some (r2 i9) else none)), ((r2 0), aI k 6 (fun _ => 0)), ((r2 1), aI k 6 (fun _ => 0)), ((r2 2), aI k 6 (fun _ => 0)), ((r2 3), aI k 6 (fun _ => 0)), ((r2 4), aI k 6 (fun _ => 0)), ((r2 5), aI k 6 (fun _ => 0)), (q3, aI k 6 (fun _ => 0)), (q4, aI k 6 (fun _ => 0))]) rfl ?_
  refine g_putF (pc := 29) C (T := TXL) inXL 0 rfl rfl 2 (by decide) q_697 rfl tyXL tyXL_ok nmXL rfl hin rfl [(lo, .inr (13, [.ref q1, .ref q3, .ref q4, .null, .null, .null, .int 0, .int 0, .int 0])), (q1, aR k 3 6 (fun i9 => if i9 < 6 then some (r2 i9) else none)), ((r2 0), aI k 6 (fun _ => 0)), ((r2 1), aI k 6 (fun _ => 0)), ((r2 2), aI k 6 (fun _ => 0)), ((r2 3), aI k 6 (fun _ => 0)), ((r2 4), aI k 6 (fun _ => 0)), ((r2 5), aI k 6 (fun _ => 0)), (q3, aI k 6 (fun _ => 0)), (q4, aI k 6 (fun _ => 0))] (tyXL_ok 2 (by decide)) rfl rfl (Nat.le_of_ble_eq_true rfl) rfl dL_init_29 ?_
  refine g_aload_n (pc := 32) C 0 rfl rfl dL_init_32 ?_
  refine g_bipush (pc := 33) (v := 6) C (by decide) dL_init_33 ?_
  refine g_newI (pc := 35) (cells := 9) (slots := 54) (g := 2) C 6 q_4 (by decide) (by decide) (Nat.le_of_ble_eq_true rfl) (Nat.le_of_ble_eq_true rfl) (Nat.le_of_ble_eq_true rfl) dL_init_35 (fun q5 => ?_)
  refine G.eqw (ws' := [(lo, .inr (13, [.ref q1, .ref q3, .ref q4, .null, .null, .null, .int 0, .int 0, .int 0])), (q1, aR k 3 6 (fun i9 => if i9 < 6 then some (r2 i9) else none)), ((r2 0), aI k 6 (fun _ => 0)), ((r2 1), aI k 6 (fun _ => 0)), ((r2 2), aI k 6 (fun _ => 0)), ((r2 3), aI k 6 (fun _ => 0)), ((r2 4), aI k 6 (fun _ => 0)), ((r2 5), aI k 6 (fun _ => 0)), (q3, aI k 6 (fun _ => 0)), (q4, aI k 6 (fun _ => 0)), (q5, aI k 6 (fun _ => 0))]) rfl ?_
  refine g_putF (pc := 37) C (T := TXL) inXL 0 rfl rfl 3 (by decide) q_698 rfl tyXL tyXL_ok nmXL rfl hin rfl [(lo, .inr (13, [.ref q1, .ref q3, .ref q4, .ref q5, .null, .null, .int 0, .int 0, .int 0])), (q1, aR k 3 6 (fun i9 => if i9 < 6 then some (r2 i9) else none)), ((r2 0), aI k 6 (fun _ => 0)), ((r2 1), aI k 6 (fun _ => 0)), ((r2 2), aI k 6 (fun _ => 0)), ((r2 3), aI k 6 (fun _ => 0)), ((r2 4), aI k 6 (fun _ => 0)), ((r2 5), aI k 6 (fun _ => 0)), (q3, aI k 6 (fun _ => 0)), (q4, aI k 6 (fun _ => 0)), (q5, aI k 6 (fun _ => 0))] (tyXL_ok 3 (by decide)) rfl rfl (Nat.le_of_ble_eq_true rfl) rfl dL_init_37 ?_
  refine g_aload_n (pc := 40) C 0 rfl rfl dL_init_40 ?_
  refine g_bipush (pc := 41) (v := 6) C (by decide) dL_init_41 ?_
  refine g_newI (pc := 43) (cells := 10) (slots := 60) (g := 3) C 6 q_4 (by decide) (by decide) (Nat.le_of_ble_eq_true rfl) (Nat.le_of_ble_eq_true rfl) (Nat.le_of_ble_eq_true rfl) dL_init_43 (fun q6 => ?_)
  refine G.eqw (ws' := [(lo, .inr (13, [.ref q1, .ref q3, .ref q4, .ref q5, .null, .null, .int 0, .int 0, .int 0])), (q1, aR k 3 6 (fun i9 => if i9 < 6 then some (r2 i9) else none)), ((r2 0), aI k 6 (fun _ => 0)), ((r2 1), aI k 6 (fun _ => 0)), ((r2 2), aI k 6 (fun _ => 0)), ((r2 3), aI k 6 (fun _ => 0)), ((r2 4), aI k 6 (fun _ => 0)), ((r2 5), aI k 6 (fun _ => 0)), (q3, aI k 6 (fun _ => 0)), (q4, aI k 6 (fun _ => 0)), (q5, aI k 6 (fun _ => 0)), (q6, aI k 6 (fun _ => 0))]) rfl ?_
  refine g_putF (pc := 45) C (T := TXL) inXL 0 rfl rfl 4 (by decide) q_571 rfl tyXL tyXL_ok nmXL rfl hin rfl [(lo, .inr (13, [.ref q1, .ref q3, .ref q4, .ref q5, .ref q6, .null, .int 0, .int 0, .int 0])), (q1, aR k 3 6 (fun i9 => if i9 < 6 then some (r2 i9) else none)), ((r2 0), aI k 6 (fun _ => 0)), ((r2 1), aI k 6 (fun _ => 0)), ((r2 2), aI k 6 (fun _ => 0)), ((r2 3), aI k 6 (fun _ => 0)), ((r2 4), aI k 6 (fun _ => 0)), ((r2 5), aI k 6 (fun _ => 0)), (q3, aI k 6 (fun _ => 0)), (q4, aI k 6 (fun _ => 0)), (q5, aI k 6 (fun _ => 0)), (q6, aI k 6 (fun _ => 0))] (tyXL_ok 4 (by decide)) rfl rfl (Nat.le_of_ble_eq_true rfl) rfl dL_init_45 ?_
  refine g_aload_n (pc := 48) C 0 rfl rfl dL_init_48 ?_
  refine g_bipush (pc := 49) (v := 6) C (by decide) dL_init_49 ?_
  refine g_newI (pc := 51) (cells := 11) (slots := 66) (g := 4) C 6 q_4 (by decide) (by decide) (Nat.le_of_ble_eq_true rfl) (Nat.le_of_ble_eq_true rfl) (Nat.le_of_ble_eq_true rfl) dL_init_51 (fun q7 => ?_)
  refine G.eqw (ws' := [(lo, .inr (13, [.ref q1, .ref q3, .ref q4, .ref q5, .ref q6, .null, .int 0, .int 0, .int 0])), (q1, aR k 3 6 (fun i9 => if i9 < 6 then some (r2 i9) else none)), ((r2 0), aI k 6 (fun _ => 0)), ((r2 1), aI k 6 (fun _ => 0)), ((r2 2), aI k 6 (fun _ => 0)), ((r2 3), aI k 6 (fun _ => 0)), ((r2 4), aI k 6 (fun _ => 0)), ((r2 5), aI k 6 (fun _ => 0)), (q3, aI k 6 (fun _ => 0)), (q4, aI k 6 (fun _ => 0)), (q5, aI k 6 (fun _ => 0)), (q6, aI k 6 (fun _ => 0)), (q7, aI k 6 (fun _ => 0))]) rfl ?_
  refine g_putF (pc := 53) C (T := TXL) inXL 0 rfl rfl 5 (by decide) q_699 rfl tyXL tyXL_ok nmXL rfl hin rfl [(lo, .inr (13, [.ref q1, .ref q3, .ref q4, .ref q5, .ref q6, .ref q7, .int 0, .int 0, .int 0])), (q1, aR k 3 6 (fun i9 => if i9 < 6 then some (r2 i9) else none)), ((r2 0), aI k 6 (fun _ => 0)), ((r2 1), aI k 6 (fun _ => 0)), ((r2 2), aI k 6 (fun _ => 0)), ((r2 3), aI k 6 (fun _ => 0)), ((r2 4), aI k 6 (fun _ => 0)), ((r2 5), aI k 6 (fun _ => 0)), (q3, aI k 6 (fun _ => 0)), (q4, aI k 6 (fun _ => 0)), (q5, aI k 6 (fun _ => 0)), (q6, aI k 6 (fun _ => 0)), (q7, aI k 6 (fun _ => 0))] (tyXL_ok 5 (by decide)) rfl rfl (Nat.le_of_ble_eq_true rfl) rfl dL_init_53 ?_
  refine G.fn (EN (fun _ _ => 0) 0) 2 [(lo, .inr (13, [.ref q1, .ref q3, .ref q4, .ref q5, .ref q6, .ref q7, .int 0, .int 0, .int 0])), (q1, aR k 3 6 (fun i9 => if i9 < 6 then some (r2 i9) else none)), ((r2 0), aI k 6 (EN (fun _ _ => 0) 0)), ((r2 1), aI k 6 (fun _ => 0)), ((r2 2), aI k 6 (fun _ => 0)), ((r2 3), aI k 6 (fun _ => 0)), ((r2 4), aI k 6 (fun _ => 0)), ((r2 5), aI k 6 (fun _ => 0)), (q3, aI k 6 (fun _ => 0)), (q4, aI k 6 (fun _ => 0)), (q5, aI k 6 (fun _ => 0)), (q6, aI k 6 (fun _ => 0)), (q7, aI k 6 (fun _ => 0))] rfl (fun j hj => by rfl) rfl ?_
  refine G.fn (EN (fun _ _ => 0) 1) 3 [(lo, .inr (13, [.ref q1, .ref q3, .ref q4, .ref q5, .ref q6, .ref q7, .int 0, .int 0, .int 0])), (q1, aR k 3 6 (fun i9 => if i9 < 6 then some (r2 i9) else none)), ((r2 0), aI k 6 (EN (fun _ _ => 0) 0)), ((r2 1), aI k 6 (EN (fun _ _ => 0) 1)), ((r2 2), aI k 6 (fun _ => 0)), ((r2 3), aI k 6 (fun _ => 0)), ((r2 4), aI k 6 (fun _ => 0)), ((r2 5), aI k 6 (fun _ => 0)), (q3, aI k 6 (fun _ => 0)), (q4, aI k 6 (fun _ => 0)), (q5, aI k 6 (fun _ => 0)), (q6, aI k 6 (fun _ => 0)), (q7, aI k 6 (fun _ => 0))] rfl (fun j hj => by rfl) rfl ?_
  refine G.fn (EN (fun _ _ => 0) 2) 4 [(lo, .inr (13, [.ref q1, .ref q3, .ref q4, .ref q5, .ref q6, .ref q7, .int 0, .int 0, .int 0])), (q1, aR k 3 6 (fun i9 => if i9 < 6 then some (r2 i9) else none)), ((r2 0), aI k 6 (EN (fun _ _ => 0) 0)), ((r2 1), aI k 6 (EN (fun _ _ => 0) 1)), ((r2 2), aI k 6 (EN (fun _ _ => 0) 2)), ((r2 3), aI k 6 (fun _ => 0)), ((r2 4), aI k 6 (fun _ => 0)), ((r2 5), aI k 6 (fun _ => 0)), (q3, aI k 6 (fun _ => 0)), (q4, aI k 6 (fun _ => 0)), (q5, aI k 6 (fun _ => 0)), (q6, aI k 6 (fun _ => 0)), (q7, aI k 6 (fun _ => 0))] rfl (fun j hj => by rfl) rfl ?_
  refine G.fn (EN (fun _ _ => 0) 3) 5 [(lo, .inr (13, [.ref q1, .ref q3, .ref q4, .ref q5, .ref q6, .ref q7, .int 0, .int 0, .int 0])), (q1, aR k 3 6 (fun i9 => if i9 < 6 then some (r2 i9) else none)), ((r2 0), aI k 6 (EN (fun _ _ => 0) 0)), ((r2 1), aI k 6 (EN (fun _ _ => 0) 1)), ((r2 2), aI k 6 (EN (fun _ _ => 0) 2)), ((r2 3), aI k 6 (EN (fun _ _ => 0) 3)), ((r2 4), aI k 6 (fun _ => 0)), ((r2 5), aI k 6 (fun _ => 0)), (q3, aI k 6 (fun _ => 0)), (q4, aI k 6 (fun _ => 0)), (q5, aI k 6 (fun _ => 0)), (q6, aI k 6 (fun _ => 0)), (q7, aI k 6 (fun _ => 0))] rfl (fun j hj => by rfl) rfl ?_
  refine G.fn (EN (fun _ _ => 0) 4) 6 [(lo, .inr (13, [.ref q1, .ref q3, .ref q4, .ref q5, .ref q6, .ref q7, .int 0, .int 0, .int 0])), (q1, aR k 3 6 (fun i9 => if i9 < 6 then some (r2 i9) else none)), ((r2 0), aI k 6 (EN (fun _ _ => 0) 0)), ((r2 1), aI k 6 (EN (fun _ _ => 0) 1)), ((r2 2), aI k 6 (EN (fun _ _ => 0) 2)), ((r2 3), aI k 6 (EN (fun _ _ => 0) 3)), ((r2 4), aI k 6 (EN (fun _ _ => 0) 4)), ((r2 5), aI k 6 (fun _ => 0)), (q3, aI k 6 (fun _ => 0)), (q4, aI k 6 (fun _ => 0)), (q5, aI k 6 (fun _ => 0)), (q6, aI k 6 (fun _ => 0)), (q7, aI k 6 (fun _ => 0))] rfl (fun j hj => by rfl) rfl ?_
  refine G.fn (EN (fun _ _ => 0) 5) 7 [(lo, .inr (13, [.ref q1, .ref q3, .ref q4, .ref q5, .ref q6, .ref q7, .int 0, .int 0, .int 0])), (q1, aR k 3 6 (fun i9 => if i9 < 6 then some (r2 i9) else none)), ((r2 0), aI k 6 (EN (fun _ _ => 0) 0)), ((r2 1), aI k 6 (EN (fun _ _ => 0) 1)), ((r2 2), aI k 6 (EN (fun _ _ => 0) 2)), ((r2 3), aI k 6 (EN (fun _ _ => 0) 3)), ((r2 4), aI k 6 (EN (fun _ _ => 0) 4)), ((r2 5), aI k 6 (EN (fun _ _ => 0) 5)), (q3, aI k 6 (fun _ => 0)), (q4, aI k 6 (fun _ => 0)), (q5, aI k 6 (fun _ => 0)), (q6, aI k 6 (fun _ => 0)), (q7, aI k 6 (fun _ => 0))] rfl (fun j hj => by rfl) rfl ?_
  exact g_vret (pc := 56) C hr hlk (by first | decide | omega) (by first | decide | omega) (by first | decide | omega) dL_init_56 ⟨rfl, q1, r2, q3, q4, q5, q6, q7, rfl⟩
set_option maxRecDepth 100000 in
set_option maxHeartbeats 400000 in
theorem c_L_clear {l : Launch} {D : va_G} {k : Nat → ClassId} (lo : Nat) (eo : Nat) (e1 : Nat) (e2 : Nat) (e3 : Nat) (e4 : Nat) (e5 : Nat) (n : Nat) (z : Nat) (sw : Int32) (f1 : Nat → Int32) (f2 : Nat → Int32) (f3 : Nat → Int32) (f4 : Nat → Int32) (f5 : Nat → Int32)  : CM l D k yL_clear cL_clear 6 none  0 0 [.ref lo] [(lo, .inr (13, [.ref eo, .ref e1, .ref e2, .ref e3, .ref e4, .ref e5, .int (nI n), .int (nI z), .int sw])), (e1, aI k 6 f1), (e2, aI k 6 f2), (e3, aI k 6 f3), (e4, aI k 6 f4), (e5, aI k 6 f5)] (is1 none [(lo, .inr (13, [.ref eo, .ref e1, .ref e2, .ref e3, .ref e4, .ref e5, .int (nI n), .int (nI z), .int 0])), (e1, aI k 6 (fun _ => 0)), (e2, aI k 6 (fun _ => 0)), (e3, aI k 6 (fun _ => 0)), (e4, aI k 6 (fun _ => 0)), (e5, aI k 6 (fun _ => 0))]) 1 5 0 := by
  refine CM.of (lv0 := [(0, .ref lo)]) (by decide +kernel) (Nat.le_of_ble_eq_true rfl) rfl ?_
  intro p9 e9 s9 m9 bl9 me9 co9 C hr hlk hin had
  refine g_iconst (pc := 0) (v := 5) C (by decide) dL_clear_0 ?_
  refine g_anewA (pc := 1) (cells := 0) (slots := 0) (g := 0) C 5 q_700 (by decide) (by decide) (Nat.le_of_ble_eq_true rfl) (Nat.le_of_ble_eq_true rfl) (Nat.le_of_ble_eq_true rfl) dL_clear_1 (fun q1 => ?_)
  refine G.eqw (ws' := [(lo, .inr (13, [.ref eo, .ref e1, .ref e2, .ref e3, .ref e4, .ref e5, .int (nI n), .int (nI z), .int sw])), (e1, aI k 6 f1), (e2, aI k 6 f2), (e3, aI k 6 f3), (e4, aI k 6 f4), (e5, aI k 6 f5), (q1, aR k 3 5 (fun _ => none))]) rfl ?_
  refine g_dup (pc := 4) C rfl dL_clear_4 ?_
  refine g_iconst (pc := 5) (v := 0) C (by decide) dL_clear_5 ?_
  refine g_aload_n (pc := 6) C 0 rfl rfl dL_clear_6 ?_
  refine g_get (pc := 7) C (T := TXL) inXL 0 rfl rfl 1 (by decide) q_566 rfl rfl dL_clear_7 ?_
  refine g_aastA (pc := 10) C (j := 0) 6 1 [(lo, .inr (13, [.ref eo, .ref e1, .ref e2, .ref e3, .ref e4, .ref e5, .int (nI n), .int (nI z), .int sw])), (e1, aI k 6 f1), (e2, aI k 6 f2), (e3, aI k 6 f3), (e4, aI k 6 f4), (e5, aI k 6 f5), (q1, aR k 3 5 (va_up (fun _ => none) 0 (some e1)))] rfl rfl (by decide) (by decide) (by decide) rfl dL_clear_10 ?_
  refine g_dup (pc := 11) C rfl dL_clear_11 ?_
  refine g_iconst (pc := 12) (v := 1) C (by decide) dL_clear_12 ?_
  refine g_aload_n (pc := 13) C 0 rfl rfl dL_clear_13 ?_
  refine g_get (pc := 14) C (T := TXL) inXL 0 rfl rfl 2 (by decide) q_697 rfl rfl dL_clear_14 ?_
  refine g_aastA (pc := 17) C (j := 1) 6 2 [(lo, .inr (13, [.ref eo, .ref e1, .ref e2, .ref e3, .ref e4, .ref e5, .int (nI n), .int (nI z), .int sw])), (e1, aI k 6 f1), (e2, aI k 6 f2), (e3, aI k 6 f3), (e4, aI k 6 f4), (e5, aI k 6 f5), (q1, aR k 3 5 (va_up (va_up (fun _ => none) 0 (some e1)) 1 (some e2)))] rfl rfl (by decide) (by decide) (by decide) rfl dL_clear_17 ?_
  refine g_dup (pc := 18) C rfl dL_clear_18 ?_
  refine g_iconst (pc := 19) (v := 2) C (by decide) dL_clear_19 ?_
  refine g_aload_n (pc := 20) C 0 rfl rfl dL_clear_20 ?_
  refine g_get (pc := 21) C (T := TXL) inXL 0 rfl rfl 3 (by decide) q_698 rfl rfl dL_clear_21 ?_
  refine g_aastA (pc := 24) C (j := 2) 6 3 [(lo, .inr (13, [.ref eo, .ref e1, .ref e2, .ref e3, .ref e4, .ref e5, .int (nI n), .int (nI z), .int sw])), (e1, aI k 6 f1), (e2, aI k 6 f2), (e3, aI k 6 f3), (e4, aI k 6 f4), (e5, aI k 6 f5), (q1, aR k 3 5 (va_up (va_up (va_up (fun _ => none) 0 (some e1)) 1 (some e2)) 2 (some e3)))] rfl rfl (by decide) (by decide) (by decide) rfl dL_clear_24 ?_
  refine g_dup (pc := 25) C rfl dL_clear_25 ?_
  refine g_iconst (pc := 26) (v := 3) C (by decide) dL_clear_26 ?_
  refine g_aload_n (pc := 27) C 0 rfl rfl dL_clear_27 ?_
  refine g_get (pc := 28) C (T := TXL) inXL 0 rfl rfl 4 (by decide) q_571 rfl rfl dL_clear_28 ?_
  refine g_aastA (pc := 31) C (j := 3) 6 4 [(lo, .inr (13, [.ref eo, .ref e1, .ref e2, .ref e3, .ref e4, .ref e5, .int (nI n), .int (nI z), .int sw])), (e1, aI k 6 f1), (e2, aI k 6 f2), (e3, aI k 6 f3), (e4, aI k 6 f4), (e5, aI k 6 f5), (q1, aR k 3 5 (va_up (va_up (va_up (va_up (fun _ => none) 0 (some e1)) 1 (some e2)) 2 (some e3)) 3 (some e4)))] rfl rfl (by decide) (by decide) (by decide) rfl dL_clear_31 ?_
  refine g_dup (pc := 32) C rfl dL_clear_32 ?_
  refine g_iconst (pc := 33) (v := 4) C (by decide) dL_clear_33 ?_
  refine g_aload_n (pc := 34) C 0 rfl rfl dL_clear_34 ?_
  refine g_get (pc := 35) C (T := TXL) inXL 0 rfl rfl 5 (by decide) q_699 rfl rfl dL_clear_35 ?_
  refine g_aastA (pc := 38) C (j := 4) 6 5 [(lo, .inr (13, [.ref eo, .ref e1, .ref e2, .ref e3, .ref e4, .ref e5, .int (nI n), .int (nI z), .int sw])), (e1, aI k 6 f1), (e2, aI k 6 f2), (e3, aI k 6 f3), (e4, aI k 6 f4), (e5, aI k 6 f5), (q1, aR k 3 5 (va_up (va_up (va_up (va_up (va_up (fun _ => none) 0 (some e1)) 1 (some e2)) 2 (some e3)) 3 (some e4)) 4 (some e5)))] rfl rfl (by decide) (by decide) (by decide) rfl dL_clear_38 ?_
  refine g_astore_n (pc := 39) C [(1, .ref q1), (0, .ref lo)] rfl dL_clear_39 (by decide) rfl ?_
  refine g_aload_n (pc := 40) C 0 rfl rfl dL_clear_40 ?_
  refine g_alen (pc := 41) C 6 rfl (t0 := 3) rfl (v := (nI 5)) rfl dL_clear_41 ?_
  refine g_istore_n (pc := 42) C [(2, .int (nI 5)), (1, .ref q1), (0, .ref lo)] rfl dL_clear_42 (by decide) rfl ?_
  refine g_iconst (pc := 43) (v := 0) C (by decide) dL_clear_43 ?_
  refine g_istore_n (pc := 44) C [(3, .int 0), (2, .int (nI 5)), (1, .ref q1), (0, .ref lo)] rfl dL_clear_44 (by decide) rfl ?_
  refine g_iload_n (pc := 45) C 0 rfl rfl dL_clear_45 ?_
  refine g_iload_n (pc := 46) C 1 rfl rfl dL_clear_46 ?_
  refine g_icmp_ge (pc := 47) C 83 (by decide) dL_clear_47 (fun c_47 => ?_) (fun c_47 => ?_)
  · exact absurd c_47 (by decide)
  · refine g_aload_n (pc := 50) C 2 rfl rfl dL_clear_50 ?_
    refine g_iload_n (pc := 51) C 0 rfl rfl dL_clear_51 ?_
    refine g_aald (pc := 52) C (j := 0) (b := e1) 6 rfl (by decide) (by decide) (by decide) rfl dL_clear_52 ?_
    refine g_astore (pc := 53) C [(4, .ref e1), (3, .int 0), (2, .int (nI 5)), (1, .ref q1), (0, .ref lo)] dL_clear_53 (by decide) rfl ?_
    refine g_iconst (pc := 55) (v := 0) C (by decide) dL_clear_55 ?_
    refine g_istore (pc := 56) C [(5, .int 0), (4, .ref e1), (3, .int 0), (2, .int (nI 5)), (1, .ref q1), (0, .ref lo)] dL_clear_56 (by decide) rfl ?_
    refine g_iload (pc := 58) C 0 rfl dL_clear_58 ?_
    refine g_bipush (pc := 60) (v := 6) C (by decide) dL_clear_60 ?_
    refine g_icmp_ge (pc := 62) C 77 (by decide) dL_clear_62 (fun c_62 => ?_) (fun c_62 => ?_)
    · exact absurd c_62 (by decide)
    · refine g_aload (pc := 65) C 1 rfl dL_clear_65 ?_
      refine g_iload (pc := 67) C 0 rfl dL_clear_67 ?_
      refine g_iconst (pc := 69) (v := 0) C (by decide) dL_clear_69 ?_
      refine g_iast_n (pc := 70) C (j := 0) 1 [(lo, .inr (13, [.ref eo, .ref e1, .ref e2, .ref e3, .ref e4, .ref e5, .int (nI n), .int (nI z), .int sw])), (e1, aI k 6 (upd f1 0 0)), (e2, aI k 6 f2), (e3, aI k 6 f3), (e4, aI k 6 f4), (e5, aI k 6 f5), (q1, aR k 3 5 (va_up (va_up (va_up (va_up (va_up (fun _ => none) 0 (some e1)) 1 (some e2)) 2 (some e3)) 3 (some e4)) 4 (some e5)))] rfl (by omega) (by first | decide | omega) (by decide) rfl dL_clear_70 ?_
      refine g_iinc (pc := 71) (n := 1) (v := (0 + 1)) C 0 [(5, .int (0 + 1)), (4, .ref e1), (3, .int 0), (2, .int (nI 5)), (1, .ref q1), (0, .ref lo)] rfl rfl dL_clear_71 (by decide) rfl ?_
      refine g_goto (pc := 74) C 58 (by decide) dL_clear_74 ?_
      refine g_iload (pc := 58) C 0 rfl dL_clear_58 ?_
      refine g_bipush (pc := 60) (v := 6) C (by decide) dL_clear_60 ?_
      refine g_icmp_ge (pc := 62) C 77 (by decide) dL_clear_62 (fun c_62 => ?_) (fun c_62 => ?_)
      · exact absurd c_62 (by decide)
      · refine g_aload (pc := 65) C 1 rfl dL_clear_65 ?_
        refine g_iload (pc := 67) C 0 rfl dL_clear_67 ?_
        refine g_iconst (pc := 69) (v := 0) C (by decide) dL_clear_69 ?_
        refine g_iast_n (pc := 70) C (j := 1) 1 [(lo, .inr (13, [.ref eo, .ref e1, .ref e2, .ref e3, .ref e4, .ref e5, .int (nI n), .int (nI z), .int sw])), (e1, aI k 6 (upd (upd f1 0 0) 1 0)), (e2, aI k 6 f2), (e3, aI k 6 f3), (e4, aI k 6 f4), (e5, aI k 6 f5), (q1, aR k 3 5 (va_up (va_up (va_up (va_up (va_up (fun _ => none) 0 (some e1)) 1 (some e2)) 2 (some e3)) 3 (some e4)) 4 (some e5)))] rfl (by omega) (by first | decide | omega) (by decide) rfl dL_clear_70 ?_
        refine g_iinc (pc := 71) (n := 1) (v := ((0 + 1) + 1)) C 0 [(5, .int ((0 + 1) + 1)), (4, .ref e1), (3, .int 0), (2, .int (nI 5)), (1, .ref q1), (0, .ref lo)] rfl rfl dL_clear_71 (by decide) rfl ?_
        refine g_goto (pc := 74) C 58 (by decide) dL_clear_74 ?_
        refine g_iload (pc := 58) C 0 rfl dL_clear_58 ?_
        refine g_bipush (pc := 60) (v := 6) C (by decide) dL_clear_60 ?_
        refine g_icmp_ge (pc := 62) C 77 (by decide) dL_clear_62 (fun c_62 => ?_) (fun c_62 => ?_)
        · exact absurd c_62 (by decide)
        · refine g_aload (pc := 65) C 1 rfl dL_clear_65 ?_
          refine g_iload (pc := 67) C 0 rfl dL_clear_67 ?_
          refine g_iconst (pc := 69) (v := 0) C (by decide) dL_clear_69 ?_
          refine g_iast_n (pc := 70) C (j := 2) 1 [(lo, .inr (13, [.ref eo, .ref e1, .ref e2, .ref e3, .ref e4, .ref e5, .int (nI n), .int (nI z), .int sw])), (e1, aI k 6 (upd (upd (upd f1 0 0) 1 0) 2 0)), (e2, aI k 6 f2), (e3, aI k 6 f3), (e4, aI k 6 f4), (e5, aI k 6 f5), (q1, aR k 3 5 (va_up (va_up (va_up (va_up (va_up (fun _ => none) 0 (some e1)) 1 (some e2)) 2 (some e3)) 3 (some e4)) 4 (some e5)))] rfl (by omega) (by first | decide | omega) (by decide) rfl dL_clear_70 ?_
          refine g_iinc (pc := 71) (n := 1) (v := (((0 + 1) + 1) + 1)) C 0 [(5, .int (((0 + 1) + 1) + 1)), (4, .ref e1), (3, .int 0), (2, .int (nI 5)), (1, .ref q1), (0, .ref lo)] rfl rfl dL_clear_71 (by decide) rfl ?_
          refine g_goto (pc := 74) C 58 (by decide) dL_clear_74 ?_
          refine g_iload (pc := 58) C 0 rfl dL_clear_58 ?_
          refine g_bipush (pc := 60) (v := 6) C (by decide) dL_clear_60 ?_
          refine g_icmp_ge (pc := 62) C 77 (by decide) dL_clear_62 (fun c_62 => ?_) (fun c_62 => ?_)
          · exact absurd c_62 (by decide)
          · refine g_aload (pc := 65) C 1 rfl dL_clear_65 ?_
            refine g_iload (pc := 67) C 0 rfl dL_clear_67 ?_
            refine g_iconst (pc := 69) (v := 0) C (by decide) dL_clear_69 ?_
            refine g_iast_n (pc := 70) C (j := 3) 1 [(lo, .inr (13, [.ref eo, .ref e1, .ref e2, .ref e3, .ref e4, .ref e5, .int (nI n), .int (nI z), .int sw])), (e1, aI k 6 (upd (upd (upd (upd f1 0 0) 1 0) 2 0) 3 0)), (e2, aI k 6 f2), (e3, aI k 6 f3), (e4, aI k 6 f4), (e5, aI k 6 f5), (q1, aR k 3 5 (va_up (va_up (va_up (va_up (va_up (fun _ => none) 0 (some e1)) 1 (some e2)) 2 (some e3)) 3 (some e4)) 4 (some e5)))] rfl (by omega) (by first | decide | omega) (by decide) rfl dL_clear_70 ?_
            refine g_iinc (pc := 71) (n := 1) (v := ((((0 + 1) + 1) + 1) + 1)) C 0 [(5, .int ((((0 + 1) + 1) + 1) + 1)), (4, .ref e1), (3, .int 0), (2, .int (nI 5)), (1, .ref q1), (0, .ref lo)] rfl rfl dL_clear_71 (by decide) rfl ?_
            refine g_goto (pc := 74) C 58 (by decide) dL_clear_74 ?_
            refine g_iload (pc := 58) C 0 rfl dL_clear_58 ?_
            refine g_bipush (pc := 60) (v := 6) C (by decide) dL_clear_60 ?_
            refine g_icmp_ge (pc := 62) C 77 (by decide) dL_clear_62 (fun c_62 => ?_) (fun c_62 => ?_)
            · exact absurd c_62 (by decide)
            · refine g_aload (pc := 65) C 1 rfl dL_clear_65 ?_
              refine g_iload (pc := 67) C 0 rfl dL_clear_67 ?_
              refine g_iconst (pc := 69) (v := 0) C (by decide) dL_clear_69 ?_
              refine g_iast_n (pc := 70) C (j := 4) 1 [(lo, .inr (13, [.ref eo, .ref e1, .ref e2, .ref e3, .ref e4, .ref e5, .int (nI n), .int (nI z), .int sw])), (e1, aI k 6 (upd (upd (upd (upd (upd f1 0 0) 1 0) 2 0) 3 0) 4 0)), (e2, aI k 6 f2), (e3, aI k 6 f3), (e4, aI k 6 f4), (e5, aI k 6 f5), (q1, aR k 3 5 (va_up (va_up (va_up (va_up (va_up (fun _ => none) 0 (some e1)) 1 (some e2)) 2 (some e3)) 3 (some e4)) 4 (some e5)))] rfl (by omega) (by first | decide | omega) (by decide) rfl dL_clear_70 ?_
              refine g_iinc (pc := 71) (n := 1) (v := (((((0 + 1) + 1) + 1) + 1) + 1)) C 0 [(5, .int (((((0 + 1) + 1) + 1) + 1) + 1)), (4, .ref e1), (3, .int 0), (2, .int (nI 5)), (1, .ref q1), (0, .ref lo)] rfl rfl dL_clear_71 (by decide) rfl ?_
              refine g_goto (pc := 74) C 58 (by decide) dL_clear_74 ?_
              refine g_iload (pc := 58) C 0 rfl dL_clear_58 ?_
              refine g_bipush (pc := 60) (v := 6) C (by decide) dL_clear_60 ?_
              refine g_icmp_ge (pc := 62) C 77 (by decide) dL_clear_62 (fun c_62 => ?_) (fun c_62 => ?_)
              · exact absurd c_62 (by decide)
              · refine g_aload (pc := 65) C 1 rfl dL_clear_65 ?_
                refine g_iload (pc := 67) C 0 rfl dL_clear_67 ?_
                refine g_iconst (pc := 69) (v := 0) C (by decide) dL_clear_69 ?_
                refine g_iast_n (pc := 70) C (j := 5) 1 [(lo, .inr (13, [.ref eo, .ref e1, .ref e2, .ref e3, .ref e4, .ref e5, .int (nI n), .int (nI z), .int sw])), (e1, aI k 6 (upd (upd (upd (upd (upd (upd f1 0 0) 1 0) 2 0) 3 0) 4 0) 5 0)), (e2, aI k 6 f2), (e3, aI k 6 f3), (e4, aI k 6 f4), (e5, aI k 6 f5), (q1, aR k 3 5 (va_up (va_up (va_up (va_up (va_up (fun _ => none) 0 (some e1)) 1 (some e2)) 2 (some e3)) 3 (some e4)) 4 (some e5)))] rfl (by omega) (by first | decide | omega) (by decide) rfl dL_clear_70 ?_
                refine g_iinc (pc := 71) (n := 1) (v := ((((((0 + 1) + 1) + 1) + 1) + 1) + 1)) C 0 [(5, .int ((((((0 + 1) + 1) + 1) + 1) + 1) + 1)), (4, .ref e1), (3, .int 0), (2, .int (nI 5)), (1, .ref q1), (0, .ref lo)] rfl rfl dL_clear_71 (by decide) rfl ?_
                refine g_goto (pc := 74) C 58 (by decide) dL_clear_74 ?_
                refine g_iload (pc := 58) C 0 rfl dL_clear_58 ?_
                refine g_bipush (pc := 60) (v := 6) C (by decide) dL_clear_60 ?_
                refine g_icmp_ge (pc := 62) C 77 (by decide) dL_clear_62 (fun c_62 => ?_) (fun c_62 => ?_)
                · refine g_iinc (pc := 77) (n := 1) (v := (0 + 1)) C 2 [(3, .int (0 + 1)), (5, .int ((((((0 + 1) + 1) + 1) + 1) + 1) + 1)), (4, .ref e1), (2, .int (nI 5)), (1, .ref q1), (0, .ref lo)] rfl rfl dL_clear_77 (by decide) rfl ?_
                  refine g_goto (pc := 80) C 45 (by decide) dL_clear_80 ?_
                  refine g_iload_n (pc := 45) C 0 rfl rfl dL_clear_45 ?_
                  refine g_iload_n (pc := 46) C 3 rfl rfl dL_clear_46 ?_
                  refine g_icmp_ge (pc := 47) C 83 (by decide) dL_clear_47 (fun c_47 => ?_) (fun c_47 => ?_)
                  · exact absurd c_47 (by decide)
                  · refine g_aload_n (pc := 50) C 4 rfl rfl dL_clear_50 ?_
                    refine g_iload_n (pc := 51) C 0 rfl rfl dL_clear_51 ?_
                    refine g_aald (pc := 52) C (j := 1) (b := e2) 6 rfl (by decide) (by decide) (by decide) rfl dL_clear_52 ?_
                    refine g_astore (pc := 53) C [(4, .ref e2), (3, .int (0 + 1)), (5, .int ((((((0 + 1) + 1) + 1) + 1) + 1) + 1)), (2, .int (nI 5)), (1, .ref q1), (0, .ref lo)] dL_clear_53 (by decide) rfl ?_
                    refine g_iconst (pc := 55) (v := 0) C (by decide) dL_clear_55 ?_
                    refine g_istore (pc := 56) C [(5, .int 0), (4, .ref e2), (3, .int (0 + 1)), (2, .int (nI 5)), (1, .ref q1), (0, .ref lo)] dL_clear_56 (by decide) rfl ?_
                    refine g_iload (pc := 58) C 0 rfl dL_clear_58 ?_
                    refine g_bipush (pc := 60) (v := 6) C (by decide) dL_clear_60 ?_
                    refine g_icmp_ge (pc := 62) C 77 (by decide) dL_clear_62 (fun c_62 => ?_) (fun c_62 => ?_)
                    · exact absurd c_62 (by decide)
                    · refine g_aload (pc := 65) C 1 rfl dL_clear_65 ?_
                      refine g_iload (pc := 67) C 0 rfl dL_clear_67 ?_
                      refine g_iconst (pc := 69) (v := 0) C (by decide) dL_clear_69 ?_
                      refine g_iast_n (pc := 70) C (j := 0) 2 [(lo, .inr (13, [.ref eo, .ref e1, .ref e2, .ref e3, .ref e4, .ref e5, .int (nI n), .int (nI z), .int sw])), (e1, aI k 6 (upd (upd (upd (upd (upd (upd f1 0 0) 1 0) 2 0) 3 0) 4 0) 5 0)), (e2, aI k 6 (upd f2 0 0)), (e3, aI k 6 f3), (e4, aI k 6 f4), (e5, aI k 6 f5), (q1, aR k 3 5 (va_up (va_up (va_up (va_up (va_up (fun _ => none) 0 (some e1)) 1 (some e2)) 2 (some e3)) 3 (some e4)) 4 (some e5)))] rfl (by omega) (by first | decide | omega) (by decide) rfl dL_clear_70 ?_
                      refine g_iinc (pc := 71) (n := 1) (v := (0 + 1)) C 0 [(5, .int (0 + 1)), (4, .ref e2), (3, .int (0 + 1)), (2, .int (nI 5)), (1, .ref q1), (0, .ref lo)] rfl rfl dL_clear_71 (by decide) rfl ?_
                      refine g_goto (pc := 74) C 58 (by decide) dL_clear_74 ?_
                      refine g_iload (pc := 58) C 0 rfl dL_clear_58 ?_
                      refine g_bipush (pc := 60) (v := 6) C (by decide) dL_clear_60 ?_
                      refine g_icmp_ge (pc := 62) C 77 (by decide) dL_clear_62 (fun c_62 => ?_) (fun c_62 => ?_)
                      · exact absurd c_62 (by decide)
                      · refine g_aload (pc := 65) C 1 rfl dL_clear_65 ?_
                        refine g_iload (pc := 67) C 0 rfl dL_clear_67 ?_
                        refine g_iconst (pc := 69) (v := 0) C (by decide) dL_clear_69 ?_
                        refine g_iast_n (pc := 70) C (j := 1) 2 [(lo, .inr (13, [.ref eo, .ref e1, .ref e2, .ref e3, .ref e4, .ref e5, .int (nI n), .int (nI z), .int sw])), (e1, aI k 6 (upd (upd (upd (upd (upd (upd f1 0 0) 1 0) 2 0) 3 0) 4 0) 5 0)), (e2, aI k 6 (upd (upd f2 0 0) 1 0)), (e3, aI k 6 f3), (e4, aI k 6 f4), (e5, aI k 6 f5), (q1, aR k 3 5 (va_up (va_up (va_up (va_up (va_up (fun _ => none) 0 (some e1)) 1 (some e2)) 2 (some e3)) 3 (some e4)) 4 (some e5)))] rfl (by omega) (by first | decide | omega) (by decide) rfl dL_clear_70 ?_
                        refine g_iinc (pc := 71) (n := 1) (v := ((0 + 1) + 1)) C 0 [(5, .int ((0 + 1) + 1)), (4, .ref e2), (3, .int (0 + 1)), (2, .int (nI 5)), (1, .ref q1), (0, .ref lo)] rfl rfl dL_clear_71 (by decide) rfl ?_
                        refine g_goto (pc := 74) C 58 (by decide) dL_clear_74 ?_
                        refine g_iload (pc := 58) C 0 rfl dL_clear_58 ?_
                        refine g_bipush (pc := 60) (v := 6) C (by decide) dL_clear_60 ?_
                        refine g_icmp_ge (pc := 62) C 77 (by decide) dL_clear_62 (fun c_62 => ?_) (fun c_62 => ?_)
                        · exact absurd c_62 (by decide)
                        · refine g_aload (pc := 65) C 1 rfl dL_clear_65 ?_
                          refine g_iload (pc := 67) C 0 rfl dL_clear_67 ?_
                          refine g_iconst (pc := 69) (v := 0) C (by decide) dL_clear_69 ?_
                          refine g_iast_n (pc := 70) C (j := 2) 2 [(lo, .inr (13, [.ref eo, .ref e1, .ref e2, .ref e3, .ref e4, .ref e5, .int (nI n), .int (nI z), .int sw])), (e1, aI k 6 (upd (upd (upd (upd (upd (upd f1 0 0) 1 0) 2 0) 3 0) 4 0) 5 0)), (e2, aI k 6 (upd (upd (upd f2 0 0) 1 0) 2 0)), (e3, aI k 6 f3), (e4, aI k 6 f4), (e5, aI k 6 f5), (q1, aR k 3 5 (va_up (va_up (va_up (va_up (va_up (fun _ => none) 0 (some e1)) 1 (some e2)) 2 (some e3)) 3 (some e4)) 4 (some e5)))] rfl (by omega) (by first | decide | omega) (by decide) rfl dL_clear_70 ?_
                          refine g_iinc (pc := 71) (n := 1) (v := (((0 + 1) + 1) + 1)) C 0 [(5, .int (((0 + 1) + 1) + 1)), (4, .ref e2), (3, .int (0 + 1)), (2, .int (nI 5)), (1, .ref q1), (0, .ref lo)] rfl rfl dL_clear_71 (by decide) rfl ?_
                          refine g_goto (pc := 74) C 58 (by decide) dL_clear_74 ?_
                          refine g_iload (pc := 58) C 0 rfl dL_clear_58 ?_
                          refine g_bipush (pc := 60) (v := 6) C (by decide) dL_clear_60 ?_
                          refine g_icmp_ge (pc := 62) C 77 (by decide) dL_clear_62 (fun c_62 => ?_) (fun c_62 => ?_)
                          · exact absurd c_62 (by decide)
                          · refine g_aload (pc := 65) C 1 rfl dL_clear_65 ?_
                            refine g_iload (pc := 67) C 0 rfl dL_clear_67 ?_
                            refine g_iconst (pc := 69) (v := 0) C (by decide) dL_clear_69 ?_
                            refine g_iast_n (pc := 70) C (j := 3) 2 [(lo, .inr (13, [.ref eo, .ref e1, .ref e2, .ref e3, .ref e4, .ref e5, .int (nI n), .int (nI z), .int sw])), (e1, aI k 6 (upd (upd (upd (upd (upd (upd f1 0 0) 1 0) 2 0) 3 0) 4 0) 5 0)), (e2, aI k 6 (upd (upd (upd (upd f2 0 0) 1 0) 2 0) 3 0)), (e3, aI k 6 f3), (e4, aI k 6 f4), (e5, aI k 6 f5), (q1, aR k 3 5 (va_up (va_up (va_up (va_up (va_up (fun _ => none) 0 (some e1)) 1 (some e2)) 2 (some e3)) 3 (some e4)) 4 (some e5)))] rfl (by omega) (by first | decide | omega) (by decide) rfl dL_clear_70 ?_
                            refine g_iinc (pc := 71) (n := 1) (v := ((((0 + 1) + 1) + 1) + 1)) C 0 [(5, .int ((((0 + 1) + 1) + 1) + 1)), (4, .ref e2), (3, .int (0 + 1)), (2, .int (nI 5)), (1, .ref q1), (0, .ref lo)] rfl rfl dL_clear_71 (by decide) rfl ?_
                            refine g_goto (pc := 74) C 58 (by decide) dL_clear_74 ?_
                            refine g_iload (pc := 58) C 0 rfl dL_clear_58 ?_
                            refine g_bipush (pc := 60) (v := 6) C (by decide) dL_clear_60 ?_
                            refine g_icmp_ge (pc := 62) C 77 (by decide) dL_clear_62 (fun c_62 => ?_) (fun c_62 => ?_)
                            · exact absurd c_62 (by decide)
                            · refine g_aload (pc := 65) C 1 rfl dL_clear_65 ?_
                              refine g_iload (pc := 67) C 0 rfl dL_clear_67 ?_
                              refine g_iconst (pc := 69) (v := 0) C (by decide) dL_clear_69 ?_
                              refine g_iast_n (pc := 70) C (j := 4) 2 [(lo, .inr (13, [.ref eo, .ref e1, .ref e2, .ref e3, .ref e4, .ref e5, .int (nI n), .int (nI z), .int sw])), (e1, aI k 6 (upd (upd (upd (upd (upd (upd f1 0 0) 1 0) 2 0) 3 0) 4 0) 5 0)), (e2, aI k 6 (upd (upd (upd (upd (upd f2 0 0) 1 0) 2 0) 3 0) 4 0)), (e3, aI k 6 f3), (e4, aI k 6 f4), (e5, aI k 6 f5), (q1, aR k 3 5 (va_up (va_up (va_up (va_up (va_up (fun _ => none) 0 (some e1)) 1 (some e2)) 2 (some e3)) 3 (some e4)) 4 (some e5)))] rfl (by omega) (by first | decide | omega) (by decide) rfl dL_clear_70 ?_
                              refine g_iinc (pc := 71) (n := 1) (v := (((((0 + 1) + 1) + 1) + 1) + 1)) C 0 [(5, .int (((((0 + 1) + 1) + 1) + 1) + 1)), (4, .ref e2), (3, .int (0 + 1)), (2, .int (nI 5)), (1, .ref q1), (0, .ref lo)] rfl rfl dL_clear_71 (by decide) rfl ?_
                              refine g_goto (pc := 74) C 58 (by decide) dL_clear_74 ?_
                              refine g_iload (pc := 58) C 0 rfl dL_clear_58 ?_
                              refine g_bipush (pc := 60) (v := 6) C (by decide) dL_clear_60 ?_
                              refine g_icmp_ge (pc := 62) C 77 (by decide) dL_clear_62 (fun c_62 => ?_) (fun c_62 => ?_)
                              · exact absurd c_62 (by decide)
                              · refine g_aload (pc := 65) C 1 rfl dL_clear_65 ?_
                                refine g_iload (pc := 67) C 0 rfl dL_clear_67 ?_
                                refine g_iconst (pc := 69) (v := 0) C (by decide) dL_clear_69 ?_
                                refine g_iast_n (pc := 70) C (j := 5) 2 [(lo, .inr (13, [.ref eo, .ref e1, .ref e2, .ref e3, .ref e4, .ref e5, .int (nI n), .int (nI z), .int sw])), (e1, aI k 6 (upd (upd (upd (upd (upd (upd f1 0 0) 1 0) 2 0) 3 0) 4 0) 5 0)), (e2, aI k 6 (upd (upd (upd (upd (upd (upd f2 0 0) 1 0) 2 0) 3 0) 4 0) 5 0)), (e3, aI k 6 f3), (e4, aI k 6 f4), (e5, aI k 6 f5), (q1, aR k 3 5 (va_up (va_up (va_up (va_up (va_up (fun _ => none) 0 (some e1)) 1 (some e2)) 2 (some e3)) 3 (some e4)) 4 (some e5)))] rfl (by omega) (by first | decide | omega) (by decide) rfl dL_clear_70 ?_
                                refine g_iinc (pc := 71) (n := 1) (v := ((((((0 + 1) + 1) + 1) + 1) + 1) + 1)) C 0 [(5, .int ((((((0 + 1) + 1) + 1) + 1) + 1) + 1)), (4, .ref e2), (3, .int (0 + 1)), (2, .int (nI 5)), (1, .ref q1), (0, .ref lo)] rfl rfl dL_clear_71 (by decide) rfl ?_
                                refine g_goto (pc := 74) C 58 (by decide) dL_clear_74 ?_
                                refine g_iload (pc := 58) C 0 rfl dL_clear_58 ?_
                                refine g_bipush (pc := 60) (v := 6) C (by decide) dL_clear_60 ?_
                                refine g_icmp_ge (pc := 62) C 77 (by decide) dL_clear_62 (fun c_62 => ?_) (fun c_62 => ?_)
                                · refine g_iinc (pc := 77) (n := 1) (v := ((0 + 1) + 1)) C 2 [(3, .int ((0 + 1) + 1)), (5, .int ((((((0 + 1) + 1) + 1) + 1) + 1) + 1)), (4, .ref e2), (2, .int (nI 5)), (1, .ref q1), (0, .ref lo)] rfl rfl dL_clear_77 (by decide) rfl ?_
                                  refine g_goto (pc := 80) C 45 (by decide) dL_clear_80 ?_
                                  refine g_iload_n (pc := 45) C 0 rfl rfl dL_clear_45 ?_
                                  refine g_iload_n (pc := 46) C 3 rfl rfl dL_clear_46 ?_
                                  refine g_icmp_ge (pc := 47) C 83 (by decide) dL_clear_47 (fun c_47 => ?_) (fun c_47 => ?_)
                                  · exact absurd c_47 (by decide)
                                  · refine g_aload_n (pc := 50) C 4 rfl rfl dL_clear_50 ?_
                                    refine g_iload_n (pc := 51) C 0 rfl rfl dL_clear_51 ?_
                                    refine g_aald (pc := 52) C (j := 2) (b := e3) 6 rfl (by decide) (by decide) (by decide) rfl dL_clear_52 ?_
                                    refine g_astore (pc := 53) C [(4, .ref e3), (3, .int ((0 + 1) + 1)), (5, .int ((((((0 + 1) + 1) + 1) + 1) + 1) + 1)), (2, .int (nI 5)), (1, .ref q1), (0, .ref lo)] dL_clear_53 (by decide) rfl ?_
                                    refine g_iconst (pc := 55) (v := 0) C (by decide) dL_clear_55 ?_
                                    refine g_istore (pc := 56) C [(5, .int 0), (4, .ref e3), (3, .int ((0 + 1) + 1)), (2, .int (nI 5)), (1, .ref q1), (0, .ref lo)] dL_clear_56 (by decide) rfl ?_
                                    refine g_iload (pc := 58) C 0 rfl dL_clear_58 ?_
                                    refine g_bipush (pc := 60) (v := 6) C (by decide) dL_clear_60 ?_
                                    refine g_icmp_ge (pc := 62) C 77 (by decide) dL_clear_62 (fun c_62 => ?_) (fun c_62 => ?_)
                                    · exact absurd c_62 (by decide)
                                    · refine g_aload (pc := 65) C 1 rfl dL_clear_65 ?_
                                      refine g_iload (pc := 67) C 0 rfl dL_clear_67 ?_
                                      refine g_iconst (pc := 69) (v := 0) C (by decide) dL_clear_69 ?_
                                      refine g_iast_n (pc := 70) C (j := 0) 3 [(lo, .inr (13, [.ref eo, .ref e1, .ref e2, .ref e3, .ref e4, .ref e5, .int (nI n), .int (nI z), .int sw])), (e1, aI k 6 (upd (upd (upd (upd (upd (upd f1 0 0) 1 0) 2 0) 3 0) 4 0) 5 0)), (e2, aI k 6 (upd (upd (upd (upd (upd (upd f2 0 0) 1 0) 2 0) 3 0) 4 0) 5 0)), (e3, aI k 6 (upd f3 0 0)), (e4, aI k 6 f4), (e5, aI k 6 f5), (q1, aR k 3 5 (va_up (va_up (va_up (va_up (va_up (fun _ => none) 0 (some e1)) 1 (some e2)) 2 (some e3)) 3 (some e4)) 4 (some e5)))] rfl (by omega) (by first | decide | omega) (by decide) rfl dL_clear_70 ?_
                                      refine g_iinc (pc := 71) (n := 1) (v := (0 + 1)) C 0 [(5, .int (0 + 1)), (4, .ref e3), (3, .int ((0 + 1) + 1)), (2, .int (nI 5)), (1, .ref q1), (0, .ref lo)] rfl rfl dL_clear_71 (by decide) rfl ?_
                                      refine g_goto (pc := 74) C 58 (by decide) dL_clear_74 ?_
                                      refine g_iload (pc := 58) C 0 rfl dL_clear_58 ?_
                                      refine g_bipush (pc := 60) (v := 6) C (by decide) dL_clear_60 ?_
                                      refine g_icmp_ge (pc := 62) C 77 (by decide) dL_clear_62 (fun c_62 => ?_) (fun c_62 => ?_)
                                      · exact absurd c_62 (by decide)
                                      · refine g_aload (pc := 65) C 1 rfl dL_clear_65 ?_
                                        refine g_iload (pc := 67) C 0 rfl dL_clear_67 ?_
                                        refine g_iconst (pc := 69) (v := 0) C (by decide) dL_clear_69 ?_
                                        refine g_iast_n (pc := 70) C (j := 1) 3 [(lo, .inr (13, [.ref eo, .ref e1, .ref e2, .ref e3, .ref e4, .ref e5, .int (nI n), .int (nI z), .int sw])), (e1, aI k 6 (upd (upd (upd (upd (upd (upd f1 0 0) 1 0) 2 0) 3 0) 4 0) 5 0)), (e2, aI k 6 (upd (upd (upd (upd (upd (upd f2 0 0) 1 0) 2 0) 3 0) 4 0) 5 0)), (e3, aI k 6 (upd (upd f3 0 0) 1 0)), (e4, aI k 6 f4), (e5, aI k 6 f5), (q1, aR k 3 5 (va_up (va_up (va_up (va_up (va_up (fun _ => none) 0 (some e1)) 1 (some e2)) 2 (some e3)) 3 (some e4)) 4 (some e5)))] rfl (by omega) (by first | decide | omega) (by decide) rfl dL_clear_70 ?_
                                        refine g_iinc (pc := 71) (n := 1) (v := ((0 + 1) + 1)) C 0 [(5, .int ((0 + 1) + 1)), (4, .ref e3), (3, .int ((0 + 1) + 1)), (2, .int (nI 5)), (1, .ref q1), (0, .ref lo)] rfl rfl dL_clear_71 (by decide) rfl ?_
                                        refine g_goto (pc := 74) C 58 (by decide) dL_clear_74 ?_
                                        refine g_iload (pc := 58) C 0 rfl dL_clear_58 ?_
                                        refine g_bipush (pc := 60) (v := 6) C (by decide) dL_clear_60 ?_
                                        refine g_icmp_ge (pc := 62) C 77 (by decide) dL_clear_62 (fun c_62 => ?_) (fun c_62 => ?_)
                                        · exact absurd c_62 (by decide)
                                        · refine g_aload (pc := 65) C 1 rfl dL_clear_65 ?_
                                          refine g_iload (pc := 67) C 0 rfl dL_clear_67 ?_
                                          refine g_iconst (pc := 69) (v := 0) C (by decide) dL_clear_69 ?_
                                          refine g_iast_n (pc := 70) C (j := 2) 3 [(lo, .inr (13, [.ref eo, .ref e1, .ref e2, .ref e3, .ref e4, .ref e5, .int (nI n), .int (nI z), .int sw])), (e1, aI k 6 (upd (upd (upd (upd (upd (upd f1 0 0) 1 0) 2 0) 3 0) 4 0) 5 0)), (e2, aI k 6 (upd (upd (upd (upd (upd (upd f2 0 0) 1 0) 2 0) 3 0) 4 0) 5 0)), (e3, aI k 6 (upd (upd (upd f3 0 0) 1 0) 2 0)), (e4, aI k 6 f4), (e5, aI k 6 f5), (q1, aR k 3 5 (va_up (va_up (va_up (va_up (va_up (fun _ => none) 0 (some e1)) 1 (some e2)) 2 (some e3)) 3 (some e4)) 4 (some e5)))] rfl (by omega) (by first | decide | omega) (by decide) rfl dL_clear_70 ?_
                                          refine g_iinc (pc := 71) (n := 1) (v := (((0 + 1) + 1) + 1)) C 0 [(5, .int (((0 + 1) + 1) + 1)), (4, .ref e3), (3, .int ((0 + 1) + 1)), (2, .int (nI 5)), (1, .ref q1), (0, .ref lo)] rfl rfl dL_clear_71 (by decide) rfl ?_
                                          refine g_goto (pc := 74) C 58 (by decide) dL_clear_74 ?_
                                          refine g_iload (pc := 58) C 0 rfl dL_clear_58 ?_
                                          refine g_bipush (pc := 60) (v := 6) C (by decide) dL_clear_60 ?_
                                          refine g_icmp_ge (pc := 62) C 77 (by decide) dL_clear_62 (fun c_62 => ?_) (fun c_62 => ?_)
                                          · exact absurd c_62 (by decide)
                                          · refine g_aload (pc := 65) C 1 rfl dL_clear_65 ?_
                                            refine g_iload (pc := 67) C 0 rfl dL_clear_67 ?_
                                            refine g_iconst (pc := 69) (v := 0) C (by decide) dL_clear_69 ?_
                                            refine g_iast_n (pc := 70) C (j := 3) 3 [(lo, .inr (13, [.ref eo, .ref e1, .ref e2, .ref e3, .ref e4, .ref e5, .int (nI n), .int (nI z), .int sw])), (e1, aI k 6 (upd (upd (upd (upd (upd (upd f1 0 0) 1 0) 2 0) 3 0) 4 0) 5 0)), (e2, aI k 6 (upd (upd (upd (upd (upd (upd f2 0 0) 1 0) 2 0) 3 0) 4 0) 5 0)), (e3, aI k 6 (upd (upd (upd (upd f3 0 0) 1 0) 2 0) 3 0)), (e4, aI k 6 f4), (e5, aI k 6 f5), (q1, aR k 3 5 (va_up (va_up (va_up (va_up (va_up (fun _ => none) 0 (some e1)) 1 (some e2)) 2 (some e3)) 3 (some e4)) 4 (some e5)))] rfl (by omega) (by first | decide | omega) (by decide) rfl dL_clear_70 ?_
                                            refine g_iinc (pc := 71) (n := 1) (v := ((((0 + 1) + 1) + 1) + 1)) C 0 [(5, .int ((((0 + 1) + 1) + 1) + 1)), (4, .ref e3), (3, .int ((0 + 1) + 1)), (2, .int (nI 5)), (1, .ref q1), (0, .ref lo)] rfl rfl dL_clear_71 (by decide) rfl ?_
                                            refine g_goto (pc := 74) C 58 (by decide) dL_clear_74 ?_
                                            refine g_iload (pc := 58) C 0 rfl dL_clear_58 ?_
                                            refine g_bipush (pc := 60) (v := 6) C (by decide) dL_clear_60 ?_
                                            refine g_icmp_ge (pc := 62) C 77 (by decide) dL_clear_62 (fun c_62 => ?_) (fun c_62 => ?_)
                                            · exact absurd c_62 (by decide)
                                            · refine g_aload (pc := 65) C 1 rfl dL_clear_65 ?_
                                              refine g_iload (pc := 67) C 0 rfl dL_clear_67 ?_
                                              refine g_iconst (pc := 69) (v := 0) C (by decide) dL_clear_69 ?_
                                              refine g_iast_n (pc := 70) C (j := 4) 3 [(lo, .inr (13, [.ref eo, .ref e1, .ref e2, .ref e3, .ref e4, .ref e5, .int (nI n), .int (nI z), .int sw])), (e1, aI k 6 (upd (upd (upd (upd (upd (upd f1 0 0) 1 0) 2 0) 3 0) 4 0) 5 0)), (e2, aI k 6 (upd (upd (upd (upd (upd (upd f2 0 0) 1 0) 2 0) 3 0) 4 0) 5 0)), (e3, aI k 6 (upd (upd (upd (upd (upd f3 0 0) 1 0) 2 0) 3 0) 4 0)), (e4, aI k 6 f4), (e5, aI k 6 f5), (q1, aR k 3 5 (va_up (va_up (va_up (va_up (va_up (fun _ => none) 0 (some e1)) 1 (some e2)) 2 (some e3)) 3 (some e4)) 4 (some e5)))] rfl (by omega) (by first | decide | omega) (by decide) rfl dL_clear_70 ?_
                                              refine g_iinc (pc := 71) (n := 1) (v := (((((0 + 1) + 1) + 1) + 1) + 1)) C 0 [(5, .int (((((0 + 1) + 1) + 1) + 1) + 1)), (4, .ref e3), (3, .int ((0 + 1) + 1)), (2, .int (nI 5)), (1, .ref q1), (0, .ref lo)] rfl rfl dL_clear_71 (by decide) rfl ?_
                                              refine g_goto (pc := 74) C 58 (by decide) dL_clear_74 ?_
                                              refine g_iload (pc := 58) C 0 rfl dL_clear_58 ?_
                                              refine g_bipush (pc := 60) (v := 6) C (by decide) dL_clear_60 ?_
                                              refine g_icmp_ge (pc := 62) C 77 (by decide) dL_clear_62 (fun c_62 => ?_) (fun c_62 => ?_)
                                              · exact absurd c_62 (by decide)
                                              · refine g_aload (pc := 65) C 1 rfl dL_clear_65 ?_
                                                refine g_iload (pc := 67) C 0 rfl dL_clear_67 ?_
                                                refine g_iconst (pc := 69) (v := 0) C (by decide) dL_clear_69 ?_
                                                refine g_iast_n (pc := 70) C (j := 5) 3 [(lo, .inr (13, [.ref eo, .ref e1, .ref e2, .ref e3, .ref e4, .ref e5, .int (nI n), .int (nI z), .int sw])), (e1, aI k 6 (upd (upd (upd (upd (upd (upd f1 0 0) 1 0) 2 0) 3 0) 4 0) 5 0)), (e2, aI k 6 (upd (upd (upd (upd (upd (upd f2 0 0) 1 0) 2 0) 3 0) 4 0) 5 0)), (e3, aI k 6 (upd (upd (upd (upd (upd (upd f3 0 0) 1 0) 2 0) 3 0) 4 0) 5 0)), (e4, aI k 6 f4), (e5, aI k 6 f5), (q1, aR k 3 5 (va_up (va_up (va_up (va_up (va_up (fun _ => none) 0 (some e1)) 1 (some e2)) 2 (some e3)) 3 (some e4)) 4 (some e5)))] rfl (by omega) (by first | decide | omega) (by decide) rfl dL_clear_70 ?_
                                                refine g_iinc (pc := 71) (n := 1) (v := ((((((0 + 1) + 1) + 1) + 1) + 1) + 1)) C 0 [(5, .int ((((((0 + 1) + 1) + 1) + 1) + 1) + 1)), (4, .ref e3), (3, .int ((0 + 1) + 1)), (2, .int (nI 5)), (1, .ref q1), (0, .ref lo)] rfl rfl dL_clear_71 (by decide) rfl ?_
                                                refine g_goto (pc := 74) C 58 (by decide) dL_clear_74 ?_
                                                refine g_iload (pc := 58) C 0 rfl dL_clear_58 ?_
                                                refine g_bipush (pc := 60) (v := 6) C (by decide) dL_clear_60 ?_
                                                refine g_icmp_ge (pc := 62) C 77 (by decide) dL_clear_62 (fun c_62 => ?_) (fun c_62 => ?_)
                                                · refine g_iinc (pc := 77) (n := 1) (v := (((0 + 1) + 1) + 1)) C 2 [(3, .int (((0 + 1) + 1) + 1)), (5, .int ((((((0 + 1) + 1) + 1) + 1) + 1) + 1)), (4, .ref e3), (2, .int (nI 5)), (1, .ref q1), (0, .ref lo)] rfl rfl dL_clear_77 (by decide) rfl ?_
                                                  refine g_goto (pc := 80) C 45 (by decide) dL_clear_80 ?_
                                                  refine g_iload_n (pc := 45) C 0 rfl rfl dL_clear_45 ?_
                                                  refine g_iload_n (pc := 46) C 3 rfl rfl dL_clear_46 ?_
                                                  refine g_icmp_ge (pc := 47) C 83 (by decide) dL_clear_47 (fun c_47 => ?_) (fun c_47 => ?_)
                                                  · exact absurd c_47 (by decide)
                                                  · refine g_aload_n (pc := 50) C 4 rfl rfl dL_clear_50 ?_
                                                    refine g_iload_n (pc := 51) C 0 rfl rfl dL_clear_51 ?_
                                                    refine g_aald (pc := 52) C (j := 3) (b := e4) 6 rfl (by decide) (by decide) (by decide) rfl dL_clear_52 ?_
                                                    refine g_astore (pc := 53) C [(4, .ref e4), (3, .int (((0 + 1) + 1) + 1)), (5, .int ((((((0 + 1) + 1) + 1) + 1) + 1) + 1)), (2, .int (nI 5)), (1, .ref q1), (0, .ref lo)] dL_clear_53 (by decide) rfl ?_
                                                    refine g_iconst (pc := 55) (v := 0) C (by decide) dL_clear_55 ?_
                                                    refine g_istore (pc := 56) C [(5, .int 0), (4, .ref e4), (3, .int (((0 + 1) + 1) + 1)), (2, .int (nI 5)), (1, .ref q1), (0, .ref lo)] dL_clear_56 (by decide) rfl ?_
                                                    refine g_iload (pc := 58) C 0 rfl dL_clear_58 ?_
                                                    refine g_bipush (pc := 60) (v := 6) C (by decide) dL_clear_60 ?_
                                                    refine g_icmp_ge (pc := 62) C 77 (by decide) dL_clear_62 (fun c_62 => ?_) (fun c_62 => ?_)
                                                    · exact absurd c_62 (by decide)
                                                    · refine g_aload (pc := 65) C 1 rfl dL_clear_65 ?_
                                                      refine g_iload (pc := 67) C 0 rfl dL_clear_67 ?_
                                                      refine g_iconst (pc := 69) (v := 0) C (by decide) dL_clear_69 ?_
                                                      refine g_iast_n (pc := 70) C (j := 0) 4 [(lo, .inr (13, [.ref eo, .ref e1, .ref e2, .ref e3, .ref e4, .ref e5, .int (nI n), .int (nI z), .int sw])), (e1, aI k 6 (upd (upd (upd (upd (upd (upd f1 0 0) 1 0) 2 0) 3 0) 4 0) 5 0)), (e2, aI k 6 (upd (upd (upd (upd (upd (upd f2 0 0) 1 0) 2 0) 3 0) 4 0) 5 0)), (e3, aI k 6 (upd (upd (upd (upd (upd (upd f3 0 0) 1 0) 2 0) 3 0) 4 0) 5 0)), (e4, aI k 6 (upd f4 0 0)), (e5, aI k 6 f5), (q1, aR k 3 5 (va_up (va_up (va_up (va_up (va_up (fun _ => none) 0 (some e1)) 1 (some e2)) 2 (some e3)) 3 (some e4)) 4 (some e5)))] rfl (by omega) (by first | decide | omega) (by decide) rfl dL_clear_70 ?_
                                                      refine g_iinc (pc := 71) (n := 1) (v := (0 + 1)) C 0 [(5, .int (0 + 1)), (4, .ref e4), (3, .int (((0 + 1) + 1) + 1)), (2, .int (nI 5)), (1, .ref q1), (0, .ref lo)] rfl rfl dL_clear_71 (by decide) rfl ?_
                                                      refine g_goto (pc := 74) C 58 (by decide) dL_clear_74 ?_
                                                      refine g_iload (pc := 58) C 0 rfl dL_clear_58 ?_
                                                      refine g_bipush (pc := 60) (v := 6) C (by decide) dL_clear_60 ?_
                                                      refine g_icmp_ge (pc := 62) C 77 (by decide) dL_clear_62 (fun c_62 => ?_) (fun c_62 => ?_)
                                                      · exact absurd c_62 (by decide)
                                                      · refine g_aload (pc := 65) C 1 rfl dL_clear_65 ?_
                                                        refine g_iload (pc := 67) C 0 rfl dL_clear_67 ?_
                                                        refine g_iconst (pc := 69) (v := 0) C (by decide) dL_clear_69 ?_
                                                        refine g_iast_n (pc := 70) C (j := 1) 4 [(lo, .inr (13, [.ref eo, .ref e1, .ref e2, .ref e3, .ref e4, .ref e5, .int (nI n), .int (nI z), .int sw])), (e1, aI k 6 (upd (upd (upd (upd (upd (upd f1 0 0) 1 0) 2 0) 3 0) 4 0) 5 0)), (e2, aI k 6 (upd (upd (upd (upd (upd (upd f2 0 0) 1 0) 2 0) 3 0) 4 0) 5 0)), (e3, aI k 6 (upd (upd (upd (upd (upd (upd f3 0 0) 1 0) 2 0) 3 0) 4 0) 5 0)), (e4, aI k 6 (upd (upd f4 0 0) 1 0)), (e5, aI k 6 f5), (q1, aR k 3 5 (va_up (va_up (va_up (va_up (va_up (fun _ => none) 0 (some e1)) 1 (some e2)) 2 (some e3)) 3 (some e4)) 4 (some e5)))] rfl (by omega) (by first | decide | omega) (by decide) rfl dL_clear_70 ?_
                                                        refine g_iinc (pc := 71) (n := 1) (v := ((0 + 1) + 1)) C 0 [(5, .int ((0 + 1) + 1)), (4, .ref e4), (3, .int (((0 + 1) + 1) + 1)), (2, .int (nI 5)), (1, .ref q1), (0, .ref lo)] rfl rfl dL_clear_71 (by decide) rfl ?_
                                                        refine g_goto (pc := 74) C 58 (by decide) dL_clear_74 ?_
                                                        refine g_iload (pc := 58) C 0 rfl dL_clear_58 ?_
                                                        refine g_bipush (pc := 60) (v := 6) C (by decide) dL_clear_60 ?_
                                                        refine g_icmp_ge (pc := 62) C 77 (by decide) dL_clear_62 (fun c_62 => ?_) (fun c_62 => ?_)
                                                        · exact absurd c_62 (by decide)
                                                        · refine g_aload (pc := 65) C 1 rfl dL_clear_65 ?_
                                                          refine g_iload (pc := 67) C 0 rfl dL_clear_67 ?_
                                                          refine g_iconst (pc := 69) (v := 0) C (by decide) dL_clear_69 ?_
                                                          refine g_iast_n (pc := 70) C (j := 2) 4 [(lo, .inr (13, [.ref eo, .ref e1, .ref e2, .ref e3, .ref e4, .ref e5, .int (nI n), .int (nI z), .int sw])), (e1, aI k 6 (upd (upd (upd (upd (upd (upd f1 0 0) 1 0) 2 0) 3 0) 4 0) 5 0)), (e2, aI k 6 (upd (upd (upd (upd (upd (upd f2 0 0) 1 0) 2 0) 3 0) 4 0) 5 0)), (e3, aI k 6 (upd (upd (upd (upd (upd (upd f3 0 0) 1 0) 2 0) 3 0) 4 0) 5 0)), (e4, aI k 6 (upd (upd (upd f4 0 0) 1 0) 2 0)), (e5, aI k 6 f5), (q1, aR k 3 5 (va_up (va_up (va_up (va_up (va_up (fun _ => none) 0 (some e1)) 1 (some e2)) 2 (some e3)) 3 (some e4)) 4 (some e5)))] rfl (by omega) (by first | decide | omega) (by decide) rfl dL_clear_70 ?_
                                                          refine g_iinc (pc := 71) (n := 1) (v := (((0 + 1) + 1) + 1)) C 0 [(5, .int (((0 + 1) + 1) + 1)), (4, .ref e4), (3, .int (((0 + 1) + 1) + 1)), (2, .int (nI 5)), (1, .ref q1), (0, .ref lo)] rfl rfl dL_clear_71 (by decide) rfl ?_
                                                          refine g_goto (pc := 74) C 58 (by decide) dL_clear_74 ?_
                                                          refine g_iload (pc := 58) C 0 rfl dL_clear_58 ?_
                                                          refine g_bipush (pc := 60) (v := 6) C (by decide) dL_clear_60 ?_
                                                          refine g_icmp_ge (pc := 62) C 77 (by decide) dL_clear_62 (fun c_62 => ?_) (fun c_62 => ?_)
                                                          · exact absurd c_62 (by decide)
                                                          · refine g_aload (pc := 65) C 1 rfl dL_clear_65 ?_
                                                            refine g_iload (pc := 67) C 0 rfl dL_clear_67 ?_
                                                            refine g_iconst (pc := 69) (v := 0) C (by decide) dL_clear_69 ?_
                                                            refine g_iast_n (pc := 70) C (j := 3) 4 [(lo, .inr (13, [.ref eo, .ref e1, .ref e2, .ref e3, .ref e4, .ref e5, .int (nI n), .int (nI z), .int sw])), (e1, aI k 6 (upd (upd (upd (upd (upd (upd f1 0 0) 1 0) 2 0) 3 0) 4 0) 5 0)), (e2, aI k 6 (upd (upd (upd (upd (upd (upd f2 0 0) 1 0) 2 0) 3 0) 4 0) 5 0)), (e3, aI k 6 (upd (upd (upd (upd (upd (upd f3 0 0) 1 0) 2 0) 3 0) 4 0) 5 0)), (e4, aI k 6 (upd (upd (upd (upd f4 0 0) 1 0) 2 0) 3 0)), (e5, aI k 6 f5), (q1, aR k 3 5 (va_up (va_up (va_up (va_up (va_up (fun _ => none) 0 (some e1)) 1 (some e2)) 2 (some e3)) 3 (some e4)) 4 (some e5)))] rfl (by omega) (by first | decide | omega) (by decide) rfl dL_clear_70 ?_
                                                            refine g_iinc (pc := 71) (n := 1) (v := ((((0 + 1) + 1) + 1) + 1)) C 0 [(5, .int ((((0 + 1) + 1) + 1) + 1)), (4, .ref e4), (3, .int (((0 + 1) + 1) + 1)), (2, .int (nI 5)), (1, .ref q1), (0, .ref lo)] rfl rfl dL_clear_71 (by decide) rfl ?_
                                                            refine g_goto (pc := 74) C 58 (by decide) dL_clear_74 ?_
                                                            refine g_iload (pc := 58) C 0 rfl dL_clear_58 ?_
                                                            refine g_bipush (pc := 60) (v := 6) C (by decide) dL_clear_60 ?_
                                                            refine g_icmp_ge (pc := 62) C 77 (by decide) dL_clear_62 (fun c_62 => ?_) (fun c_62 => ?_)
                                                            · exact absurd c_62 (by decide)
                                                            · refine g_aload (pc := 65) C 1 rfl dL_clear_65 ?_
                                                              refine g_iload (pc := 67) C 0 rfl dL_clear_67 ?_
                                                              refine g_iconst (pc := 69) (v := 0) C (by decide) dL_clear_69 ?_
                                                              refine g_iast_n (pc := 70) C (j := 4) 4 [(lo, .inr (13, [.ref eo, .ref e1, .ref e2, .ref e3, .ref e4, .ref e5, .int (nI n), .int (nI z), .int sw])), (e1, aI k 6 (upd (upd (upd (upd (upd (upd f1 0 0) 1 0) 2 0) 3 0) 4 0) 5 0)), (e2, aI k 6 (upd (upd (upd (upd (upd (upd f2 0 0) 1 0) 2 0) 3 0) 4 0) 5 0)), (e3, aI k 6 (upd (upd (upd (upd (upd (upd f3 0 0) 1 0) 2 0) 3 0) 4 0) 5 0)), (e4, aI k 6 (upd (upd (upd (upd (upd f4 0 0) 1 0) 2 0) 3 0) 4 0)), (e5, aI k 6 f5), (q1, aR k 3 5 (va_up (va_up (va_up (va_up (va_up (fun _ => none) 0 (some e1)) 1 (some e2)) 2 (some e3)) 3 (some e4)) 4 (some e5)))] rfl (by omega) (by first | decide | omega) (by decide) rfl dL_clear_70 ?_
                                                              refine g_iinc (pc := 71) (n := 1) (v := (((((0 + 1) + 1) + 1) + 1) + 1)) C 0 [(5, .int (((((0 + 1) + 1) + 1) + 1) + 1)), (4, .ref e4), (3, .int (((0 + 1) + 1) + 1)), (2, .int (nI 5)), (1, .ref q1), (0, .ref lo)] rfl rfl dL_clear_71 (by decide) rfl ?_
                                                              refine g_goto (pc := 74) C 58 (by decide) dL_clear_74 ?_
                                                              refine g_iload (pc := 58) C 0 rfl dL_clear_58 ?_
                                                              refine g_bipush (pc := 60) (v := 6) C (by decide) dL_clear_60 ?_
                                                              refine g_icmp_ge (pc := 62) C 77 (by decide) dL_clear_62 (fun c_62 => ?_) (fun c_62 => ?_)
                                                              · exact absurd c_62 (by decide)
                                                              · refine g_aload (pc := 65) C 1 rfl dL_clear_65 ?_
                                                                refine g_iload (pc := 67) C 0 rfl dL_clear_67 ?_
                                                                refine g_iconst (pc := 69) (v := 0) C (by decide) dL_clear_69 ?_
                                                                refine g_iast_n (pc := 70) C (j := 5) 4 [(lo, .inr (13, [.ref eo, .ref e1, .ref e2, .ref e3, .ref e4, .ref e5, .int (nI n), .int (nI z), .int sw])), (e1, aI k 6 (upd (upd (upd (upd (upd (upd f1 0 0) 1 0) 2 0) 3 0) 4 0) 5 0)), (e2, aI k 6 (upd (upd (upd (upd (upd (upd f2 0 0) 1 0) 2 0) 3 0) 4 0) 5 0)), (e3, aI k 6 (upd (upd (upd (upd (upd (upd f3 0 0) 1 0) 2 0) 3 0) 4 0) 5 0)), (e4, aI k 6 (upd (upd (upd (upd (upd (upd f4 0 0) 1 0) 2 0) 3 0) 4 0) 5 0)), (e5, aI k 6 f5), (q1, aR k 3 5 (va_up (va_up (va_up (va_up (va_up (fun _ => none) 0 (some e1)) 1 (some e2)) 2 (some e3)) 3 (some e4)) 4 (some e5)))] rfl (by omega) (by first | decide | omega) (by decide) rfl dL_clear_70 ?_
                                                                refine g_iinc (pc := 71) (n := 1) (v := ((((((0 + 1) + 1) + 1) + 1) + 1) + 1)) C 0 [(5, .int ((((((0 + 1) + 1) + 1) + 1) + 1) + 1)), (4, .ref e4), (3, .int (((0 + 1) + 1) + 1)), (2, .int (nI 5)), (1, .ref q1), (0, .ref lo)] rfl rfl dL_clear_71 (by decide) rfl ?_
                                                                refine g_goto (pc := 74) C 58 (by decide) dL_clear_74 ?_
                                                                refine g_iload (pc := 58) C 0 rfl dL_clear_58 ?_
                                                                refine g_bipush (pc := 60) (v := 6) C (by decide) dL_clear_60 ?_
                                                                refine g_icmp_ge (pc := 62) C 77 (by decide) dL_clear_62 (fun c_62 => ?_) (fun c_62 => ?_)
                                                                · refine g_iinc (pc := 77) (n := 1) (v := ((((0 + 1) + 1) + 1) + 1)) C 2 [(3, .int ((((0 + 1) + 1) + 1) + 1)), (5, .int ((((((0 + 1) + 1) + 1) + 1) + 1) + 1)), (4, .ref e4), (2, .int (nI 5)), (1, .ref q1), (0, .ref lo)] rfl rfl dL_clear_77 (by decide) rfl ?_
                                                                  refine g_goto (pc := 80) C 45 (by decide) dL_clear_80 ?_
                                                                  refine g_iload_n (pc := 45) C 0 rfl rfl dL_clear_45 ?_
                                                                  refine g_iload_n (pc := 46) C 3 rfl rfl dL_clear_46 ?_
                                                                  refine g_icmp_ge (pc := 47) C 83 (by decide) dL_clear_47 (fun c_47 => ?_) (fun c_47 => ?_)
                                                                  · exact absurd c_47 (by decide)
                                                                  · refine g_aload_n (pc := 50) C 4 rfl rfl dL_clear_50 ?_
                                                                    refine g_iload_n (pc := 51) C 0 rfl rfl dL_clear_51 ?_
                                                                    refine g_aald (pc := 52) C (j := 4) (b := e5) 6 rfl (by decide) (by decide) (by decide) rfl dL_clear_52 ?_
                                                                    refine g_astore (pc := 53) C [(4, .ref e5), (3, .int ((((0 + 1) + 1) + 1) + 1)), (5, .int ((((((0 + 1) + 1) + 1) + 1) + 1) + 1)), (2, .int (nI 5)), (1, .ref q1), (0, .ref lo)] dL_clear_53 (by decide) rfl ?_
                                                                    refine g_iconst (pc := 55) (v := 0) C (by decide) dL_clear_55 ?_
                                                                    refine g_istore (pc := 56) C [(5, .int 0), (4, .ref e5), (3, .int ((((0 + 1) + 1) + 1) + 1)), (2, .int (nI 5)), (1, .ref q1), (0, .ref lo)] dL_clear_56 (by decide) rfl ?_
                                                                    refine g_iload (pc := 58) C 0 rfl dL_clear_58 ?_
                                                                    refine g_bipush (pc := 60) (v := 6) C (by decide) dL_clear_60 ?_
                                                                    refine g_icmp_ge (pc := 62) C 77 (by decide) dL_clear_62 (fun c_62 => ?_) (fun c_62 => ?_)
                                                                    · exact absurd c_62 (by decide)
                                                                    · refine g_aload (pc := 65) C 1 rfl dL_clear_65 ?_
                                                                      refine g_iload (pc := 67) C 0 rfl dL_clear_67 ?_
                                                                      refine g_iconst (pc := 69) (v := 0) C (by decide) dL_clear_69 ?_
                                                                      refine g_iast_n (pc := 70) C (j := 0) 5 [(lo, .inr (13, [.ref eo, .ref e1, .ref e2, .ref e3, .ref e4, .ref e5, .int (nI n), .int (nI z), .int sw])), (e1, aI k 6 (upd (upd (upd (upd (upd (upd f1 0 0) 1 0) 2 0) 3 0) 4 0) 5 0)), (e2, aI k 6 (upd (upd (upd (upd (upd (upd f2 0 0) 1 0) 2 0) 3 0) 4 0) 5 0)), (e3, aI k 6 (upd (upd (upd (upd (upd (upd f3 0 0) 1 0) 2 0) 3 0) 4 0) 5 0)), (e4, aI k 6 (upd (upd (upd (upd (upd (upd f4 0 0) 1 0) 2 0) 3 0) 4 0) 5 0)), (e5, aI k 6 (upd f5 0 0)), (q1, aR k 3 5 (va_up (va_up (va_up (va_up (va_up (fun _ => none) 0 (some e1)) 1 (some e2)) 2 (some e3)) 3 (some e4)) 4 (some e5)))] rfl (by omega) (by first | decide | omega) (by decide) rfl dL_clear_70 ?_
                                                                      refine g_iinc (pc := 71) (n := 1) (v := (0 + 1)) C 0 [(5, .int (0 + 1)), (4, .ref e5), (3, .int ((((0 + 1) + 1) + 1) + 1)), (2, .int (nI 5)), (1, .ref q1), (0, .ref lo)] rfl rfl dL_clear_71 (by decide) rfl ?_
                                                                      refine g_goto (pc := 74) C 58 (by decide) dL_clear_74 ?_
                                                                      refine g_iload (pc := 58) C 0 rfl dL_clear_58 ?_
                                                                      refine g_bipush (pc := 60) (v := 6) C (by decide) dL_clear_60 ?_
                                                                      refine g_icmp_ge (pc := 62) C 77 (by decide) dL_clear_62 (fun c_62 => ?_) (fun c_62 => ?_)
                                                                      · exact absurd c_62 (by decide)
                                                                      · refine g_aload (pc := 65) C 1 rfl dL_clear_65 ?_
                                                                        refine g_iload (pc := 67) C 0 rfl dL_clear_67 ?_
                                                                        refine g_iconst (pc := 69) (v := 0) C (by decide) dL_clear_69 ?_
                                                                        refine g_iast_n (pc := 70) C (j := 1) 5 [(lo, .inr (13, [.ref eo, .ref e1, .ref e2, .ref e3, .ref e4, .ref e5, .int (nI n), .int (nI z), .int sw])), (e1, aI k 6 (upd (upd (upd (upd (upd (upd f1 0 0) 1 0) 2 0) 3 0) 4 0) 5 0)), (e2, aI k 6 (upd (upd (upd (upd (upd (upd f2 0 0) 1 0) 2 0) 3 0) 4 0) 5 0)), (e3, aI k 6 (upd (upd (upd (upd (upd (upd f3 0 0) 1 0) 2 0) 3 0) 4 0) 5 0)), (e4, aI k 6 (upd (upd (upd (upd (upd (upd f4 0 0) 1 0) 2 0) 3 0) 4 0) 5 0)), (e5, aI k 6 (upd (upd f5 0 0) 1 0)), (q1, aR k 3 5 (va_up (va_up (va_up (va_up (va_up (fun _ => none) 0 (some e1)) 1 (some e2)) 2 (some e3)) 3 (some e4)) 4 (some e5)))] rfl (by omega) (by first | decide | omega) (by decide) rfl dL_clear_70 ?_
                                                                        refine g_iinc (pc := 71) (n := 1) (v := ((0 + 1) + 1)) C 0 [(5, .int ((0 + 1) + 1)), (4, .ref e5), (3, .int ((((0 + 1) + 1) + 1) + 1)), (2, .int (nI 5)), (1, .ref q1), (0, .ref lo)] rfl rfl dL_clear_71 (by decide) rfl ?_
                                                                        refine g_goto (pc := 74) C 58 (by decide) dL_clear_74 ?_
                                                                        refine g_iload (pc := 58) C 0 rfl dL_clear_58 ?_
                                                                        refine g_bipush (pc := 60) (v := 6) C (by decide) dL_clear_60 ?_
                                                                        refine g_icmp_ge (pc := 62) C 77 (by decide) dL_clear_62 (fun c_62 => ?_) (fun c_62 => ?_)
                                                                        · exact absurd c_62 (by decide)
                                                                        · refine g_aload (pc := 65) C 1 rfl dL_clear_65 ?_
                                                                          refine g_iload (pc := 67) C 0 rfl dL_clear_67 ?_
                                                                          refine g_iconst (pc := 69) (v := 0) C (by decide) dL_clear_69 ?_
                                                                          refine g_iast_n (pc := 70) C (j := 2) 5 [(lo, .inr (13, [.ref eo, .ref e1, .ref e2, .ref e3, .ref e4, .ref e5, .int (nI n), .int (nI z), .int sw])), (e1, aI k 6 (upd (upd (upd (upd (upd (upd f1 0 0) 1 0) 2 0) 3 0) 4 0) 5 0)), (e2, aI k 6 (upd (upd (upd (upd (upd (upd f2 0 0) 1 0) 2 0) 3 0) 4 0) 5 0)), (e3, aI k 6 (upd (upd (upd (upd (upd (upd f3 0 0) 1 0) 2 0) 3 0) 4 0) 5 0)), (e4, aI k 6 (upd (upd (upd (upd (upd (upd f4 0 0) 1 0) 2 0) 3 0) 4 0) 5 0)), (e5, aI k 6 (upd (upd (upd f5 0 0) 1 0) 2 0)), (q1, aR k 3 5 (va_up (va_up (va_up (va_up (va_up (fun _ => none) 0 (some e1)) 1 (some e2)) 2 (some e3)) 3 (some e4)) 4 (some e5)))] rfl (by omega) (by first | decide | omega) (by decide) rfl dL_clear_70 ?_
                                                                          refine g_iinc (pc := 71) (n := 1) (v := (((0 + 1) + 1) + 1)) C 0 [(5, .int (((0 + 1) + 1) + 1)), (4, .ref e5), (3, .int ((((0 + 1) + 1) + 1) + 1)), (2, .int (nI 5)), (1, .ref q1), (0, .ref lo)] rfl rfl dL_clear_71 (by decide) rfl ?_
                                                                          refine g_goto (pc := 74) C 58 (by decide) dL_clear_74 ?_
                                                                          refine g_iload (pc := 58) C 0 rfl dL_clear_58 ?_
                                                                          refine g_bipush (pc := 60) (v := 6) C (by decide) dL_clear_60 ?_
                                                                          refine g_icmp_ge (pc := 62) C 77 (by decide) dL_clear_62 (fun c_62 => ?_) (fun c_62 => ?_)
                                                                          · exact absurd c_62 (by decide)
                                                                          · refine g_aload (pc := 65) C 1 rfl dL_clear_65 ?_
                                                                            refine g_iload (pc := 67) C 0 rfl dL_clear_67 ?_
                                                                            refine g_iconst (pc := 69) (v := 0) C (by decide) dL_clear_69 ?_
                                                                            refine g_iast_n (pc := 70) C (j := 3) 5 [(lo, .inr (13, [.ref eo, .ref e1, .ref e2, .ref e3, .ref e4, .ref e5, .int (nI n), .int (nI z), .int sw])), (e1, aI k 6 (upd (upd (upd (upd (upd (upd f1 0 0) 1 0) 2 0) 3 0) 4 0) 5 0)), (e2, aI k 6 (upd (upd (upd (upd (upd (upd f2 0 0) 1 0) 2 0) 3 0) 4 0) 5 0)), (e3, aI k 6 (upd (upd (upd (upd (upd (upd f3 0 0) 1 0) 2 0) 3 0) 4 0) 5 0)), (e4, aI k 6 (upd (upd (upd (upd (upd (upd f4 0 0) 1 0) 2 0) 3 0) 4 0) 5 0)), (e5, aI k 6 (upd (upd (upd (upd f5 0 0) 1 0) 2 0) 3 0)), (q1, aR k 3 5 (va_up (va_up (va_up (va_up (va_up (fun _ => none) 0 (some e1)) 1 (some e2)) 2 (some e3)) 3 (some e4)) 4 (some e5)))] rfl (by omega) (by first | decide | omega) (by decide) rfl dL_clear_70 ?_
                                                                            refine g_iinc (pc := 71) (n := 1) (v := ((((0 + 1) + 1) + 1) + 1)) C 0 [(5, .int ((((0 + 1) + 1) + 1) + 1)), (4, .ref e5), (3, .int ((((0 + 1) + 1) + 1) + 1)), (2, .int (nI 5)), (1, .ref q1), (0, .ref lo)] rfl rfl dL_clear_71 (by decide) rfl ?_
                                                                            refine g_goto (pc := 74) C 58 (by decide) dL_clear_74 ?_
                                                                            refine g_iload (pc := 58) C 0 rfl dL_clear_58 ?_
                                                                            refine g_bipush (pc := 60) (v := 6) C (by decide) dL_clear_60 ?_
                                                                            refine g_icmp_ge (pc := 62) C 77 (by decide) dL_clear_62 (fun c_62 => ?_) (fun c_62 => ?_)
                                                                            · exact absurd c_62 (by decide)
                                                                            · refine g_aload (pc := 65) C 1 rfl dL_clear_65 ?_
                                                                              refine g_iload (pc := 67) C 0 rfl dL_clear_67 ?_
                                                                              refine g_iconst (pc := 69) (v := 0) C (by decide) dL_clear_69 ?_
                                                                              refine g_iast_n (pc := 70) C (j := 4) 5 [(lo, .inr (13, [.ref eo, .ref e1, .ref e2, .ref e3, .ref e4, .ref e5, .int (nI n), .int (nI z), .int sw])), (e1, aI k 6 (upd (upd (upd (upd (upd (upd f1 0 0) 1 0) 2 0) 3 0) 4 0) 5 0)), (e2, aI k 6 (upd (upd (upd (upd (upd (upd f2 0 0) 1 0) 2 0) 3 0) 4 0) 5 0)), (e3, aI k 6 (upd (upd (upd (upd (upd (upd f3 0 0) 1 0) 2 0) 3 0) 4 0) 5 0)), (e4, aI k 6 (upd (upd (upd (upd (upd (upd f4 0 0) 1 0) 2 0) 3 0) 4 0) 5 0)), (e5, aI k 6 (upd (upd (upd (upd (upd f5 0 0) 1 0) 2 0) 3 0) 4 0)), (q1, aR k 3 5 (va_up (va_up (va_up (va_up (va_up (fun _ => none) 0 (some e1)) 1 (some e2)) 2 (some e3)) 3 (some e4)) 4 (some e5)))] rfl (by omega) (by first | decide | omega) (by decide) rfl dL_clear_70 ?_
                                                                              refine g_iinc (pc := 71) (n := 1) (v := (((((0 + 1) + 1) + 1) + 1) + 1)) C 0 [(5, .int (((((0 + 1) + 1) + 1) + 1) + 1)), (4, .ref e5), (3, .int ((((0 + 1) + 1) + 1) + 1)), (2, .int (nI 5)), (1, .ref q1), (0, .ref lo)] rfl rfl dL_clear_71 (by decide) rfl ?_
                                                                              refine g_goto (pc := 74) C 58 (by decide) dL_clear_74 ?_
                                                                              refine g_iload (pc := 58) C 0 rfl dL_clear_58 ?_
                                                                              refine g_bipush (pc := 60) (v := 6) C (by decide) dL_clear_60 ?_
                                                                              refine g_icmp_ge (pc := 62) C 77 (by decide) dL_clear_62 (fun c_62 => ?_) (fun c_62 => ?_)
                                                                              · exact absurd c_62 (by decide)
                                                                              · refine g_aload (pc := 65) C 1 rfl dL_clear_65 ?_
                                                                                refine g_iload (pc := 67) C 0 rfl dL_clear_67 ?_
                                                                                refine g_iconst (pc := 69) (v := 0) C (by decide) dL_clear_69 ?_
                                                                                refine g_iast_n (pc := 70) C (j := 5) 5 [(lo, .inr (13, [.ref eo, .ref e1, .ref e2, .ref e3, .ref e4, .ref e5, .int (nI n), .int (nI z), .int sw])), (e1, aI k 6 (upd (upd (upd (upd (upd (upd f1 0 0) 1 0) 2 0) 3 0) 4 0) 5 0)), (e2, aI k 6 (upd (upd (upd (upd (upd (upd f2 0 0) 1 0) 2 0) 3 0) 4 0) 5 0)), (e3, aI k 6 (upd (upd (upd (upd (upd (upd f3 0 0) 1 0) 2 0) 3 0) 4 0) 5 0)), (e4, aI k 6 (upd (upd (upd (upd (upd (upd f4 0 0) 1 0) 2 0) 3 0) 4 0) 5 0)), (e5, aI k 6 (upd (upd (upd (upd (upd (upd f5 0 0) 1 0) 2 0) 3 0) 4 0) 5 0)), (q1, aR k 3 5 (va_up (va_up (va_up (va_up (va_up (fun _ => none) 0 (some e1)) 1 (some e2)) 2 (some e3)) 3 (some e4)) 4 (some e5)))] rfl (by omega) (by first | decide | omega) (by decide) rfl dL_clear_70 ?_
                                                                                refine g_iinc (pc := 71) (n := 1) (v := ((((((0 + 1) + 1) + 1) + 1) + 1) + 1)) C 0 [(5, .int ((((((0 + 1) + 1) + 1) + 1) + 1) + 1)), (4, .ref e5), (3, .int ((((0 + 1) + 1) + 1) + 1)), (2, .int (nI 5)), (1, .ref q1), (0, .ref lo)] rfl rfl dL_clear_71 (by decide) rfl ?_
                                                                                refine g_goto (pc := 74) C 58 (by decide) dL_clear_74 ?_
                                                                                refine g_iload (pc := 58) C 0 rfl dL_clear_58 ?_
                                                                                refine g_bipush (pc := 60) (v := 6) C (by decide) dL_clear_60 ?_
                                                                                refine g_icmp_ge (pc := 62) C 77 (by decide) dL_clear_62 (fun c_62 => ?_) (fun c_62 => ?_)
                                                                                · refine g_iinc (pc := 77) (n := 1) (v := (((((0 + 1) + 1) + 1) + 1) + 1)) C 2 [(3, .int (((((0 + 1) + 1) + 1) + 1) + 1)), (5, .int ((((((0 + 1) + 1) + 1) + 1) + 1) + 1)), (4, .ref e5), (2, .int (nI 5)), (1, .ref q1), (0, .ref lo)] rfl rfl dL_clear_77 (by decide) rfl ?_
                                                                                  refine g_goto (pc := 80) C 45 (by decide) dL_clear_80 ?_
                                                                                  refine g_iload_n (pc := 45) C 0 rfl rfl dL_clear_45 ?_
                                                                                  refine g_iload_n (pc := 46) C 3 rfl rfl dL_clear_46 ?_
                                                                                  refine g_icmp_ge (pc := 47) C 83 (by decide) dL_clear_47 (fun c_47 => ?_) (fun c_47 => ?_)
                                                                                  · refine g_aload_n (pc := 83) C 5 rfl rfl dL_clear_83 ?_
                                                                                    refine g_iconst (pc := 84) (v := 0) C (by decide) dL_clear_84 ?_
                                                                                    refine g_put (pc := 85) C (T := TXL) inXL 0 rfl rfl 8 (by decide) q_565 rfl tyXL tyXL_ok nmXL rfl [(lo, .inr (13, [.ref eo, .ref e1, .ref e2, .ref e3, .ref e4, .ref e5, .int (nI n), .int (nI z), .int 0])), (e1, aI k 6 (upd (upd (upd (upd (upd (upd f1 0 0) 1 0) 2 0) 3 0) 4 0) 5 0)), (e2, aI k 6 (upd (upd (upd (upd (upd (upd f2 0 0) 1 0) 2 0) 3 0) 4 0) 5 0)), (e3, aI k 6 (upd (upd (upd (upd (upd (upd f3 0 0) 1 0) 2 0) 3 0) 4 0) 5 0)), (e4, aI k 6 (upd (upd (upd (upd (upd (upd f4 0 0) 1 0) 2 0) 3 0) 4 0) 5 0)), (e5, aI k 6 (upd (upd (upd (upd (upd (upd f5 0 0) 1 0) 2 0) 3 0) 4 0) 5 0)), (q1, aR k 3 5 (va_up (va_up (va_up (va_up (va_up (fun _ => none) 0 (some e1)) 1 (some e2)) 2 (some e3)) 3 (some e4)) 4 (some e5)))] (tyXL_ok 8 (by decide)) rfl (by rfl) (Nat.le_of_ble_eq_true rfl) rfl dL_clear_85 ?_
                                                                                    refine G.re [0, 1, 2, 3, 4, 5] (ws' := [(lo, .inr (13, [.ref eo, .ref e1, .ref e2, .ref e3, .ref e4, .ref e5, .int (nI n), .int (nI z), .int 0])), (e1, aI k 6 (upd (upd (upd (upd (upd (upd f1 0 0) 1 0) 2 0) 3 0) 4 0) 5 0)), (e2, aI k 6 (upd (upd (upd (upd (upd (upd f2 0 0) 1 0) 2 0) 3 0) 4 0) 5 0)), (e3, aI k 6 (upd (upd (upd (upd (upd (upd f3 0 0) 1 0) 2 0) 3 0) 4 0) 5 0)), (e4, aI k 6 (upd (upd (upd (upd (upd (upd f4 0 0) 1 0) 2 0) 3 0) 4 0) 5 0)), (e5, aI k 6 (upd (upd (upd (upd (upd (upd f5 0 0) 1 0) 2 0) 3 0) 4 0) 5 0))]) (by decide) rfl ?_
                                                                                    refine G.fn (fun _ => 0) 1 [(lo, .inr (13, [.ref eo, .ref e1, .ref e2, .ref e3, .ref e4, .ref e5, .int (nI n), .int (nI z), .int 0])), (e1, aI k 6 (fun _ => 0)), (e2, aI k 6 (upd (upd (upd (upd (upd (upd f2 0 0) 1 0) 2 0) 3 0) 4 0) 5 0)), (e3, aI k 6 (upd (upd (upd (upd (upd (upd f3 0 0) 1 0) 2 0) 3 0) 4 0) 5 0)), (e4, aI k 6 (upd (upd (upd (upd (upd (upd f4 0 0) 1 0) 2 0) 3 0) 4 0) 5 0)), (e5, aI k 6 (upd (upd (upd (upd (upd (upd f5 0 0) 1 0) 2 0) 3 0) 4 0) 5 0))] rfl (fun j hj => by { rcases (show j = 0 ∨ j = 1 ∨ j = 2 ∨ j = 3 ∨ j = 4 ∨ j = 5 by omega) with rfl | rfl | rfl | rfl | rfl | rfl <;> rfl }) rfl ?_
                                                                                    refine G.fn (fun _ => 0) 2 [(lo, .inr (13, [.ref eo, .ref e1, .ref e2, .ref e3, .ref e4, .ref e5, .int (nI n), .int (nI z), .int 0])), (e1, aI k 6 (fun _ => 0)), (e2, aI k 6 (fun _ => 0)), (e3, aI k 6 (upd (upd (upd (upd (upd (upd f3 0 0) 1 0) 2 0) 3 0) 4 0) 5 0)), (e4, aI k 6 (upd (upd (upd (upd (upd (upd f4 0 0) 1 0) 2 0) 3 0) 4 0) 5 0)), (e5, aI k 6 (upd (upd (upd (upd (upd (upd f5 0 0) 1 0) 2 0) 3 0) 4 0) 5 0))] rfl (fun j hj => by { rcases (show j = 0 ∨ j = 1 ∨ j = 2 ∨ j = 3 ∨ j = 4 ∨ j = 5 by omega) with rfl | rfl | rfl | rfl | rfl | rfl <;> rfl }) rfl ?_
                                                                                    refine G.fn (fun _ => 0) 3 [(lo, .inr (13, [.ref eo, .ref e1, .ref e2, .ref e3, .ref e4, .ref e5, .int (nI n), .int (nI z), .int 0])), (e1, aI k 6 (fun _ => 0)), (e2, aI k 6 (fun _ => 0)), (e3, aI k 6 (fun _ => 0)), (e4, aI k 6 (upd (upd (upd (upd (upd (upd f4 0 0) 1 0) 2 0) 3 0) 4 0) 5 0)), (e5, aI k 6 (upd (upd (upd (upd (upd (upd f5 0 0) 1 0) 2 0) 3 0) 4 0) 5 0))] rfl (fun j hj => by { rcases (show j = 0 ∨ j = 1 ∨ j = 2 ∨ j = 3 ∨ j = 4 ∨ j = 5 by omega) with rfl | rfl | rfl | rfl | rfl | rfl <;> rfl }) rfl ?_
                                                                                    refine G.fn (fun _ => 0) 4 [(lo, .inr (13, [.ref eo, .ref e1, .ref e2, .ref e3, .ref e4, .ref e5, .int (nI n), .int (nI z), .int 0])), (e1, aI k 6 (fun _ => 0)), (e2, aI k 6 (fun _ => 0)), (e3, aI k 6 (fun _ => 0)), (e4, aI k 6 (fun _ => 0)), (e5, aI k 6 (upd (upd (upd (upd (upd (upd f5 0 0) 1 0) 2 0) 3 0) 4 0) 5 0))] rfl (fun j hj => by { rcases (show j = 0 ∨ j = 1 ∨ j = 2 ∨ j = 3 ∨ j = 4 ∨ j = 5 by omega) with rfl | rfl | rfl | rfl | rfl | rfl <;> rfl }) rfl ?_
                                                                                    refine G.fn (fun _ => 0) 5 [(lo, .inr (13, [.ref eo, .ref e1, .ref e2, .ref e3, .ref e4, .ref e5, .int (nI n), .int (nI z), .int 0])), (e1, aI k 6 (fun _ => 0)), (e2, aI k 6 (fun _ => 0)), (e3, aI k 6 (fun _ => 0)), (e4, aI k 6 (fun _ => 0)), (e5, aI k 6 (fun _ => 0))] rfl (fun j hj => by { rcases (show j = 0 ∨ j = 1 ∨ j = 2 ∨ j = 3 ∨ j = 4 ∨ j = 5 by omega) with rfl | rfl | rfl | rfl | rfl | rfl <;> rfl }) rfl ?_
                                                                                    exact g_vret (pc := 88) C hr hlk (by first | decide | omega) (by first | decide | omega) (by first | decide | omega) dL_clear_88 ⟨rfl, rfl⟩
                                                                                  · exact absurd c_47 (by decide)
                                                                                · exact absurd c_62 (by decide)
                                                                · exact absurd c_62 (by decide)
                                                · exact absurd c_62 (by decide)
                                · exact absurd c_62 (by decide)
                · exact absurd c_62 (by decide)
