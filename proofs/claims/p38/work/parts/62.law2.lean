theorem dL_drain_0 : decode cL_drain 0 = .ok (.aload_n 0, 1) := by decide +kernel
theorem dL_drain_1 : decode cL_drain 1 = .ok (.dup, 1) := by decide +kernel
theorem dL_drain_2 : decode cL_drain 2 = .ok (.getfield 160, 3) := by decide +kernel
theorem q_565 : (Jvm.Cond.fieldLink "ChipfoldLaw" (160 : Nat) "ChipfoldLaw" "swallowed" "I") ∈ WG := wg_2 (List.mem_of_getElem? (i := 22) (by decide +kernel)) (by decide +kernel)
theorem dL_drain_5 : decode cL_drain 5 = .ok (.aload_n 0, 1) := by decide +kernel
theorem dL_drain_6 : decode cL_drain 6 = .ok (.getfield 14, 3) := by decide +kernel
theorem q_566 : (Jvm.Cond.fieldLink "ChipfoldLaw" (14 : Nat) "ChipfoldLaw" "chips" "[I") ∈ WG := wg_2 (List.mem_of_getElem? (i := 15) (by decide +kernel)) (by decide +kernel)
theorem dL_drain_9 : decode cL_drain 9 = .ok (.aload_n 0, 1) := by decide +kernel
theorem dL_drain_10 : decode cL_drain 10 = .ok (.getfield 164, 3) := by decide +kernel
theorem dL_drain_13 : decode cL_drain 13 = .ok (.iaload, 1) := by decide +kernel
theorem dL_drain_14 : decode cL_drain 14 = .ok (.iadd, 1) := by decide +kernel
theorem dL_drain_15 : decode cL_drain 15 = .ok (.putfield 160, 3) := by decide +kernel
theorem dL_drain_18 : decode cL_drain 18 = .ok (.aload_n 0, 1) := by decide +kernel
theorem dL_drain_19 : decode cL_drain 19 = .ok (.getfield 14, 3) := by decide +kernel
theorem dL_drain_22 : decode cL_drain 22 = .ok (.aload_n 0, 1) := by decide +kernel
theorem dL_drain_23 : decode cL_drain 23 = .ok (.getfield 164, 3) := by decide +kernel
theorem dL_drain_26 : decode cL_drain 26 = .ok (.iconst 0, 1) := by decide +kernel
theorem dL_drain_27 : decode cL_drain 27 = .ok (.iastore, 1) := by decide +kernel
theorem dL_drain_28 : decode cL_drain 28 = .ok (.return_, 1) := by decide +kernel
theorem dL_pointed_0 : decode cL_pointed 0 = .ok (.aload_n 0, 1) := by decide +kernel
theorem dL_pointed_1 : decode cL_pointed 1 = .ok (.iload_n 1, 1) := by decide +kernel
theorem dL_pointed_2 : decode cL_pointed 2 = .ok (.invokevirtual 170, 3) := by decide +kernel
theorem q_567 : (Jvm.Cond.code ({ cls := "ChipfoldLaw", name := "degree", desc := "(I)I" } : Jvm.MethodName) method_36_code (4 : Nat) (Option.some Jvm.ClassFile.FieldType.int)) ∈ WG := wg_3 (List.mem_of_getElem? (i := 108) rfl) rfl
theorem q_568 : (Jvm.Cond.selects "ChipfoldLaw" ({ cls := "ChipfoldLaw", name := "degree", desc := "(I)I" } : Jvm.MethodName) ({ cls := "ChipfoldLaw", name := "degree", desc := "(I)I" } : Jvm.MethodName)) ∈ WG := wg_0 (by decide +kernel) (by decide +kernel)
theorem q_569 : (Jvm.Cond.methodLink "ChipfoldLaw" (170 : Nat) ({ cls := "ChipfoldLaw", name := "degree", desc := "(I)I" } : Jvm.MethodName)) ∈ WG := wg_3 (List.mem_of_getElem? (i := 105) (by decide +kernel)) (by decide +kernel)
theorem q_570 : (Jvm.Cond.instanceMethod ({ cls := "ChipfoldLaw", name := "degree", desc := "(I)I" } : Jvm.MethodName)) ∈ WG := wg_3 (List.mem_of_getElem? (i := 107) (by decide +kernel)) (by decide +kernel)
theorem dL_pointed_5 : decode cL_pointed 5 = .ok (.newarray .int, 2) := by decide +kernel
theorem dL_pointed_7 : decode cL_pointed 7 = .ok (.astore_n 2, 1) := by decide +kernel
theorem dL_pointed_8 : decode cL_pointed 8 = .ok (.iconst 0, 1) := by decide +kernel
theorem dL_pointed_9 : decode cL_pointed 9 = .ok (.istore_n 3, 1) := by decide +kernel
theorem dL_pointed_10 : decode cL_pointed 10 = .ok (.iconst 0, 1) := by decide +kernel
theorem dL_pointed_11 : decode cL_pointed 11 = .ok (.istore 4, 2) := by decide +kernel
theorem dL_pointed_13 : decode cL_pointed 13 = .ok (.iload 4, 2) := by decide +kernel
theorem dL_pointed_15 : decode cL_pointed 15 = .ok (.bipush 6, 2) := by decide +kernel
theorem dL_pointed_17 : decode cL_pointed 17 = .ok (.if_icmp .ge 40, 3) := by decide +kernel
theorem dL_pointed_57 : decode cL_pointed 57 = .ok (.aload_n 2, 1) := by decide +kernel
theorem dL_pointed_58 : decode cL_pointed 58 = .ok (.aload_n 0, 1) := by decide +kernel
theorem dL_pointed_59 : decode cL_pointed 59 = .ok (.getfield 24, 3) := by decide +kernel
theorem q_571 : (Jvm.Cond.fieldLink "ChipfoldLaw" (24 : Nat) "ChipfoldLaw" "turns" "[I") ∈ WG := wg_2 (List.mem_of_getElem? (i := 18) (by decide +kernel)) (by decide +kernel)
theorem dL_pointed_62 : decode cL_pointed 62 = .ok (.iload_n 1, 1) := by decide +kernel
theorem dL_pointed_63 : decode cL_pointed 63 = .ok (.iaload, 1) := by decide +kernel
theorem dL_pointed_64 : decode cL_pointed 64 = .ok (.aload_n 2, 1) := by decide +kernel
theorem dL_pointed_65 : decode cL_pointed 65 = .ok (.arraylength, 1) := by decide +kernel
theorem dL_pointed_66 : decode cL_pointed 66 = .ok (.irem, 1) := by decide +kernel
theorem dL_pointed_67 : decode cL_pointed 67 = .ok (.iaload, 1) := by decide +kernel
theorem dL_pointed_68 : decode cL_pointed 68 = .ok (.ireturn, 1) := by decide +kernel
theorem dL_pointed_20 : decode cL_pointed 20 = .ok (.iconst 0, 1) := by decide +kernel
theorem dL_pointed_21 : decode cL_pointed 21 = .ok (.istore 5, 2) := by decide +kernel
theorem dL_pointed_23 : decode cL_pointed 23 = .ok (.iload 5, 2) := by decide +kernel
theorem dL_pointed_25 : decode cL_pointed 25 = .ok (.aload_n 0, 1) := by decide +kernel
theorem dL_pointed_26 : decode cL_pointed 26 = .ok (.getfield 9, 3) := by decide +kernel
theorem dL_pointed_29 : decode cL_pointed 29 = .ok (.iload_n 1, 1) := by decide +kernel
theorem dL_pointed_30 : decode cL_pointed 30 = .ok (.aaload, 1) := by decide +kernel
theorem dL_pointed_31 : decode cL_pointed 31 = .ok (.iload 4, 2) := by decide +kernel
theorem dL_pointed_33 : decode cL_pointed 33 = .ok (.iaload, 1) := by decide +kernel
theorem dL_pointed_34 : decode cL_pointed 34 = .ok (.if_icmp .ge 17, 3) := by decide +kernel
theorem dL_pointed_51 : decode cL_pointed 51 = .ok (.iinc 4 1, 3) := by decide +kernel
theorem dL_pointed_54 : decode cL_pointed 54 = .ok (.goto (-41), 3) := by decide +kernel
theorem dL_pointed_37 : decode cL_pointed 37 = .ok (.aload_n 2, 1) := by decide +kernel
theorem dL_pointed_38 : decode cL_pointed 38 = .ok (.iload_n 3, 1) := by decide +kernel
theorem dL_pointed_39 : decode cL_pointed 39 = .ok (.iload 4, 2) := by decide +kernel
theorem dL_pointed_41 : decode cL_pointed 41 = .ok (.iastore, 1) := by decide +kernel
theorem dL_pointed_42 : decode cL_pointed 42 = .ok (.iinc 5 1, 3) := by decide +kernel
theorem dL_pointed_45 : decode cL_pointed 45 = .ok (.iinc 3 1, 3) := by decide +kernel
theorem dL_pointed_48 : decode cL_pointed 48 = .ok (.goto (-25), 3) := by decide +kernel
theorem dL_burns__0 : decode cL_burns_ 0 = .ok (.bipush 6, 2) := by decide +kernel
theorem dL_burns__2 : decode cL_burns_ 2 = .ok (.newarray .int, 2) := by decide +kernel
theorem dL_burns__4 : decode cL_burns_ 4 = .ok (.dup, 1) := by decide +kernel
theorem dL_burns__5 : decode cL_burns_ 5 = .ok (.iconst 0, 1) := by decide +kernel
theorem dL_burns__6 : decode cL_burns_ 6 = .ok (.iconst (-1), 1) := by decide +kernel
theorem dL_burns__7 : decode cL_burns_ 7 = .ok (.iastore, 1) := by decide +kernel
theorem dL_burns__8 : decode cL_burns_ 8 = .ok (.dup, 1) := by decide +kernel
theorem dL_burns__9 : decode cL_burns_ 9 = .ok (.iconst 1, 1) := by decide +kernel
theorem dL_burns__10 : decode cL_burns_ 10 = .ok (.iconst (-1), 1) := by decide +kernel
theorem dL_burns__11 : decode cL_burns_ 11 = .ok (.iastore, 1) := by decide +kernel
theorem dL_burns__12 : decode cL_burns_ 12 = .ok (.dup, 1) := by decide +kernel
theorem dL_burns__13 : decode cL_burns_ 13 = .ok (.iconst 2, 1) := by decide +kernel
theorem dL_burns__14 : decode cL_burns_ 14 = .ok (.iconst (-1), 1) := by decide +kernel
theorem dL_burns__15 : decode cL_burns_ 15 = .ok (.iastore, 1) := by decide +kernel
theorem dL_burns__16 : decode cL_burns_ 16 = .ok (.dup, 1) := by decide +kernel
theorem dL_burns__17 : decode cL_burns_ 17 = .ok (.iconst 3, 1) := by decide +kernel
theorem dL_burns__18 : decode cL_burns_ 18 = .ok (.iconst (-1), 1) := by decide +kernel
theorem dL_burns__19 : decode cL_burns_ 19 = .ok (.iastore, 1) := by decide +kernel
theorem dL_burns__20 : decode cL_burns_ 20 = .ok (.dup, 1) := by decide +kernel
theorem dL_burns__21 : decode cL_burns_ 21 = .ok (.iconst 4, 1) := by decide +kernel
theorem dL_burns__22 : decode cL_burns_ 22 = .ok (.iconst (-1), 1) := by decide +kernel
theorem dL_burns__23 : decode cL_burns_ 23 = .ok (.iastore, 1) := by decide +kernel
theorem dL_burns__24 : decode cL_burns_ 24 = .ok (.dup, 1) := by decide +kernel
theorem dL_burns__25 : decode cL_burns_ 25 = .ok (.iconst 5, 1) := by decide +kernel
theorem dL_burns__26 : decode cL_burns_ 26 = .ok (.iconst (-1), 1) := by decide +kernel
theorem dL_burns__27 : decode cL_burns_ 27 = .ok (.iastore, 1) := by decide +kernel
theorem dL_burns__28 : decode cL_burns_ 28 = .ok (.astore_n 2, 1) := by decide +kernel
theorem dL_burns__29 : decode cL_burns_ 29 = .ok (.aload_n 2, 1) := by decide +kernel
theorem dL_burns__30 : decode cL_burns_ 30 = .ok (.aload_n 0, 1) := by decide +kernel
theorem dL_burns__31 : decode cL_burns_ 31 = .ok (.getfield 164, 3) := by decide +kernel
theorem dL_burns__34 : decode cL_burns_ 34 = .ok (.iconst 0, 1) := by decide +kernel
theorem dL_burns__35 : decode cL_burns_ 35 = .ok (.iastore, 1) := by decide +kernel
theorem dL_burns__36 : decode cL_burns_ 36 = .ok (.iconst 1, 1) := by decide +kernel
theorem dL_burns__37 : decode cL_burns_ 37 = .ok (.istore_n 3, 1) := by decide +kernel
theorem dL_burns__38 : decode cL_burns_ 38 = .ok (.iload_n 3, 1) := by decide +kernel
theorem dL_burns__39 : decode cL_burns_ 39 = .ok (.bipush 7, 2) := by decide +kernel
theorem dL_burns__41 : decode cL_burns_ 41 = .ok (.if_icmp .ge 111, 3) := by decide +kernel
theorem dL_burns__152 : decode cL_burns_ 152 = .ok (.aload_n 2, 1) := by decide +kernel
theorem dL_burns__153 : decode cL_burns_ 153 = .ok (.areturn, 1) := by decide +kernel
theorem dL_burns__44 : decode cL_burns_ 44 = .ok (.iconst (-1), 1) := by decide +kernel
theorem dL_burns__45 : decode cL_burns_ 45 = .ok (.istore 4, 2) := by decide +kernel
theorem dL_burns__47 : decode cL_burns_ 47 = .ok (.aload_n 0, 1) := by decide +kernel
theorem dL_burns__48 : decode cL_burns_ 48 = .ok (.getfield 167, 3) := by decide +kernel
theorem dL_burns__51 : decode cL_burns_ 51 = .ok (.iconst 1, 1) := by decide +kernel
theorem dL_burns__52 : decode cL_burns_ 52 = .ok (.isub, 1) := by decide +kernel
theorem dL_burns__53 : decode cL_burns_ 53 = .ok (.istore 5, 2) := by decide +kernel
theorem dL_burns__55 : decode cL_burns_ 55 = .ok (.iload 5, 2) := by decide +kernel
theorem dL_burns__57 : decode cL_burns_ 57 = .ok (.ifCond .lt 79, 3) := by decide +kernel
theorem dL_burns__136 : decode cL_burns_ 136 = .ok (.iload 4, 2) := by decide +kernel
theorem dL_burns__138 : decode cL_burns_ 138 = .ok (.ifCond .lt 8, 3) := by decide +kernel
theorem dL_burns__146 : decode cL_burns_ 146 = .ok (.iinc 3 1, 3) := by decide +kernel
theorem dL_burns__149 : decode cL_burns_ 149 = .ok (.goto (-111), 3) := by decide +kernel
theorem dL_burns__141 : decode cL_burns_ 141 = .ok (.aload_n 2, 1) := by decide +kernel
theorem dL_burns__142 : decode cL_burns_ 142 = .ok (.iload 4, 2) := by decide +kernel
theorem dL_burns__144 : decode cL_burns_ 144 = .ok (.iload_n 3, 1) := by decide +kernel
theorem dL_burns__145 : decode cL_burns_ 145 = .ok (.iastore, 1) := by decide +kernel
theorem dL_burns__60 : decode cL_burns_ 60 = .ok (.iconst 0, 1) := by decide +kernel
theorem dL_burns__61 : decode cL_burns_ 61 = .ok (.istore 6, 2) := by decide +kernel
theorem dL_burns__63 : decode cL_burns_ 63 = .ok (.iconst 0, 1) := by decide +kernel
theorem dL_burns__64 : decode cL_burns_ 64 = .ok (.istore 7, 2) := by decide +kernel
theorem dL_burns__66 : decode cL_burns_ 66 = .ok (.iload 7, 2) := by decide +kernel
theorem dL_burns__68 : decode cL_burns_ 68 = .ok (.bipush 6, 2) := by decide +kernel
theorem dL_burns__70 : decode cL_burns_ 70 = .ok (.if_icmp .ge 35, 3) := by decide +kernel
theorem dL_burns__105 : decode cL_burns_ 105 = .ok (.aload_n 2, 1) := by decide +kernel
theorem dL_burns__106 : decode cL_burns_ 106 = .ok (.iload 5, 2) := by decide +kernel
theorem dL_burns__108 : decode cL_burns_ 108 = .ok (.iaload, 1) := by decide +kernel
theorem dL_burns__109 : decode cL_burns_ 109 = .ok (.ifCond .ge 17, 3) := by decide +kernel
theorem dL_burns__126 : decode cL_burns_ 126 = .ok (.iload 4, 2) := by decide +kernel
theorem dL_burns__128 : decode cL_burns_ 128 = .ok (.istore 4, 2) := by decide +kernel
theorem dL_burns__130 : decode cL_burns_ 130 = .ok (.iinc 5 (-1), 3) := by decide +kernel
theorem dL_burns__133 : decode cL_burns_ 133 = .ok (.goto (-78), 3) := by decide +kernel
theorem dL_burns__112 : decode cL_burns_ 112 = .ok (.aload_n 1, 1) := by decide +kernel
theorem dL_burns__113 : decode cL_burns_ 113 = .ok (.iload 5, 2) := by decide +kernel
theorem dL_burns__115 : decode cL_burns_ 115 = .ok (.iaload, 1) := by decide +kernel
theorem dL_burns__116 : decode cL_burns_ 116 = .ok (.iload 6, 2) := by decide +kernel
theorem dL_burns__118 : decode cL_burns_ 118 = .ok (.if_icmp .lt 8, 3) := by decide +kernel
theorem dL_burns__121 : decode cL_burns_ 121 = .ok (.iload 5, 2) := by decide +kernel
theorem dL_burns__123 : decode cL_burns_ 123 = .ok (.goto 5, 3) := by decide +kernel
theorem dL_burns__73 : decode cL_burns_ 73 = .ok (.iload 6, 2) := by decide +kernel
theorem dL_burns__75 : decode cL_burns_ 75 = .ok (.aload_n 2, 1) := by decide +kernel
theorem dL_burns__76 : decode cL_burns_ 76 = .ok (.iload 7, 2) := by decide +kernel
theorem dL_burns__78 : decode cL_burns_ 78 = .ok (.iaload, 1) := by decide +kernel
theorem dL_burns__79 : decode cL_burns_ 79 = .ok (.ifCond .ge 16, 3) := by decide +kernel
theorem dL_burns__95 : decode cL_burns_ 95 = .ok (.iconst 0, 1) := by decide +kernel
theorem dL_burns__96 : decode cL_burns_ 96 = .ok (.iadd, 1) := by decide +kernel
theorem dL_burns__97 : decode cL_burns_ 97 = .ok (.istore 6, 2) := by decide +kernel
theorem dL_burns__99 : decode cL_burns_ 99 = .ok (.iinc 7 1, 3) := by decide +kernel
theorem dL_burns__102 : decode cL_burns_ 102 = .ok (.goto (-36), 3) := by decide +kernel
theorem dL_burns__82 : decode cL_burns_ 82 = .ok (.aload_n 0, 1) := by decide +kernel
theorem dL_burns__83 : decode cL_burns_ 83 = .ok (.getfield 9, 3) := by decide +kernel
theorem dL_burns__86 : decode cL_burns_ 86 = .ok (.iload 5, 2) := by decide +kernel
theorem dL_burns__88 : decode cL_burns_ 88 = .ok (.aaload, 1) := by decide +kernel
theorem dL_burns__89 : decode cL_burns_ 89 = .ok (.iload 7, 2) := by decide +kernel
theorem dL_burns__91 : decode cL_burns_ 91 = .ok (.iaload, 1) := by decide +kernel
theorem dL_burns__92 : decode cL_burns_ 92 = .ok (.goto 4, 3) := by decide +kernel
set_option maxRecDepth 100000 in
set_option maxHeartbeats 400000 in
theorem c_L_drain {l : Launch} {D : va_G} {k : Nat → ClassId} (lo : Nat) (eo : Nat) (e1 : Nat) (e2 : Nat) (e3 : Nat) (e4 : Nat) (e5 : Nat) (n : Nat) (z : Nat) (sw : Int32) (f : Nat → Int32) (hz : z < 6) : CM l D k yL_drain cL_drain 1 none  0 0 [.ref lo] [(lo, .inr (13, [.ref eo, .ref e1, .ref e2, .ref e3, .ref e4, .ref e5, .int (nI n), .int (nI z), .int sw])), (e1, aI k 6 f)] (is1 none [(lo, .inr (13, [.ref eo, .ref e1, .ref e2, .ref e3, .ref e4, .ref e5, .int (nI n), .int (nI z), .int (sw + f z)])), (e1, aI k 6 (upd f z 0))]) 0 0 0 := by
  refine CM.of (lv0 := [(0, .ref lo)]) (by decide +kernel) (Nat.le_of_ble_eq_true rfl) rfl ?_
  intro p9 e9 s9 m9 bl9 me9 co9 C hr hlk hin had
  refine g_aload_n (pc := 0) C 0 rfl rfl dL_drain_0 ?_
  refine g_dup (pc := 1) C rfl dL_drain_1 ?_
  refine g_get (pc := 2) C (T := TXL) inXL 0 rfl rfl 8 (by decide) q_565 rfl rfl dL_drain_2 ?_
  refine g_aload_n (pc := 5) C 0 rfl rfl dL_drain_5 ?_
  refine g_get (pc := 6) C (T := TXL) inXL 0 rfl rfl 1 (by decide) q_566 rfl rfl dL_drain_6 ?_
  refine g_aload_n (pc := 9) C 0 rfl rfl dL_drain_9 ?_
  refine g_get (pc := 10) C (T := TXL) inXL 0 rfl rfl 7 (by decide) q_563 rfl rfl dL_drain_10 ?_
  refine g_iald_n (pc := 13) C (j := z) 1 rfl (by omega) (by first | decide | omega) rfl dL_drain_13 ?_
  refine g_iadd (pc := 14) C dL_drain_14 ?_
  refine g_put (pc := 15) C (T := TXL) inXL 0 rfl rfl 8 (by decide) q_565 rfl tyXL tyXL_ok nmXL rfl [(lo, .inr (13, [.ref eo, .ref e1, .ref e2, .ref e3, .ref e4, .ref e5, .int (nI n), .int (nI z), .int (sw + (f z))])), (e1, aI k 6 f)] (tyXL_ok 8 (by decide)) rfl (by rfl) (Nat.le_of_ble_eq_true rfl) rfl dL_drain_15 ?_
  refine g_aload_n (pc := 18) C 0 rfl rfl dL_drain_18 ?_
  refine g_get (pc := 19) C (T := TXL) inXL 0 rfl rfl 1 (by decide) q_566 rfl rfl dL_drain_19 ?_
  refine g_aload_n (pc := 22) C 0 rfl rfl dL_drain_22 ?_
  refine g_get (pc := 23) C (T := TXL) inXL 0 rfl rfl 7 (by decide) q_563 rfl rfl dL_drain_23 ?_
  refine g_iconst (pc := 26) (v := 0) C (by decide) dL_drain_26 ?_
  refine g_iast_n (pc := 27) C (j := z) 1 [(lo, .inr (13, [.ref eo, .ref e1, .ref e2, .ref e3, .ref e4, .ref e5, .int (nI n), .int (nI z), .int (sw + (f z))])), (e1, aI k 6 (upd f z 0))] rfl (by omega) (by first | decide | omega) rfl rfl dL_drain_27 ?_
  refine G.eqw (ws' := [(lo, .inr (13, [.ref eo, .ref e1, .ref e2, .ref e3, .ref e4, .ref e5, .int (nI n), .int (nI z), .int (sw + f z)])), (e1, aI k 6 (upd f z 0))]) (congrArg (β := va_W) (fun z9 => [(lo, .inr (13, [.ref eo, .ref e1, .ref e2, .ref e3, .ref e4, .ref e5, .int (nI n), .int (nI z), .int z9])), (e1, aI k 6 (upd f z 0))]) (show ((sw + (f z)) : Int32) = (sw + f z) from by first | rfl | simp_all)) ?_
  exact g_vret (pc := 28) C hr hlk (by first | decide | omega) (by first | decide | omega) (by first | decide | omega) dL_drain_28 ⟨rfl, rfl⟩
/-- the row of the ends of the edges of v -/
def pwI (E : Nat → Nat → Nat) (v w : Nat) (q : Nat → Int32) : Nat → Nat → Int32
  | 0 => q
  | i + 1 => upd (pwI E v w q i) (sumN (E v) w + i) (nI w)
def pwO (E : Nat → Nat → Nat) (v : Nat) : Nat → Nat → Int32
  | 0 => fun _ => 0
  | w + 1 => pwI E v w (pwO E v w) (E v w)
theorem sumN_up (f : Nat → Nat) {a : Nat} : ∀ {b : Nat}, a ≤ b → sumN f a ≤ sumN f b
  | 0, h => by rw [Nat.le_zero.mp h]; exact Nat.le_refl _
  | b + 1, h => by
    rcases Nat.lt_or_ge b a with q | q
    · rw [show a = b + 1 by omega]; exact Nat.le_refl _
    · exact Nat.le_trans (sumN_up f q) (Nat.le_add_right _ _)
theorem pwI_at {E : Nat → Nat → Nat} {v w : Nat} {q : Nat → Int32} : ∀ i j, pwI E v w q i j = if sumN (E v) w ≤ j ∧ j < sumN (E v) w + i then nI w else q j
  | 0, j => by rw [if_neg (by omega)]; rfl
  | i + 1, j => by
    show upd _ _ _ j = _
    by_cases h : j = sumN (E v) w + i
    · subst h; rw [upd_s, if_pos (by omega)]
    · rw [upd_n _ _ h, pwI_at i j]
      by_cases h2 : sumN (E v) w ≤ j ∧ j < sumN (E v) w + i
      · rw [if_pos h2, if_pos (by omega)]
      · rw [if_neg h2, if_neg (by omega)]
theorem pwO_at {E : Nat → Nat → Nat} {v : Nat} : ∀ w u j, u < w → sumN (E v) u ≤ j → j < sumN (E v) (u + 1) → pwO E v w j = nI u
  | 0, u, j, h, _, _ => absurd h (Nat.not_lt_zero _)
  | w + 1, u, j, h, h1, h2 => by
    show pwI _ _ _ _ _ _ = _
    rw [pwI_at]
    by_cases hu : u = w
    · subst hu
      rw [if_pos ⟨h1, h2⟩]
    · have := sumN_up (E v) (show u + 1 ≤ w by omega)
      rw [if_neg (by omega)]
      exact pwO_at w u j (by omega) h1 h2
theorem pwO_pt {E : Nat → Nat → Nat} {v r : Nat} (hr : r < dg E v) : pwO E v 6 r = nI (ptE E v r) := by
  have h := (ptE_iff hr (ptE_lt (E := E) (v := v) (r := r))).mp rfl
  exact pwO_at 6 _ r ptE_lt h.1 h.2
set_option maxRecDepth 100000 in
set_option maxHeartbeats 400000 in
theorem c_L_pointed {l : Launch} {D : va_G} {k : Nat → ClassId} (lo : Nat) (eo : Nat) (e1 : Nat) (e2 : Nat) (e3 : Nat) (e4 : Nat) (e5 : Nat) (er : Nat → Nat) (E : Nat → Nat → Nat) (n : Nat) (z : Nat) (sw : Int32) (v : Nat) (t : Nat → Nat) (hv : v < 6) (hd : 0 < dg E v) (ht : t v < 2 ^ 30) (hE3 : ∀ i j, E i j ≤ 3) : CM l D k yL_pointed cL_pointed 6 (some .int)  1 23 [.ref lo, .int (nI v)] [(lo, .inr (13, [.ref eo, .ref e1, .ref e2, .ref e3, .ref e4, .ref e5, .int (nI n), .int (nI z), .int sw])), (eo, aR k 3 6 (fun i9 => if i9 < 6 then some (er i9) else none)), ((er 0), aI k 6 (EN E 0)), ((er 1), aI k 6 (EN E 1)), ((er 2), aI k 6 (EN E 2)), ((er 3), aI k 6 (EN E 3)), ((er 4), aI k 6 (EN E 4)), ((er 5), aI k 6 (EN E 5)), (e4, aI k 6 (fun j9 => nI (t j9)))] (is1 (some (.int (nI (ptE E v (t v % dg E v))))) [(lo, .inr (13, [.ref eo, .ref e1, .ref e2, .ref e3, .ref e4, .ref e5, .int (nI n), .int (nI z), .int sw])), (eo, aR k 3 6 (fun i9 => if i9 < 6 then some (er i9) else none)), ((er 0), aI k 6 (EN E 0)), ((er 1), aI k 6 (EN E 1)), ((er 2), aI k 6 (EN E 2)), ((er 3), aI k 6 (EN E 3)), ((er 4), aI k 6 (EN E 4)), ((er 5), aI k 6 (EN E 5)), (e4, aI k 6 (fun j9 => nI (t j9)))]) 1 18 0 := by
  refine CM.of (lv0 := [(0, .ref lo), (1, .int (nI v))]) (by decide +kernel) (Nat.le_of_ble_eq_true rfl) rfl ?_
  intro p9 e9 s9 m9 bl9 me9 co9 C hr hlk hin had
  have hd18 : dg E v ≤ 18 := by have h0 := hE3 v 0; have h1 := hE3 v 1; have h2 := hE3 v 2; have h3 := hE3 v 3; have h4 := hE3 v 4; have h5 := hE3 v 5; show 0 + E v 0 + E v 1 + E v 2 + E v 3 + E v 4 + E v 5 ≤ 18; omega
  refine g_aload_n (pc := 0) C 0 rfl rfl dL_pointed_0 ?_
  refine g_iload_n (pc := 1) C 1 rfl rfl dL_pointed_1 ?_
  refine g_callV (pc := 2) (cells := 0) (slots := 0) (g := 0) (As := [.int (nI v)]) (st := []) (T := TXL) (q0 := 0) C (nA := 1) rfl (c_L_degree_ lo eo e1 e2 e3 e4 e5 er E n z sw v (by first | assumption | decide | omega)) q_569 q_570 q_568 q_551 q_567 (by decide +kernel) rfl rfl dL_pointed_2 ⟨Nat.le_of_ble_eq_true rfl, Nat.le_of_ble_eq_true rfl⟩ [0, 1, 2, 3, 4, 5, 6, 7] [8] rfl (wr := [(e4, aI k 6 (fun j9 => nI (t j9)))]) rfl (by decide) (by decide) (by decide) (Nat.le_of_ble_eq_true rfl) ⟨Nat.le_of_ble_eq_true rfl, Nat.le_of_ble_eq_true rfl⟩ (fun rv w1 h1 => ?_)
  obtain ⟨rfl, rfl⟩ := h1
  refine G.aft [1, 2, 3, 4, 5, 6, 7, 8, 0] (ws' := [(lo, .inr (13, [.ref eo, .ref e1, .ref e2, .ref e3, .ref e4, .ref e5, .int (nI n), .int (nI z), .int sw])), (eo, aR k 3 6 (fun i9 => if i9 < 6 then some (er i9) else none)), ((er 0), aI k 6 (EN E 0)), ((er 1), aI k 6 (EN E 1)), ((er 2), aI k 6 (EN E 2)), ((er 3), aI k 6 (EN E 3)), ((er 4), aI k 6 (EN E 4)), ((er 5), aI k 6 (EN E 5)), (e4, aI k 6 (fun j9 => nI (t j9)))]) (st' := [.int (nI (dg E v))]) (cells' := 0) (slots' := 0) (g' := 0) (by decide) rfl rfl rfl rfl rfl ?_
  refine g_newI (pc := 5) (cells := 0) (slots := 0) (g := 0) C (dg E v) q_4 (nI_pos (by omega)) (nI_clamp (by omega)) (by omega) (Nat.le_of_ble_eq_true rfl) (by show 0 + dg E v ≤ 18; omega) dL_pointed_5 (fun q1 => ?_)
  refine G.eqw (ws' := [(lo, .inr (13, [.ref eo, .ref e1, .ref e2, .ref e3, .ref e4, .ref e5, .int (nI n), .int (nI z), .int sw])), (eo, aR k 3 6 (fun i9 => if i9 < 6 then some (er i9) else none)), ((er 0), aI k 6 (EN E 0)), ((er 1), aI k 6 (EN E 1)), ((er 2), aI k 6 (EN E 2)), ((er 3), aI k 6 (EN E 3)), ((er 4), aI k 6 (EN E 4)), ((er 5), aI k 6 (EN E 5)), (e4, aI k 6 (fun j9 => nI (t j9))), (q1, aI k (dg E v) (fun _ => 0))]) rfl ?_
  refine g_astore_n (pc := 7) C [(2, .ref q1), (0, .ref lo), (1, .int (nI v))] rfl dL_pointed_7 (by decide) rfl ?_
  refine g_iconst (pc := 8) (v := 0) C (by decide) dL_pointed_8 ?_
  refine g_istore_n (pc := 9) C [(3, .int 0), (2, .ref q1), (0, .ref lo), (1, .int (nI v))] rfl dL_pointed_9 (by decide) rfl ?_
  refine g_iconst (pc := 10) (v := 0) C (by decide) dL_pointed_10 ?_
  refine g_istore (pc := 11) C [(4, .int 0), (3, .int 0), (2, .ref q1), (0, .ref lo), (1, .int (nI v))] dL_pointed_11 (by decide) rfl ?_
  have key_13 : ∀ (fuel : Nat) (w : Nat), w ≤ 6 → 6 - w < fuel → G p9 l e9 { frames := 1, cells := 1, slots := 18, locals := 23 } s9 m9 ([.ref lo, .int (nI v)] : List Value).toArray bl9 me9 co9 D 6 (va_A [(lo, .inr (13, [.ref eo, .ref e1, .ref e2, .ref e3, .ref e4, .ref e5, .int (nI n), .int (nI z), .int sw])), (eo, aR k 3 6 (fun i9 => if i9 < 6 then some (er i9) else none)), ((er 0), aI k 6 (EN E 0)), ((er 1), aI k 6 (EN E 1)), ((er 2), aI k 6 (EN E 2)), ((er 3), aI k 6 (EN E 3)), ((er 4), aI k 6 (EN E 4)), ((er 5), aI k 6 (EN E 5)), (e4, aI k 6 (fun j9 => nI (t j9)))] s9.heap.size) (QM bl9 D ([.ref lo, .int (nI v)] : List Value).toArray s9 [(lo, .inr (13, [.ref eo, .ref e1, .ref e2, .ref e3, .ref e4, .ref e5, .int (nI n), .int (nI z), .int sw])), (eo, aR k 3 6 (fun i9 => if i9 < 6 then some (er i9) else none)), ((er 0), aI k 6 (EN E 0)), ((er 1), aI k 6 (EN E 1)), ((er 2), aI k 6 (EN E 2)), ((er 3), aI k 6 (EN E 3)), ((er 4), aI k 6 (EN E 4)), ((er 5), aI k 6 (EN E 5)), (e4, aI k 6 (fun j9 => nI (t j9)))] (is1 (some (.int (nI (ptE E v (t v % dg E v))))) [(lo, .inr (13, [.ref eo, .ref e1, .ref e2, .ref e3, .ref e4, .ref e5, .int (nI n), .int (nI z), .int sw])), (eo, aR k 3 6 (fun i9 => if i9 < 6 then some (er i9) else none)), ((er 0), aI k 6 (EN E 0)), ((er 1), aI k 6 (EN E 1)), ((er 2), aI k 6 (EN E 2)), ((er 3), aI k 6 (EN E 3)), ((er 4), aI k 6 (EN E 4)), ((er 5), aI k 6 (EN E 5)), (e4, aI k 6 (fun j9 => nI (t j9)))]) 1 18 0) [(lo, .inr (13, [.ref eo, .ref e1, .ref e2, .ref e3, .ref e4, .ref e5, .int (nI n), .int (nI z), .int sw])), (eo, aR k 3 6 (fun i9 => if i9 < 6 then some (er i9) else none)), ((er 0), aI k 6 (EN E 0)), ((er 1), aI k 6 (EN E 1)), ((er 2), aI k 6 (EN E 2)), ((er 3), aI k 6 (EN E 3)), ((er 4), aI k 6 (EN E 4)), ((er 5), aI k 6 (EN E 5)), (e4, aI k 6 (fun j9 => nI (t j9))), (q1, aI k (dg E v) (pwO E v w))] [(0, .ref lo), (1, .int (nI v)), (2, .ref q1), (3, .int (nI (sumN (E v) w))), (4, .int (nI w))] 1 (0 + (dg E v)) 1 13 [] := by
    intro fuel
    induction fuel with
    | zero => intro w hw hm; exact absurd hm (Nat.not_lt_zero _)
    | succ fuel ih =>
      intro w hw hm
      have ih_13 := ih
      refine g_iload (pc := 13) C 4 rfl dL_pointed_13 ?_
      refine g_bipush (pc := 15) (v := 6) C (by decide) dL_pointed_15 ?_
      refine g_icmp_ge (pc := 17) C 57 (by decide) dL_pointed_17 (fun c_17 => ?_) (fun c_17 => ?_)
      · have h3 : w = 6 := by { have := nle_ge (b := 6) (a := w) (by omega) c_17; omega }
        refine G.fn (pwO E v 6) 9 [(lo, .inr (13, [.ref eo, .ref e1, .ref e2, .ref e3, .ref e4, .ref e5, .int (nI n), .int (nI z), .int sw])), (eo, aR k 3 6 (fun i9 => if i9 < 6 then some (er i9) else none)), ((er 0), aI k 6 (EN E 0)), ((er 1), aI k 6 (EN E 1)), ((er 2), aI k 6 (EN E 2)), ((er 3), aI k 6 (EN E 3)), ((er 4), aI k 6 (EN E 4)), ((er 5), aI k 6 (EN E 5)), (e4, aI k 6 (fun j9 => nI (t j9))), (q1, aI k (dg E v) (pwO E v 6))] rfl (fun j hj => by rw [h3]) rfl ?_
        refine g_aload_n (pc := 57) C 2 rfl rfl dL_pointed_57 ?_
        refine g_aload_n (pc := 58) C 0 rfl rfl dL_pointed_58 ?_
        refine g_get (pc := 59) C (T := TXL) inXL 0 rfl rfl 4 (by decide) q_571 rfl rfl dL_pointed_59 ?_
        refine g_iload_n (pc := 62) C 1 rfl rfl dL_pointed_62 ?_
        refine g_iald_n (pc := 63) C (j := v) 8 rfl (by omega) (by first | decide | omega) rfl dL_pointed_63 ?_
        refine g_aload_n (pc := 64) C 2 rfl rfl dL_pointed_64 ?_
        refine g_alen (pc := 65) C 9 rfl (t0 := 0) rfl (v := (nI (dg E v))) rfl dL_pointed_65 ?_
        refine g_irem (pc := 66) C (nI_ne0 (by omega) (by omega)) dL_pointed_66 ?_
        refine G.eqs (st' := [.int (nI (t v % dg E v)), .ref q1]) (congrArg (β := List Value) (fun z9 => [.int z9, .ref q1]) (show ((((fun j9 => nI (t j9)) v) - ((fun j9 => nI (t j9)) v) / (nI (dg E v)) * (nI (dg E v))) : Int32) = (nI (t v % dg E v)) from pk_rem (by omega) hd (by omega))) ?_
        refine g_iald_n (pc := 67) C (j := (t v % dg E v)) 9 rfl (Nat.mod_lt _ hd) (by first | decide | omega) rfl dL_pointed_67 ?_
        refine G.re [0, 1, 2, 3, 4, 5, 6, 7, 8] (ws' := [(lo, .inr (13, [.ref eo, .ref e1, .ref e2, .ref e3, .ref e4, .ref e5, .int (nI n), .int (nI z), .int sw])), (eo, aR k 3 6 (fun i9 => if i9 < 6 then some (er i9) else none)), ((er 0), aI k 6 (EN E 0)), ((er 1), aI k 6 (EN E 1)), ((er 2), aI k 6 (EN E 2)), ((er 3), aI k 6 (EN E 3)), ((er 4), aI k 6 (EN E 4)), ((er 5), aI k 6 (EN E 5)), (e4, aI k 6 (fun j9 => nI (t j9)))]) (by decide) rfl ?_
        refine G.eqs (st' := [.int (nI (ptE E v (t v % dg E v)))]) (congrArg (fun z9 => [Value.int z9]) (show (((pwO E v 6) (t v % dg E v)) : Int32) = (nI (ptE E v (t v % dg E v))) from by exact pwO_pt (Nat.mod_lt _ hd))) ?_
        exact g_iret (pc := 68) C hr hlk (by first | decide | omega) (by first | decide | omega) (by first | decide | omega) dL_pointed_68 ⟨rfl, rfl⟩
      · have hl17 : w < 6 := nle_lt (by omega) c_17
        refine g_iconst (pc := 20) (v := 0) C (by decide) dL_pointed_20 ?_
        refine g_istore (pc := 21) C [(5, .int 0), (0, .ref lo), (1, .int (nI v)), (2, .ref q1), (3, .int (nI (sumN (E v) w))), (4, .int (nI w))] dL_pointed_21 (by decide) rfl ?_
        have key_23 : ∀ (fuel : Nat) (i : Nat), i ≤ E v w → E v w - i < fuel → G p9 l e9 { frames := 1, cells := 1, slots := 18, locals := 23 } s9 m9 ([.ref lo, .int (nI v)] : List Value).toArray bl9 me9 co9 D 6 (va_A [(lo, .inr (13, [.ref eo, .ref e1, .ref e2, .ref e3, .ref e4, .ref e5, .int (nI n), .int (nI z), .int sw])), (eo, aR k 3 6 (fun i9 => if i9 < 6 then some (er i9) else none)), ((er 0), aI k 6 (EN E 0)), ((er 1), aI k 6 (EN E 1)), ((er 2), aI k 6 (EN E 2)), ((er 3), aI k 6 (EN E 3)), ((er 4), aI k 6 (EN E 4)), ((er 5), aI k 6 (EN E 5)), (e4, aI k 6 (fun j9 => nI (t j9)))] s9.heap.size) (QM bl9 D ([.ref lo, .int (nI v)] : List Value).toArray s9 [(lo, .inr (13, [.ref eo, .ref e1, .ref e2, .ref e3, .ref e4, .ref e5, .int (nI n), .int (nI z), .int sw])), (eo, aR k 3 6 (fun i9 => if i9 < 6 then some (er i9) else none)), ((er 0), aI k 6 (EN E 0)), ((er 1), aI k 6 (EN E 1)), ((er 2), aI k 6 (EN E 2)), ((er 3), aI k 6 (EN E 3)), ((er 4), aI k 6 (EN E 4)), ((er 5), aI k 6 (EN E 5)), (e4, aI k 6 (fun j9 => nI (t j9)))] (is1 (some (.int (nI (ptE E v (t v % dg E v))))) [(lo, .inr (13, [.ref eo, .ref e1, .ref e2, .ref e3, .ref e4, .ref e5, .int (nI n), .int (nI z), .int sw])), (eo, aR k 3 6 (fun i9 => if i9 < 6 then some (er i9) else none)), ((er 0), aI k 6 (EN E 0)), ((er 1), aI k 6 (EN E 1)), ((er 2), aI k 6 (EN E 2)), ((er 3), aI k 6 (EN E 3)), ((er 4), aI k 6 (EN E 4)), ((er 5), aI k 6 (EN E 5)), (e4, aI k 6 (fun j9 => nI (t j9)))]) 1 18 0) [(lo, .inr (13, [.ref eo, .ref e1, .ref e2, .ref e3, .ref e4, .ref e5, .int (nI n), .int (nI z), .int sw])), (eo, aR k 3 6 (fun i9 => if i9 < 6 then some (er i9) else none)), ((er 0), aI k 6 (EN E 0)), ((er 1), aI k 6 (EN E 1)), ((er 2), aI k 6 (EN E 2)), ((er 3), aI k 6 (EN E 3)), ((er 4), aI k 6 (EN E 4)), ((er 5), aI k 6 (EN E 5)), (e4, aI k 6 (fun j9 => nI (t j9))), (q1, aI k (dg E v) (pwI E v w (pwO E v w) i))] [(0, .ref lo), (1, .int (nI v)), (2, .ref q1), (3, .int (nI (sumN (E v) w + i))), (4, .int (nI w)), (5, .int (nI i))] 1 (0 + (dg E v)) 1 23 [] := by
          intro fuel
          induction fuel with
          | zero => intro i hi hm; exact absurd hm (Nat.not_lt_zero _)
          | succ fuel ih =>
            intro i hi hm
            have ih_23 := ih
            refine g_iload (pc := 23) C 5 rfl dL_pointed_23 ?_
            refine g_aload_n (pc := 25) C 0 rfl rfl dL_pointed_25 ?_
            refine g_get (pc := 26) C (T := TXL) inXL 0 rfl rfl 0 (by decide) q_561 rfl rfl dL_pointed_26 ?_
            refine g_iload_n (pc := 29) C 1 rfl rfl dL_pointed_29 ?_
            refine g_aald (pc := 30) C (j := v) (b := er v) 1 rfl (by omega) (by decide) rfl (if_pos (by omega)) dL_pointed_30 ?_
            refine g_iload (pc := 31) C 4 rfl dL_pointed_31 ?_
            refine g_iald_n (pc := 33) (a := (er v)) (n := 6) (f := (EN E v)) C (j := w) (2 + v) (by rcases (show v = 0 ∨ v = 1 ∨ v = 2 ∨ v = 3 ∨ v = 4 ∨ v = 5 by omega) with h9 | h9 | h9 | h9 | h9 | h9 <;> rw [h9] <;> rfl) (by omega) (by first | decide | omega) rfl dL_pointed_33 ?_
            refine G.eqs (st' := [.int (nI (E v w)), .int (nI i)]) (congrArg (β := List Value) (fun z9 => [.int z9, .int (nI i)]) (show (((EN E v) w) : Int32) = (nI (E v w)) from rfl)) ?_
            refine g_icmp_ge (pc := 34) C 51 (by decide) dL_pointed_34 (fun c_34 => ?_) (fun c_34 => ?_)
            · have h4 : E v w = i := by { have := nle_ge (b := E v w) (a := i) (by have := hE3 v w; omega) c_34; omega }
              refine g_iinc (pc := 51) (n := 1) (v := (nI (w + 1))) C 4 [(4, .int (nI (w + 1))), (0, .ref lo), (1, .int (nI v)), (2, .ref q1), (3, .int (nI (sumN (E v) w + i))), (5, .int (nI i))] rfl (nI_1 w) dL_pointed_51 (by decide) rfl ?_
              refine g_goto (pc := 54) C 13 (by decide) dL_pointed_54 ?_
              refine G.loc [1, 2, 3, 4, 0] (lv' := [(0, .ref lo), (1, .int (nI v)), (2, .ref q1), (3, .int (nI (sumN (E v) w + i))), (4, .int (nI (w + 1)))]) rfl ?_
              refine G.fn (pwO E v (w + 1)) 9 [(lo, .inr (13, [.ref eo, .ref e1, .ref e2, .ref e3, .ref e4, .ref e5, .int (nI n), .int (nI z), .int sw])), (eo, aR k 3 6 (fun i9 => if i9 < 6 then some (er i9) else none)), ((er 0), aI k 6 (EN E 0)), ((er 1), aI k 6 (EN E 1)), ((er 2), aI k 6 (EN E 2)), ((er 3), aI k 6 (EN E 3)), ((er 4), aI k 6 (EN E 4)), ((er 5), aI k 6 (EN E 5)), (e4, aI k 6 (fun j9 => nI (t j9))), (q1, aI k (dg E v) (pwO E v (w + 1)))] rfl (fun j hj => by rw [← h4]; try rfl) rfl ?_
              refine G.eql (lv' := [(0, .ref lo), (1, .int (nI v)), (2, .ref q1), (3, .int (nI (sumN (E v) (w + 1)))), (4, .int (nI (w + 1)))]) (congrArg (β := List (Nat × Value)) (fun z9 => [(0, .ref lo), (1, .int (nI v)), (2, .ref q1), (3, .int z9), (4, .int (nI (w + 1)))]) (show ((nI (sumN (E v) w + i)) : Int32) = (nI (sumN (E v) (w + 1))) from by rw [← h4]; try rfl)) ?_
              exact ih_13 (w + 1) (by omega) (by omega)
            · have hl34 : i < E v w := nle_lt (by have := hE3 v w; omega) c_34
              have hup : sumN (E v) (w + 1) ≤ dg E v := sumN_up (E v) (show w + 1 ≤ 6 by omega)
              have hup2 : sumN (E v) (w + 1) = sumN (E v) w + E v w := rfl
              refine g_aload_n (pc := 37) C 2 rfl rfl dL_pointed_37 ?_
              refine g_iload_n (pc := 38) C 3 rfl rfl dL_pointed_38 ?_
              refine g_iload (pc := 39) C 4 rfl dL_pointed_39 ?_
              refine g_iast_n (pc := 41) C (j := (sumN (E v) w + i)) 9 [(lo, .inr (13, [.ref eo, .ref e1, .ref e2, .ref e3, .ref e4, .ref e5, .int (nI n), .int (nI z), .int sw])), (eo, aR k 3 6 (fun i9 => if i9 < 6 then some (er i9) else none)), ((er 0), aI k 6 (EN E 0)), ((er 1), aI k 6 (EN E 1)), ((er 2), aI k 6 (EN E 2)), ((er 3), aI k 6 (EN E 3)), ((er 4), aI k 6 (EN E 4)), ((er 5), aI k 6 (EN E 5)), (e4, aI k 6 (fun j9 => nI (t j9))), (q1, aI k (dg E v) (upd (pwI E v w (pwO E v w) i) (sumN (E v) w + i) (nI w)))] rfl (by omega) (by first | decide | omega) rfl rfl dL_pointed_41 ?_
              refine g_iinc (pc := 42) (n := 1) (v := (nI (i + 1))) C 5 [(5, .int (nI (i + 1))), (0, .ref lo), (1, .int (nI v)), (2, .ref q1), (3, .int (nI (sumN (E v) w + i))), (4, .int (nI w))] rfl (nI_1 i) dL_pointed_42 (by decide) rfl ?_
              refine g_iinc (pc := 45) (n := 1) (v := (nI ((sumN (E v) w + i) + 1))) C 4 [(3, .int (nI ((sumN (E v) w + i) + 1))), (5, .int (nI (i + 1))), (0, .ref lo), (1, .int (nI v)), (2, .ref q1), (4, .int (nI w))] rfl (nI_1 (sumN (E v) w + i)) dL_pointed_45 (by decide) rfl ?_
              refine g_goto (pc := 48) C 23 (by decide) dL_pointed_48 ?_
              refine G.loc [2, 3, 4, 0, 5, 1] (lv' := [(0, .ref lo), (1, .int (nI v)), (2, .ref q1), (3, .int (nI ((sumN (E v) w + i) + 1))), (4, .int (nI w)), (5, .int (nI (i + 1)))]) rfl ?_
              refine G.fn (pwI E v w (pwO E v w) (i + 1)) 9 [(lo, .inr (13, [.ref eo, .ref e1, .ref e2, .ref e3, .ref e4, .ref e5, .int (nI n), .int (nI z), .int sw])), (eo, aR k 3 6 (fun i9 => if i9 < 6 then some (er i9) else none)), ((er 0), aI k 6 (EN E 0)), ((er 1), aI k 6 (EN E 1)), ((er 2), aI k 6 (EN E 2)), ((er 3), aI k 6 (EN E 3)), ((er 4), aI k 6 (EN E 4)), ((er 5), aI k 6 (EN E 5)), (e4, aI k 6 (fun j9 => nI (t j9))), (q1, aI k (dg E v) (pwI E v w (pwO E v w) (i + 1)))] rfl (fun j hj => by rfl) rfl ?_
              refine G.eql (lv' := [(0, .ref lo), (1, .int (nI v)), (2, .ref q1), (3, .int (nI (sumN (E v) w + (i + 1)))), (4, .int (nI w)), (5, .int (nI (i + 1)))]) (congrArg (β := List (Nat × Value)) (fun z9 => [(0, .ref lo), (1, .int (nI v)), (2, .ref q1), (3, .int z9), (4, .int (nI w)), (5, .int (nI (i + 1)))]) (show ((nI ((sumN (E v) w + i) + 1)) : Int32) = (nI (sumN (E v) w + (i + 1))) from by rfl)) ?_
              exact ih_23 (i + 1) (by omega) (by omega)
        refine G.loc [1, 2, 3, 4, 5, 0] (lv' := [(0, .ref lo), (1, .int (nI v)), (2, .ref q1), (3, .int (nI (sumN (E v) w))), (4, .int (nI w)), (5, .int 0)]) rfl ?_
        refine G.fn (pwI E v w (pwO E v w) 0) 9 [(lo, .inr (13, [.ref eo, .ref e1, .ref e2, .ref e3, .ref e4, .ref e5, .int (nI n), .int (nI z), .int sw])), (eo, aR k 3 6 (fun i9 => if i9 < 6 then some (er i9) else none)), ((er 0), aI k 6 (EN E 0)), ((er 1), aI k 6 (EN E 1)), ((er 2), aI k 6 (EN E 2)), ((er 3), aI k 6 (EN E 3)), ((er 4), aI k 6 (EN E 4)), ((er 5), aI k 6 (EN E 5)), (e4, aI k 6 (fun j9 => nI (t j9))), (q1, aI k (dg E v) (pwI E v w (pwO E v w) 0))] rfl (fun j hj => by rfl) rfl ?_
        refine G.eql (lv' := [(0, .ref lo), (1, .int (nI v)), (2, .ref q1), (3, .int (nI (sumN (E v) w + 0))), (4, .int (nI w)), (5, .int (nI 0))]) ((congrArg (β := List (Nat × Value)) (fun z9 => [(0, .ref lo), (1, .int (nI v)), (2, .ref q1), (3, .int z9), (4, .int (nI w)), (5, .int 0)]) (show ((nI (sumN (E v) w)) : Int32) = (nI (sumN (E v) w + 0)) from by first | rfl | exact nI_0.symm)).trans (congrArg (β := List (Nat × Value)) (fun z9 => [(0, .ref lo), (1, .int (nI v)), (2, .ref q1), (3, .int (nI (sumN (E v) w + 0))), (4, .int (nI w)), (5, .int z9)]) (show (0 : Int32) = (nI 0) from by first | rfl | exact nI_0.symm))) ?_
        exact key_23 (E v w - 0 + 1) 0 (by omega) (Nat.lt_succ_self _)
  refine G.loc [3, 4, 2, 1, 0] (lv' := [(0, .ref lo), (1, .int (nI v)), (2, .ref q1), (3, .int 0), (4, .int 0)]) rfl ?_
  refine G.fn (pwO E v 0) 9 [(lo, .inr (13, [.ref eo, .ref e1, .ref e2, .ref e3, .ref e4, .ref e5, .int (nI n), .int (nI z), .int sw])), (eo, aR k 3 6 (fun i9 => if i9 < 6 then some (er i9) else none)), ((er 0), aI k 6 (EN E 0)), ((er 1), aI k 6 (EN E 1)), ((er 2), aI k 6 (EN E 2)), ((er 3), aI k 6 (EN E 3)), ((er 4), aI k 6 (EN E 4)), ((er 5), aI k 6 (EN E 5)), (e4, aI k 6 (fun j9 => nI (t j9))), (q1, aI k (dg E v) (pwO E v 0))] rfl (fun j hj => by rfl) rfl ?_
  refine G.eql (lv' := [(0, .ref lo), (1, .int (nI v)), (2, .ref q1), (3, .int (nI (sumN (E v) 0))), (4, .int (nI 0))]) ((congrArg (β := List (Nat × Value)) (fun z9 => [(0, .ref lo), (1, .int (nI v)), (2, .ref q1), (3, .int z9), (4, .int 0)]) (show (0 : Int32) = (nI (sumN (E v) 0)) from by first | rfl | exact nI_0.symm)).trans (congrArg (β := List (Nat × Value)) (fun z9 => [(0, .ref lo), (1, .int (nI v)), (2, .ref q1), (3, .int (nI (sumN (E v) 0))), (4, .int z9)]) (show (0 : Int32) = (nI 0) from by first | rfl | exact nI_0.symm))) ?_
  exact key_13 (6 - 0 + 1) 0 (by omega) (Nat.lt_succ_self _)
theorem dn_lt {d n : Nat} (hd : d ≤ n) (hn : n ≤ 6) (h : ¬ (nI (n - d) - 1 : Int32) < 0) : d < n := by
  rcases Nat.lt_or_ge d n with q | q
  · exact q
  · exact absurd (by rw [show n - d = 0 by omega]; decide) h
theorem dn_ge {d n : Nat} (hd : d ≤ n) (hn : n ≤ 6) (h : (nI (n - d) - 1 : Int32) < 0) : d = n := by
  rcases Nat.lt_or_ge d n with q | q
  · rw [show n - d = (n - d - 1) + 1 by omega, nI_pred] at h
    exact absurd h (nI_pos (by omega))
  · omega
theorem dn_e {d n : Nat} (h : d < n) (hn : n ≤ 6) : (nI (n - d) - 1 : Int32) = nI (n - 1 - d) := by
  rw [show n - d = (n - 1 - d) + 1 by omega, nI_pred]
theorem dn_1 {d n : Nat} (h : d < n) : (nI (n - 1 - d) + (-1) : Int32) = nI (n - (d + 1)) - 1 := by
  rw [show n - 1 - d = n - (d + 1) by omega, Int32.sub_eq_add_neg]
/-- the edges to those that don't burn; the lowest of those looked at from above; a round -/
def blU (E : Nat → Nat → Nat) (p : Nat → Int32) (a : Nat) : Nat → Int32
  | 0 => 0
  | m + 1 => blU E p a m + (if p m < 0 then EN E a m else 0)
def blC (E : Nat → Nat → Nat) (f p : Nat → Int32) (a : Nat) : Bool := decide (p a < 0) && decide (¬ f a < blU E p a 6)
def blO (E : Nat → Nat → Nat) (n : Nat) (f p : Nat → Int32) : Nat → Option Nat
  | 0 => none
  | d + 1 => if blC E f p (n - 1 - d) = true then some (n - 1 - d) else blO E n f p d
def blI (o : Option Nat) : Int32 := match o with
  | some v => nI v
  | none => -1
def blS (p : Nat → Int32) (o : Option Nat) (k9 : Nat) : Nat → Int32 := match o with
  | some v => upd p v (nI k9)
  | none => p
def blP (E : Nat → Nat → Nat) (n z : Nat) (f : Nat → Int32) : Nat → Nat → Int32
  | 0 => upd (fun _ => -1) z 0
  | r + 1 => blS (blP E n z f r) (blO E n f (blP E n z f r) n) (r + 1)
theorem bl_y {E : Nat → Nat → Nat} {f p : Nat → Int32} {a : Nat} (h1 : ¬ 0 ≤ p a) (h2 : ¬ f a < blU E p a 6) : blC E f p a = true := by
  unfold blC; rw [decide_eq_true (Int32.not_le.mp h1), decide_eq_true h2]; rfl
theorem bl_n1 {E : Nat → Nat → Nat} {f p : Nat → Int32} {a : Nat} (h1 : 0 ≤ p a) : ¬ blC E f p a = true := by
  unfold blC; rw [decide_eq_false (Int32.not_lt.mpr h1), Bool.false_and]; decide
theorem bl_n2 {E : Nat → Nat → Nat} {f p : Nat → Int32} {a : Nat} (h2 : f a < blU E p a 6) : ¬ blC E f p a = true := by
  unfold blC; rw [show decide (¬ f a < blU E p a 6) = false from decide_eq_false (fun q => q h2), Bool.and_false]; decide
theorem blO_n {E : Nat → Nat → Nat} {n : Nat} {f p : Nat → Int32} {d : Nat} (h : ¬ blC E f p (n - 1 - d) = true) : blO E n f p (d + 1) = blO E n f p d := if_neg h
theorem blO_y {E : Nat → Nat → Nat} {n : Nat} {f p : Nat → Int32} {d : Nat} (h : blC E f p (n - 1 - d) = true) : blO E n f p (d + 1) = some (n - 1 - d) := if_pos h
theorem blO_lt {E : Nat → Nat → Nat} {n : Nat} {f p : Nat → Int32} : ∀ {d v : Nat}, blO E n f p d = some v → v ≤ n - 1
  | d + 1, v, h => by
    unfold blO at h
    split at h
    · cases h; omega
    · exact blO_lt h
theorem blI_some {o : Option Nat} (h : ¬ blI o < 0) : ∃ v, o = some v := by
  cases o with
  | some v => exact ⟨v, rfl⟩
  | none => exact absurd (by decide) h
theorem blI_none {o : Option Nat} {n : Nat} (hn : ∀ v, o = some v → v ≤ n) (hn2 : n < 2 ^ 31) (h : blI o < 0) : o = none := by
  cases o with
  | some v => exact absurd h (nI_pos (by have := hn v rfl; omega))
  | none => rfl
set_option maxRecDepth 100000 in
set_option maxHeartbeats 400000 in
theorem c_L_burns_ {l : Launch} {D : va_G} {k : Nat → ClassId} (lo : Nat) (eo : Nat) (e1 : Nat) (e2 : Nat) (e3 : Nat) (e4 : Nat) (e5 : Nat) (er : Nat → Nat) (E : Nat → Nat → Nat) (n : Nat) (z : Nat) (sw : Int32) (p7 : Nat) (f : Nat → Int32) (hn : n ≤ 6) (hz : z < n) (h1 : 1 ≤ n) : CM l D k yL_burns_ cL_burns_ 8 (some (.array .int))  0 0 [.ref lo, .ref p7] [(lo, .inr (13, [.ref eo, .ref e1, .ref e2, .ref e3, .ref e4, .ref e5, .int (nI n), .int (nI z), .int sw])), (eo, aR k 3 6 (fun i9 => if i9 < 6 then some (er i9) else none)), ((er 0), aI k 6 (EN E 0)), ((er 1), aI k 6 (EN E 1)), ((er 2), aI k 6 (EN E 2)), ((er 3), aI k 6 (EN E 3)), ((er 4), aI k 6 (EN E 4)), ((er 5), aI k 6 (EN E 5)), (p7, aI k 6 f)] (fun rv9 w9 => ∃ (qq : Nat), rv9 = (some (.ref qq)) ∧ w9 = [(lo, .inr (13, [.ref eo, .ref e1, .ref e2, .ref e3, .ref e4, .ref e5, .int (nI n), .int (nI z), .int sw])), (eo, aR k 3 6 (fun i9 => if i9 < 6 then some (er i9) else none)), ((er 0), aI k 6 (EN E 0)), ((er 1), aI k 6 (EN E 1)), ((er 2), aI k 6 (EN E 2)), ((er 3), aI k 6 (EN E 3)), ((er 4), aI k 6 (EN E 4)), ((er 5), aI k 6 (EN E 5)), (p7, aI k 6 f), (qq, aI k 6 (blP E n z f 6))]) 1 6 0 := by
  refine CM.of (lv0 := [(0, .ref lo), (1, .ref p7)]) (by decide +kernel) (Nat.le_of_ble_eq_true rfl) rfl ?_
  intro p9 e9 s9 m9 bl9 me9 co9 C hr hlk hin had
  refine g_bipush (pc := 0) (v := 6) C (by decide) dL_burns__0 ?_
  refine g_newI (pc := 2) (cells := 0) (slots := 0) (g := 0) C 6 q_4 (by decide) (by decide) (Nat.le_of_ble_eq_true rfl) (Nat.le_of_ble_eq_true rfl) (Nat.le_of_ble_eq_true rfl) dL_burns__2 (fun q1 => ?_)
  refine G.eqw (ws' := [(lo, .inr (13, [.ref eo, .ref e1, .ref e2, .ref e3, .ref e4, .ref e5, .int (nI n), .int (nI z), .int sw])), (eo, aR k 3 6 (fun i9 => if i9 < 6 then some (er i9) else none)), ((er 0), aI k 6 (EN E 0)), ((er 1), aI k 6 (EN E 1)), ((er 2), aI k 6 (EN E 2)), ((er 3), aI k 6 (EN E 3)), ((er 4), aI k 6 (EN E 4)), ((er 5), aI k 6 (EN E 5)), (p7, aI k 6 f), (q1, aI k 6 (fun _ => 0))]) rfl ?_
  refine g_dup (pc := 4) C rfl dL_burns__4 ?_
  refine g_iconst (pc := 5) (v := 0) C (by decide) dL_burns__5 ?_
  refine g_iconst (pc := 6) (v := (-1)) C (by decide) dL_burns__6 ?_
  refine g_iast_n (pc := 7) C (j := 0) 9 [(lo, .inr (13, [.ref eo, .ref e1, .ref e2, .ref e3, .ref e4, .ref e5, .int (nI n), .int (nI z), .int sw])), (eo, aR k 3 6 (fun i9 => if i9 < 6 then some (er i9) else none)), ((er 0), aI k 6 (EN E 0)), ((er 1), aI k 6 (EN E 1)), ((er 2), aI k 6 (EN E 2)), ((er 3), aI k 6 (EN E 3)), ((er 4), aI k 6 (EN E 4)), ((er 5), aI k 6 (EN E 5)), (p7, aI k 6 f), (q1, aI k 6 (upd (fun _ => 0) 0 (-1)))] rfl (by omega) (by first | decide | omega) (by decide) rfl dL_burns__7 ?_
  refine g_dup (pc := 8) C rfl dL_burns__8 ?_
  refine g_iconst (pc := 9) (v := 1) C (by decide) dL_burns__9 ?_
  refine g_iconst (pc := 10) (v := (-1)) C (by decide) dL_burns__10 ?_
  refine g_iast_n (pc := 11) C (j := 1) 9 [(lo, .inr (13, [.ref eo, .ref e1, .ref e2, .ref e3, .ref e4, .ref e5, .int (nI n), .int (nI z), .int sw])), (eo, aR k 3 6 (fun i9 => if i9 < 6 then some (er i9) else none)), ((er 0), aI k 6 (EN E 0)), ((er 1), aI k 6 (EN E 1)), ((er 2), aI k 6 (EN E 2)), ((er 3), aI k 6 (EN E 3)), ((er 4), aI k 6 (EN E 4)), ((er 5), aI k 6 (EN E 5)), (p7, aI k 6 f), (q1, aI k 6 (upd (upd (fun _ => 0) 0 (-1)) 1 (-1)))] rfl (by omega) (by first | decide | omega) (by decide) rfl dL_burns__11 ?_
  refine g_dup (pc := 12) C rfl dL_burns__12 ?_
  refine g_iconst (pc := 13) (v := 2) C (by decide) dL_burns__13 ?_
  refine g_iconst (pc := 14) (v := (-1)) C (by decide) dL_burns__14 ?_
  refine g_iast_n (pc := 15) C (j := 2) 9 [(lo, .inr (13, [.ref eo, .ref e1, .ref e2, .ref e3, .ref e4, .ref e5, .int (nI n), .int (nI z), .int sw])), (eo, aR k 3 6 (fun i9 => if i9 < 6 then some (er i9) else none)), ((er 0), aI k 6 (EN E 0)), ((er 1), aI k 6 (EN E 1)), ((er 2), aI k 6 (EN E 2)), ((er 3), aI k 6 (EN E 3)), ((er 4), aI k 6 (EN E 4)), ((er 5), aI k 6 (EN E 5)), (p7, aI k 6 f), (q1, aI k 6 (upd (upd (upd (fun _ => 0) 0 (-1)) 1 (-1)) 2 (-1)))] rfl (by omega) (by first | decide | omega) (by decide) rfl dL_burns__15 ?_
  refine g_dup (pc := 16) C rfl dL_burns__16 ?_
  refine g_iconst (pc := 17) (v := 3) C (by decide) dL_burns__17 ?_
  refine g_iconst (pc := 18) (v := (-1)) C (by decide) dL_burns__18 ?_
  refine g_iast_n (pc := 19) C (j := 3) 9 [(lo, .inr (13, [.ref eo, .ref e1, .ref e2, .ref e3, .ref e4, .ref e5, .int (nI n), .int (nI z), .int sw])), (eo, aR k 3 6 (fun i9 => if i9 < 6 then some (er i9) else none)), ((er 0), aI k 6 (EN E 0)), ((er 1), aI k 6 (EN E 1)), ((er 2), aI k 6 (EN E 2)), ((er 3), aI k 6 (EN E 3)), ((er 4), aI k 6 (EN E 4)), ((er 5), aI k 6 (EN E 5)), (p7, aI k 6 f), (q1, aI k 6 (upd (upd (upd (upd (fun _ => 0) 0 (-1)) 1 (-1)) 2 (-1)) 3 (-1)))] rfl (by omega) (by first | decide | omega) (by decide) rfl dL_burns__19 ?_
  refine g_dup (pc := 20) C rfl dL_burns__20 ?_
  refine g_iconst (pc := 21) (v := 4) C (by decide) dL_burns__21 ?_
  refine g_iconst (pc := 22) (v := (-1)) C (by decide) dL_burns__22 ?_
  refine g_iast_n (pc := 23) C (j := 4) 9 [(lo, .inr (13, [.ref eo, .ref e1, .ref e2, .ref e3, .ref e4, .ref e5, .int (nI n), .int (nI z), .int sw])), (eo, aR k 3 6 (fun i9 => if i9 < 6 then some (er i9) else none)), ((er 0), aI k 6 (EN E 0)), ((er 1), aI k 6 (EN E 1)), ((er 2), aI k 6 (EN E 2)), ((er 3), aI k 6 (EN E 3)), ((er 4), aI k 6 (EN E 4)), ((er 5), aI k 6 (EN E 5)), (p7, aI k 6 f), (q1, aI k 6 (upd (upd (upd (upd (upd (fun _ => 0) 0 (-1)) 1 (-1)) 2 (-1)) 3 (-1)) 4 (-1)))] rfl (by omega) (by first | decide | omega) (by decide) rfl dL_burns__23 ?_
  refine g_dup (pc := 24) C rfl dL_burns__24 ?_
  refine g_iconst (pc := 25) (v := 5) C (by decide) dL_burns__25 ?_
  refine g_iconst (pc := 26) (v := (-1)) C (by decide) dL_burns__26 ?_
  refine g_iast_n (pc := 27) C (j := 5) 9 [(lo, .inr (13, [.ref eo, .ref e1, .ref e2, .ref e3, .ref e4, .ref e5, .int (nI n), .int (nI z), .int sw])), (eo, aR k 3 6 (fun i9 => if i9 < 6 then some (er i9) else none)), ((er 0), aI k 6 (EN E 0)), ((er 1), aI k 6 (EN E 1)), ((er 2), aI k 6 (EN E 2)), ((er 3), aI k 6 (EN E 3)), ((er 4), aI k 6 (EN E 4)), ((er 5), aI k 6 (EN E 5)), (p7, aI k 6 f), (q1, aI k 6 (upd (upd (upd (upd (upd (upd (fun _ => 0) 0 (-1)) 1 (-1)) 2 (-1)) 3 (-1)) 4 (-1)) 5 (-1)))] rfl (by omega) (by first | decide | omega) (by decide) rfl dL_burns__27 ?_
  refine g_astore_n (pc := 28) C [(2, .ref q1), (0, .ref lo), (1, .ref p7)] rfl dL_burns__28 (by decide) rfl ?_
  refine G.fn (fun _ => (-1)) 9 [(lo, .inr (13, [.ref eo, .ref e1, .ref e2, .ref e3, .ref e4, .ref e5, .int (nI n), .int (nI z), .int sw])), (eo, aR k 3 6 (fun i9 => if i9 < 6 then some (er i9) else none)), ((er 0), aI k 6 (EN E 0)), ((er 1), aI k 6 (EN E 1)), ((er 2), aI k 6 (EN E 2)), ((er 3), aI k 6 (EN E 3)), ((er 4), aI k 6 (EN E 4)), ((er 5), aI k 6 (EN E 5)), (p7, aI k 6 f), (q1, aI k 6 (fun _ => (-1)))] rfl (fun j hj => by { rcases (show j = 0 ∨ j = 1 ∨ j = 2 ∨ j = 3 ∨ j = 4 ∨ j = 5 by omega) with rfl | rfl | rfl | rfl | rfl | rfl <;> rfl }) rfl ?_
  refine g_aload_n (pc := 29) C 0 rfl rfl dL_burns__29 ?_
  refine g_aload_n (pc := 30) C 1 rfl rfl dL_burns__30 ?_
  refine g_get (pc := 31) C (T := TXL) inXL 0 rfl rfl 7 (by decide) q_563 rfl rfl dL_burns__31 ?_
  refine g_iconst (pc := 34) (v := 0) C (by decide) dL_burns__34 ?_
  refine g_iast_n (pc := 35) C (j := z) 9 [(lo, .inr (13, [.ref eo, .ref e1, .ref e2, .ref e3, .ref e4, .ref e5, .int (nI n), .int (nI z), .int sw])), (eo, aR k 3 6 (fun i9 => if i9 < 6 then some (er i9) else none)), ((er 0), aI k 6 (EN E 0)), ((er 1), aI k 6 (EN E 1)), ((er 2), aI k 6 (EN E 2)), ((er 3), aI k 6 (EN E 3)), ((er 4), aI k 6 (EN E 4)), ((er 5), aI k 6 (EN E 5)), (p7, aI k 6 f), (q1, aI k 6 (upd (fun _ => (-1)) z 0))] rfl (by omega) (by first | decide | omega) rfl rfl dL_burns__35 ?_
  refine g_iconst (pc := 36) (v := 1) C (by decide) dL_burns__36 ?_
  refine g_istore_n (pc := 37) C [(3, .int 1), (2, .ref q1), (0, .ref lo), (1, .ref p7)] rfl dL_burns__37 (by decide) rfl ?_
  have key_38 : ∀ (fuel : Nat) (r : Nat), r ≤ 6 → 6 - r < fuel → G p9 l e9 { frames := 0, cells := 1, slots := 6, locals := 0 } s9 m9 ([.ref lo, .ref p7] : List Value).toArray bl9 me9 co9 D 8 (va_A [(lo, .inr (13, [.ref eo, .ref e1, .ref e2, .ref e3, .ref e4, .ref e5, .int (nI n), .int (nI z), .int sw])), (eo, aR k 3 6 (fun i9 => if i9 < 6 then some (er i9) else none)), ((er 0), aI k 6 (EN E 0)), ((er 1), aI k 6 (EN E 1)), ((er 2), aI k 6 (EN E 2)), ((er 3), aI k 6 (EN E 3)), ((er 4), aI k 6 (EN E 4)), ((er 5), aI k 6 (EN E 5)), (p7, aI k 6 f)] s9.heap.size) (QM bl9 D ([.ref lo, .ref p7] : List Value).toArray s9 [(lo, .inr (13, [.ref eo, .ref e1, .ref e2, .ref e3, .ref e4, .ref e5, .int (nI n), .int (nI z), .int sw])), (eo, aR k 3 6 (fun i9 => if i9 < 6 then some (er i9) else none)), ((er 0), aI k 6 (EN E 0)), ((er 1), aI k 6 (EN E 1)), ((er 2), aI k 6 (EN E 2)), ((er 3), aI k 6 (EN E 3)), ((er 4), aI k 6 (EN E 4)), ((er 5), aI k 6 (EN E 5)), (p7, aI k 6 f)] (fun rv9 w9 => ∃ (qq : Nat), rv9 = (some (.ref qq)) ∧ w9 = [(lo, .inr (13, [.ref eo, .ref e1, .ref e2, .ref e3, .ref e4, .ref e5, .int (nI n), .int (nI z), .int sw])), (eo, aR k 3 6 (fun i9 => if i9 < 6 then some (er i9) else none)), ((er 0), aI k 6 (EN E 0)), ((er 1), aI k 6 (EN E 1)), ((er 2), aI k 6 (EN E 2)), ((er 3), aI k 6 (EN E 3)), ((er 4), aI k 6 (EN E 4)), ((er 5), aI k 6 (EN E 5)), (p7, aI k 6 f), (qq, aI k 6 (blP E n z f 6))]) 1 6 0) [(lo, .inr (13, [.ref eo, .ref e1, .ref e2, .ref e3, .ref e4, .ref e5, .int (nI n), .int (nI z), .int sw])), (eo, aR k 3 6 (fun i9 => if i9 < 6 then some (er i9) else none)), ((er 0), aI k 6 (EN E 0)), ((er 1), aI k 6 (EN E 1)), ((er 2), aI k 6 (EN E 2)), ((er 3), aI k 6 (EN E 3)), ((er 4), aI k 6 (EN E 4)), ((er 5), aI k 6 (EN E 5)), (p7, aI k 6 f), (q1, aI k 6 (blP E n z f r))] [(0, .ref lo), (1, .ref p7), (2, .ref q1), (3, .int (nI (r + 1)))] 1 6 1 38 [] := by
    intro fuel
    induction fuel with
    | zero => intro r hr1 hm; exact absurd hm (Nat.not_lt_zero _)
    | succ fuel ih =>
      intro r hr1 hm
      have ih_38 := ih
      refine g_iload_n (pc := 38) C 3 rfl rfl dL_burns__38 ?_
      refine g_bipush (pc := 39) (v := 7) C (by decide) dL_burns__39 ?_
      refine g_icmp_ge (pc := 41) C 152 (by decide) dL_burns__41 (fun c_41 => ?_) (fun c_41 => ?_)
      · have h3 : r = 6 := by { have := nle_ge (b := 7) (a := r + 1) (by omega) c_41; omega }
        refine g_aload_n (pc := 152) C 2 rfl rfl dL_burns__152 ?_
        refine G.fn (blP E n z f 6) 9 [(lo, .inr (13, [.ref eo, .ref e1, .ref e2, .ref e3, .ref e4, .ref e5, .int (nI n), .int (nI z), .int sw])), (eo, aR k 3 6 (fun i9 => if i9 < 6 then some (er i9) else none)), ((er 0), aI k 6 (EN E 0)), ((er 1), aI k 6 (EN E 1)), ((er 2), aI k 6 (EN E 2)), ((er 3), aI k 6 (EN E 3)), ((er 4), aI k 6 (EN E 4)), ((er 5), aI k 6 (EN E 5)), (p7, aI k 6 f), (q1, aI k 6 (blP E n z f 6))] rfl (fun j hj => by rw [h3]) rfl ?_
        exact g_aret (pc := 153) C hr (by first | exact Or.inl ⟨_, rfl⟩ | exact Or.inr ⟨_, rfl⟩) hlk (by first | decide | omega) (by first | decide | omega) (by first | decide | omega) dL_burns__153 ⟨q1, rfl, rfl⟩
      · have hl41 : r < 6 := by { have := nle_lt (a := r + 1) (b := 7) (by omega) c_41; omega }
        refine g_iconst (pc := 44) (v := (-1)) C (by decide) dL_burns__44 ?_
        refine g_istore (pc := 45) C [(4, .int (-1)), (0, .ref lo), (1, .ref p7), (2, .ref q1), (3, .int (nI (r + 1)))] dL_burns__45 (by decide) rfl ?_
        refine g_aload_n (pc := 47) C 1 rfl rfl dL_burns__47 ?_
        refine g_get (pc := 48) C (T := TXL) inXL 0 rfl rfl 6 (by decide) q_564 rfl rfl dL_burns__48 ?_
        refine g_iconst (pc := 51) (v := 1) C (by decide) dL_burns__51 ?_
        refine g_isub (pc := 52) C dL_burns__52 ?_
        refine g_istore (pc := 53) C [(5, .int ((nI n) - 1)), (4, .int (-1)), (0, .ref lo), (1, .ref p7), (2, .ref q1), (3, .int (nI (r + 1)))] dL_burns__53 (by decide) rfl ?_
        have key_55 : ∀ (fuel : Nat) (d : Nat), d ≤ n → n + 1 - d < fuel → G p9 l e9 { frames := 0, cells := 1, slots := 6, locals := 0 } s9 m9 ([.ref lo, .ref p7] : List Value).toArray bl9 me9 co9 D 8 (va_A [(lo, .inr (13, [.ref eo, .ref e1, .ref e2, .ref e3, .ref e4, .ref e5, .int (nI n), .int (nI z), .int sw])), (eo, aR k 3 6 (fun i9 => if i9 < 6 then some (er i9) else none)), ((er 0), aI k 6 (EN E 0)), ((er 1), aI k 6 (EN E 1)), ((er 2), aI k 6 (EN E 2)), ((er 3), aI k 6 (EN E 3)), ((er 4), aI k 6 (EN E 4)), ((er 5), aI k 6 (EN E 5)), (p7, aI k 6 f)] s9.heap.size) (QM bl9 D ([.ref lo, .ref p7] : List Value).toArray s9 [(lo, .inr (13, [.ref eo, .ref e1, .ref e2, .ref e3, .ref e4, .ref e5, .int (nI n), .int (nI z), .int sw])), (eo, aR k 3 6 (fun i9 => if i9 < 6 then some (er i9) else none)), ((er 0), aI k 6 (EN E 0)), ((er 1), aI k 6 (EN E 1)), ((er 2), aI k 6 (EN E 2)), ((er 3), aI k 6 (EN E 3)), ((er 4), aI k 6 (EN E 4)), ((er 5), aI k 6 (EN E 5)), (p7, aI k 6 f)] (fun rv9 w9 => ∃ (qq : Nat), rv9 = (some (.ref qq)) ∧ w9 = [(lo, .inr (13, [.ref eo, .ref e1, .ref e2, .ref e3, .ref e4, .ref e5, .int (nI n), .int (nI z), .int sw])), (eo, aR k 3 6 (fun i9 => if i9 < 6 then some (er i9) else none)), ((er 0), aI k 6 (EN E 0)), ((er 1), aI k 6 (EN E 1)), ((er 2), aI k 6 (EN E 2)), ((er 3), aI k 6 (EN E 3)), ((er 4), aI k 6 (EN E 4)), ((er 5), aI k 6 (EN E 5)), (p7, aI k 6 f), (qq, aI k 6 (blP E n z f 6))]) 1 6 0) [(lo, .inr (13, [.ref eo, .ref e1, .ref e2, .ref e3, .ref e4, .ref e5, .int (nI n), .int (nI z), .int sw])), (eo, aR k 3 6 (fun i9 => if i9 < 6 then some (er i9) else none)), ((er 0), aI k 6 (EN E 0)), ((er 1), aI k 6 (EN E 1)), ((er 2), aI k 6 (EN E 2)), ((er 3), aI k 6 (EN E 3)), ((er 4), aI k 6 (EN E 4)), ((er 5), aI k 6 (EN E 5)), (p7, aI k 6 f), (q1, aI k 6 (blP E n z f r))] [(0, .ref lo), (1, .ref p7), (2, .ref q1), (3, .int (nI (r + 1))), (4, .int (blI (blO E n f (blP E n z f r) d))), (5, .int (nI (n - d) - 1))] 1 6 1 55 [] := by
          intro fuel
          induction fuel with
          | zero => intro d hd hm; exact absurd hm (Nat.not_lt_zero _)
          | succ fuel ih =>
            intro d hd hm
            have ih_55 := ih
            refine g_iload (pc := 55) C 5 rfl dL_burns__55 ?_
            refine g_if_lt (pc := 57) C 136 (by decide) dL_burns__57 (fun c_57 => ?_) (fun c_57 => ?_)
            · have h4 : d = n := dn_ge hd hn c_57
              refine G.eql (lv' := [(0, .ref lo), (1, .ref p7), (2, .ref q1), (3, .int (nI (r + 1))), (4, .int (blI (blO E n f (blP E n z f r) n))), (5, .int (nI (n - d) - 1))]) (congrArg (β := List (Nat × Value)) (fun z9 => [(0, .ref lo), (1, .ref p7), (2, .ref q1), (3, .int (nI (r + 1))), (4, .int z9), (5, .int (nI (n - d) - 1))]) (show ((blI (blO E n f (blP E n z f r) d)) : Int32) = (blI (blO E n f (blP E n z f r) n)) from by rw [h4])) ?_
              refine g_iload (pc := 136) C 4 rfl dL_burns__136 ?_
              refine g_if_lt (pc := 138) C 146 (by decide) dL_burns__138 (fun c_138 => ?_) (fun c_138 => ?_)
              · have hv9 := blI_none (n := 5) (fun v hv => by have := blO_lt hv; omega) (by omega) c_138
                refine g_iinc (pc := 146) (n := 1) (v := (nI ((r + 1) + 1))) C 3 [(3, .int (nI ((r + 1) + 1))), (0, .ref lo), (1, .ref p7), (2, .ref q1), (4, .int (blI (blO E n f (blP E n z f r) n))), (5, .int (nI (n - d) - 1))] rfl (nI_1 (r + 1)) dL_burns__146 (by decide) rfl ?_
                refine g_goto (pc := 149) C 38 (by decide) dL_burns__149 ?_
                refine G.loc [1, 2, 3, 0] (lv' := [(0, .ref lo), (1, .ref p7), (2, .ref q1), (3, .int (nI ((r + 1) + 1)))]) rfl ?_
                refine G.fn (blP E n z f (r + 1)) 9 [(lo, .inr (13, [.ref eo, .ref e1, .ref e2, .ref e3, .ref e4, .ref e5, .int (nI n), .int (nI z), .int sw])), (eo, aR k 3 6 (fun i9 => if i9 < 6 then some (er i9) else none)), ((er 0), aI k 6 (EN E 0)), ((er 1), aI k 6 (EN E 1)), ((er 2), aI k 6 (EN E 2)), ((er 3), aI k 6 (EN E 3)), ((er 4), aI k 6 (EN E 4)), ((er 5), aI k 6 (EN E 5)), (p7, aI k 6 f), (q1, aI k 6 (blP E n z f (r + 1)))] rfl (fun j hj => by first | (show _ = blS _ _ _ j; rw [hv8]; try rfl) | (show _ = blS _ _ _ j; rw [hv9]; try rfl)) rfl ?_
                exact ih_38 (r + 1) (by omega) (by omega)
              · obtain ⟨v8, hv8⟩ := blI_some c_138
                have hv8n := blO_lt hv8
                refine G.eql (lv' := [(0, .ref lo), (1, .ref p7), (2, .ref q1), (3, .int (nI (r + 1))), (4, .int (nI v8)), (5, .int (nI (n - d) - 1))]) (congrArg (β := List (Nat × Value)) (fun z9 => [(0, .ref lo), (1, .ref p7), (2, .ref q1), (3, .int (nI (r + 1))), (4, .int z9), (5, .int (nI (n - d) - 1))]) (show ((blI (blO E n f (blP E n z f r) n)) : Int32) = (nI v8) from by rw [hv8]; try rfl)) ?_
                refine g_aload_n (pc := 141) C 2 rfl rfl dL_burns__141 ?_
                refine g_iload (pc := 142) C 4 rfl dL_burns__142 ?_
                refine g_iload_n (pc := 144) C 3 rfl rfl dL_burns__144 ?_
                refine g_iast_n (pc := 145) C (j := v8) 9 [(lo, .inr (13, [.ref eo, .ref e1, .ref e2, .ref e3, .ref e4, .ref e5, .int (nI n), .int (nI z), .int sw])), (eo, aR k 3 6 (fun i9 => if i9 < 6 then some (er i9) else none)), ((er 0), aI k 6 (EN E 0)), ((er 1), aI k 6 (EN E 1)), ((er 2), aI k 6 (EN E 2)), ((er 3), aI k 6 (EN E 3)), ((er 4), aI k 6 (EN E 4)), ((er 5), aI k 6 (EN E 5)), (p7, aI k 6 f), (q1, aI k 6 (upd (blP E n z f r) v8 (nI (r + 1))))] rfl (by omega) (by first | decide | omega) rfl rfl dL_burns__145 ?_
                refine g_iinc (pc := 146) (n := 1) (v := (nI ((r + 1) + 1))) C 3 [(3, .int (nI ((r + 1) + 1))), (0, .ref lo), (1, .ref p7), (2, .ref q1), (4, .int (nI v8)), (5, .int (nI (n - d) - 1))] rfl (nI_1 (r + 1)) dL_burns__146 (by decide) rfl ?_
                refine g_goto (pc := 149) C 38 (by decide) dL_burns__149 ?_
                refine G.loc [1, 2, 3, 0] (lv' := [(0, .ref lo), (1, .ref p7), (2, .ref q1), (3, .int (nI ((r + 1) + 1)))]) rfl ?_
                refine G.fn (blP E n z f (r + 1)) 9 [(lo, .inr (13, [.ref eo, .ref e1, .ref e2, .ref e3, .ref e4, .ref e5, .int (nI n), .int (nI z), .int sw])), (eo, aR k 3 6 (fun i9 => if i9 < 6 then some (er i9) else none)), ((er 0), aI k 6 (EN E 0)), ((er 1), aI k 6 (EN E 1)), ((er 2), aI k 6 (EN E 2)), ((er 3), aI k 6 (EN E 3)), ((er 4), aI k 6 (EN E 4)), ((er 5), aI k 6 (EN E 5)), (p7, aI k 6 f), (q1, aI k 6 (blP E n z f (r + 1)))] rfl (fun j hj => by first | (show _ = blS _ _ _ j; rw [hv8]; try rfl) | (show _ = blS _ _ _ j; rw [hv9]; try rfl)) rfl ?_
                exact ih_38 (r + 1) (by omega) (by omega)
            · have hl57 : d < n := dn_lt hd hn c_57
              refine G.eql (lv' := [(0, .ref lo), (1, .ref p7), (2, .ref q1), (3, .int (nI (r + 1))), (4, .int (blI (blO E n f (blP E n z f r) d))), (5, .int (nI (n - 1 - d)))]) (congrArg (β := List (Nat × Value)) (fun z9 => [(0, .ref lo), (1, .ref p7), (2, .ref q1), (3, .int (nI (r + 1))), (4, .int (blI (blO E n f (blP E n z f r) d))), (5, .int z9)]) (show ((nI (n - d) - 1) : Int32) = (nI (n - 1 - d)) from by exact dn_e hl57 hn)) ?_
              refine g_iconst (pc := 60) (v := 0) C (by decide) dL_burns__60 ?_
              refine g_istore (pc := 61) C [(6, .int 0), (0, .ref lo), (1, .ref p7), (2, .ref q1), (3, .int (nI (r + 1))), (4, .int (blI (blO E n f (blP E n z f r) d))), (5, .int (nI (n - 1 - d)))] dL_burns__61 (by decide) rfl ?_
              refine g_iconst (pc := 63) (v := 0) C (by decide) dL_burns__63 ?_
              refine g_istore (pc := 64) C [(7, .int 0), (6, .int 0), (0, .ref lo), (1, .ref p7), (2, .ref q1), (3, .int (nI (r + 1))), (4, .int (blI (blO E n f (blP E n z f r) d))), (5, .int (nI (n - 1 - d)))] dL_burns__64 (by decide) rfl ?_
              have key_66 : ∀ (fuel : Nat) (w : Nat), w ≤ 6 → 6 - w < fuel → G p9 l e9 { frames := 0, cells := 1, slots := 6, locals := 0 } s9 m9 ([.ref lo, .ref p7] : List Value).toArray bl9 me9 co9 D 8 (va_A [(lo, .inr (13, [.ref eo, .ref e1, .ref e2, .ref e3, .ref e4, .ref e5, .int (nI n), .int (nI z), .int sw])), (eo, aR k 3 6 (fun i9 => if i9 < 6 then some (er i9) else none)), ((er 0), aI k 6 (EN E 0)), ((er 1), aI k 6 (EN E 1)), ((er 2), aI k 6 (EN E 2)), ((er 3), aI k 6 (EN E 3)), ((er 4), aI k 6 (EN E 4)), ((er 5), aI k 6 (EN E 5)), (p7, aI k 6 f)] s9.heap.size) (QM bl9 D ([.ref lo, .ref p7] : List Value).toArray s9 [(lo, .inr (13, [.ref eo, .ref e1, .ref e2, .ref e3, .ref e4, .ref e5, .int (nI n), .int (nI z), .int sw])), (eo, aR k 3 6 (fun i9 => if i9 < 6 then some (er i9) else none)), ((er 0), aI k 6 (EN E 0)), ((er 1), aI k 6 (EN E 1)), ((er 2), aI k 6 (EN E 2)), ((er 3), aI k 6 (EN E 3)), ((er 4), aI k 6 (EN E 4)), ((er 5), aI k 6 (EN E 5)), (p7, aI k 6 f)] (fun rv9 w9 => ∃ (qq : Nat), rv9 = (some (.ref qq)) ∧ w9 = [(lo, .inr (13, [.ref eo, .ref e1, .ref e2, .ref e3, .ref e4, .ref e5, .int (nI n), .int (nI z), .int sw])), (eo, aR k 3 6 (fun i9 => if i9 < 6 then some (er i9) else none)), ((er 0), aI k 6 (EN E 0)), ((er 1), aI k 6 (EN E 1)), ((er 2), aI k 6 (EN E 2)), ((er 3), aI k 6 (EN E 3)), ((er 4), aI k 6 (EN E 4)), ((er 5), aI k 6 (EN E 5)), (p7, aI k 6 f), (qq, aI k 6 (blP E n z f 6))]) 1 6 0) [(lo, .inr (13, [.ref eo, .ref e1, .ref e2, .ref e3, .ref e4, .ref e5, .int (nI n), .int (nI z), .int sw])), (eo, aR k 3 6 (fun i9 => if i9 < 6 then some (er i9) else none)), ((er 0), aI k 6 (EN E 0)), ((er 1), aI k 6 (EN E 1)), ((er 2), aI k 6 (EN E 2)), ((er 3), aI k 6 (EN E 3)), ((er 4), aI k 6 (EN E 4)), ((er 5), aI k 6 (EN E 5)), (p7, aI k 6 f), (q1, aI k 6 (blP E n z f r))] [(0, .ref lo), (1, .ref p7), (2, .ref q1), (3, .int (nI (r + 1))), (4, .int (blI (blO E n f (blP E n z f r) d))), (5, .int (nI (n - 1 - d))), (6, .int (blU E (blP E n z f r) (n - 1 - d) w)), (7, .int (nI w))] 1 6 1 66 [] := by
                intro fuel
                induction fuel with
                | zero => intro w hw hm; exact absurd hm (Nat.not_lt_zero _)
                | succ fuel ih =>
                  intro w hw hm
                  have ih_66 := ih
                  refine g_iload (pc := 66) C 7 rfl dL_burns__66 ?_
                  refine g_bipush (pc := 68) (v := 6) C (by decide) dL_burns__68 ?_
                  refine g_icmp_ge (pc := 70) C 105 (by decide) dL_burns__70 (fun c_70 => ?_) (fun c_70 => ?_)
                  · have h5 : w = 6 := by { have := nle_ge (b := 6) (a := w) (by omega) c_70; omega }
                    refine G.eql (lv' := [(0, .ref lo), (1, .ref p7), (2, .ref q1), (3, .int (nI (r + 1))), (4, .int (blI (blO E n f (blP E n z f r) d))), (5, .int (nI (n - 1 - d))), (6, .int (blU E (blP E n z f r) (n - 1 - d) 6)), (7, .int (nI w))]) (congrArg (β := List (Nat × Value)) (fun z9 => [(0, .ref lo), (1, .ref p7), (2, .ref q1), (3, .int (nI (r + 1))), (4, .int (blI (blO E n f (blP E n z f r) d))), (5, .int (nI (n - 1 - d))), (6, .int z9), (7, .int (nI w))]) (show ((blU E (blP E n z f r) (n - 1 - d) w) : Int32) = (blU E (blP E n z f r) (n - 1 - d) 6) from by rw [h5])) ?_
                    refine g_aload_n (pc := 105) C 2 rfl rfl dL_burns__105 ?_
                    refine g_iload (pc := 106) C 5 rfl dL_burns__106 ?_
                    refine g_iald_n (pc := 108) C (j := (n - 1 - d)) 9 rfl (by omega) (by first | decide | omega) rfl dL_burns__108 ?_
                    refine g_if_ge (pc := 109) C 126 (by decide) dL_burns__109 (fun c_109 => ?_) (fun c_109 => ?_)
                    · refine g_iload (pc := 126) C 4 rfl dL_burns__126 ?_
                      refine g_istore (pc := 128) C [(4, .int (blI (blO E n f (blP E n z f r) d))), (0, .ref lo), (1, .ref p7), (2, .ref q1), (3, .int (nI (r + 1))), (5, .int (nI (n - 1 - d))), (6, .int (blU E (blP E n z f r) (n - 1 - d) 6)), (7, .int (nI w))] dL_burns__128 (by decide) rfl ?_
                      refine g_iinc (pc := 130) (n := -1) (v := ((nI (n - 1 - d)) + (-1))) C 5 [(5, .int ((nI (n - 1 - d)) + (-1))), (4, .int (blI (blO E n f (blP E n z f r) d))), (0, .ref lo), (1, .ref p7), (2, .ref q1), (3, .int (nI (r + 1))), (6, .int (blU E (blP E n z f r) (n - 1 - d) 6)), (7, .int (nI w))] rfl rfl dL_burns__130 (by decide) rfl ?_
                      refine g_goto (pc := 133) C 55 (by decide) dL_burns__133 ?_
                      refine G.loc [2, 3, 4, 5, 1, 0] (lv' := [(0, .ref lo), (1, .ref p7), (2, .ref q1), (3, .int (nI (r + 1))), (4, .int (blI (blO E n f (blP E n z f r) d))), (5, .int ((nI (n - 1 - d)) + (-1)))]) rfl ?_
                      refine G.eql (lv' := [(0, .ref lo), (1, .ref p7), (2, .ref q1), (3, .int (nI (r + 1))), (4, .int (blI (blO E n f (blP E n z f r) (d + 1)))), (5, .int (nI (n - (d + 1)) - 1))]) ((congrArg (β := List (Nat × Value)) (fun z9 => [(0, .ref lo), (1, .ref p7), (2, .ref q1), (3, .int (nI (r + 1))), (4, .int z9), (5, .int ((nI (n - 1 - d)) + (-1)))]) (show ((blI (blO E n f (blP E n z f r) d)) : Int32) = (blI (blO E n f (blP E n z f r) (d + 1))) from by first | (rw [blO_n (bl_n1 c_109)]) | (rw [blO_n (bl_n2 c_118)]) | (rw [blO_y (bl_y c_109 c_118)]; rfl) | exact dn_1 hl57)).trans (congrArg (β := List (Nat × Value)) (fun z9 => [(0, .ref lo), (1, .ref p7), (2, .ref q1), (3, .int (nI (r + 1))), (4, .int (blI (blO E n f (blP E n z f r) (d + 1)))), (5, .int z9)]) (show (((nI (n - 1 - d)) + (-1)) : Int32) = (nI (n - (d + 1)) - 1) from by first | (rw [blO_n (bl_n1 c_109)]) | (rw [blO_n (bl_n2 c_118)]) | (rw [blO_y (bl_y c_109 c_118)]; rfl) | exact dn_1 hl57))) ?_
                      exact ih_55 (d + 1) (by omega) (by omega)
                    · refine g_aload_n (pc := 112) C 1 rfl rfl dL_burns__112 ?_
                      refine g_iload (pc := 113) C 5 rfl dL_burns__113 ?_
                      refine g_iald_n (pc := 115) C (j := (n - 1 - d)) 8 rfl (by omega) (by first | decide | omega) rfl dL_burns__115 ?_
                      refine g_iload (pc := 116) C 6 rfl dL_burns__116 ?_
                      refine g_icmp_lt (pc := 118) C 126 (by decide) dL_burns__118 (fun c_118 => ?_) (fun c_118 => ?_)
                      · refine g_iload (pc := 126) C 4 rfl dL_burns__126 ?_
                        refine g_istore (pc := 128) C [(4, .int (blI (blO E n f (blP E n z f r) d))), (0, .ref lo), (1, .ref p7), (2, .ref q1), (3, .int (nI (r + 1))), (5, .int (nI (n - 1 - d))), (6, .int (blU E (blP E n z f r) (n - 1 - d) 6)), (7, .int (nI w))] dL_burns__128 (by decide) rfl ?_
                        refine g_iinc (pc := 130) (n := -1) (v := ((nI (n - 1 - d)) + (-1))) C 5 [(5, .int ((nI (n - 1 - d)) + (-1))), (4, .int (blI (blO E n f (blP E n z f r) d))), (0, .ref lo), (1, .ref p7), (2, .ref q1), (3, .int (nI (r + 1))), (6, .int (blU E (blP E n z f r) (n - 1 - d) 6)), (7, .int (nI w))] rfl rfl dL_burns__130 (by decide) rfl ?_
                        refine g_goto (pc := 133) C 55 (by decide) dL_burns__133 ?_
                        refine G.loc [2, 3, 4, 5, 1, 0] (lv' := [(0, .ref lo), (1, .ref p7), (2, .ref q1), (3, .int (nI (r + 1))), (4, .int (blI (blO E n f (blP E n z f r) d))), (5, .int ((nI (n - 1 - d)) + (-1)))]) rfl ?_
                        refine G.eql (lv' := [(0, .ref lo), (1, .ref p7), (2, .ref q1), (3, .int (nI (r + 1))), (4, .int (blI (blO E n f (blP E n z f r) (d + 1)))), (5, .int (nI (n - (d + 1)) - 1))]) ((congrArg (β := List (Nat × Value)) (fun z9 => [(0, .ref lo), (1, .ref p7), (2, .ref q1), (3, .int (nI (r + 1))), (4, .int z9), (5, .int ((nI (n - 1 - d)) + (-1)))]) (show ((blI (blO E n f (blP E n z f r) d)) : Int32) = (blI (blO E n f (blP E n z f r) (d + 1))) from by first | (rw [blO_n (bl_n1 c_109)]) | (rw [blO_n (bl_n2 c_118)]) | (rw [blO_y (bl_y c_109 c_118)]; rfl) | exact dn_1 hl57)).trans (congrArg (β := List (Nat × Value)) (fun z9 => [(0, .ref lo), (1, .ref p7), (2, .ref q1), (3, .int (nI (r + 1))), (4, .int (blI (blO E n f (blP E n z f r) (d + 1)))), (5, .int z9)]) (show (((nI (n - 1 - d)) + (-1)) : Int32) = (nI (n - (d + 1)) - 1) from by first | (rw [blO_n (bl_n1 c_109)]) | (rw [blO_n (bl_n2 c_118)]) | (rw [blO_y (bl_y c_109 c_118)]; rfl) | exact dn_1 hl57))) ?_
                        exact ih_55 (d + 1) (by omega) (by omega)
                      · refine g_iload (pc := 121) C 5 rfl dL_burns__121 ?_
                        refine g_goto (pc := 123) C 128 (by decide) dL_burns__123 ?_
                        refine g_istore (pc := 128) C [(4, .int (nI (n - 1 - d))), (0, .ref lo), (1, .ref p7), (2, .ref q1), (3, .int (nI (r + 1))), (5, .int (nI (n - 1 - d))), (6, .int (blU E (blP E n z f r) (n - 1 - d) 6)), (7, .int (nI w))] dL_burns__128 (by decide) rfl ?_
                        refine g_iinc (pc := 130) (n := -1) (v := ((nI (n - 1 - d)) + (-1))) C 5 [(5, .int ((nI (n - 1 - d)) + (-1))), (4, .int (nI (n - 1 - d))), (0, .ref lo), (1, .ref p7), (2, .ref q1), (3, .int (nI (r + 1))), (6, .int (blU E (blP E n z f r) (n - 1 - d) 6)), (7, .int (nI w))] rfl rfl dL_burns__130 (by decide) rfl ?_
                        refine g_goto (pc := 133) C 55 (by decide) dL_burns__133 ?_
                        refine G.loc [2, 3, 4, 5, 1, 0] (lv' := [(0, .ref lo), (1, .ref p7), (2, .ref q1), (3, .int (nI (r + 1))), (4, .int (nI (n - 1 - d))), (5, .int ((nI (n - 1 - d)) + (-1)))]) rfl ?_
                        refine G.eql (lv' := [(0, .ref lo), (1, .ref p7), (2, .ref q1), (3, .int (nI (r + 1))), (4, .int (blI (blO E n f (blP E n z f r) (d + 1)))), (5, .int (nI (n - (d + 1)) - 1))]) ((congrArg (β := List (Nat × Value)) (fun z9 => [(0, .ref lo), (1, .ref p7), (2, .ref q1), (3, .int (nI (r + 1))), (4, .int z9), (5, .int ((nI (n - 1 - d)) + (-1)))]) (show ((nI (n - 1 - d)) : Int32) = (blI (blO E n f (blP E n z f r) (d + 1))) from by first | (rw [blO_n (bl_n1 c_109)]) | (rw [blO_n (bl_n2 c_118)]) | (rw [blO_y (bl_y c_109 c_118)]; rfl) | exact dn_1 hl57)).trans (congrArg (β := List (Nat × Value)) (fun z9 => [(0, .ref lo), (1, .ref p7), (2, .ref q1), (3, .int (nI (r + 1))), (4, .int (blI (blO E n f (blP E n z f r) (d + 1)))), (5, .int z9)]) (show (((nI (n - 1 - d)) + (-1)) : Int32) = (nI (n - (d + 1)) - 1) from by first | (rw [blO_n (bl_n1 c_109)]) | (rw [blO_n (bl_n2 c_118)]) | (rw [blO_y (bl_y c_109 c_118)]; rfl) | exact dn_1 hl57))) ?_
                        exact ih_55 (d + 1) (by omega) (by omega)
                  · have hl70 : w < 6 := nle_lt (by omega) c_70
                    refine g_iload (pc := 73) C 6 rfl dL_burns__73 ?_
                    refine g_aload_n (pc := 75) C 2 rfl rfl dL_burns__75 ?_
                    refine g_iload (pc := 76) C 7 rfl dL_burns__76 ?_
                    refine g_iald_n (pc := 78) C (j := w) 9 rfl (by omega) (by first | decide | omega) rfl dL_burns__78 ?_
                    refine g_if_ge (pc := 79) C 95 (by decide) dL_burns__79 (fun c_79 => ?_) (fun c_79 => ?_)
                    · refine g_iconst (pc := 95) (v := 0) C (by decide) dL_burns__95 ?_
                      refine g_iadd (pc := 96) C dL_burns__96 ?_
                      refine g_istore (pc := 97) C [(6, .int ((blU E (blP E n z f r) (n - 1 - d) w) + 0)), (0, .ref lo), (1, .ref p7), (2, .ref q1), (3, .int (nI (r + 1))), (4, .int (blI (blO E n f (blP E n z f r) d))), (5, .int (nI (n - 1 - d))), (7, .int (nI w))] dL_burns__97 (by decide) rfl ?_
                      refine g_iinc (pc := 99) (n := 1) (v := (nI (w + 1))) C 7 [(7, .int (nI (w + 1))), (6, .int ((blU E (blP E n z f r) (n - 1 - d) w) + 0)), (0, .ref lo), (1, .ref p7), (2, .ref q1), (3, .int (nI (r + 1))), (4, .int (blI (blO E n f (blP E n z f r) d))), (5, .int (nI (n - 1 - d)))] rfl (nI_1 w) dL_burns__99 (by decide) rfl ?_
                      refine g_goto (pc := 102) C 66 (by decide) dL_burns__102 ?_
                      refine G.loc [2, 3, 4, 5, 6, 7, 1, 0] (lv' := [(0, .ref lo), (1, .ref p7), (2, .ref q1), (3, .int (nI (r + 1))), (4, .int (blI (blO E n f (blP E n z f r) d))), (5, .int (nI (n - 1 - d))), (6, .int ((blU E (blP E n z f r) (n - 1 - d) w) + 0)), (7, .int (nI (w + 1)))]) rfl ?_
                      refine G.eql (lv' := [(0, .ref lo), (1, .ref p7), (2, .ref q1), (3, .int (nI (r + 1))), (4, .int (blI (blO E n f (blP E n z f r) d))), (5, .int (nI (n - 1 - d))), (6, .int (blU E (blP E n z f r) (n - 1 - d) (w + 1))), (7, .int (nI (w + 1)))]) (congrArg (β := List (Nat × Value)) (fun z9 => [(0, .ref lo), (1, .ref p7), (2, .ref q1), (3, .int (nI (r + 1))), (4, .int (blI (blO E n f (blP E n z f r) d))), (5, .int (nI (n - 1 - d))), (6, .int z9), (7, .int (nI (w + 1)))]) (show (((blU E (blP E n z f r) (n - 1 - d) w) + 0) : Int32) = (blU E (blP E n z f r) (n - 1 - d) (w + 1)) from by first | rfl | (show _ = _ + (if _ then _ else _); rw [if_pos (Int32.not_le.mp c_79)]) | (show _ = _ + (if _ then _ else _); rw [if_neg (Int32.not_lt.mpr c_79)]))) ?_
                      exact ih_66 (w + 1) (by omega) (by omega)
                    · refine g_aload_n (pc := 82) C 0 rfl rfl dL_burns__82 ?_
                      refine g_get (pc := 83) C (T := TXL) inXL 0 rfl rfl 0 (by decide) q_561 rfl rfl dL_burns__83 ?_
                      refine g_iload (pc := 86) C 5 rfl dL_burns__86 ?_
                      refine g_aald (pc := 88) C (j := (n - 1 - d)) (b := er (n - 1 - d)) 1 rfl (by omega) (by decide) rfl (if_pos (by omega)) dL_burns__88 ?_
                      refine g_iload (pc := 89) C 7 rfl dL_burns__89 ?_
                      refine g_iald_n (pc := 91) (a := (er (n - 1 - d))) (n := 6) (f := (EN E (n - 1 - d))) C (j := w) (2 + (n - 1 - d)) (by rcases (show (n - 1 - d) = 0 ∨ (n - 1 - d) = 1 ∨ (n - 1 - d) = 2 ∨ (n - 1 - d) = 3 ∨ (n - 1 - d) = 4 ∨ (n - 1 - d) = 5 by omega) with h9 | h9 | h9 | h9 | h9 | h9 <;> rw [h9] <;> rfl) (by omega) (by first | decide | omega) rfl dL_burns__91 ?_
                      refine g_goto (pc := 92) C 96 (by decide) dL_burns__92 ?_
                      refine g_iadd (pc := 96) C dL_burns__96 ?_
                      refine g_istore (pc := 97) C [(6, .int ((blU E (blP E n z f r) (n - 1 - d) w) + ((EN E (n - 1 - d)) w))), (0, .ref lo), (1, .ref p7), (2, .ref q1), (3, .int (nI (r + 1))), (4, .int (blI (blO E n f (blP E n z f r) d))), (5, .int (nI (n - 1 - d))), (7, .int (nI w))] dL_burns__97 (by decide) rfl ?_
                      refine g_iinc (pc := 99) (n := 1) (v := (nI (w + 1))) C 7 [(7, .int (nI (w + 1))), (6, .int ((blU E (blP E n z f r) (n - 1 - d) w) + ((EN E (n - 1 - d)) w))), (0, .ref lo), (1, .ref p7), (2, .ref q1), (3, .int (nI (r + 1))), (4, .int (blI (blO E n f (blP E n z f r) d))), (5, .int (nI (n - 1 - d)))] rfl (nI_1 w) dL_burns__99 (by decide) rfl ?_
                      refine g_goto (pc := 102) C 66 (by decide) dL_burns__102 ?_
                      refine G.loc [2, 3, 4, 5, 6, 7, 1, 0] (lv' := [(0, .ref lo), (1, .ref p7), (2, .ref q1), (3, .int (nI (r + 1))), (4, .int (blI (blO E n f (blP E n z f r) d))), (5, .int (nI (n - 1 - d))), (6, .int ((blU E (blP E n z f r) (n - 1 - d) w) + ((EN E (n - 1 - d)) w))), (7, .int (nI (w + 1)))]) rfl ?_
                      refine G.eql (lv' := [(0, .ref lo), (1, .ref p7), (2, .ref q1), (3, .int (nI (r + 1))), (4, .int (blI (blO E n f (blP E n z f r) d))), (5, .int (nI (n - 1 - d))), (6, .int (blU E (blP E n z f r) (n - 1 - d) (w + 1))), (7, .int (nI (w + 1)))]) (congrArg (β := List (Nat × Value)) (fun z9 => [(0, .ref lo), (1, .ref p7), (2, .ref q1), (3, .int (nI (r + 1))), (4, .int (blI (blO E n f (blP E n z f r) d))), (5, .int (nI (n - 1 - d))), (6, .int z9), (7, .int (nI (w + 1)))]) (show (((blU E (blP E n z f r) (n - 1 - d) w) + ((EN E (n - 1 - d)) w)) : Int32) = (blU E (blP E n z f r) (n - 1 - d) (w + 1)) from by first | rfl | (show _ = _ + (if _ then _ else _); rw [if_pos (Int32.not_le.mp c_79)]) | (show _ = _ + (if _ then _ else _); rw [if_neg (Int32.not_lt.mpr c_79)]))) ?_
                      exact ih_66 (w + 1) (by omega) (by omega)
              refine G.loc [2, 3, 4, 5, 6, 7, 1, 0] (lv' := [(0, .ref lo), (1, .ref p7), (2, .ref q1), (3, .int (nI (r + 1))), (4, .int (blI (blO E n f (blP E n z f r) d))), (5, .int (nI (n - 1 - d))), (6, .int 0), (7, .int 0)]) rfl ?_
              refine G.eql (lv' := [(0, .ref lo), (1, .ref p7), (2, .ref q1), (3, .int (nI (r + 1))), (4, .int (blI (blO E n f (blP E n z f r) d))), (5, .int (nI (n - 1 - d))), (6, .int (blU E (blP E n z f r) (n - 1 - d) 0)), (7, .int (nI 0))]) ((congrArg (β := List (Nat × Value)) (fun z9 => [(0, .ref lo), (1, .ref p7), (2, .ref q1), (3, .int (nI (r + 1))), (4, .int (blI (blO E n f (blP E n z f r) d))), (5, .int (nI (n - 1 - d))), (6, .int z9), (7, .int 0)]) (show (0 : Int32) = (blU E (blP E n z f r) (n - 1 - d) 0) from by first | rfl | exact nI_0.symm)).trans (congrArg (β := List (Nat × Value)) (fun z9 => [(0, .ref lo), (1, .ref p7), (2, .ref q1), (3, .int (nI (r + 1))), (4, .int (blI (blO E n f (blP E n z f r) d))), (5, .int (nI (n - 1 - d))), (6, .int (blU E (blP E n z f r) (n - 1 - d) 0)), (7, .int z9)]) (show (0 : Int32) = (nI 0) from by first | rfl | exact nI_0.symm))) ?_
              exact key_66 (6 - 0 + 1) 0 (by omega) (Nat.lt_succ_self _)
        refine G.loc [2, 3, 4, 5, 1, 0] (lv' := [(0, .ref lo), (1, .ref p7), (2, .ref q1), (3, .int (nI (r + 1))), (4, .int (-1)), (5, .int ((nI n) - 1))]) rfl ?_
        refine G.eql (lv' := [(0, .ref lo), (1, .ref p7), (2, .ref q1), (3, .int (nI (r + 1))), (4, .int (blI (blO E n f (blP E n z f r) 0))), (5, .int (nI (n - 0) - 1))]) ((congrArg (β := List (Nat × Value)) (fun z9 => [(0, .ref lo), (1, .ref p7), (2, .ref q1), (3, .int (nI (r + 1))), (4, .int z9), (5, .int ((nI n) - 1))]) (show ((-1) : Int32) = (blI (blO E n f (blP E n z f r) 0)) from by first | rfl)).trans (congrArg (β := List (Nat × Value)) (fun z9 => [(0, .ref lo), (1, .ref p7), (2, .ref q1), (3, .int (nI (r + 1))), (4, .int (blI (blO E n f (blP E n z f r) 0))), (5, .int z9)]) (show (((nI n) - 1) : Int32) = (nI (n - 0) - 1) from by first | rfl))) ?_
        exact key_55 (n + 1 - 0 + 1) 0 (by omega) (Nat.lt_succ_self _)
  refine G.loc [2, 3, 1, 0] (lv' := [(0, .ref lo), (1, .ref p7), (2, .ref q1), (3, .int 1)]) rfl ?_
  refine G.fn (blP E n z f 0) 9 [(lo, .inr (13, [.ref eo, .ref e1, .ref e2, .ref e3, .ref e4, .ref e5, .int (nI n), .int (nI z), .int sw])), (eo, aR k 3 6 (fun i9 => if i9 < 6 then some (er i9) else none)), ((er 0), aI k 6 (EN E 0)), ((er 1), aI k 6 (EN E 1)), ((er 2), aI k 6 (EN E 2)), ((er 3), aI k 6 (EN E 3)), ((er 4), aI k 6 (EN E 4)), ((er 5), aI k 6 (EN E 5)), (p7, aI k 6 f), (q1, aI k 6 (blP E n z f 0))] rfl (fun j hj => by rfl) rfl ?_
  refine G.eql (lv' := [(0, .ref lo), (1, .ref p7), (2, .ref q1), (3, .int (nI (0 + 1)))]) (congrArg (β := List (Nat × Value)) (fun z9 => [(0, .ref lo), (1, .ref p7), (2, .ref q1), (3, .int z9)]) (show (1 : Int32) = (nI (0 + 1)) from by rfl)) ?_
  exact key_38 (6 - 0 + 1) 0 (by omega) (Nat.lt_succ_self _)
