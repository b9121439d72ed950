theorem dL_acts_460 : decode cL_acts 460 = .ok (.iload_n 2, 1) := by decide +kernel
theorem dL_acts_461 : decode cL_acts 461 = .ok (.bipush 12, 2) := by decide +kernel
theorem dL_acts_463 : decode cL_acts 463 = .ok (.if_icmp .ge 21, 3) := by decide +kernel
theorem dL_acts_466 : decode cL_acts 466 = .ok (.aload_n 0, 1) := by decide +kernel
theorem dL_acts_467 : decode cL_acts 467 = .ok (.aload_n 1, 1) := by decide +kernel
theorem dL_acts_468 : decode cL_acts 468 = .ok (.iload 4, 2) := by decide +kernel
theorem dL_acts_470 : decode cL_acts 470 = .ok (.iconst 4, 1) := by decide +kernel
theorem dL_acts_471 : decode cL_acts 471 = .ok (.irem, 1) := by decide +kernel
theorem dL_acts_472 : decode cL_acts 472 = .ok (.ifCond .ne 7, 3) := by decide +kernel
theorem dL_acts_479 : decode cL_acts 479 = .ok (.iconst 0, 1) := by decide +kernel
theorem dL_acts_480 : decode cL_acts 480 = .ok (.invokevirtual 194, 3) := by decide +kernel
theorem q_789 : (Jvm.Cond.code ({ cls := "ChipfoldLaw", name := "settlesTo", desc := "(LChipfold;Z)Z" } : Jvm.MethodName) method_41_code (9 : Nat) (Option.some Jvm.ClassFile.FieldType.boolean)) ∈ WG := wg_3 (List.mem_of_getElem? (i := 116) rfl) rfl
theorem q_790 : (Jvm.Cond.selects "ChipfoldLaw" ({ cls := "ChipfoldLaw", name := "settlesTo", desc := "(LChipfold;Z)Z" } : Jvm.MethodName) ({ cls := "ChipfoldLaw", name := "settlesTo", desc := "(LChipfold;Z)Z" } : Jvm.MethodName)) ∈ WG := wg_0 (by decide +kernel) (by decide +kernel)
theorem q_791 : (Jvm.Cond.methodLink "ChipfoldLaw" (194 : Nat) ({ cls := "ChipfoldLaw", name := "settlesTo", desc := "(LChipfold;Z)Z" } : Jvm.MethodName)) ∈ WG := wg_3 (List.mem_of_getElem? (i := 113) (by decide +kernel)) (by decide +kernel)
theorem q_792 : (Jvm.Cond.instanceMethod ({ cls := "ChipfoldLaw", name := "settlesTo", desc := "(LChipfold;Z)Z" } : Jvm.MethodName)) ∈ WG := wg_3 (List.mem_of_getElem? (i := 115) (by decide +kernel)) (by decide +kernel)
theorem dL_acts_483 : decode cL_acts 483 = .ok (.ireturn, 1) := by decide +kernel
theorem dL_acts_475 : decode cL_acts 475 = .ok (.iconst 1, 1) := by decide +kernel
theorem dL_acts_476 : decode cL_acts 476 = .ok (.goto 4, 3) := by decide +kernel
theorem dL_acts_484 : decode cL_acts 484 = .ok (.iload_n 2, 1) := by decide +kernel
theorem dL_acts_485 : decode cL_acts 485 = .ok (.bipush 12, 2) := by decide +kernel
theorem dL_acts_487 : decode cL_acts 487 = .ok (.if_icmp .ne 11, 3) := by decide +kernel
theorem dL_acts_490 : decode cL_acts 490 = .ok (.aload_n 0, 1) := by decide +kernel
theorem dL_acts_491 : decode cL_acts 491 = .ok (.aload_n 1, 1) := by decide +kernel
theorem dL_acts_492 : decode cL_acts 492 = .ok (.iload 5, 2) := by decide +kernel
theorem dL_acts_494 : decode cL_acts 494 = .ok (.invokevirtual 198, 3) := by decide +kernel
theorem q_793 : (Jvm.Cond.code ({ cls := "ChipfoldLaw", name := "walks", desc := "(LChipfold;I)Z" } : Jvm.MethodName) method_43_code (6 : Nat) (Option.some Jvm.ClassFile.FieldType.boolean)) ∈ WG := wg_4 (List.mem_of_getElem? (i := 137) rfl) rfl
theorem q_794 : (Jvm.Cond.selects "ChipfoldLaw" ({ cls := "ChipfoldLaw", name := "walks", desc := "(LChipfold;I)Z" } : Jvm.MethodName) ({ cls := "ChipfoldLaw", name := "walks", desc := "(LChipfold;I)Z" } : Jvm.MethodName)) ∈ WG := wg_0 (by decide +kernel) (by decide +kernel)
theorem q_795 : (Jvm.Cond.methodLink "ChipfoldLaw" (198 : Nat) ({ cls := "ChipfoldLaw", name := "walks", desc := "(LChipfold;I)Z" } : Jvm.MethodName)) ∈ WG := wg_4 (List.mem_of_getElem? (i := 134) (by decide +kernel)) (by decide +kernel)
theorem q_796 : (Jvm.Cond.instanceMethod ({ cls := "ChipfoldLaw", name := "walks", desc := "(LChipfold;I)Z" } : Jvm.MethodName)) ∈ WG := wg_4 (List.mem_of_getElem? (i := 136) (by decide +kernel)) (by decide +kernel)
theorem dL_acts_497 : decode cL_acts 497 = .ok (.ireturn, 1) := by decide +kernel
theorem dL_acts_498 : decode cL_acts 498 = .ok (.iload_n 2, 1) := by decide +kernel
theorem dL_acts_499 : decode cL_acts 499 = .ok (.bipush 15, 2) := by decide +kernel
theorem dL_acts_501 : decode cL_acts 501 = .ok (.if_icmp .ge 52, 3) := by decide +kernel
theorem dL_acts_504 : decode cL_acts 504 = .ok (.aload_n 0, 1) := by decide +kernel
theorem dL_acts_505 : decode cL_acts 505 = .ok (.getfield 21, 3) := by decide +kernel
theorem dL_acts_508 : decode cL_acts 508 = .ok (.iload 5, 2) := by decide +kernel
theorem dL_acts_510 : decode cL_acts 510 = .ok (.iaload, 1) := by decide +kernel
theorem dL_acts_511 : decode cL_acts 511 = .ok (.istore 7, 2) := by decide +kernel
theorem dL_acts_513 : decode cL_acts 513 = .ok (.aload_n 0, 1) := by decide +kernel
theorem dL_acts_514 : decode cL_acts 514 = .ok (.getfield 21, 3) := by decide +kernel
theorem dL_acts_517 : decode cL_acts 517 = .ok (.iload 5, 2) := by decide +kernel
theorem dL_acts_519 : decode cL_acts 519 = .ok (.iload 4, 2) := by decide +kernel
theorem dL_acts_521 : decode cL_acts 521 = .ok (.bipush 13, 2) := by decide +kernel
theorem dL_acts_523 : decode cL_acts 523 = .ok (.irem, 1) := by decide +kernel
theorem dL_acts_524 : decode cL_acts 524 = .ok (.bipush 6, 2) := by decide +kernel
theorem dL_acts_526 : decode cL_acts 526 = .ok (.isub, 1) := by decide +kernel
theorem dL_acts_527 : decode cL_acts 527 = .ok (.iastore, 1) := by decide +kernel
theorem dL_acts_528 : decode cL_acts 528 = .ok (.aload_n 1, 1) := by decide +kernel
theorem dL_acts_529 : decode cL_acts 529 = .ok (.iload 5, 2) := by decide +kernel
theorem dL_acts_531 : decode cL_acts 531 = .ok (.iload 4, 2) := by decide +kernel
theorem dL_acts_533 : decode cL_acts 533 = .ok (.bipush 13, 2) := by decide +kernel
theorem dL_acts_535 : decode cL_acts 535 = .ok (.irem, 1) := by decide +kernel
theorem dL_acts_536 : decode cL_acts 536 = .ok (.bipush 6, 2) := by decide +kernel
theorem dL_acts_538 : decode cL_acts 538 = .ok (.isub, 1) := by decide +kernel
theorem dL_acts_539 : decode cL_acts 539 = .ok (.invokestatic 202, 3) := by decide +kernel
theorem q_797 : (Jvm.Cond.codeWith ({ cls := "ChipfoldLaw", name := "setDebt", desc := "(LChipfold;II)I" } : Jvm.MethodName) method_27_code (4 : Nat) (Option.some Jvm.ClassFile.FieldType.int) [((0 : Nat), (6 : Nat), (7 : Nat), (55 : Nat)), ((0 : Nat), (6 : Nat), (11 : Nat), (57 : Nat))]) ∈ WG := wg_4 (List.mem_of_getElem? (i := 185) (by decide +kernel)) (by decide +kernel)
theorem q_798 : (Jvm.Cond.methodLink "ChipfoldLaw" (202 : Nat) ({ cls := "ChipfoldLaw", name := "setDebt", desc := "(LChipfold;II)I" } : Jvm.MethodName)) ∈ WG := wg_4 (List.mem_of_getElem? (i := 183) (by decide +kernel)) (by decide +kernel)
theorem q_799 : (Jvm.Cond.static ({ cls := "ChipfoldLaw", name := "setDebt", desc := "(LChipfold;II)I" } : Jvm.MethodName)) ∈ WG := wg_4 (List.mem_of_getElem? (i := 184) (by decide +kernel)) (by decide +kernel)
theorem dL_acts_542 : decode cL_acts 542 = .ok (.iload 7, 2) := by decide +kernel
theorem dL_acts_544 : decode cL_acts 544 = .ok (.if_icmp .ne 7, 3) := by decide +kernel
theorem dL_acts_547 : decode cL_acts 547 = .ok (.iconst 1, 1) := by decide +kernel
theorem dL_acts_548 : decode cL_acts 548 = .ok (.goto 4, 3) := by decide +kernel
theorem dL_acts_552 : decode cL_acts 552 = .ok (.ireturn, 1) := by decide +kernel
theorem dL_acts_553 : decode cL_acts 553 = .ok (.iload 4, 2) := by decide +kernel
theorem dL_acts_555 : decode cL_acts 555 = .ok (.iconst 2, 1) := by decide +kernel
theorem dL_acts_556 : decode cL_acts 556 = .ok (.irem, 1) := by decide +kernel
theorem dL_acts_557 : decode cL_acts 557 = .ok (.ifCond .ne 7, 3) := by decide +kernel
theorem dL_acts_560 : decode cL_acts 560 = .ok (.iconst 1, 1) := by decide +kernel
theorem dL_acts_561 : decode cL_acts 561 = .ok (.goto 4, 3) := by decide +kernel
theorem dL_acts_565 : decode cL_acts 565 = .ok (.istore 7, 2) := by decide +kernel
theorem dL_acts_567 : decode cL_acts 567 = .ok (.aload_n 0, 1) := by decide +kernel
theorem dL_acts_568 : decode cL_acts 568 = .ok (.getfield 21, 3) := by decide +kernel
theorem dL_acts_571 : decode cL_acts 571 = .ok (.iload 5, 2) := by decide +kernel
theorem dL_acts_573 : decode cL_acts 573 = .ok (.dup2, 1) := by decide +kernel
theorem dL_acts_574 : decode cL_acts 574 = .ok (.iaload, 1) := by decide +kernel
theorem dL_acts_575 : decode cL_acts 575 = .ok (.iload 7, 2) := by decide +kernel
theorem dL_acts_577 : decode cL_acts 577 = .ok (.aload_n 0, 1) := by decide +kernel
theorem dL_acts_578 : decode cL_acts 578 = .ok (.iload 5, 2) := by decide +kernel
theorem dL_acts_580 : decode cL_acts 580 = .ok (.invokevirtual 170, 3) := by decide +kernel
theorem dL_acts_583 : decode cL_acts 583 = .ok (.imul, 1) := by decide +kernel
theorem dL_acts_584 : decode cL_acts 584 = .ok (.isub, 1) := by decide +kernel
theorem dL_acts_585 : decode cL_acts 585 = .ok (.iastore, 1) := by decide +kernel
theorem dL_acts_586 : decode cL_acts 586 = .ok (.iconst 0, 1) := by decide +kernel
theorem dL_acts_587 : decode cL_acts 587 = .ok (.istore 8, 2) := by decide +kernel
theorem dL_acts_589 : decode cL_acts 589 = .ok (.iload 8, 2) := by decide +kernel
theorem dL_acts_591 : decode cL_acts 591 = .ok (.bipush 6, 2) := by decide +kernel
theorem dL_acts_593 : decode cL_acts 593 = .ok (.if_icmp .ge 32, 3) := by decide +kernel
theorem dL_acts_625 : decode cL_acts 625 = .ok (.aload_n 1, 1) := by decide +kernel
theorem dL_acts_626 : decode cL_acts 626 = .ok (.iload 5, 2) := by decide +kernel
theorem dL_acts_628 : decode cL_acts 628 = .ok (.iload 4, 2) := by decide +kernel
theorem dL_acts_630 : decode cL_acts 630 = .ok (.iconst 2, 1) := by decide +kernel
theorem dL_acts_631 : decode cL_acts 631 = .ok (.irem, 1) := by decide +kernel
theorem dL_acts_632 : decode cL_acts 632 = .ok (.ifCond .ne 7, 3) := by decide +kernel
theorem dL_acts_635 : decode cL_acts 635 = .ok (.iconst 1, 1) := by decide +kernel
theorem dL_acts_636 : decode cL_acts 636 = .ok (.goto 4, 3) := by decide +kernel
theorem dL_acts_640 : decode cL_acts 640 = .ok (.invokestatic 204, 3) := by decide +kernel
theorem q_800 : (Jvm.Cond.codeWith ({ cls := "ChipfoldLaw", name := "deal", desc := "(LChipfold;IZ)I" } : Jvm.MethodName) method_28_code (4 : Nat) (Option.some Jvm.ClassFile.FieldType.int) [((0 : Nat), (6 : Nat), (7 : Nat), (55 : Nat)), ((0 : Nat), (6 : Nat), (11 : Nat), (49 : Nat))]) ∈ WG := wg_4 (List.mem_of_getElem? (i := 201) (by decide +kernel)) (by decide +kernel)
theorem q_801 : (Jvm.Cond.methodLink "ChipfoldLaw" (204 : Nat) ({ cls := "ChipfoldLaw", name := "deal", desc := "(LChipfold;IZ)I" } : Jvm.MethodName)) ∈ WG := wg_4 (List.mem_of_getElem? (i := 199) (by decide +kernel)) (by decide +kernel)
theorem q_802 : (Jvm.Cond.static ({ cls := "ChipfoldLaw", name := "deal", desc := "(LChipfold;IZ)I" } : Jvm.MethodName)) ∈ WG := wg_4 (List.mem_of_getElem? (i := 200) (by decide +kernel)) (by decide +kernel)
theorem dL_acts_643 : decode cL_acts 643 = .ok (.aload_n 0, 1) := by decide +kernel
theorem dL_acts_644 : decode cL_acts 644 = .ok (.getfield 21, 3) := by decide +kernel
theorem dL_acts_647 : decode cL_acts 647 = .ok (.iload 5, 2) := by decide +kernel
theorem dL_acts_649 : decode cL_acts 649 = .ok (.iaload, 1) := by decide +kernel
theorem dL_acts_650 : decode cL_acts 650 = .ok (.if_icmp .ne 7, 3) := by decide +kernel
theorem dL_acts_653 : decode cL_acts 653 = .ok (.iconst 1, 1) := by decide +kernel
theorem dL_acts_654 : decode cL_acts 654 = .ok (.goto 4, 3) := by decide +kernel
theorem dL_acts_658 : decode cL_acts 658 = .ok (.ireturn, 1) := by decide +kernel
theorem dL_acts_596 : decode cL_acts 596 = .ok (.aload_n 0, 1) := by decide +kernel
theorem dL_acts_597 : decode cL_acts 597 = .ok (.getfield 21, 3) := by decide +kernel
theorem dL_acts_600 : decode cL_acts 600 = .ok (.iload 8, 2) := by decide +kernel
theorem dL_acts_602 : decode cL_acts 602 = .ok (.dup2, 1) := by decide +kernel
theorem dL_acts_603 : decode cL_acts 603 = .ok (.iaload, 1) := by decide +kernel
theorem dL_acts_604 : decode cL_acts 604 = .ok (.iload 7, 2) := by decide +kernel
theorem dL_acts_606 : decode cL_acts 606 = .ok (.aload_n 0, 1) := by decide +kernel
theorem dL_acts_607 : decode cL_acts 607 = .ok (.getfield 9, 3) := by decide +kernel
theorem dL_acts_610 : decode cL_acts 610 = .ok (.iload 5, 2) := by decide +kernel
theorem dL_acts_612 : decode cL_acts 612 = .ok (.aaload, 1) := by decide +kernel
theorem dL_acts_613 : decode cL_acts 613 = .ok (.iload 8, 2) := by decide +kernel
theorem dL_acts_615 : decode cL_acts 615 = .ok (.iaload, 1) := by decide +kernel
theorem dL_acts_616 : decode cL_acts 616 = .ok (.imul, 1) := by decide +kernel
theorem dL_acts_617 : decode cL_acts 617 = .ok (.iadd, 1) := by decide +kernel
theorem dL_acts_618 : decode cL_acts 618 = .ok (.iastore, 1) := by decide +kernel
theorem dL_acts_619 : decode cL_acts 619 = .ok (.iinc 8 1, 3) := by decide +kernel
theorem dL_acts_622 : decode cL_acts 622 = .ok (.goto (-33), 3) := by decide +kernel
theorem dL_acts_564 : decode cL_acts 564 = .ok (.iconst (-1), 1) := by decide +kernel
theorem dL_acts_639 : decode cL_acts 639 = .ok (.iconst 0, 1) := by decide +kernel
set_option maxRecDepth 100000 in
set_option maxHeartbeats 400000 in
theorem c_L_acts_k9n {l : Launch} {D : va_G} {k : Nat → ClassId} (o : Nat) (h : Nat) (pp : Nat) (x2 : Nat) (x3 : Nat) (x4 : Nat) (o2 : Nat) (o4 : Nat) (o9 : Nat) (o7 : Nat) (o0 : Nat) (o1 : Nat) (jj : Nat) (dd : Nat) (n : Nat) (z : Nat) (fj : Nat → Int32) (fd : Nat → Int32) (r1 : Nat) (r2 : Nat) (tk : Int32) (a1 : Nat) (f : Nat → Int32) (a2 : Nat) (ct : Nat → Int32) (lo : Nat) (eo : Nat) (e1 : Nat) (e2 : Nat) (e3 : Nat) (e4 : Nat) (e5 : Nat) (er : Nat → Nat) (E : Nat → Nat → Nat) (kd : Nat) (av : Nat) (aw : Nat) (v : Nat) (u : Nat) (hn : n ≤ 6) (hz : z < n) (hE3 : ∀ i j, E i j ≤ 3) (hav : av % n = v) (haw : aw % n = u) (hv : v < n) (hu : u < n) (hb1 : av ≤ 9000) (hb2 : aw ≤ 9000) (hk1 : 9 ≤ kd) (hk2 : kd ≤ 11) (hW : gConn fj n = false) (hLw : lwV E n z = false) : CM l D k yL_acts cL_acts 9 (some .boolean)  10 173 [.ref lo, .ref o, .int (nI kd), .int (nI av), .int (nI aw)] [(o, .inr (12, [.ref h, .ref pp, .ref x2, .ref x3, .ref x4, .ref o2, .ref o4, .ref o9, .ref o7, .ref o0, .ref o1])), (h, .inr (5, [.ref jj, .ref dd, .int (nI n), .int (nI z)])), (jj, aI k 36 fj), (dd, aI k 6 fd), (pp, .inr (8, [.ref h, .ref r1, .ref r2, .int tk])), (r1, .inr (10, [.ref a1])), (a1, aI k 6 f), (r2, .inr (10, [.ref a2])), (a2, aI k 6 ct), (lo, .inr (13, [.ref eo, .ref e1, .ref e2, .ref e3, .ref e4, .ref e5, .int (nI n), .int (nI z), .int tk])), (eo, aR k 3 6 (fun i9 => if i9 < 6 then some (er i9) else none)), ((er 0), aI k 6 (EN E 0)), ((er 1), aI k 6 (EN E 1)), ((er 2), aI k 6 (EN E 2)), ((er 3), aI k 6 (EN E 3)), ((er 4), aI k 6 (EN E 4)), ((er 5), aI k 6 (EN E 5))] (is1 (some (.int 1)) [(o, .inr (12, [.ref h, .ref pp, .ref x2, .ref x3, .ref x4, .ref o2, .ref o4, .ref o9, .ref o7, .ref o0, .ref o1])), (h, .inr (5, [.ref jj, .ref dd, .int (nI n), .int (nI z)])), (jj, aI k 36 fj), (dd, aI k 6 fd), (pp, .inr (8, [.ref h, .ref r1, .ref r2, .int tk])), (r1, .inr (10, [.ref a1])), (a1, aI k 6 f), (r2, .inr (10, [.ref a2])), (a2, aI k 6 ct), (lo, .inr (13, [.ref eo, .ref e1, .ref e2, .ref e3, .ref e4, .ref e5, .int (nI n), .int (nI z), .int tk])), (eo, aR k 3 6 (fun i9 => if i9 < 6 then some (er i9) else none)), ((er 0), aI k 6 (EN E 0)), ((er 1), aI k 6 (EN E 1)), ((er 2), aI k 6 (EN E 2)), ((er 3), aI k 6 (EN E 3)), ((er 4), aI k 6 (EN E 4)), ((er 5), aI k 6 (EN E 5))]) 10 60 0 := by
  refine CM.of (lv0 := [(0, .ref lo), (1, .ref o), (2, .int (nI kd)), (3, .int (nI av)), (4, .int (nI aw))]) (by decide +kernel) (Nat.le_of_ble_eq_true rfl) rfl ?_
  intro p9 e9 s9 m9 bl9 me9 co9 C hr hlk hin had
  refine g_iload_n (pc := 0) C 3 rfl rfl dL_acts_0 ?_
  refine g_aload_n (pc := 1) C 0 rfl rfl dL_acts_1 ?_
  refine g_get (pc := 2) C (T := TXL) inXL 9 rfl rfl 6 (by decide) q_564 rfl rfl dL_acts_2 ?_
  refine g_irem (pc := 5) C (nI_ne0 (by omega) (by omega)) dL_acts_5 ?_
  refine G.eqs (st' := [.int (nI v)]) (congrArg (β := List Value) (fun z9 => [.int z9]) (show (((nI av) - (nI av) / (nI n) * (nI n)) : Int32) = (nI v) from (by rw [← hav]; exact pk_rem (by omega) (by omega) (by omega)))) ?_
  refine g_istore (pc := 6) C [(5, .int (nI v)), (0, .ref lo), (1, .ref o), (2, .int (nI kd)), (3, .int (nI av)), (4, .int (nI aw))] dL_acts_6 (by decide) rfl ?_
  refine g_iload (pc := 8) C 5 rfl dL_acts_8 ?_
  refine g_aload_n (pc := 10) C 1 rfl rfl dL_acts_10 ?_
  refine g_get (pc := 11) C (T := TXL) inXL 9 rfl rfl 6 (by decide) q_564 rfl rfl dL_acts_11 ?_
  refine g_irem (pc := 14) C (nI_ne0 (by omega) (by omega)) dL_acts_14 ?_
  refine G.eqs (st' := [.int (nI u)]) (congrArg (β := List Value) (fun z9 => [.int z9]) (show (((nI aw) - (nI aw) / (nI n) * (nI n)) : Int32) = (nI u) from (by rw [← haw]; exact pk_rem (by omega) (by omega) (by omega)))) ?_
  refine g_istore (pc := 15) C [(6, .int (nI u)), (5, .int (nI v)), (0, .ref lo), (1, .ref o), (2, .int (nI kd)), (3, .int (nI av)), (4, .int (nI aw))] dL_acts_15 (by decide) rfl ?_
  refine g_iload_n (pc := 17) C 4 rfl rfl dL_acts_17 ?_
  refine g_if_ne (pc := 18) C 109 (by decide) dL_acts_18 (fun c_18 => ?_) (fun c_18 => ?_)
  · refine g_iload_n (pc := 109) C 4 rfl rfl dL_acts_109 ?_
    refine g_iconst (pc := 110) (v := 3) C (by decide) dL_acts_110 ?_
    refine g_icmp_ge (pc := 111) C 228 (by decide) dL_acts_111 (fun c_111 => ?_) (fun c_111 => ?_)
    · refine g_iload_n (pc := 228) C 4 rfl rfl dL_acts_228 ?_
      refine g_bipush (pc := 229) (v := 8) C (by decide) dL_acts_229 ?_
      refine g_icmp_ge (pc := 231) C 312 (by decide) dL_acts_231 (fun c_231 => ?_) (fun c_231 => ?_)
      · refine g_iload_n (pc := 312) C 4 rfl rfl dL_acts_312 ?_
        refine g_bipush (pc := 313) (v := 8) C (by decide) dL_acts_313 ?_
        refine g_icmp_ne (pc := 315) C 460 (by decide) dL_acts_315 (fun c_315 => ?_) (fun c_315 => ?_)
        · refine g_iload_n (pc := 460) C 4 rfl rfl dL_acts_460 ?_
          refine g_bipush (pc := 461) (v := 12) C (by decide) dL_acts_461 ?_
          refine g_icmp_ge (pc := 463) C 484 (by decide) dL_acts_463 (fun c_463 => ?_) (fun c_463 => ?_)
          · exact absurd c_463 (nI_ge (b := 12) (a := kd) (by omega) (by omega))
          · refine g_aload_n (pc := 466) C 2 rfl rfl dL_acts_466 ?_
            refine g_aload_n (pc := 467) C 3 rfl rfl dL_acts_467 ?_
            refine g_iload (pc := 468) C 6 rfl dL_acts_468 ?_
            refine g_iconst (pc := 470) (v := 4) C (by decide) dL_acts_470 ?_
            refine g_irem (pc := 471) C (by decide) dL_acts_471 ?_
            refine G.eqs (st' := [.int (nI (aw % 4)), .ref o, .ref lo]) (congrArg (β := List Value) (fun z9 => [.int z9, .ref o, .ref lo]) (show (((nI aw) - (nI aw) / 4 * 4) : Int32) = (nI (aw % 4)) from (pk_rem (a := aw) (d := 4) (by omega) (by omega) (by omega)))) ?_
            refine g_if_ne (pc := 472) C 479 (by decide) dL_acts_472 (fun c_472 => ?_) (fun c_472 => ?_)
            · refine g_iconst (pc := 479) (v := 0) C (by decide) dL_acts_479 ?_
              refine g_callV (pc := 480) (cells := 0) (slots := 0) (g := 0) (As := [.ref o, .int 0]) (st := []) (T := TXL) (q0 := 9) C (nA := 2) rfl (c_L_settlesTo_n o h pp x2 x3 x4 o2 o4 o9 o7 o0 o1 jj dd n z fj fd r1 a1 r2 a2 f ct tk lo eo e1 e2 e3 e4 e5 er E tk 0 (by first | assumption | decide | omega) (by first | assumption | decide | omega) (by first | assumption | decide | omega) (by first | assumption | decide | omega) (by first | assumption | decide | omega)) q_791 q_792 q_790 q_551 q_789 (by decide +kernel) rfl rfl dL_acts_480 ⟨Nat.le_of_ble_eq_true rfl, Nat.le_of_ble_eq_true rfl⟩ [0, 1, 2, 3, 4, 5, 6, 7, 8, 9, 10, 11, 12, 13, 14, 15, 16] [] rfl (wr := []) rfl (by decide) (by decide) (by decide) (Nat.le_of_ble_eq_true rfl) ⟨Nat.le_of_ble_eq_true rfl, Nat.le_of_ble_eq_true rfl⟩ (fun rv w1 h1 => ?_)
              obtain ⟨rfl, rfl⟩ := h1
              refine G.aft [0, 1, 2, 3, 4, 5, 6, 7, 8, 9, 10, 11, 12, 13, 14, 15, 16] (ws' := [(o, .inr (12, [.ref h, .ref pp, .ref x2, .ref x3, .ref x4, .ref o2, .ref o4, .ref o9, .ref o7, .ref o0, .ref o1])), (h, .inr (5, [.ref jj, .ref dd, .int (nI n), .int (nI z)])), (jj, aI k 36 fj), (dd, aI k 6 fd), (pp, .inr (8, [.ref h, .ref r1, .ref r2, .int tk])), (r1, .inr (10, [.ref a1])), (a1, aI k 6 f), (r2, .inr (10, [.ref a2])), (a2, aI k 6 ct), (lo, .inr (13, [.ref eo, .ref e1, .ref e2, .ref e3, .ref e4, .ref e5, .int (nI n), .int (nI z), .int tk])), (eo, aR k 3 6 (fun i9 => if i9 < 6 then some (er i9) else none)), ((er 0), aI k 6 (EN E 0)), ((er 1), aI k 6 (EN E 1)), ((er 2), aI k 6 (EN E 2)), ((er 3), aI k 6 (EN E 3)), ((er 4), aI k 6 (EN E 4)), ((er 5), aI k 6 (EN E 5))]) (st' := [.int 1]) (cells' := 10) (slots' := 60) (g' := 0) (by decide) rfl rfl rfl rfl rfl ?_
              exact g_zret (pc := 483) C hr (by first | rfl | exact bI_nar _) hlk (by first | decide | omega) (by first | decide | omega) (by first | decide | omega) dL_acts_483 ⟨rfl, rfl⟩
            · refine g_iconst (pc := 475) (v := 1) C (by decide) dL_acts_475 ?_
              refine g_goto (pc := 476) C 480 (by decide) dL_acts_476 ?_
              refine g_callV (pc := 480) (cells := 0) (slots := 0) (g := 0) (As := [.ref o, .int 1]) (st := []) (T := TXL) (q0 := 9) C (nA := 2) rfl (c_L_settlesTo_n o h pp x2 x3 x4 o2 o4 o9 o7 o0 o1 jj dd n z fj fd r1 a1 r2 a2 f ct tk lo eo e1 e2 e3 e4 e5 er E tk 1 (by first | assumption | decide | omega) (by first | assumption | decide | omega) (by first | assumption | decide | omega) (by first | assumption | decide | omega) (by first | assumption | decide | omega)) q_791 q_792 q_790 q_551 q_789 (by decide +kernel) rfl rfl dL_acts_480 ⟨Nat.le_of_ble_eq_true rfl, Nat.le_of_ble_eq_true rfl⟩ [0, 1, 2, 3, 4, 5, 6, 7, 8, 9, 10, 11, 12, 13, 14, 15, 16] [] rfl (wr := []) rfl (by decide) (by decide) (by decide) (Nat.le_of_ble_eq_true rfl) ⟨Nat.le_of_ble_eq_true rfl, Nat.le_of_ble_eq_true rfl⟩ (fun rv w1 h1 => ?_)
              obtain ⟨rfl, rfl⟩ := h1
              refine G.aft [0, 1, 2, 3, 4, 5, 6, 7, 8, 9, 10, 11, 12, 13, 14, 15, 16] (ws' := [(o, .inr (12, [.ref h, .ref pp, .ref x2, .ref x3, .ref x4, .ref o2, .ref o4, .ref o9, .ref o7, .ref o0, .ref o1])), (h, .inr (5, [.ref jj, .ref dd, .int (nI n), .int (nI z)])), (jj, aI k 36 fj), (dd, aI k 6 fd), (pp, .inr (8, [.ref h, .ref r1, .ref r2, .int tk])), (r1, .inr (10, [.ref a1])), (a1, aI k 6 f), (r2, .inr (10, [.ref a2])), (a2, aI k 6 ct), (lo, .inr (13, [.ref eo, .ref e1, .ref e2, .ref e3, .ref e4, .ref e5, .int (nI n), .int (nI z), .int tk])), (eo, aR k 3 6 (fun i9 => if i9 < 6 then some (er i9) else none)), ((er 0), aI k 6 (EN E 0)), ((er 1), aI k 6 (EN E 1)), ((er 2), aI k 6 (EN E 2)), ((er 3), aI k 6 (EN E 3)), ((er 4), aI k 6 (EN E 4)), ((er 5), aI k 6 (EN E 5))]) (st' := [.int 1]) (cells' := 10) (slots' := 60) (g' := 0) (by decide) rfl rfl rfl rfl rfl ?_
              exact g_zret (pc := 483) C hr (by first | rfl | exact bI_nar _) hlk (by first | decide | omega) (by first | decide | omega) (by first | decide | omega) dL_acts_483 ⟨rfl, rfl⟩
        · exact absurd ((nI_eq (a := kd) (b := 8) (by omega) (by omega)).mp c_315) (by omega)
      · exact absurd (show nI 8 ≤ nI kd from nI_le (by omega) (by omega)) c_231
    · exact absurd (show nI 3 ≤ nI kd from nI_le (by omega) (by omega)) c_111
  · exact absurd c_18 (nI_ne0 (by omega) (by omega))
set_option maxRecDepth 100000 in
set_option maxHeartbeats 400000 in
theorem c_L_acts_k9y {l : Launch} {D : va_G} {k : Nat → ClassId} (o : Nat) (h : Nat) (pp : Nat) (x2 : Nat) (x3 : Nat) (x4 : Nat) (o2 : Nat) (o4 : Nat) (o9 : Nat) (o7 : Nat) (o0 : Nat) (o1 : Nat) (jj : Nat) (dd : Nat) (n : Nat) (z : Nat) (fj : Nat → Int32) (fd : Nat → Int32) (r1 : Nat) (r2 : Nat) (tk : Int32) (a1 : Nat) (f : Nat → Int32) (a2 : Nat) (ct : Nat → Int32) (lo : Nat) (eo : Nat) (e1 : Nat) (e2 : Nat) (e3 : Nat) (e4 : Nat) (e5 : Nat) (er : Nat → Nat) (E : Nat → Nat → Nat) (kd : Nat) (av : Nat) (aw : Nat) (v : Nat) (u : Nat) (y : Nat) (hn : n ≤ 6) (hz : z < n) (hE3 : ∀ i j, E i j ≤ 3) (hav : av % n = v) (haw : aw % n = u) (hv : v < n) (hu : u < n) (hb1 : av ≤ 9000) (hb2 : aw ≤ 9000) (hk1 : 9 ≤ kd) (hk2 : kd ≤ 11) (hq4 : aw % 4 = 0) (hW : gConn fj n = true) (hLw : lwV E n z = true) (hy : y < n) (hy2 : 1000 < f y) (hsq : 2000 < f y + f y) : CM l D k yL_acts cL_acts 9 (some .boolean)  9 160 [.ref lo, .ref o, .int (nI kd), .int (nI av), .int (nI aw)] [(o, .inr (12, [.ref h, .ref pp, .ref x2, .ref x3, .ref x4, .ref o2, .ref o4, .ref o9, .ref o7, .ref o0, .ref o1])), (h, .inr (5, [.ref jj, .ref dd, .int (nI n), .int (nI z)])), (jj, aI k 36 fj), (dd, aI k 6 fd), (pp, .inr (8, [.ref h, .ref r1, .ref r2, .int tk])), (r1, .inr (10, [.ref a1])), (a1, aI k 6 f), (r2, .inr (10, [.ref a2])), (a2, aI k 6 ct), (lo, .inr (13, [.ref eo, .ref e1, .ref e2, .ref e3, .ref e4, .ref e5, .int (nI n), .int (nI z), .int tk])), (eo, aR k 3 6 (fun i9 => if i9 < 6 then some (er i9) else none)), ((er 0), aI k 6 (EN E 0)), ((er 1), aI k 6 (EN E 1)), ((er 2), aI k 6 (EN E 2)), ((er 3), aI k 6 (EN E 3)), ((er 4), aI k 6 (EN E 4)), ((er 5), aI k 6 (EN E 5)), (e1, aI k 6 f)] (is1 (some (.int 1)) [(o, .inr (12, [.ref h, .ref pp, .ref x2, .ref x3, .ref x4, .ref o2, .ref o4, .ref o9, .ref o7, .ref o0, .ref o1])), (h, .inr (5, [.ref jj, .ref dd, .int (nI n), .int (nI z)])), (jj, aI k 36 fj), (dd, aI k 6 fd), (pp, .inr (8, [.ref h, .ref r1, .ref r2, .int tk])), (r1, .inr (10, [.ref a1])), (a1, aI k 6 f), (r2, .inr (10, [.ref a2])), (a2, aI k 6 ct), (lo, .inr (13, [.ref eo, .ref e1, .ref e2, .ref e3, .ref e4, .ref e5, .int (nI n), .int (nI z), .int tk])), (eo, aR k 3 6 (fun i9 => if i9 < 6 then some (er i9) else none)), ((er 0), aI k 6 (EN E 0)), ((er 1), aI k 6 (EN E 1)), ((er 2), aI k 6 (EN E 2)), ((er 3), aI k 6 (EN E 3)), ((er 4), aI k 6 (EN E 4)), ((er 5), aI k 6 (EN E 5)), (e1, aI k 6 f)]) 2 20 0 := by
  refine CM.of (lv0 := [(0, .ref lo), (1, .ref o), (2, .int (nI kd)), (3, .int (nI av)), (4, .int (nI aw))]) (by decide +kernel) (Nat.le_of_ble_eq_true rfl) rfl ?_
  intro p9 e9 s9 m9 bl9 me9 co9 C hr hlk hin had
  refine g_iload_n (pc := 0) C 3 rfl rfl dL_acts_0 ?_
  refine g_aload_n (pc := 1) C 0 rfl rfl dL_acts_1 ?_
  refine g_get (pc := 2) C (T := TXL) inXL 9 rfl rfl 6 (by decide) q_564 rfl rfl dL_acts_2 ?_
  refine g_irem (pc := 5) C (nI_ne0 (by omega) (by omega)) dL_acts_5 ?_
  refine G.eqs (st' := [.int (nI v)]) (congrArg (β := List Value) (fun z9 => [.int z9]) (show (((nI av) - (nI av) / (nI n) * (nI n)) : Int32) = (nI v) from (by rw [← hav]; exact pk_rem (by omega) (by omega) (by omega)))) ?_
  refine g_istore (pc := 6) C [(5, .int (nI v)), (0, .ref lo), (1, .ref o), (2, .int (nI kd)), (3, .int (nI av)), (4, .int (nI aw))] dL_acts_6 (by decide) rfl ?_
  refine g_iload (pc := 8) C 5 rfl dL_acts_8 ?_
  refine g_aload_n (pc := 10) C 1 rfl rfl dL_acts_10 ?_
  refine g_get (pc := 11) C (T := TXL) inXL 9 rfl rfl 6 (by decide) q_564 rfl rfl dL_acts_11 ?_
  refine g_irem (pc := 14) C (nI_ne0 (by omega) (by omega)) dL_acts_14 ?_
  refine G.eqs (st' := [.int (nI u)]) (congrArg (β := List Value) (fun z9 => [.int z9]) (show (((nI aw) - (nI aw) / (nI n) * (nI n)) : Int32) = (nI u) from (by rw [← haw]; exact pk_rem (by omega) (by omega) (by omega)))) ?_
  refine g_istore (pc := 15) C [(6, .int (nI u)), (5, .int (nI v)), (0, .ref lo), (1, .ref o), (2, .int (nI kd)), (3, .int (nI av)), (4, .int (nI aw))] dL_acts_15 (by decide) rfl ?_
  refine g_iload_n (pc := 17) C 4 rfl rfl dL_acts_17 ?_
  refine g_if_ne (pc := 18) C 109 (by decide) dL_acts_18 (fun c_18 => ?_) (fun c_18 => ?_)
  · refine g_iload_n (pc := 109) C 4 rfl rfl dL_acts_109 ?_
    refine g_iconst (pc := 110) (v := 3) C (by decide) dL_acts_110 ?_
    refine g_icmp_ge (pc := 111) C 228 (by decide) dL_acts_111 (fun c_111 => ?_) (fun c_111 => ?_)
    · refine g_iload_n (pc := 228) C 4 rfl rfl dL_acts_228 ?_
      refine g_bipush (pc := 229) (v := 8) C (by decide) dL_acts_229 ?_
      refine g_icmp_ge (pc := 231) C 312 (by decide) dL_acts_231 (fun c_231 => ?_) (fun c_231 => ?_)
      · refine g_iload_n (pc := 312) C 4 rfl rfl dL_acts_312 ?_
        refine g_bipush (pc := 313) (v := 8) C (by decide) dL_acts_313 ?_
        refine g_icmp_ne (pc := 315) C 460 (by decide) dL_acts_315 (fun c_315 => ?_) (fun c_315 => ?_)
        · refine g_iload_n (pc := 460) C 4 rfl rfl dL_acts_460 ?_
          refine g_bipush (pc := 461) (v := 12) C (by decide) dL_acts_461 ?_
          refine g_icmp_ge (pc := 463) C 484 (by decide) dL_acts_463 (fun c_463 => ?_) (fun c_463 => ?_)
          · exact absurd c_463 (nI_ge (b := 12) (a := kd) (by omega) (by omega))
          · refine g_aload_n (pc := 466) C 2 rfl rfl dL_acts_466 ?_
            refine g_aload_n (pc := 467) C 3 rfl rfl dL_acts_467 ?_
            refine g_iload (pc := 468) C 6 rfl dL_acts_468 ?_
            refine g_iconst (pc := 470) (v := 4) C (by decide) dL_acts_470 ?_
            refine g_irem (pc := 471) C (by decide) dL_acts_471 ?_
            refine G.eqs (st' := [.int (nI (aw % 4)), .ref o, .ref lo]) (congrArg (β := List Value) (fun z9 => [.int z9, .ref o, .ref lo]) (show (((nI aw) - (nI aw) / 4 * 4) : Int32) = (nI (aw % 4)) from (pk_rem (a := aw) (d := 4) (by omega) (by omega) (by omega)))) ?_
            refine g_if_ne (pc := 472) C 479 (by decide) dL_acts_472 (fun c_472 => ?_) (fun c_472 => ?_)
            · exact absurd (by rw [hq4]; rfl) c_472
            · refine g_iconst (pc := 475) (v := 1) C (by decide) dL_acts_475 ?_
              refine g_goto (pc := 476) C 480 (by decide) dL_acts_476 ?_
              refine g_callV (pc := 480) (cells := 0) (slots := 0) (g := 0) (As := [.ref o, .int 1]) (st := []) (T := TXL) (q0 := 9) C (nA := 2) rfl (c_L_settlesTo_y o h pp x2 x3 x4 o2 o4 o9 o7 o0 o1 jj dd n z fj fd r1 a1 r2 a2 f ct tk lo eo e1 e2 e3 e4 e5 er E tk y (by first | assumption | decide | omega) (by first | assumption | decide | omega) (by first | assumption | decide | omega) (by first | assumption | decide | omega) (by first | assumption | decide | omega) (by first | assumption | decide | omega) (by first | assumption | decide | omega) (by first | assumption | decide | omega)) q_791 q_792 q_790 q_551 q_789 (by decide +kernel) rfl rfl dL_acts_480 ⟨Nat.le_of_ble_eq_true rfl, Nat.le_of_ble_eq_true rfl⟩ [0, 1, 2, 3, 4, 5, 6, 7, 8, 9, 10, 11, 12, 13, 14, 15, 16, 17] [] rfl (wr := []) rfl (by decide) (by decide) (by decide) (Nat.le_of_ble_eq_true rfl) ⟨Nat.le_of_ble_eq_true rfl, Nat.le_of_ble_eq_true rfl⟩ (fun rv w1 h1 => ?_)
              obtain ⟨rfl, rfl⟩ := h1
              refine G.aft [0, 1, 2, 3, 4, 5, 6, 7, 8, 9, 10, 11, 12, 13, 14, 15, 16, 17] (ws' := [(o, .inr (12, [.ref h, .ref pp, .ref x2, .ref x3, .ref x4, .ref o2, .ref o4, .ref o9, .ref o7, .ref o0, .ref o1])), (h, .inr (5, [.ref jj, .ref dd, .int (nI n), .int (nI z)])), (jj, aI k 36 fj), (dd, aI k 6 fd), (pp, .inr (8, [.ref h, .ref r1, .ref r2, .int tk])), (r1, .inr (10, [.ref a1])), (a1, aI k 6 f), (r2, .inr (10, [.ref a2])), (a2, aI k 6 ct), (lo, .inr (13, [.ref eo, .ref e1, .ref e2, .ref e3, .ref e4, .ref e5, .int (nI n), .int (nI z), .int tk])), (eo, aR k 3 6 (fun i9 => if i9 < 6 then some (er i9) else none)), ((er 0), aI k 6 (EN E 0)), ((er 1), aI k 6 (EN E 1)), ((er 2), aI k 6 (EN E 2)), ((er 3), aI k 6 (EN E 3)), ((er 4), aI k 6 (EN E 4)), ((er 5), aI k 6 (EN E 5)), (e1, aI k 6 f)]) (st' := [.int 1]) (cells' := 2) (slots' := 20) (g' := 0) (by decide) rfl rfl rfl rfl rfl ?_
              exact g_zret (pc := 483) C hr (by first | rfl | exact bI_nar _) hlk (by first | decide | omega) (by first | decide | omega) (by first | decide | omega) dL_acts_483 ⟨rfl, rfl⟩
        · exact absurd ((nI_eq (a := kd) (b := 8) (by omega) (by omega)).mp c_315) (by omega)
      · exact absurd (show nI 8 ≤ nI kd from nI_le (by omega) (by omega)) c_231
    · exact absurd (show nI 3 ≤ nI kd from nI_le (by omega) (by omega)) c_111
  · exact absurd c_18 (nI_ne0 (by omega) (by omega))
set_option maxRecDepth 100000 in
set_option maxHeartbeats 400000 in
theorem c_L_acts_k9a {l : Launch} {D : va_G} {k : Nat → ClassId} (o : Nat) (h : Nat) (pp : Nat) (x2 : Nat) (x3 : Nat) (x4 : Nat) (o2 : Nat) (o4 : Nat) (o9 : Nat) (o7 : Nat) (o0 : Nat) (o1 : Nat) (jj : Nat) (dd : Nat) (n : Nat) (z : Nat) (fj : Nat → Int32) (fd : Nat → Int32) (r1 : Nat) (r2 : Nat) (tk : Int32) (a1 : Nat) (f : Nat → Int32) (a2 : Nat) (ct : Nat → Int32) (r3 : Nat) (r4 : Nat) (tk2 : Int32) (a3 : Nat) (f2 : Nat → Int32) (a4 : Nat) (ct2 : Nat → Int32) (lo : Nat) (eo : Nat) (e1 : Nat) (e2 : Nat) (e3 : Nat) (e4 : Nat) (e5 : Nat) (er : Nat → Nat) (E : Nat → Nat → Nat) (kd : Nat) (av : Nat) (aw : Nat) (v : Nat) (u : Nat) (F : Nat) (G9 : Nat) (hn : n ≤ 6) (hz : z < n) (hE3 : ∀ i j, E i j ≤ 3) (hav : av % n = v) (haw : aw % n = u) (hv : v < n) (hu : u < n) (hb1 : av ≤ 9000) (hb2 : aw ≤ 9000) (hk1 : 9 ≤ kd) (hk2 : kd ≤ 11) (hq4 : ¬ aw % 4 = 0) (hW : gConn fj n = true) (hLw : lwV E n z = true) (hwv : wvN n z fj fd mR 0 (w30 f) = (wvR E n z F (f, 0, true)).2.1) (hWF : (wvR E n z F (f, 0, true)).2.2 = false) (hF2 : hiO (cnL E z (lsA E n z G9 (f, ct, 0)).1) n = none) (heq : ∀ j, j < 6 → (wvR E n z F (f, 0, true)).1 j = (lsA E n z G9 (f, ct, 0)).1 j) (hall : (stA n z fj fd (fun i9 => i9) mR (f, ct, tk, 0)).2.2.2 = (lsA E n z G9 (f, ct, 0)).2.2) : CM l D k yL_acts cL_acts 9 (some .boolean)  7 160 [.ref lo, .ref o, .int (nI kd), .int (nI av), .int (nI aw)] [(o, .inr (12, [.ref h, .ref pp, .ref x2, .ref x3, .ref x4, .ref o2, .ref o4, .ref o9, .ref o7, .ref o0, .ref o1])), (h, .inr (5, [.ref jj, .ref dd, .int (nI n), .int (nI z)])), (jj, aI k 36 fj), (dd, aI k 6 fd), (pp, .inr (8, [.ref h, .ref r1, .ref r2, .int tk])), (r1, .inr (10, [.ref a1])), (a1, aI k 6 f), (r2, .inr (10, [.ref a2])), (a2, aI k 6 ct), (x2, .inr (8, [.ref h, .ref r3, .ref r4, .int tk2])), (r3, .inr (10, [.ref a3])), (a3, aI k 6 f2), (r4, .inr (10, [.ref a4])), (a4, aI k 6 ct2), (lo, .inr (13, [.ref eo, .ref e1, .ref e2, .ref e3, .ref e4, .ref e5, .int (nI n), .int (nI z), .int tk])), (eo, aR k 3 6 (fun i9 => if i9 < 6 then some (er i9) else none)), ((er 0), aI k 6 (EN E 0)), ((er 1), aI k 6 (EN E 1)), ((er 2), aI k 6 (EN E 2)), ((er 3), aI k 6 (EN E 3)), ((er 4), aI k 6 (EN E 4)), ((er 5), aI k 6 (EN E 5)), (e1, aI k 6 f), (e2, aI k 6 ct)] (fun rv9 w9 => rv9 = (some (.int 1)) ∧ ∃ (tq : Int32) (fq2 : Nat → Int32) (cq : Nat → Int32), w9 = [(o, .inr (12, [.ref h, .ref pp, .ref x2, .ref x3, .ref x4, .ref o2, .ref o4, .ref o9, .ref o7, .ref o0, .ref o1])), (h, .inr (5, [.ref jj, .ref dd, .int (nI n), .int (nI z)])), (jj, aI k 36 fj), (dd, aI k 6 fd), (pp, .inr (8, [.ref h, .ref r1, .ref r2, .int ((stA n z fj fd (fun i9 => i9) mR (f, ct, tk, 0)).2.2.1)])), (r1, .inr (10, [.ref a1])), (a1, aI k 6 ((stA n z fj fd (fun i9 => i9) mR (f, ct, tk, 0)).1)), (r2, .inr (10, [.ref a2])), (a2, aI k 6 ((stA n z fj fd (fun i9 => i9) mR (f, ct, tk, 0)).2.1)), (x2, .inr (8, [.ref h, .ref r3, .ref r4, .int tq])), (r3, .inr (10, [.ref a3])), (a3, aI k 6 fq2), (r4, .inr (10, [.ref a4])), (a4, aI k 6 cq), (lo, .inr (13, [.ref eo, .ref e1, .ref e2, .ref e3, .ref e4, .ref e5, .int (nI n), .int (nI z), .int (tk + (lsA E n z G9 (f, ct, 0)).1 z)])), (eo, aR k 3 6 (fun i9 => if i9 < 6 then some (er i9) else none)), ((er 0), aI k 6 (EN E 0)), ((er 1), aI k 6 (EN E 1)), ((er 2), aI k 6 (EN E 2)), ((er 3), aI k 6 (EN E 3)), ((er 4), aI k 6 (EN E 4)), ((er 5), aI k 6 (EN E 5)), (e1, aI k 6 (upd (lsA E n z G9 (f, ct, 0)).1 z 0)), (e2, aI k 6 ((lsA E n z G9 (f, ct, 0)).2.1))]) (F + 10) (6 * F + 60) 0 := by
  refine CM.of (lv0 := [(0, .ref lo), (1, .ref o), (2, .int (nI kd)), (3, .int (nI av)), (4, .int (nI aw))]) (by decide +kernel) (Nat.le_of_ble_eq_true rfl) rfl ?_
  intro p9 e9 s9 m9 bl9 me9 co9 C hr hlk hin had
  refine g_iload_n (pc := 0) C 3 rfl rfl dL_acts_0 ?_
  refine g_aload_n (pc := 1) C 0 rfl rfl dL_acts_1 ?_
  refine g_get (pc := 2) C (T := TXL) inXL 14 rfl rfl 6 (by decide) q_564 rfl rfl dL_acts_2 ?_
  refine g_irem (pc := 5) C (nI_ne0 (by omega) (by omega)) dL_acts_5 ?_
  refine G.eqs (st' := [.int (nI v)]) (congrArg (β := List Value) (fun z9 => [.int z9]) (show (((nI av) - (nI av) / (nI n) * (nI n)) : Int32) = (nI v) from (by rw [← hav]; exact pk_rem (by omega) (by omega) (by omega)))) ?_
  refine g_istore (pc := 6) C [(5, .int (nI v)), (0, .ref lo), (1, .ref o), (2, .int (nI kd)), (3, .int (nI av)), (4, .int (nI aw))] dL_acts_6 (by decide) rfl ?_
  refine g_iload (pc := 8) C 5 rfl dL_acts_8 ?_
  refine g_aload_n (pc := 10) C 1 rfl rfl dL_acts_10 ?_
  refine g_get (pc := 11) C (T := TXL) inXL 14 rfl rfl 6 (by decide) q_564 rfl rfl dL_acts_11 ?_
  refine g_irem (pc := 14) C (nI_ne0 (by omega) (by omega)) dL_acts_14 ?_
  refine G.eqs (st' := [.int (nI u)]) (congrArg (β := List Value) (fun z9 => [.int z9]) (show (((nI aw) - (nI aw) / (nI n) * (nI n)) : Int32) = (nI u) from (by rw [← haw]; exact pk_rem (by omega) (by omega) (by omega)))) ?_
  refine g_istore (pc := 15) C [(6, .int (nI u)), (5, .int (nI v)), (0, .ref lo), (1, .ref o), (2, .int (nI kd)), (3, .int (nI av)), (4, .int (nI aw))] dL_acts_15 (by decide) rfl ?_
  refine g_iload_n (pc := 17) C 4 rfl rfl dL_acts_17 ?_
  refine g_if_ne (pc := 18) C 109 (by decide) dL_acts_18 (fun c_18 => ?_) (fun c_18 => ?_)
  · refine g_iload_n (pc := 109) C 4 rfl rfl dL_acts_109 ?_
    refine g_iconst (pc := 110) (v := 3) C (by decide) dL_acts_110 ?_
    refine g_icmp_ge (pc := 111) C 228 (by decide) dL_acts_111 (fun c_111 => ?_) (fun c_111 => ?_)
    · refine g_iload_n (pc := 228) C 4 rfl rfl dL_acts_228 ?_
      refine g_bipush (pc := 229) (v := 8) C (by decide) dL_acts_229 ?_
      refine g_icmp_ge (pc := 231) C 312 (by decide) dL_acts_231 (fun c_231 => ?_) (fun c_231 => ?_)
      · refine g_iload_n (pc := 312) C 4 rfl rfl dL_acts_312 ?_
        refine g_bipush (pc := 313) (v := 8) C (by decide) dL_acts_313 ?_
        refine g_icmp_ne (pc := 315) C 460 (by decide) dL_acts_315 (fun c_315 => ?_) (fun c_315 => ?_)
        · refine g_iload_n (pc := 460) C 4 rfl rfl dL_acts_460 ?_
          refine g_bipush (pc := 461) (v := 12) C (by decide) dL_acts_461 ?_
          refine g_icmp_ge (pc := 463) C 484 (by decide) dL_acts_463 (fun c_463 => ?_) (fun c_463 => ?_)
          · exact absurd c_463 (nI_ge (b := 12) (a := kd) (by omega) (by omega))
          · refine g_aload_n (pc := 466) C 2 rfl rfl dL_acts_466 ?_
            refine g_aload_n (pc := 467) C 3 rfl rfl dL_acts_467 ?_
            refine g_iload (pc := 468) C 6 rfl dL_acts_468 ?_
            refine g_iconst (pc := 470) (v := 4) C (by decide) dL_acts_470 ?_
            refine g_irem (pc := 471) C (by decide) dL_acts_471 ?_
            refine G.eqs (st' := [.int (nI (aw % 4)), .ref o, .ref lo]) (congrArg (β := List Value) (fun z9 => [.int z9, .ref o, .ref lo]) (show (((nI aw) - (nI aw) / 4 * 4) : Int32) = (nI (aw % 4)) from (pk_rem (a := aw) (d := 4) (by omega) (by omega) (by omega)))) ?_
            refine g_if_ne (pc := 472) C 479 (by decide) dL_acts_472 (fun c_472 => ?_) (fun c_472 => ?_)
            · refine g_iconst (pc := 479) (v := 0) C (by decide) dL_acts_479 ?_
              refine g_callV (pc := 480) (cells := 0) (slots := 0) (g := 0) (As := [.ref o, .int 0]) (st := []) (T := TXL) (q0 := 14) C (nA := 2) rfl (c_L_settlesTo_w0 o h pp x2 x3 x4 o2 o4 o9 o7 o0 o1 jj dd n z fj fd r1 a1 r2 a2 f ct tk r3 a3 r4 a4 f2 ct2 tk2 lo eo e1 e2 e3 e4 e5 er E tk f ct F G9 hn hz hE3 hW hLw hwv hWF hF2 heq hall) q_791 q_792 q_790 q_551 q_789 (by decide +kernel) rfl rfl dL_acts_480 ⟨Nat.le_of_ble_eq_true rfl, Nat.le_of_ble_eq_true rfl⟩ [0, 1, 2, 3, 4, 5, 6, 7, 8, 9, 10, 11, 12, 13, 14, 15, 16, 17, 18, 19, 20, 21, 22, 23] [] rfl (wr := []) rfl (by decide) (by decide) (by decide) (Nat.le_of_ble_eq_true rfl) ⟨by show _ ≤ F + 10; omega, by show _ ≤ 6 * F + 60; omega⟩ (fun rv w1 h1 => ?_)
              obtain ⟨rfl, q1, q2, q3, rfl⟩ := h1
              refine G.aft [0, 1, 2, 3, 4, 5, 6, 7, 8, 9, 10, 11, 12, 13, 14, 15, 16, 17, 18, 19, 20, 21, 22, 23] (ws' := [(o, .inr (12, [.ref h, .ref pp, .ref x2, .ref x3, .ref x4, .ref o2, .ref o4, .ref o9, .ref o7, .ref o0, .ref o1])), (h, .inr (5, [.ref jj, .ref dd, .int (nI n), .int (nI z)])), (jj, aI k 36 fj), (dd, aI k 6 fd), (pp, .inr (8, [.ref h, .ref r1, .ref r2, .int ((stA n z fj fd (fun i9 => i9) mR (f, ct, tk, 0)).2.2.1)])), (r1, .inr (10, [.ref a1])), (a1, aI k 6 ((stA n z fj fd (fun i9 => i9) mR (f, ct, tk, 0)).1)), (r2, .inr (10, [.ref a2])), (a2, aI k 6 ((stA n z fj fd (fun i9 => i9) mR (f, ct, tk, 0)).2.1)), (x2, .inr (8, [.ref h, .ref r3, .ref r4, .int q1])), (r3, .inr (10, [.ref a3])), (a3, aI k 6 q2), (r4, .inr (10, [.ref a4])), (a4, aI k 6 q3), (lo, .inr (13, [.ref eo, .ref e1, .ref e2, .ref e3, .ref e4, .ref e5, .int (nI n), .int (nI z), .int (tk + (lsA E n z G9 (f, ct, 0)).1 z)])), (eo, aR k 3 6 (fun i9 => if i9 < 6 then some (er i9) else none)), ((er 0), aI k 6 (EN E 0)), ((er 1), aI k 6 (EN E 1)), ((er 2), aI k 6 (EN E 2)), ((er 3), aI k 6 (EN E 3)), ((er 4), aI k 6 (EN E 4)), ((er 5), aI k 6 (EN E 5)), (e1, aI k 6 (upd (lsA E n z G9 (f, ct, 0)).1 z 0)), (e2, aI k 6 ((lsA E n z G9 (f, ct, 0)).2.1))]) (st' := [.int 1]) (cells' := 0 + (F + 10)) (slots' := 0 + (6 * F + 60)) (g' := 0) (by decide) rfl rfl rfl rfl rfl ?_
              exact g_zret (pc := 483) C hr (by first | rfl | exact bI_nar _) hlk (by first | decide | omega) (by first | decide | omega) (by first | decide | omega) dL_acts_483 ⟨rfl, q1, q2, q3, rfl⟩
            · exact absurd c_472 (nI_ne0 (by omega) (by omega))
        · exact absurd ((nI_eq (a := kd) (b := 8) (by omega) (by omega)).mp c_315) (by omega)
      · exact absurd (show nI 8 ≤ nI kd from nI_le (by omega) (by omega)) c_231
    · exact absurd (show nI 3 ≤ nI kd from nI_le (by omega) (by omega)) c_111
  · exact absurd c_18 (nI_ne0 (by omega) (by omega))
set_option maxRecDepth 100000 in
set_option maxHeartbeats 400000 in
theorem c_L_acts_k9b {l : Launch} {D : va_G} {k : Nat → ClassId} (o : Nat) (h : Nat) (pp : Nat) (x2 : Nat) (x3 : Nat) (x4 : Nat) (o2 : Nat) (o4 : Nat) (o9 : Nat) (o7 : Nat) (o0 : Nat) (o1 : Nat) (jj : Nat) (dd : Nat) (n : Nat) (z : Nat) (fj : Nat → Int32) (fd : Nat → Int32) (r1 : Nat) (r2 : Nat) (tk : Int32) (a1 : Nat) (f : Nat → Int32) (a2 : Nat) (ct : Nat → Int32) (lo : Nat) (eo : Nat) (e1 : Nat) (e2 : Nat) (e3 : Nat) (e4 : Nat) (e5 : Nat) (er : Nat → Nat) (E : Nat → Nat → Nat) (kd : Nat) (av : Nat) (aw : Nat) (v : Nat) (u : Nat) (F : Nat) (G9 : Nat) (hn : n ≤ 6) (hz : z < n) (hE3 : ∀ i j, E i j ≤ 3) (hav : av % n = v) (haw : aw % n = u) (hv : v < n) (hu : u < n) (hb1 : av ≤ 9000) (hb2 : aw ≤ 9000) (hk1 : 9 ≤ kd) (hk2 : kd ≤ 11) (hq4 : aw % 4 = 0) (hW : gConn fj n = true) (hLw : lwV E n z = true) (hs9 : ∀ j, j < 6 → ¬ 1000 < f j) (hsq : ∀ v, v < n → ¬ 2000 < f v + f v) (hWF : (wvR E n z F ((dbA f 6), 0, true)).2.2 = false) (hF2 : hiO (cnL E z (lsA E n z G9 ((dbA f 6), ct, 0)).1) n = none) (heq : ∀ j, j < 6 → (wvR E n z F ((dbA f 6), 0, true)).1 j = (lsA E n z G9 ((dbA f 6), ct, 0)).1 j) (hall : (stA n z fj fd (fun i9 => i9) mR ((sqF z f n), ct, (sqT z f tk n), 0)).2.2.2 = (lsA E n z G9 ((dbA f 6), ct, 0)).2.2) : CM l D k yL_acts cL_acts 9 (some .boolean)  7 160 [.ref lo, .ref o, .int (nI kd), .int (nI av), .int (nI aw)] [(o, .inr (12, [.ref h, .ref pp, .ref x2, .ref x3, .ref x4, .ref o2, .ref o4, .ref o9, .ref o7, .ref o0, .ref o1])), (h, .inr (5, [.ref jj, .ref dd, .int (nI n), .int (nI z)])), (jj, aI k 36 fj), (dd, aI k 6 fd), (pp, .inr (8, [.ref h, .ref r1, .ref r2, .int tk])), (r1, .inr (10, [.ref a1])), (a1, aI k 6 f), (r2, .inr (10, [.ref a2])), (a2, aI k 6 ct), (lo, .inr (13, [.ref eo, .ref e1, .ref e2, .ref e3, .ref e4, .ref e5, .int (nI n), .int (nI z), .int tk])), (eo, aR k 3 6 (fun i9 => if i9 < 6 then some (er i9) else none)), ((er 0), aI k 6 (EN E 0)), ((er 1), aI k 6 (EN E 1)), ((er 2), aI k 6 (EN E 2)), ((er 3), aI k 6 (EN E 3)), ((er 4), aI k 6 (EN E 4)), ((er 5), aI k 6 (EN E 5)), (e1, aI k 6 f), (e2, aI k 6 ct)] (is1 (some (.int 1)) [(o, .inr (12, [.ref h, .ref pp, .ref x2, .ref x3, .ref x4, .ref o2, .ref o4, .ref o9, .ref o7, .ref o0, .ref o1])), (h, .inr (5, [.ref jj, .ref dd, .int (nI n), .int (nI z)])), (jj, aI k 36 fj), (dd, aI k 6 fd), (pp, .inr (8, [.ref h, .ref r1, .ref r2, .int ((stA n z fj fd (fun i9 => i9) mR ((sqF z f n), ct, (sqT z f tk n), 0)).2.2.1)])), (r1, .inr (10, [.ref a1])), (a1, aI k 6 ((stA n z fj fd (fun i9 => i9) mR ((sqF z f n), ct, (sqT z f tk n), 0)).1)), (r2, .inr (10, [.ref a2])), (a2, aI k 6 ((stA n z fj fd (fun i9 => i9) mR ((sqF z f n), ct, (sqT z f tk n), 0)).2.1)), (lo, .inr (13, [.ref eo, .ref e1, .ref e2, .ref e3, .ref e4, .ref e5, .int (nI n), .int (nI z), .int (tk + (lsA E n z G9 ((dbA f 6), ct, 0)).1 z)])), (eo, aR k 3 6 (fun i9 => if i9 < 6 then some (er i9) else none)), ((er 0), aI k 6 (EN E 0)), ((er 1), aI k 6 (EN E 1)), ((er 2), aI k 6 (EN E 2)), ((er 3), aI k 6 (EN E 3)), ((er 4), aI k 6 (EN E 4)), ((er 5), aI k 6 (EN E 5)), (e1, aI k 6 (upd (lsA E n z G9 ((dbA f 6), ct, 0)).1 z 0)), (e2, aI k 6 ((lsA E n z G9 ((dbA f 6), ct, 0)).2.1))]) (F + 10) (6 * F + 60) 0 := by
  refine CM.of (lv0 := [(0, .ref lo), (1, .ref o), (2, .int (nI kd)), (3, .int (nI av)), (4, .int (nI aw))]) (by decide +kernel) (Nat.le_of_ble_eq_true rfl) rfl ?_
  intro p9 e9 s9 m9 bl9 me9 co9 C hr hlk hin had
  refine g_iload_n (pc := 0) C 3 rfl rfl dL_acts_0 ?_
  refine g_aload_n (pc := 1) C 0 rfl rfl dL_acts_1 ?_
  refine g_get (pc := 2) C (T := TXL) inXL 9 rfl rfl 6 (by decide) q_564 rfl rfl dL_acts_2 ?_
  refine g_irem (pc := 5) C (nI_ne0 (by omega) (by omega)) dL_acts_5 ?_
  refine G.eqs (st' := [.int (nI v)]) (congrArg (β := List Value) (fun z9 => [.int z9]) (show (((nI av) - (nI av) / (nI n) * (nI n)) : Int32) = (nI v) from (by rw [← hav]; exact pk_rem (by omega) (by omega) (by omega)))) ?_
  refine g_istore (pc := 6) C [(5, .int (nI v)), (0, .ref lo), (1, .ref o), (2, .int (nI kd)), (3, .int (nI av)), (4, .int (nI aw))] dL_acts_6 (by decide) rfl ?_
  refine g_iload (pc := 8) C 5 rfl dL_acts_8 ?_
  refine g_aload_n (pc := 10) C 1 rfl rfl dL_acts_10 ?_
  refine g_get (pc := 11) C (T := TXL) inXL 9 rfl rfl 6 (by decide) q_564 rfl rfl dL_acts_11 ?_
  refine g_irem (pc := 14) C (nI_ne0 (by omega) (by omega)) dL_acts_14 ?_
  refine G.eqs (st' := [.int (nI u)]) (congrArg (β := List Value) (fun z9 => [.int z9]) (show (((nI aw) - (nI aw) / (nI n) * (nI n)) : Int32) = (nI u) from (by rw [← haw]; exact pk_rem (by omega) (by omega) (by omega)))) ?_
  refine g_istore (pc := 15) C [(6, .int (nI u)), (5, .int (nI v)), (0, .ref lo), (1, .ref o), (2, .int (nI kd)), (3, .int (nI av)), (4, .int (nI aw))] dL_acts_15 (by decide) rfl ?_
  refine g_iload_n (pc := 17) C 4 rfl rfl dL_acts_17 ?_
  refine g_if_ne (pc := 18) C 109 (by decide) dL_acts_18 (fun c_18 => ?_) (fun c_18 => ?_)
  · refine g_iload_n (pc := 109) C 4 rfl rfl dL_acts_109 ?_
    refine g_iconst (pc := 110) (v := 3) C (by decide) dL_acts_110 ?_
    refine g_icmp_ge (pc := 111) C 228 (by decide) dL_acts_111 (fun c_111 => ?_) (fun c_111 => ?_)
    · refine g_iload_n (pc := 228) C 4 rfl rfl dL_acts_228 ?_
      refine g_bipush (pc := 229) (v := 8) C (by decide) dL_acts_229 ?_
      refine g_icmp_ge (pc := 231) C 312 (by decide) dL_acts_231 (fun c_231 => ?_) (fun c_231 => ?_)
      · refine g_iload_n (pc := 312) C 4 rfl rfl dL_acts_312 ?_
        refine g_bipush (pc := 313) (v := 8) C (by decide) dL_acts_313 ?_
        refine g_icmp_ne (pc := 315) C 460 (by decide) dL_acts_315 (fun c_315 => ?_) (fun c_315 => ?_)
        · refine g_iload_n (pc := 460) C 4 rfl rfl dL_acts_460 ?_
          refine g_bipush (pc := 461) (v := 12) C (by decide) dL_acts_461 ?_
          refine g_icmp_ge (pc := 463) C 484 (by decide) dL_acts_463 (fun c_463 => ?_) (fun c_463 => ?_)
          · exact absurd c_463 (nI_ge (b := 12) (a := kd) (by omega) (by omega))
          · refine g_aload_n (pc := 466) C 2 rfl rfl dL_acts_466 ?_
            refine g_aload_n (pc := 467) C 3 rfl rfl dL_acts_467 ?_
            refine g_iload (pc := 468) C 6 rfl dL_acts_468 ?_
            refine g_iconst (pc := 470) (v := 4) C (by decide) dL_acts_470 ?_
            refine g_irem (pc := 471) C (by decide) dL_acts_471 ?_
            refine G.eqs (st' := [.int (nI (aw % 4)), .ref o, .ref lo]) (congrArg (β := List Value) (fun z9 => [.int z9, .ref o, .ref lo]) (show (((nI aw) - (nI aw) / 4 * 4) : Int32) = (nI (aw % 4)) from (pk_rem (a := aw) (d := 4) (by omega) (by omega) (by omega)))) ?_
            refine g_if_ne (pc := 472) C 479 (by decide) dL_acts_472 (fun c_472 => ?_) (fun c_472 => ?_)
            · exact absurd (by rw [hq4]; rfl) c_472
            · refine g_iconst (pc := 475) (v := 1) C (by decide) dL_acts_475 ?_
              refine g_goto (pc := 476) C 480 (by decide) dL_acts_476 ?_
              refine g_callV (pc := 480) (cells := 0) (slots := 0) (g := 0) (As := [.ref o, .int 1]) (st := []) (T := TXL) (q0 := 9) C (nA := 2) rfl (c_L_settlesTo_w1 o h pp x2 x3 x4 o2 o4 o9 o7 o0 o1 jj dd n z fj fd r1 a1 r2 a2 f ct tk lo eo e1 e2 e3 e4 e5 er E tk f ct F G9 hn hz hE3 hW hLw hs9 hsq hWF hF2 heq hall) q_791 q_792 q_790 q_551 q_789 (by decide +kernel) rfl rfl dL_acts_480 ⟨Nat.le_of_ble_eq_true rfl, Nat.le_of_ble_eq_true rfl⟩ [0, 1, 2, 3, 4, 5, 6, 7, 8, 9, 10, 11, 12, 13, 14, 15, 16, 17, 18] [] rfl (wr := []) rfl (by decide) (by decide) (by decide) (Nat.le_of_ble_eq_true rfl) ⟨by show _ ≤ F + 10; omega, by show _ ≤ 6 * F + 60; omega⟩ (fun rv w1 h1 => ?_)
              obtain ⟨rfl, rfl⟩ := h1
              refine G.aft [0, 1, 2, 3, 4, 5, 6, 7, 8, 9, 10, 11, 12, 13, 14, 15, 16, 17, 18] (ws' := [(o, .inr (12, [.ref h, .ref pp, .ref x2, .ref x3, .ref x4, .ref o2, .ref o4, .ref o9, .ref o7, .ref o0, .ref o1])), (h, .inr (5, [.ref jj, .ref dd, .int (nI n), .int (nI z)])), (jj, aI k 36 fj), (dd, aI k 6 fd), (pp, .inr (8, [.ref h, .ref r1, .ref r2, .int ((stA n z fj fd (fun i9 => i9) mR ((sqF z f n), ct, (sqT z f tk n), 0)).2.2.1)])), (r1, .inr (10, [.ref a1])), (a1, aI k 6 ((stA n z fj fd (fun i9 => i9) mR ((sqF z f n), ct, (sqT z f tk n), 0)).1)), (r2, .inr (10, [.ref a2])), (a2, aI k 6 ((stA n z fj fd (fun i9 => i9) mR ((sqF z f n), ct, (sqT z f tk n), 0)).2.1)), (lo, .inr (13, [.ref eo, .ref e1, .ref e2, .ref e3, .ref e4, .ref e5, .int (nI n), .int (nI z), .int (tk + (lsA E n z G9 ((dbA f 6), ct, 0)).1 z)])), (eo, aR k 3 6 (fun i9 => if i9 < 6 then some (er i9) else none)), ((er 0), aI k 6 (EN E 0)), ((er 1), aI k 6 (EN E 1)), ((er 2), aI k 6 (EN E 2)), ((er 3), aI k 6 (EN E 3)), ((er 4), aI k 6 (EN E 4)), ((er 5), aI k 6 (EN E 5)), (e1, aI k 6 (upd (lsA E n z G9 ((dbA f 6), ct, 0)).1 z 0)), (e2, aI k 6 ((lsA E n z G9 ((dbA f 6), ct, 0)).2.1))]) (st' := [.int 1]) (cells' := 0 + (F + 10)) (slots' := 0 + (6 * F + 60)) (g' := 0) (by decide) rfl rfl rfl rfl rfl ?_
              exact g_zret (pc := 483) C hr (by first | rfl | exact bI_nar _) hlk (by first | decide | omega) (by first | decide | omega) (by first | decide | omega) dL_acts_483 ⟨rfl, rfl⟩
        · exact absurd ((nI_eq (a := kd) (b := 8) (by omega) (by omega)).mp c_315) (by omega)
      · exact absurd (show nI 8 ≤ nI kd from nI_le (by omega) (by omega)) c_231
    · exact absurd (show nI 3 ≤ nI kd from nI_le (by omega) (by omega)) c_111
  · exact absurd c_18 (nI_ne0 (by omega) (by omega))
set_option maxRecDepth 100000 in
set_option maxHeartbeats 400000 in
theorem c_L_acts_k12n {l : Launch} {D : va_G} {k : Nat → ClassId} (o : Nat) (h : Nat) (pp : Nat) (x2 : Nat) (x3 : Nat) (x4 : Nat) (o2 : Nat) (o4 : Nat) (o9 : Nat) (o7 : Nat) (o0 : Nat) (o1 : Nat) (jj : Nat) (dd : Nat) (n : Nat) (z : Nat) (fj : Nat → Int32) (fd : Nat → Int32) (lo : Nat) (eo : Nat) (e1 : Nat) (e2 : Nat) (e3 : Nat) (e4 : Nat) (e5 : Nat) (tk : Int32) (er : Nat → Nat) (E : Nat → Nat → Nat) (kd : Nat) (av : Nat) (aw : Nat) (v : Nat) (u : Nat) (hn : n ≤ 6) (hz : z < n) (hE3 : ∀ i j, E i j ≤ 3) (hav : av % n = v) (haw : aw % n = u) (hv : v < n) (hu : u < n) (hb1 : av ≤ 9000) (hb2 : aw ≤ 9000) (hk : kd = 12) (hW : gConn fj n = false) (hLw : lwV E n z = false) : CM l D k yL_acts cL_acts 9 (some .boolean)  10 170 [.ref lo, .ref o, .int (nI kd), .int (nI av), .int (nI aw)] [(o, .inr (12, [.ref h, .ref pp, .ref x2, .ref x3, .ref x4, .ref o2, .ref o4, .ref o9, .ref o7, .ref o0, .ref o1])), (h, .inr (5, [.ref jj, .ref dd, .int (nI n), .int (nI z)])), (jj, aI k 36 fj), (dd, aI k 6 fd), (lo, .inr (13, [.ref eo, .ref e1, .ref e2, .ref e3, .ref e4, .ref e5, .int (nI n), .int (nI z), .int tk])), (eo, aR k 3 6 (fun i9 => if i9 < 6 then some (er i9) else none)), ((er 0), aI k 6 (EN E 0)), ((er 1), aI k 6 (EN E 1)), ((er 2), aI k 6 (EN E 2)), ((er 3), aI k 6 (EN E 3)), ((er 4), aI k 6 (EN E 4)), ((er 5), aI k 6 (EN E 5))] (is1 (some (.int 1)) [(o, .inr (12, [.ref h, .ref pp, .ref x2, .ref x3, .ref x4, .ref o2, .ref o4, .ref o9, .ref o7, .ref o0, .ref o1])), (h, .inr (5, [.ref jj, .ref dd, .int (nI n), .int (nI z)])), (jj, aI k 36 fj), (dd, aI k 6 fd), (lo, .inr (13, [.ref eo, .ref e1, .ref e2, .ref e3, .ref e4, .ref e5, .int (nI n), .int (nI z), .int tk])), (eo, aR k 3 6 (fun i9 => if i9 < 6 then some (er i9) else none)), ((er 0), aI k 6 (EN E 0)), ((er 1), aI k 6 (EN E 1)), ((er 2), aI k 6 (EN E 2)), ((er 3), aI k 6 (EN E 3)), ((er 4), aI k 6 (EN E 4)), ((er 5), aI k 6 (EN E 5))]) 10 60 0 := by
  refine CM.of (lv0 := [(0, .ref lo), (1, .ref o), (2, .int (nI kd)), (3, .int (nI av)), (4, .int (nI aw))]) (by decide +kernel) (Nat.le_of_ble_eq_true rfl) rfl ?_
  intro p9 e9 s9 m9 bl9 me9 co9 C hr hlk hin had
  refine g_iload_n (pc := 0) C 3 rfl rfl dL_acts_0 ?_
  refine g_aload_n (pc := 1) C 0 rfl rfl dL_acts_1 ?_
  refine g_get (pc := 2) C (T := TXL) inXL 4 rfl rfl 6 (by decide) q_564 rfl rfl dL_acts_2 ?_
  refine g_irem (pc := 5) C (nI_ne0 (by omega) (by omega)) dL_acts_5 ?_
  refine G.eqs (st' := [.int (nI v)]) (congrArg (β := List Value) (fun z9 => [.int z9]) (show (((nI av) - (nI av) / (nI n) * (nI n)) : Int32) = (nI v) from (by rw [← hav]; exact pk_rem (by omega) (by omega) (by omega)))) ?_
  refine g_istore (pc := 6) C [(5, .int (nI v)), (0, .ref lo), (1, .ref o), (2, .int (nI kd)), (3, .int (nI av)), (4, .int (nI aw))] dL_acts_6 (by decide) rfl ?_
  refine g_iload (pc := 8) C 5 rfl dL_acts_8 ?_
  refine g_aload_n (pc := 10) C 1 rfl rfl dL_acts_10 ?_
  refine g_get (pc := 11) C (T := TXL) inXL 4 rfl rfl 6 (by decide) q_564 rfl rfl dL_acts_11 ?_
  refine g_irem (pc := 14) C (nI_ne0 (by omega) (by omega)) dL_acts_14 ?_
  refine G.eqs (st' := [.int (nI u)]) (congrArg (β := List Value) (fun z9 => [.int z9]) (show (((nI aw) - (nI aw) / (nI n) * (nI n)) : Int32) = (nI u) from (by rw [← haw]; exact pk_rem (by omega) (by omega) (by omega)))) ?_
  refine g_istore (pc := 15) C [(6, .int (nI u)), (5, .int (nI v)), (0, .ref lo), (1, .ref o), (2, .int (nI kd)), (3, .int (nI av)), (4, .int (nI aw))] dL_acts_15 (by decide) rfl ?_
  refine g_iload_n (pc := 17) C 4 rfl rfl dL_acts_17 ?_
  refine g_if_ne (pc := 18) C 109 (by decide) dL_acts_18 (fun c_18 => ?_) (fun c_18 => ?_)
  · refine g_iload_n (pc := 109) C 4 rfl rfl dL_acts_109 ?_
    refine g_iconst (pc := 110) (v := 3) C (by decide) dL_acts_110 ?_
    refine g_icmp_ge (pc := 111) C 228 (by decide) dL_acts_111 (fun c_111 => ?_) (fun c_111 => ?_)
    · refine g_iload_n (pc := 228) C 4 rfl rfl dL_acts_228 ?_
      refine g_bipush (pc := 229) (v := 8) C (by decide) dL_acts_229 ?_
      refine g_icmp_ge (pc := 231) C 312 (by decide) dL_acts_231 (fun c_231 => ?_) (fun c_231 => ?_)
      · refine g_iload_n (pc := 312) C 4 rfl rfl dL_acts_312 ?_
        refine g_bipush (pc := 313) (v := 8) C (by decide) dL_acts_313 ?_
        refine g_icmp_ne (pc := 315) C 460 (by decide) dL_acts_315 (fun c_315 => ?_) (fun c_315 => ?_)
        · refine g_iload_n (pc := 460) C 4 rfl rfl dL_acts_460 ?_
          refine g_bipush (pc := 461) (v := 12) C (by decide) dL_acts_461 ?_
          refine g_icmp_ge (pc := 463) C 484 (by decide) dL_acts_463 (fun c_463 => ?_) (fun c_463 => ?_)
          · refine g_iload_n (pc := 484) C 4 rfl rfl dL_acts_484 ?_
            refine g_bipush (pc := 485) (v := 12) C (by decide) dL_acts_485 ?_
            refine g_icmp_ne (pc := 487) C 498 (by decide) dL_acts_487 (fun c_487 => ?_) (fun c_487 => ?_)
            · exact absurd (by rw [hk]; rfl) c_487
            · refine g_aload_n (pc := 490) C 2 rfl rfl dL_acts_490 ?_
              refine g_aload_n (pc := 491) C 3 rfl rfl dL_acts_491 ?_
              refine g_iload (pc := 492) C 1 rfl dL_acts_492 ?_
              refine g_callV (pc := 494) (cells := 0) (slots := 0) (g := 0) (As := [.ref o, .int (nI v)]) (st := []) (T := TXL) (q0 := 4) C (nA := 2) rfl (c_L_walks_n o h pp x2 x3 x4 o2 o4 o9 o7 o0 o1 jj dd n z fj fd lo eo e1 e2 e3 e4 e5 er E tk v (by first | assumption | decide | omega) (by first | assumption | decide | omega) (by first | assumption | decide | omega) (by first | assumption | decide | omega) (by first | assumption | decide | omega) (by first | assumption | decide | omega)) q_795 q_796 q_794 q_551 q_793 (by decide +kernel) rfl rfl dL_acts_494 ⟨Nat.le_of_ble_eq_true rfl, Nat.le_of_ble_eq_true rfl⟩ [0, 1, 2, 3, 4, 5, 6, 7, 8, 9, 10, 11] [] rfl (wr := []) rfl (by decide) (by decide) (by decide) (Nat.le_of_ble_eq_true rfl) ⟨Nat.le_of_ble_eq_true rfl, Nat.le_of_ble_eq_true rfl⟩ (fun rv w1 h1 => ?_)
              obtain ⟨rfl, rfl⟩ := h1
              refine G.aft [0, 1, 2, 3, 4, 5, 6, 7, 8, 9, 10, 11] (ws' := [(o, .inr (12, [.ref h, .ref pp, .ref x2, .ref x3, .ref x4, .ref o2, .ref o4, .ref o9, .ref o7, .ref o0, .ref o1])), (h, .inr (5, [.ref jj, .ref dd, .int (nI n), .int (nI z)])), (jj, aI k 36 fj), (dd, aI k 6 fd), (lo, .inr (13, [.ref eo, .ref e1, .ref e2, .ref e3, .ref e4, .ref e5, .int (nI n), .int (nI z), .int tk])), (eo, aR k 3 6 (fun i9 => if i9 < 6 then some (er i9) else none)), ((er 0), aI k 6 (EN E 0)), ((er 1), aI k 6 (EN E 1)), ((er 2), aI k 6 (EN E 2)), ((er 3), aI k 6 (EN E 3)), ((er 4), aI k 6 (EN E 4)), ((er 5), aI k 6 (EN E 5))]) (st' := [.int 1]) (cells' := 3) (slots' := 18) (g' := 0) (by decide) rfl rfl rfl rfl rfl ?_
              exact g_zret (pc := 497) C hr (by first | rfl | exact bI_nar _) hlk (by first | decide | omega) (by first | decide | omega) (by first | decide | omega) dL_acts_497 ⟨rfl, rfl⟩
          · exact absurd (show nI 12 ≤ nI kd from nI_le (by omega) (by omega)) c_463
        · exact absurd ((nI_eq (a := kd) (b := 8) (by omega) (by omega)).mp c_315) (by omega)
      · exact absurd (show nI 8 ≤ nI kd from nI_le (by omega) (by omega)) c_231
    · exact absurd (show nI 3 ≤ nI kd from nI_le (by omega) (by omega)) c_111
  · exact absurd c_18 (nI_ne0 (by omega) (by omega))
set_option maxRecDepth 100000 in
set_option maxHeartbeats 400000 in
theorem c_L_acts_k12w {l : Launch} {D : va_G} {k : Nat → ClassId} (o : Nat) (h : Nat) (pp : Nat) (x2 : Nat) (x3 : Nat) (x4 : Nat) (o2 : Nat) (o4 : Nat) (o9 : Nat) (o7 : Nat) (o0 : Nat) (o1 : Nat) (jj : Nat) (dd : Nat) (n : Nat) (z : Nat) (fj : Nat → Int32) (fd : Nat → Int32) (s1 : Nat) (s2 : Nat) (b1 : Nat) (fp : Nat → Int32) (b2 : Nat) (fv : Nat → Int32) (lo : Nat) (eo : Nat) (e1 : Nat) (e2 : Nat) (e3 : Nat) (e4 : Nat) (e5 : Nat) (tk : Int32) (er : Nat → Nat) (E : Nat → Nat → Nat) (t : Nat → Nat) (kd : Nat) (av : Nat) (aw : Nat) (v : Nat) (u : Nat) (F : Nat) (hn : n ≤ 6) (hz : z < n) (hE3 : ∀ i j, E i j ≤ 3) (hav : av % n = v) (haw : aw % n = u) (hv : v < n) (hu : u < n) (hb1 : av ≤ 9000) (hb2 : aw ≤ 9000) (hk : kd = 12) (hW : gConn fj n = true) (hLw : lwV E n z = true) (hEn : ∀ i j, n ≤ j → E i j = 0) (hdg : ∀ v, v < n → v ≠ z → 0 < dg E v) (htb : ∀ v, t v + F < 2 ^ 30) (hF : (lkL E z F 0 (v, t, upd fv v (fv v + 1))).2.1 = z) (hF6 : F < 2 ^ 20) (hsm : (ldL fj fd n z mR 0 (v, fp, upd fv v (fv v + 1))).1 = (lkL E z F 0 (v, t, upd fv v (fv v + 1))).1) : CM l D k yL_acts cL_acts 9 (some .boolean)  7 160 [.ref lo, .ref o, .int (nI kd), .int (nI av), .int (nI aw)] [(o, .inr (12, [.ref h, .ref pp, .ref x2, .ref x3, .ref x4, .ref o2, .ref o4, .ref o9, .ref o7, .ref o0, .ref o1])), (h, .inr (5, [.ref jj, .ref dd, .int (nI n), .int (nI z)])), (jj, aI k 36 fj), (dd, aI k 6 fd), (o7, .inr (9, [.ref h, .ref s1, .ref s2])), (s1, .inr (10, [.ref b1])), (b1, aI k 6 fp), (s2, .inr (10, [.ref b2])), (b2, aI k 6 fv), (lo, .inr (13, [.ref eo, .ref e1, .ref e2, .ref e3, .ref e4, .ref e5, .int (nI n), .int (nI z), .int tk])), (eo, aR k 3 6 (fun i9 => if i9 < 6 then some (er i9) else none)), ((er 0), aI k 6 (EN E 0)), ((er 1), aI k 6 (EN E 1)), ((er 2), aI k 6 (EN E 2)), ((er 3), aI k 6 (EN E 3)), ((er 4), aI k 6 (EN E 4)), ((er 5), aI k 6 (EN E 5)), (e4, aI k 6 (fun j9 => nI (t j9))), (e5, aI k 6 fv)] (is1 (some (.int 1)) [(o, .inr (12, [.ref h, .ref pp, .ref x2, .ref x3, .ref x4, .ref o2, .ref o4, .ref o9, .ref o7, .ref o0, .ref o1])), (h, .inr (5, [.ref jj, .ref dd, .int (nI n), .int (nI z)])), (jj, aI k 36 fj), (dd, aI k 6 fd), (o7, .inr (9, [.ref h, .ref s1, .ref s2])), (s1, .inr (10, [.ref b1])), (b1, aI k 6 ((ldL fj fd n z mR 0 (v, fp, upd fv v (fv v + 1))).2.2.1)), (s2, .inr (10, [.ref b2])), (b2, aI k 6 ((ldL fj fd n z mR 0 (v, fp, upd fv v (fv v + 1))).2.2.2)), (lo, .inr (13, [.ref eo, .ref e1, .ref e2, .ref e3, .ref e4, .ref e5, .int (nI n), .int (nI z), .int tk])), (eo, aR k 3 6 (fun i9 => if i9 < 6 then some (er i9) else none)), ((er 0), aI k 6 (EN E 0)), ((er 1), aI k 6 (EN E 1)), ((er 2), aI k 6 (EN E 2)), ((er 3), aI k 6 (EN E 3)), ((er 4), aI k 6 (EN E 4)), ((er 5), aI k 6 (EN E 5)), (e4, aI k 6 (fun j9 => nI ((lkL E z F 0 (v, t, upd fv v (fv v + 1))).2.2.1 j9))), (e5, aI k 6 ((lkL E z F 0 (v, t, upd fv v (fv v + 1))).2.2.2))]) (F + 2) (18 * F + 30) 0 := by
  refine CM.of (lv0 := [(0, .ref lo), (1, .ref o), (2, .int (nI kd)), (3, .int (nI av)), (4, .int (nI aw))]) (by decide +kernel) (Nat.le_of_ble_eq_true rfl) rfl ?_
  intro p9 e9 s9 m9 bl9 me9 co9 C hr hlk hin had
  refine g_iload_n (pc := 0) C 3 rfl rfl dL_acts_0 ?_
  refine g_aload_n (pc := 1) C 0 rfl rfl dL_acts_1 ?_
  refine g_get (pc := 2) C (T := TXL) inXL 9 rfl rfl 6 (by decide) q_564 rfl rfl dL_acts_2 ?_
  refine g_irem (pc := 5) C (nI_ne0 (by omega) (by omega)) dL_acts_5 ?_
  refine G.eqs (st' := [.int (nI v)]) (congrArg (β := List Value) (fun z9 => [.int z9]) (show (((nI av) - (nI av) / (nI n) * (nI n)) : Int32) = (nI v) from (by rw [← hav]; exact pk_rem (by omega) (by omega) (by omega)))) ?_
  refine g_istore (pc := 6) C [(5, .int (nI v)), (0, .ref lo), (1, .ref o), (2, .int (nI kd)), (3, .int (nI av)), (4, .int (nI aw))] dL_acts_6 (by decide) rfl ?_
  refine g_iload (pc := 8) C 5 rfl dL_acts_8 ?_
  refine g_aload_n (pc := 10) C 1 rfl rfl dL_acts_10 ?_
  refine g_get (pc := 11) C (T := TXL) inXL 9 rfl rfl 6 (by decide) q_564 rfl rfl dL_acts_11 ?_
  refine g_irem (pc := 14) C (nI_ne0 (by omega) (by omega)) dL_acts_14 ?_
  refine G.eqs (st' := [.int (nI u)]) (congrArg (β := List Value) (fun z9 => [.int z9]) (show (((nI aw) - (nI aw) / (nI n) * (nI n)) : Int32) = (nI u) from (by rw [← haw]; exact pk_rem (by omega) (by omega) (by omega)))) ?_
  refine g_istore (pc := 15) C [(6, .int (nI u)), (5, .int (nI v)), (0, .ref lo), (1, .ref o), (2, .int (nI kd)), (3, .int (nI av)), (4, .int (nI aw))] dL_acts_15 (by decide) rfl ?_
  refine g_iload_n (pc := 17) C 4 rfl rfl dL_acts_17 ?_
  refine g_if_ne (pc := 18) C 109 (by decide) dL_acts_18 (fun c_18 => ?_) (fun c_18 => ?_)
  · refine g_iload_n (pc := 109) C 4 rfl rfl dL_acts_109 ?_
    refine g_iconst (pc := 110) (v := 3) C (by decide) dL_acts_110 ?_
    refine g_icmp_ge (pc := 111) C 228 (by decide) dL_acts_111 (fun c_111 => ?_) (fun c_111 => ?_)
    · refine g_iload_n (pc := 228) C 4 rfl rfl dL_acts_228 ?_
      refine g_bipush (pc := 229) (v := 8) C (by decide) dL_acts_229 ?_
      refine g_icmp_ge (pc := 231) C 312 (by decide) dL_acts_231 (fun c_231 => ?_) (fun c_231 => ?_)
      · refine g_iload_n (pc := 312) C 4 rfl rfl dL_acts_312 ?_
        refine g_bipush (pc := 313) (v := 8) C (by decide) dL_acts_313 ?_
        refine g_icmp_ne (pc := 315) C 460 (by decide) dL_acts_315 (fun c_315 => ?_) (fun c_315 => ?_)
        · refine g_iload_n (pc := 460) C 4 rfl rfl dL_acts_460 ?_
          refine g_bipush (pc := 461) (v := 12) C (by decide) dL_acts_461 ?_
          refine g_icmp_ge (pc := 463) C 484 (by decide) dL_acts_463 (fun c_463 => ?_) (fun c_463 => ?_)
          · refine g_iload_n (pc := 484) C 4 rfl rfl dL_acts_484 ?_
            refine g_bipush (pc := 485) (v := 12) C (by decide) dL_acts_485 ?_
            refine g_icmp_ne (pc := 487) C 498 (by decide) dL_acts_487 (fun c_487 => ?_) (fun c_487 => ?_)
            · exact absurd (by rw [hk]; rfl) c_487
            · refine g_aload_n (pc := 490) C 2 rfl rfl dL_acts_490 ?_
              refine g_aload_n (pc := 491) C 3 rfl rfl dL_acts_491 ?_
              refine g_iload (pc := 492) C 1 rfl dL_acts_492 ?_
              refine g_callV (pc := 494) (cells := 0) (slots := 0) (g := 0) (As := [.ref o, .int (nI v)]) (st := []) (T := TXL) (q0 := 9) C (nA := 2) rfl (c_L_walks_w o h pp x2 x3 x4 o2 o4 o9 o7 o0 o1 jj dd n z fj fd s1 b1 s2 b2 fp fv lo eo e1 e2 e3 e4 e5 er E tk v F t fv hn hz hv hE3 hW hLw hEn hdg htb hF hF6 hsm) q_795 q_796 q_794 q_551 q_793 (by decide +kernel) rfl rfl dL_acts_494 ⟨Nat.le_of_ble_eq_true rfl, Nat.le_of_ble_eq_true rfl⟩ [0, 1, 2, 3, 4, 5, 6, 7, 8, 9, 10, 11, 12, 13, 14, 15, 16, 17, 18] [] rfl (wr := []) rfl (by decide) (by decide) (by decide) (Nat.le_of_ble_eq_true rfl) ⟨by show _ ≤ F + 2; omega, by show _ ≤ 18 * F + 30; omega⟩ (fun rv w1 h1 => ?_)
              obtain ⟨rfl, rfl⟩ := h1
              refine G.aft [0, 1, 2, 3, 4, 5, 6, 7, 8, 9, 10, 11, 12, 13, 14, 15, 16, 17, 18] (ws' := [(o, .inr (12, [.ref h, .ref pp, .ref x2, .ref x3, .ref x4, .ref o2, .ref o4, .ref o9, .ref o7, .ref o0, .ref o1])), (h, .inr (5, [.ref jj, .ref dd, .int (nI n), .int (nI z)])), (jj, aI k 36 fj), (dd, aI k 6 fd), (o7, .inr (9, [.ref h, .ref s1, .ref s2])), (s1, .inr (10, [.ref b1])), (b1, aI k 6 ((ldL fj fd n z mR 0 (v, fp, upd fv v (fv v + 1))).2.2.1)), (s2, .inr (10, [.ref b2])), (b2, aI k 6 ((ldL fj fd n z mR 0 (v, fp, upd fv v (fv v + 1))).2.2.2)), (lo, .inr (13, [.ref eo, .ref e1, .ref e2, .ref e3, .ref e4, .ref e5, .int (nI n), .int (nI z), .int tk])), (eo, aR k 3 6 (fun i9 => if i9 < 6 then some (er i9) else none)), ((er 0), aI k 6 (EN E 0)), ((er 1), aI k 6 (EN E 1)), ((er 2), aI k 6 (EN E 2)), ((er 3), aI k 6 (EN E 3)), ((er 4), aI k 6 (EN E 4)), ((er 5), aI k 6 (EN E 5)), (e4, aI k 6 (fun j9 => nI ((lkL E z F 0 (v, t, upd fv v (fv v + 1))).2.2.1 j9))), (e5, aI k 6 ((lkL E z F 0 (v, t, upd fv v (fv v + 1))).2.2.2))]) (st' := [.int 1]) (cells' := 0 + (F + 2)) (slots' := 0 + (18 * F + 30)) (g' := 0) (by decide) rfl rfl rfl rfl rfl ?_
              exact g_zret (pc := 497) C hr (by first | rfl | exact bI_nar _) hlk (by first | decide | omega) (by first | decide | omega) (by first | decide | omega) dL_acts_497 ⟨rfl, rfl⟩
          · exact absurd (show nI 12 ≤ nI kd from nI_le (by omega) (by omega)) c_463
        · exact absurd ((nI_eq (a := kd) (b := 8) (by omega) (by omega)).mp c_315) (by omega)
      · exact absurd (show nI 8 ≤ nI kd from nI_le (by omega) (by omega)) c_231
    · exact absurd (show nI 3 ≤ nI kd from nI_le (by omega) (by omega)) c_111
  · exact absurd c_18 (nI_ne0 (by omega) (by omega))
theorem x13_a (a : Nat) : ¬ (nI (a % 13) - 6 : Int32) < -20 := by
  have h : a % 13 < 13 := Nat.mod_lt _ (by decide)
  generalize a % 13 = r at h
  rcases (show r = 0 ∨ r = 1 ∨ r = 2 ∨ r = 3 ∨ r = 4 ∨ r = 5 ∨ r = 6 ∨ r = 7 ∨ r = 8 ∨ r = 9 ∨ r = 10 ∨ r = 11 ∨ r = 12 by omega) with rfl | rfl | rfl | rfl | rfl | rfl | rfl | rfl | rfl | rfl | rfl | rfl | rfl <;> decide
theorem x13_b (a : Nat) : ¬ (20 : Int32) < nI (a % 13) - 6 := by
  have h : a % 13 < 13 := Nat.mod_lt _ (by decide)
  generalize a % 13 = r at h
  rcases (show r = 0 ∨ r = 1 ∨ r = 2 ∨ r = 3 ∨ r = 4 ∨ r = 5 ∨ r = 6 ∨ r = 7 ∨ r = 8 ∨ r = 9 ∨ r = 10 ∨ r = 11 ∨ r = 12 by omega) with rfl | rfl | rfl | rfl | rfl | rfl | rfl | rfl | rfl | rfl | rfl | rfl | rfl <;> decide
set_option maxRecDepth 100000 in
set_option maxHeartbeats 400000 in
theorem c_L_acts_k13 {l : Launch} {D : va_G} {k : Nat → ClassId} (o : Nat) (h : Nat) (pp : Nat) (x2 : Nat) (x3 : Nat) (x4 : Nat) (o2 : Nat) (o4 : Nat) (o9 : Nat) (o7 : Nat) (o0 : Nat) (o1 : Nat) (jj : Nat) (dd : Nat) (n : Nat) (z : Nat) (fj : Nat → Int32) (fd : Nat → Int32) (t1 : Nat) (t2 : Nat) (t3 : Nat) (t4 : Nat) (t5 : Nat) (u1 : Nat) (fo : Nat → Int32) (lo : Nat) (eo : Nat) (e1 : Nat) (e2 : Nat) (e3 : Nat) (e4 : Nat) (e5 : Nat) (tk : Int32) (E : Nat → Nat → Nat) (kd : Nat) (av : Nat) (aw : Nat) (v : Nat) (u : Nat) (hn : n ≤ 6) (hz : z < n) (hE3 : ∀ i j, E i j ≤ 3) (hav : av % n = v) (haw : aw % n = u) (hv : v < n) (hu : u < n) (hb1 : av ≤ 9000) (hb2 : aw ≤ 9000) (hk1 : 13 ≤ kd) (hk2 : kd ≤ 14) : CM l D k yL_acts cL_acts 9 (some .boolean)  4 90 [.ref lo, .ref o, .int (nI kd), .int (nI av), .int (nI aw)] [(o, .inr (12, [.ref h, .ref pp, .ref x2, .ref x3, .ref x4, .ref o2, .ref o4, .ref o9, .ref o7, .ref o0, .ref o1])), (h, .inr (5, [.ref jj, .ref dd, .int (nI n), .int (nI z)])), (jj, aI k 36 fj), (dd, aI k 6 fd), (o0, .inr (2, [.ref h, .ref o2, .ref t1, .ref t2, .ref t3, .ref t4, .ref t5])), (t1, .inr (10, [.ref u1])), (u1, aI k 6 fo), (lo, .inr (13, [.ref eo, .ref e1, .ref e2, .ref e3, .ref e4, .ref e5, .int (nI n), .int (nI z), .int tk])), (e3, aI k 6 fo)] (is1 (some (.int 1)) [(o, .inr (12, [.ref h, .ref pp, .ref x2, .ref x3, .ref x4, .ref o2, .ref o4, .ref o9, .ref o7, .ref o0, .ref o1])), (h, .inr (5, [.ref jj, .ref dd, .int (nI n), .int (nI z)])), (jj, aI k 36 fj), (dd, aI k 6 fd), (o0, .inr (2, [.ref h, .ref o2, .ref t1, .ref t2, .ref t3, .ref t4, .ref t5])), (t1, .inr (10, [.ref u1])), (u1, aI k 6 (upd fo v (nI (aw % 13) - 6))), (lo, .inr (13, [.ref eo, .ref e1, .ref e2, .ref e3, .ref e4, .ref e5, .int (nI n), .int (nI z), .int tk])), (e3, aI k 6 (upd fo v (nI (aw % 13) - 6)))]) 0 0 0 := by
  refine CM.of (lv0 := [(0, .ref lo), (1, .ref o), (2, .int (nI kd)), (3, .int (nI av)), (4, .int (nI aw))]) (by decide +kernel) (Nat.le_of_ble_eq_true rfl) rfl ?_
  intro p9 e9 s9 m9 bl9 me9 co9 C hr hlk hin had
  refine g_iload_n (pc := 0) C 3 rfl rfl dL_acts_0 ?_
  refine g_aload_n (pc := 1) C 0 rfl rfl dL_acts_1 ?_
  refine g_get (pc := 2) C (T := TXL) inXL 7 rfl rfl 6 (by decide) q_564 rfl rfl dL_acts_2 ?_
  refine g_irem (pc := 5) C (nI_ne0 (by omega) (by omega)) dL_acts_5 ?_
  refine G.eqs (st' := [.int (nI v)]) (congrArg (β := List Value) (fun z9 => [.int z9]) (show (((nI av) - (nI av) / (nI n) * (nI n)) : Int32) = (nI v) from (by rw [← hav]; exact pk_rem (by omega) (by omega) (by omega)))) ?_
  refine g_istore (pc := 6) C [(5, .int (nI v)), (0, .ref lo), (1, .ref o), (2, .int (nI kd)), (3, .int (nI av)), (4, .int (nI aw))] dL_acts_6 (by decide) rfl ?_
  refine g_iload (pc := 8) C 5 rfl dL_acts_8 ?_
  refine g_aload_n (pc := 10) C 1 rfl rfl dL_acts_10 ?_
  refine g_get (pc := 11) C (T := TXL) inXL 7 rfl rfl 6 (by decide) q_564 rfl rfl dL_acts_11 ?_
  refine g_irem (pc := 14) C (nI_ne0 (by omega) (by omega)) dL_acts_14 ?_
  refine G.eqs (st' := [.int (nI u)]) (congrArg (β := List Value) (fun z9 => [.int z9]) (show (((nI aw) - (nI aw) / (nI n) * (nI n)) : Int32) = (nI u) from (by rw [← haw]; exact pk_rem (by omega) (by omega) (by omega)))) ?_
  refine g_istore (pc := 15) C [(6, .int (nI u)), (5, .int (nI v)), (0, .ref lo), (1, .ref o), (2, .int (nI kd)), (3, .int (nI av)), (4, .int (nI aw))] dL_acts_15 (by decide) rfl ?_
  refine g_iload_n (pc := 17) C 4 rfl rfl dL_acts_17 ?_
  refine g_if_ne (pc := 18) C 109 (by decide) dL_acts_18 (fun c_18 => ?_) (fun c_18 => ?_)
  · refine g_iload_n (pc := 109) C 4 rfl rfl dL_acts_109 ?_
    refine g_iconst (pc := 110) (v := 3) C (by decide) dL_acts_110 ?_
    refine g_icmp_ge (pc := 111) C 228 (by decide) dL_acts_111 (fun c_111 => ?_) (fun c_111 => ?_)
    · refine g_iload_n (pc := 228) C 4 rfl rfl dL_acts_228 ?_
      refine g_bipush (pc := 229) (v := 8) C (by decide) dL_acts_229 ?_
      refine g_icmp_ge (pc := 231) C 312 (by decide) dL_acts_231 (fun c_231 => ?_) (fun c_231 => ?_)
      · refine g_iload_n (pc := 312) C 4 rfl rfl dL_acts_312 ?_
        refine g_bipush (pc := 313) (v := 8) C (by decide) dL_acts_313 ?_
        refine g_icmp_ne (pc := 315) C 460 (by decide) dL_acts_315 (fun c_315 => ?_) (fun c_315 => ?_)
        · refine g_iload_n (pc := 460) C 4 rfl rfl dL_acts_460 ?_
          refine g_bipush (pc := 461) (v := 12) C (by decide) dL_acts_461 ?_
          refine g_icmp_ge (pc := 463) C 484 (by decide) dL_acts_463 (fun c_463 => ?_) (fun c_463 => ?_)
          · refine g_iload_n (pc := 484) C 4 rfl rfl dL_acts_484 ?_
            refine g_bipush (pc := 485) (v := 12) C (by decide) dL_acts_485 ?_
            refine g_icmp_ne (pc := 487) C 498 (by decide) dL_acts_487 (fun c_487 => ?_) (fun c_487 => ?_)
            · refine g_iload_n (pc := 498) C 4 rfl rfl dL_acts_498 ?_
              refine g_bipush (pc := 499) (v := 15) C (by decide) dL_acts_499 ?_
              refine g_icmp_ge (pc := 501) C 553 (by decide) dL_acts_501 (fun c_501 => ?_) (fun c_501 => ?_)
              · exact absurd c_501 (nI_ge (b := 15) (a := kd) (by omega) (by omega))
              · refine g_aload_n (pc := 504) C 2 rfl rfl dL_acts_504 ?_
                refine g_get (pc := 505) C (T := TXL) inXL 7 rfl rfl 3 (by decide) q_698 rfl rfl dL_acts_505 ?_
                refine g_iload (pc := 508) C 1 rfl dL_acts_508 ?_
                refine g_iald_n (pc := 510) C (j := v) 8 rfl (by omega) (by first | decide | omega) rfl dL_acts_510 ?_
                refine g_istore (pc := 511) C [(7, .int (fo v)), (6, .int (nI u)), (5, .int (nI v)), (0, .ref lo), (1, .ref o), (2, .int (nI kd)), (3, .int (nI av)), (4, .int (nI aw))] dL_acts_511 (by decide) rfl ?_
                refine g_aload_n (pc := 513) C 3 rfl rfl dL_acts_513 ?_
                refine g_get (pc := 514) C (T := TXL) inXL 7 rfl rfl 3 (by decide) q_698 rfl rfl dL_acts_514 ?_
                refine g_iload (pc := 517) C 2 rfl dL_acts_517 ?_
                refine g_iload (pc := 519) C 7 rfl dL_acts_519 ?_
                refine g_bipush (pc := 521) (v := 13) C (by decide) dL_acts_521 ?_
                refine g_irem (pc := 523) C (by decide) dL_acts_523 ?_
                refine G.eqs (st' := [.int (nI (aw % 13)), .int (nI v), .ref e3]) (congrArg (β := List Value) (fun z9 => [.int z9, .int (nI v), .ref e3]) (show (((nI aw) - (nI aw) / 13 * 13) : Int32) = (nI (aw % 13)) from (pk_rem (a := aw) (d := 13) (by omega) (by omega) (by omega)))) ?_
                refine g_bipush (pc := 524) (v := 6) C (by decide) dL_acts_524 ?_
                refine g_isub (pc := 526) C dL_acts_526 ?_
                refine g_iast_n (pc := 527) C (j := v) 8 [(o, .inr (12, [.ref h, .ref pp, .ref x2, .ref x3, .ref x4, .ref o2, .ref o4, .ref o9, .ref o7, .ref o0, .ref o1])), (h, .inr (5, [.ref jj, .ref dd, .int (nI n), .int (nI z)])), (jj, aI k 36 fj), (dd, aI k 6 fd), (o0, .inr (2, [.ref h, .ref o2, .ref t1, .ref t2, .ref t3, .ref t4, .ref t5])), (t1, .inr (10, [.ref u1])), (u1, aI k 6 fo), (lo, .inr (13, [.ref eo, .ref e1, .ref e2, .ref e3, .ref e4, .ref e5, .int (nI n), .int (nI z), .int tk])), (e3, aI k 6 (upd fo v ((nI (aw % 13)) - 6)))] rfl (by omega) (by first | decide | omega) rfl rfl dL_acts_527 ?_
                refine g_aload_n (pc := 528) C 4 rfl rfl dL_acts_528 ?_
                refine g_iload (pc := 529) C 2 rfl dL_acts_529 ?_
                refine g_iload (pc := 531) C 7 rfl dL_acts_531 ?_
                refine g_bipush (pc := 533) (v := 13) C (by decide) dL_acts_533 ?_
                refine g_irem (pc := 535) C (by decide) dL_acts_535 ?_
                refine G.eqs (st' := [.int (nI (aw % 13)), .int (nI v), .ref o]) (congrArg (β := List Value) (fun z9 => [.int z9, .int (nI v), .ref o]) (show (((nI aw) - (nI aw) / 13 * 13) : Int32) = (nI (aw % 13)) from (pk_rem (a := aw) (d := 13) (by omega) (by omega) (by omega)))) ?_
                refine g_bipush (pc := 536) (v := 6) C (by decide) dL_acts_536 ?_
                refine g_isub (pc := 538) C dL_acts_538 ?_
                refine g_callSW (pc := 539) (cells := 0) (slots := 0) (g := 0) (As := [.ref o, .int (nI v), .int ((nI (aw % 13)) - 6)]) (st := []) (b := 0) C (nA := 3) rfl (c_L_setDebt o h pp x2 x3 x4 o2 o4 o9 o7 o0 o1 jj dd n z fj fd t1 t2 t3 t4 t5 u1 fo v ((nI (aw % 13)) - 6) (by first | assumption | decide | omega) (by first | assumption | decide | omega) (x13_a aw) (x13_b aw)) q_798 q_799 q_551 q_797 (by decide +kernel) dL_acts_539 ⟨Nat.le_of_ble_eq_true rfl, Nat.le_of_ble_eq_true rfl⟩ [0, 1, 2, 3, 4, 5, 6] [7, 8] rfl (wr := [(lo, .inr (13, [.ref eo, .ref e1, .ref e2, .ref e3, .ref e4, .ref e5, .int (nI n), .int (nI z), .int tk])), (e3, aI k 6 (upd fo v ((nI (aw % 13)) - 6)))]) rfl (by decide) (by decide) (by decide) (Nat.le_of_ble_eq_true rfl) ⟨Nat.le_of_ble_eq_true rfl, Nat.le_of_ble_eq_true rfl⟩ (fun rv w1 h1 => ?_)
                obtain ⟨rfl, rfl⟩ := h1
                refine G.aft [2, 3, 4, 5, 6, 7, 8, 0, 1] (ws' := [(o, .inr (12, [.ref h, .ref pp, .ref x2, .ref x3, .ref x4, .ref o2, .ref o4, .ref o9, .ref o7, .ref o0, .ref o1])), (h, .inr (5, [.ref jj, .ref dd, .int (nI n), .int (nI z)])), (jj, aI k 36 fj), (dd, aI k 6 fd), (o0, .inr (2, [.ref h, .ref o2, .ref t1, .ref t2, .ref t3, .ref t4, .ref t5])), (t1, .inr (10, [.ref u1])), (u1, aI k 6 (upd fo v ((nI (aw % 13)) - 6))), (lo, .inr (13, [.ref eo, .ref e1, .ref e2, .ref e3, .ref e4, .ref e5, .int (nI n), .int (nI z), .int tk])), (e3, aI k 6 (upd fo v ((nI (aw % 13)) - 6)))]) (st' := [.int (fo v)]) (cells' := 0) (slots' := 0) (g' := 0) (by decide) rfl rfl rfl rfl rfl ?_
                refine g_iload (pc := 542) C 0 rfl dL_acts_542 ?_
                refine g_icmp_ne (pc := 544) C 551 (by decide) dL_acts_544 (fun c_544 => ?_) (fun c_544 => ?_)
                · exact absurd rfl c_544
                · refine g_iconst (pc := 547) (v := 1) C (by decide) dL_acts_547 ?_
                  refine g_goto (pc := 548) C 552 (by decide) dL_acts_548 ?_
                  refine G.fn (upd fo v (nI (aw % 13) - 6)) 6 [(o, .inr (12, [.ref h, .ref pp, .ref x2, .ref x3, .ref x4, .ref o2, .ref o4, .ref o9, .ref o7, .ref o0, .ref o1])), (h, .inr (5, [.ref jj, .ref dd, .int (nI n), .int (nI z)])), (jj, aI k 36 fj), (dd, aI k 6 fd), (o0, .inr (2, [.ref h, .ref o2, .ref t1, .ref t2, .ref t3, .ref t4, .ref t5])), (t1, .inr (10, [.ref u1])), (u1, aI k 6 (upd fo v (nI (aw % 13) - 6))), (lo, .inr (13, [.ref eo, .ref e1, .ref e2, .ref e3, .ref e4, .ref e5, .int (nI n), .int (nI z), .int tk])), (e3, aI k 6 (upd fo v ((nI (aw % 13)) - 6)))] rfl (fun j hj => by rfl) rfl ?_
                  refine G.fn (upd fo v (nI (aw % 13) - 6)) 8 [(o, .inr (12, [.ref h, .ref pp, .ref x2, .ref x3, .ref x4, .ref o2, .ref o4, .ref o9, .ref o7, .ref o0, .ref o1])), (h, .inr (5, [.ref jj, .ref dd, .int (nI n), .int (nI z)])), (jj, aI k 36 fj), (dd, aI k 6 fd), (o0, .inr (2, [.ref h, .ref o2, .ref t1, .ref t2, .ref t3, .ref t4, .ref t5])), (t1, .inr (10, [.ref u1])), (u1, aI k 6 (upd fo v (nI (aw % 13) - 6))), (lo, .inr (13, [.ref eo, .ref e1, .ref e2, .ref e3, .ref e4, .ref e5, .int (nI n), .int (nI z), .int tk])), (e3, aI k 6 (upd fo v (nI (aw % 13) - 6)))] rfl (fun j hj => by rfl) rfl ?_
                  exact g_zret (pc := 552) C hr (by first | rfl | exact bI_nar _) hlk (by first | decide | omega) (by first | decide | omega) (by first | decide | omega) dL_acts_552 ⟨rfl, rfl⟩
            · exact absurd ((nI_eq (a := kd) (b := 12) (by omega) (by omega)).mp c_487) (by omega)
          · exact absurd (show nI 12 ≤ nI kd from nI_le (by omega) (by omega)) c_463
        · exact absurd ((nI_eq (a := kd) (b := 8) (by omega) (by omega)).mp c_315) (by omega)
      · exact absurd (show nI 8 ≤ nI kd from nI_le (by omega) (by omega)) c_231
    · exact absurd (show nI 3 ≤ nI kd from nI_le (by omega) (by omega)) c_111
  · exact absurd c_18 (nI_ne0 (by omega) (by omega))
def ddF (E : Nat → Nat → Nat) (v : Nat) (t : Int32) (fo : Nat → Int32) : Nat → Nat → Int32
  | 0 => upd fo v (fo v - t * nI (dg E v))
  | m + 1 => upd (ddF E v t fo m) m (ddF E v t fo m m + t * EN E v m)
set_option maxRecDepth 100000 in
set_option maxHeartbeats 400000 in
theorem c_L_acts_k15b {l : Launch} {D : va_G} {k : Nat → ClassId} (o : Nat) (h : Nat) (pp : Nat) (x2 : Nat) (x3 : Nat) (x4 : Nat) (o2 : Nat) (o4 : Nat) (o9 : Nat) (o7 : Nat) (o0 : Nat) (o1 : Nat) (jj : Nat) (dd : Nat) (n : Nat) (z : Nat) (fj : Nat → Int32) (fd : Nat → Int32) (t1 : Nat) (t2 : Nat) (t3 : Nat) (t4 : Nat) (t5 : Nat) (u1 : Nat) (fo : Nat → Int32) (lo : Nat) (eo : Nat) (e1 : Nat) (e2 : Nat) (e3 : Nat) (e4 : Nat) (e5 : Nat) (tk : Int32) (er : Nat → Nat) (E : Nat → Nat → Nat) (kd : Nat) (av : Nat) (aw : Nat) (v : Nat) (u : Nat) (hn : n ≤ 6) (hz : z < n) (hE3 : ∀ i j, E i j ≤ 3) (hav : av % n = v) (haw : aw % n = u) (hv : v < n) (hu : u < n) (hb1 : av ≤ 9000) (hb2 : aw ≤ 9000) (hk1 : 15 ≤ kd) (hk2 : kd ≤ 16) (hq2 : aw % 2 = 0) (hb : ∀ u, u < n → ¬ 9999 < adI fj fd fo u v 1 ∧ ¬ adI fj fd fo u v 1 < -9999) (hde : dlF fj fd v 1 fo n v = (ddF E v 1 fo 6) v) : CM l D k yL_acts cL_acts 9 (some .boolean)  4 95 [.ref lo, .ref o, .int (nI kd), .int (nI av), .int (nI aw)] [(o, .inr (12, [.ref h, .ref pp, .ref x2, .ref x3, .ref x4, .ref o2, .ref o4, .ref o9, .ref o7, .ref o0, .ref o1])), (h, .inr (5, [.ref jj, .ref dd, .int (nI n), .int (nI z)])), (jj, aI k 36 fj), (dd, aI k 6 fd), (o0, .inr (2, [.ref h, .ref o2, .ref t1, .ref t2, .ref t3, .ref t4, .ref t5])), (t1, .inr (10, [.ref u1])), (u1, aI k 6 fo), (lo, .inr (13, [.ref eo, .ref e1, .ref e2, .ref e3, .ref e4, .ref e5, .int (nI n), .int (nI z), .int tk])), (eo, aR k 3 6 (fun i9 => if i9 < 6 then some (er i9) else none)), ((er 0), aI k 6 (EN E 0)), ((er 1), aI k 6 (EN E 1)), ((er 2), aI k 6 (EN E 2)), ((er 3), aI k 6 (EN E 3)), ((er 4), aI k 6 (EN E 4)), ((er 5), aI k 6 (EN E 5)), (e3, aI k 6 fo)] (is1 (some (.int 1)) [(o, .inr (12, [.ref h, .ref pp, .ref x2, .ref x3, .ref x4, .ref o2, .ref o4, .ref o9, .ref o7, .ref o0, .ref o1])), (h, .inr (5, [.ref jj, .ref dd, .int (nI n), .int (nI z)])), (jj, aI k 36 fj), (dd, aI k 6 fd), (o0, .inr (2, [.ref h, .ref o2, .ref t1, .ref t2, .ref t3, .ref t4, .ref t5])), (t1, .inr (10, [.ref u1])), (u1, aI k 6 (dlF fj fd v 1 fo n)), (lo, .inr (13, [.ref eo, .ref e1, .ref e2, .ref e3, .ref e4, .ref e5, .int (nI n), .int (nI z), .int tk])), (eo, aR k 3 6 (fun i9 => if i9 < 6 then some (er i9) else none)), ((er 0), aI k 6 (EN E 0)), ((er 1), aI k 6 (EN E 1)), ((er 2), aI k 6 (EN E 2)), ((er 3), aI k 6 (EN E 3)), ((er 4), aI k 6 (EN E 4)), ((er 5), aI k 6 (EN E 5)), (e3, aI k 6 (ddF E v 1 fo 6))]) 0 0 0 := by
  refine CM.of (lv0 := [(0, .ref lo), (1, .ref o), (2, .int (nI kd)), (3, .int (nI av)), (4, .int (nI aw))]) (by decide +kernel) (Nat.le_of_ble_eq_true rfl) rfl ?_
  intro p9 e9 s9 m9 bl9 me9 co9 C hr hlk hin had
  refine g_iload_n (pc := 0) C 3 rfl rfl dL_acts_0 ?_
  refine g_aload_n (pc := 1) C 0 rfl rfl dL_acts_1 ?_
  refine g_get (pc := 2) C (T := TXL) inXL 7 rfl rfl 6 (by decide) q_564 rfl rfl dL_acts_2 ?_
  refine g_irem (pc := 5) C (nI_ne0 (by omega) (by omega)) dL_acts_5 ?_
  refine G.eqs (st' := [.int (nI v)]) (congrArg (β := List Value) (fun z9 => [.int z9]) (show (((nI av) - (nI av) / (nI n) * (nI n)) : Int32) = (nI v) from (by rw [← hav]; exact pk_rem (by omega) (by omega) (by omega)))) ?_
  refine g_istore (pc := 6) C [(5, .int (nI v)), (0, .ref lo), (1, .ref o), (2, .int (nI kd)), (3, .int (nI av)), (4, .int (nI aw))] dL_acts_6 (by decide) rfl ?_
  refine g_iload (pc := 8) C 5 rfl dL_acts_8 ?_
  refine g_aload_n (pc := 10) C 1 rfl rfl dL_acts_10 ?_
  refine g_get (pc := 11) C (T := TXL) inXL 7 rfl rfl 6 (by decide) q_564 rfl rfl dL_acts_11 ?_
  refine g_irem (pc := 14) C (nI_ne0 (by omega) (by omega)) dL_acts_14 ?_
  refine G.eqs (st' := [.int (nI u)]) (congrArg (β := List Value) (fun z9 => [.int z9]) (show (((nI aw) - (nI aw) / (nI n) * (nI n)) : Int32) = (nI u) from (by rw [← haw]; exact pk_rem (by omega) (by omega) (by omega)))) ?_
  refine g_istore (pc := 15) C [(6, .int (nI u)), (5, .int (nI v)), (0, .ref lo), (1, .ref o), (2, .int (nI kd)), (3, .int (nI av)), (4, .int (nI aw))] dL_acts_15 (by decide) rfl ?_
  refine g_iload_n (pc := 17) C 4 rfl rfl dL_acts_17 ?_
  refine g_if_ne (pc := 18) C 109 (by decide) dL_acts_18 (fun c_18 => ?_) (fun c_18 => ?_)
  · refine g_iload_n (pc := 109) C 4 rfl rfl dL_acts_109 ?_
    refine g_iconst (pc := 110) (v := 3) C (by decide) dL_acts_110 ?_
    refine g_icmp_ge (pc := 111) C 228 (by decide) dL_acts_111 (fun c_111 => ?_) (fun c_111 => ?_)
    · refine g_iload_n (pc := 228) C 4 rfl rfl dL_acts_228 ?_
      refine g_bipush (pc := 229) (v := 8) C (by decide) dL_acts_229 ?_
      refine g_icmp_ge (pc := 231) C 312 (by decide) dL_acts_231 (fun c_231 => ?_) (fun c_231 => ?_)
      · refine g_iload_n (pc := 312) C 4 rfl rfl dL_acts_312 ?_
        refine g_bipush (pc := 313) (v := 8) C (by decide) dL_acts_313 ?_
        refine g_icmp_ne (pc := 315) C 460 (by decide) dL_acts_315 (fun c_315 => ?_) (fun c_315 => ?_)
        · refine g_iload_n (pc := 460) C 4 rfl rfl dL_acts_460 ?_
          refine g_bipush (pc := 461) (v := 12) C (by decide) dL_acts_461 ?_
          refine g_icmp_ge (pc := 463) C 484 (by decide) dL_acts_463 (fun c_463 => ?_) (fun c_463 => ?_)
          · refine g_iload_n (pc := 484) C 4 rfl rfl dL_acts_484 ?_
            refine g_bipush (pc := 485) (v := 12) C (by decide) dL_acts_485 ?_
            refine g_icmp_ne (pc := 487) C 498 (by decide) dL_acts_487 (fun c_487 => ?_) (fun c_487 => ?_)
            · refine g_iload_n (pc := 498) C 4 rfl rfl dL_acts_498 ?_
              refine g_bipush (pc := 499) (v := 15) C (by decide) dL_acts_499 ?_
              refine g_icmp_ge (pc := 501) C 553 (by decide) dL_acts_501 (fun c_501 => ?_) (fun c_501 => ?_)
              · refine g_iload (pc := 553) C 6 rfl dL_acts_553 ?_
                refine g_iconst (pc := 555) (v := 2) C (by decide) dL_acts_555 ?_
                refine g_irem (pc := 556) C (by decide) dL_acts_556 ?_
                refine G.eqs (st' := [.int (nI (aw % 2))]) (congrArg (β := List Value) (fun z9 => [.int z9]) (show (((nI aw) - (nI aw) / 2 * 2) : Int32) = (nI (aw % 2)) from (pk_rem (a := aw) (d := 2) (by omega) (by omega) (by omega)))) ?_
                refine g_if_ne (pc := 557) C 564 (by decide) dL_acts_557 (fun c_557 => ?_) (fun c_557 => ?_)
                · exact absurd (by rw [hq2]; rfl) c_557
                · refine g_iconst (pc := 560) (v := 1) C (by decide) dL_acts_560 ?_
                  refine g_goto (pc := 561) C 565 (by decide) dL_acts_561 ?_
                  refine g_istore (pc := 565) C [(7, .int 1), (6, .int (nI u)), (5, .int (nI v)), (0, .ref lo), (1, .ref o), (2, .int (nI kd)), (3, .int (nI av)), (4, .int (nI aw))] dL_acts_565 (by decide) rfl ?_
                  refine g_aload_n (pc := 567) C 3 rfl rfl dL_acts_567 ?_
                  refine g_get (pc := 568) C (T := TXL) inXL 7 rfl rfl 3 (by decide) q_698 rfl rfl dL_acts_568 ?_
                  refine g_iload (pc := 571) C 2 rfl dL_acts_571 ?_
                  refine g_dup2 (pc := 573) C rfl rfl dL_acts_573 ?_
                  refine g_iald_n (pc := 574) C (j := v) 15 rfl (by omega) (by first | decide | omega) rfl dL_acts_574 ?_
                  refine g_iload (pc := 575) C 0 rfl dL_acts_575 ?_
                  refine g_aload_n (pc := 577) C 3 rfl rfl dL_acts_577 ?_
                  refine g_iload (pc := 578) C 2 rfl dL_acts_578 ?_
                  refine g_callV (pc := 580) (cells := 0) (slots := 0) (g := 0) (As := [.int (nI v)]) (st := [.int 1, .int (fo v), .int (nI v), .ref e3]) (T := TXL) (q0 := 7) C (nA := 1) rfl (c_L_degree_ lo eo e1 e2 e3 e4 e5 er E n z tk v (by omega)) q_569 q_570 q_568 q_551 q_567 (by decide +kernel) rfl rfl dL_acts_580 ⟨Nat.le_of_ble_eq_true rfl, Nat.le_of_ble_eq_true rfl⟩ [7, 8, 9, 10, 11, 12, 13, 14] [0, 1, 2, 3, 4, 5, 6, 15] rfl (wr := [(o, .inr (12, [.ref h, .ref pp, .ref x2, .ref x3, .ref x4, .ref o2, .ref o4, .ref o9, .ref o7, .ref o0, .ref o1])), (h, .inr (5, [.ref jj, .ref dd, .int (nI n), .int (nI z)])), (jj, aI k 36 fj), (dd, aI k 6 fd), (o0, .inr (2, [.ref h, .ref o2, .ref t1, .ref t2, .ref t3, .ref t4, .ref t5])), (t1, .inr (10, [.ref u1])), (u1, aI k 6 fo), (e3, aI k 6 fo)]) rfl (by decide) (by decide) (by decide) (Nat.le_of_ble_eq_true rfl) ⟨Nat.le_of_ble_eq_true rfl, Nat.le_of_ble_eq_true rfl⟩ (fun rv w1 h1 => ?_)
                  obtain ⟨rfl, rfl⟩ := h1
                  refine G.aft [0, 1, 2, 3, 4, 5, 6, 8, 9, 10, 11, 12, 13, 14, 15, 7] (ws' := [(o, .inr (12, [.ref h, .ref pp, .ref x2, .ref x3, .ref x4, .ref o2, .ref o4, .ref o9, .ref o7, .ref o0, .ref o1])), (h, .inr (5, [.ref jj, .ref dd, .int (nI n), .int (nI z)])), (jj, aI k 36 fj), (dd, aI k 6 fd), (o0, .inr (2, [.ref h, .ref o2, .ref t1, .ref t2, .ref t3, .ref t4, .ref t5])), (t1, .inr (10, [.ref u1])), (u1, aI k 6 fo), (lo, .inr (13, [.ref eo, .ref e1, .ref e2, .ref e3, .ref e4, .ref e5, .int (nI n), .int (nI z), .int tk])), (eo, aR k 3 6 (fun i9 => if i9 < 6 then some (er i9) else none)), ((er 0), aI k 6 (EN E 0)), ((er 1), aI k 6 (EN E 1)), ((er 2), aI k 6 (EN E 2)), ((er 3), aI k 6 (EN E 3)), ((er 4), aI k 6 (EN E 4)), ((er 5), aI k 6 (EN E 5)), (e3, aI k 6 fo)]) (st' := [.int (nI (dg E v)), .int 1, .int (fo v), .int (nI v), .ref e3]) (cells' := 0) (slots' := 0) (g' := 0) (by decide) rfl rfl rfl rfl rfl ?_
                  refine g_imul (pc := 583) C dL_acts_583 ?_
                  refine g_isub (pc := 584) C dL_acts_584 ?_
                  refine g_iast_n (pc := 585) C (j := v) 15 [(o, .inr (12, [.ref h, .ref pp, .ref x2, .ref x3, .ref x4, .ref o2, .ref o4, .ref o9, .ref o7, .ref o0, .ref o1])), (h, .inr (5, [.ref jj, .ref dd, .int (nI n), .int (nI z)])), (jj, aI k 36 fj), (dd, aI k 6 fd), (o0, .inr (2, [.ref h, .ref o2, .ref t1, .ref t2, .ref t3, .ref t4, .ref t5])), (t1, .inr (10, [.ref u1])), (u1, aI k 6 fo), (lo, .inr (13, [.ref eo, .ref e1, .ref e2, .ref e3, .ref e4, .ref e5, .int (nI n), .int (nI z), .int tk])), (eo, aR k 3 6 (fun i9 => if i9 < 6 then some (er i9) else none)), ((er 0), aI k 6 (EN E 0)), ((er 1), aI k 6 (EN E 1)), ((er 2), aI k 6 (EN E 2)), ((er 3), aI k 6 (EN E 3)), ((er 4), aI k 6 (EN E 4)), ((er 5), aI k 6 (EN E 5)), (e3, aI k 6 (upd fo v ((fo v) - (1 * (nI (dg E v))))))] rfl (by omega) (by first | decide | omega) rfl rfl dL_acts_585 ?_
                  refine g_iconst (pc := 586) (v := 0) C (by decide) dL_acts_586 ?_
                  refine g_istore (pc := 587) C [(8, .int 0), (7, .int 1), (6, .int (nI u)), (5, .int (nI v)), (0, .ref lo), (1, .ref o), (2, .int (nI kd)), (3, .int (nI av)), (4, .int (nI aw))] dL_acts_587 (by decide) rfl ?_
                  have key_589 : ∀ (fuel : Nat) (w8 : Nat), w8 ≤ 6 → 6 - w8 < fuel → G p9 l e9 { frames := 4, cells := 0, slots := 0, locals := 95 } s9 m9 ([.ref lo, .ref o, .int (nI kd), .int (nI av), .int (nI aw)] : List Value).toArray bl9 me9 co9 D 9 (va_A [(o, .inr (12, [.ref h, .ref pp, .ref x2, .ref x3, .ref x4, .ref o2, .ref o4, .ref o9, .ref o7, .ref o0, .ref o1])), (h, .inr (5, [.ref jj, .ref dd, .int (nI n), .int (nI z)])), (jj, aI k 36 fj), (dd, aI k 6 fd), (o0, .inr (2, [.ref h, .ref o2, .ref t1, .ref t2, .ref t3, .ref t4, .ref t5])), (t1, .inr (10, [.ref u1])), (u1, aI k 6 fo), (lo, .inr (13, [.ref eo, .ref e1, .ref e2, .ref e3, .ref e4, .ref e5, .int (nI n), .int (nI z), .int tk])), (eo, aR k 3 6 (fun i9 => if i9 < 6 then some (er i9) else none)), ((er 0), aI k 6 (EN E 0)), ((er 1), aI k 6 (EN E 1)), ((er 2), aI k 6 (EN E 2)), ((er 3), aI k 6 (EN E 3)), ((er 4), aI k 6 (EN E 4)), ((er 5), aI k 6 (EN E 5)), (e3, aI k 6 fo)] s9.heap.size) (QM bl9 D ([.ref lo, .ref o, .int (nI kd), .int (nI av), .int (nI aw)] : List Value).toArray s9 [(o, .inr (12, [.ref h, .ref pp, .ref x2, .ref x3, .ref x4, .ref o2, .ref o4, .ref o9, .ref o7, .ref o0, .ref o1])), (h, .inr (5, [.ref jj, .ref dd, .int (nI n), .int (nI z)])), (jj, aI k 36 fj), (dd, aI k 6 fd), (o0, .inr (2, [.ref h, .ref o2, .ref t1, .ref t2, .ref t3, .ref t4, .ref t5])), (t1, .inr (10, [.ref u1])), (u1, aI k 6 fo), (lo, .inr (13, [.ref eo, .ref e1, .ref e2, .ref e3, .ref e4, .ref e5, .int (nI n), .int (nI z), .int tk])), (eo, aR k 3 6 (fun i9 => if i9 < 6 then some (er i9) else none)), ((er 0), aI k 6 (EN E 0)), ((er 1), aI k 6 (EN E 1)), ((er 2), aI k 6 (EN E 2)), ((er 3), aI k 6 (EN E 3)), ((er 4), aI k 6 (EN E 4)), ((er 5), aI k 6 (EN E 5)), (e3, aI k 6 fo)] (is1 (some (.int 1)) [(o, .inr (12, [.ref h, .ref pp, .ref x2, .ref x3, .ref x4, .ref o2, .ref o4, .ref o9, .ref o7, .ref o0, .ref o1])), (h, .inr (5, [.ref jj, .ref dd, .int (nI n), .int (nI z)])), (jj, aI k 36 fj), (dd, aI k 6 fd), (o0, .inr (2, [.ref h, .ref o2, .ref t1, .ref t2, .ref t3, .ref t4, .ref t5])), (t1, .inr (10, [.ref u1])), (u1, aI k 6 (dlF fj fd v 1 fo n)), (lo, .inr (13, [.ref eo, .ref e1, .ref e2, .ref e3, .ref e4, .ref e5, .int (nI n), .int (nI z), .int tk])), (eo, aR k 3 6 (fun i9 => if i9 < 6 then some (er i9) else none)), ((er 0), aI k 6 (EN E 0)), ((er 1), aI k 6 (EN E 1)), ((er 2), aI k 6 (EN E 2)), ((er 3), aI k 6 (EN E 3)), ((er 4), aI k 6 (EN E 4)), ((er 5), aI k 6 (EN E 5)), (e3, aI k 6 (ddF E v 1 fo 6))]) 0 0 0) [(o, .inr (12, [.ref h, .ref pp, .ref x2, .ref x3, .ref x4, .ref o2, .ref o4, .ref o9, .ref o7, .ref o0, .ref o1])), (h, .inr (5, [.ref jj, .ref dd, .int (nI n), .int (nI z)])), (jj, aI k 36 fj), (dd, aI k 6 fd), (o0, .inr (2, [.ref h, .ref o2, .ref t1, .ref t2, .ref t3, .ref t4, .ref t5])), (t1, .inr (10, [.ref u1])), (u1, aI k 6 fo), (lo, .inr (13, [.ref eo, .ref e1, .ref e2, .ref e3, .ref e4, .ref e5, .int (nI n), .int (nI z), .int tk])), (eo, aR k 3 6 (fun i9 => if i9 < 6 then some (er i9) else none)), ((er 0), aI k 6 (EN E 0)), ((er 1), aI k 6 (EN E 1)), ((er 2), aI k 6 (EN E 2)), ((er 3), aI k 6 (EN E 3)), ((er 4), aI k 6 (EN E 4)), ((er 5), aI k 6 (EN E 5)), (e3, aI k 6 (ddF E v 1 fo w8))] [(0, .ref lo), (1, .ref o), (4, .int (nI aw)), (5, .int (nI v)), (7, .int 1), (8, .int (nI w8))] 0 0 0 589 [] := by
                    intro fuel
                    induction fuel with
                    | zero => intro w8 hw8 hm; exact absurd hm (Nat.not_lt_zero _)
                    | succ fuel ih =>
                      intro w8 hw8 hm
                      have ih_589 := ih
                      refine g_iload (pc := 589) C 5 rfl dL_acts_589 ?_
                      refine g_bipush (pc := 591) (v := 6) C (by decide) dL_acts_591 ?_
                      refine g_icmp_ge (pc := 593) C 625 (by decide) dL_acts_593 (fun c_593 => ?_) (fun c_593 => ?_)
                      · have h3 : w8 = 6 := by { have := nle_ge (b := 6) (a := w8) (by omega) c_593; omega }
                        refine G.fn (ddF E v 1 fo 6) 15 [(o, .inr (12, [.ref h, .ref pp, .ref x2, .ref x3, .ref x4, .ref o2, .ref o4, .ref o9, .ref o7, .ref o0, .ref o1])), (h, .inr (5, [.ref jj, .ref dd, .int (nI n), .int (nI z)])), (jj, aI k 36 fj), (dd, aI k 6 fd), (o0, .inr (2, [.ref h, .ref o2, .ref t1, .ref t2, .ref t3, .ref t4, .ref t5])), (t1, .inr (10, [.ref u1])), (u1, aI k 6 fo), (lo, .inr (13, [.ref eo, .ref e1, .ref e2, .ref e3, .ref e4, .ref e5, .int (nI n), .int (nI z), .int tk])), (eo, aR k 3 6 (fun i9 => if i9 < 6 then some (er i9) else none)), ((er 0), aI k 6 (EN E 0)), ((er 1), aI k 6 (EN E 1)), ((er 2), aI k 6 (EN E 2)), ((er 3), aI k 6 (EN E 3)), ((er 4), aI k 6 (EN E 4)), ((er 5), aI k 6 (EN E 5)), (e3, aI k 6 (ddF E v 1 fo 6))] rfl (fun j hj => by rw [h3]) rfl ?_
                        refine g_aload_n (pc := 625) C 1 rfl rfl dL_acts_625 ?_
                        refine g_iload (pc := 626) C 3 rfl dL_acts_626 ?_
                        refine g_iload (pc := 628) C 2 rfl dL_acts_628 ?_
                        refine g_iconst (pc := 630) (v := 2) C (by decide) dL_acts_630 ?_
                        refine g_irem (pc := 631) C (by decide) dL_acts_631 ?_
                        refine G.eqs (st' := [.int (nI (aw % 2)), .int (nI v), .ref o]) (congrArg (β := List Value) (fun z9 => [.int z9, .int (nI v), .ref o]) (show (((nI aw) - (nI aw) / 2 * 2) : Int32) = (nI (aw % 2)) from (pk_rem (a := aw) (d := 2) (by omega) (by omega) (by omega)))) ?_
                        refine g_if_ne (pc := 632) C 639 (by decide) dL_acts_632 (fun c_632 => ?_) (fun c_632 => ?_)
                        · exact absurd (by rw [hq2]; rfl) c_632
                        · refine g_iconst (pc := 635) (v := 1) C (by decide) dL_acts_635 ?_
                          refine g_goto (pc := 636) C 640 (by decide) dL_acts_636 ?_
                          refine g_callSW (pc := 640) (cells := 0) (slots := 0) (g := 0) (As := [.ref o, .int (nI v), .int 1]) (st := []) (b := 0) C (nA := 3) rfl (c_L_deal_1 o h pp x2 x3 x4 o2 o4 o9 o7 o0 o1 jj dd n z fj fd t1 t2 t3 t4 t5 u1 fo v (by first | assumption | decide | omega) (by first | assumption | decide | omega) hb) q_801 q_802 q_551 q_800 (by decide +kernel) dL_acts_640 ⟨Nat.le_of_ble_eq_true rfl, Nat.le_of_ble_eq_true rfl⟩ [0, 1, 2, 3, 4, 5, 6] [7, 8, 9, 10, 11, 12, 13, 14, 15] rfl (wr := [(lo, .inr (13, [.ref eo, .ref e1, .ref e2, .ref e3, .ref e4, .ref e5, .int (nI n), .int (nI z), .int tk])), (eo, aR k 3 6 (fun i9 => if i9 < 6 then some (er i9) else none)), ((er 0), aI k 6 (EN E 0)), ((er 1), aI k 6 (EN E 1)), ((er 2), aI k 6 (EN E 2)), ((er 3), aI k 6 (EN E 3)), ((er 4), aI k 6 (EN E 4)), ((er 5), aI k 6 (EN E 5)), (e3, aI k 6 (ddF E v 1 fo 6))]) rfl (by decide) (by decide) (by decide) (Nat.le_of_ble_eq_true rfl) ⟨Nat.le_of_ble_eq_true rfl, Nat.le_of_ble_eq_true rfl⟩ (fun rv w1 h1 => ?_)
                          obtain ⟨rfl, rfl⟩ := h1
                          refine G.aft [9, 10, 11, 12, 13, 14, 15, 0, 1, 2, 3, 4, 5, 6, 7, 8] (ws' := [(o, .inr (12, [.ref h, .ref pp, .ref x2, .ref x3, .ref x4, .ref o2, .ref o4, .ref o9, .ref o7, .ref o0, .ref o1])), (h, .inr (5, [.ref jj, .ref dd, .int (nI n), .int (nI z)])), (jj, aI k 36 fj), (dd, aI k 6 fd), (o0, .inr (2, [.ref h, .ref o2, .ref t1, .ref t2, .ref t3, .ref t4, .ref t5])), (t1, .inr (10, [.ref u1])), (u1, aI k 6 (dlF fj fd v 1 fo n)), (lo, .inr (13, [.ref eo, .ref e1, .ref e2, .ref e3, .ref e4, .ref e5, .int (nI n), .int (nI z), .int tk])), (eo, aR k 3 6 (fun i9 => if i9 < 6 then some (er i9) else none)), ((er 0), aI k 6 (EN E 0)), ((er 1), aI k 6 (EN E 1)), ((er 2), aI k 6 (EN E 2)), ((er 3), aI k 6 (EN E 3)), ((er 4), aI k 6 (EN E 4)), ((er 5), aI k 6 (EN E 5)), (e3, aI k 6 (ddF E v 1 fo 6))]) (st' := [.int (dlF fj fd v 1 fo n v)]) (cells' := 0) (slots' := 0) (g' := 0) (by decide) rfl rfl rfl rfl rfl ?_
                          refine g_aload_n (pc := 643) C 0 rfl rfl dL_acts_643 ?_
                          refine g_get (pc := 644) C (T := TXL) inXL 7 rfl rfl 3 (by decide) q_698 rfl rfl dL_acts_644 ?_
                          refine g_iload (pc := 647) C 3 rfl dL_acts_647 ?_
                          refine g_iald_n (pc := 649) C (j := v) 15 rfl (by omega) (by first | decide | omega) rfl dL_acts_649 ?_
                          refine g_icmp_ne (pc := 650) C 657 (by decide) dL_acts_650 (fun c_650 => ?_) (fun c_650 => ?_)
                          · exact absurd hde c_650
                          · refine g_iconst (pc := 653) (v := 1) C (by decide) dL_acts_653 ?_
                            refine g_goto (pc := 654) C 658 (by decide) dL_acts_654 ?_
                            exact g_zret (pc := 658) C hr (by first | rfl | exact bI_nar _) hlk (by first | decide | omega) (by first | decide | omega) (by first | decide | omega) dL_acts_658 ⟨rfl, rfl⟩
                      · have hl593 : w8 < 6 := nle_lt (by omega) c_593
                        refine g_aload_n (pc := 596) C 0 rfl rfl dL_acts_596 ?_
                        refine g_get (pc := 597) C (T := TXL) inXL 7 rfl rfl 3 (by decide) q_698 rfl rfl dL_acts_597 ?_
                        refine g_iload (pc := 600) C 5 rfl dL_acts_600 ?_
                        refine g_dup2 (pc := 602) C rfl rfl dL_acts_602 ?_
                        refine g_iald_n (pc := 603) C (j := w8) 15 rfl (by omega) (by first | decide | omega) rfl dL_acts_603 ?_
                        refine g_iload (pc := 604) C 4 rfl dL_acts_604 ?_
                        refine g_aload_n (pc := 606) C 0 rfl rfl dL_acts_606 ?_
                        refine g_get (pc := 607) C (T := TXL) inXL 7 rfl rfl 0 (by decide) q_561 rfl rfl dL_acts_607 ?_
                        refine g_iload (pc := 610) C 3 rfl dL_acts_610 ?_
                        refine g_aald (pc := 612) C (j := v) (b := er v) 8 rfl (by omega) (by decide) rfl (if_pos (by omega)) dL_acts_612 ?_
                        refine g_iload (pc := 613) C 5 rfl dL_acts_613 ?_
                        refine g_iald_n (pc := 615) (a := (er v)) (n := 6) (f := (EN E v)) C (j := w8) (9 + v) (by rcases (show v = 0 ∨ v = 1 ∨ v = 2 ∨ v = 3 ∨ v = 4 ∨ v = 5 by omega) with h9 | h9 | h9 | h9 | h9 | h9 <;> rw [h9] <;> rfl) (by omega) (by first | decide | omega) rfl dL_acts_615 ?_
                        refine g_imul (pc := 616) C dL_acts_616 ?_
                        refine g_iadd (pc := 617) C dL_acts_617 ?_
                        refine g_iast_n (pc := 618) C (j := w8) 15 [(o, .inr (12, [.ref h, .ref pp, .ref x2, .ref x3, .ref x4, .ref o2, .ref o4, .ref o9, .ref o7, .ref o0, .ref o1])), (h, .inr (5, [.ref jj, .ref dd, .int (nI n), .int (nI z)])), (jj, aI k 36 fj), (dd, aI k 6 fd), (o0, .inr (2, [.ref h, .ref o2, .ref t1, .ref t2, .ref t3, .ref t4, .ref t5])), (t1, .inr (10, [.ref u1])), (u1, aI k 6 fo), (lo, .inr (13, [.ref eo, .ref e1, .ref e2, .ref e3, .ref e4, .ref e5, .int (nI n), .int (nI z), .int tk])), (eo, aR k 3 6 (fun i9 => if i9 < 6 then some (er i9) else none)), ((er 0), aI k 6 (EN E 0)), ((er 1), aI k 6 (EN E 1)), ((er 2), aI k 6 (EN E 2)), ((er 3), aI k 6 (EN E 3)), ((er 4), aI k 6 (EN E 4)), ((er 5), aI k 6 (EN E 5)), (e3, aI k 6 (upd (ddF E v 1 fo w8) w8 (((ddF E v 1 fo w8) w8) + (1 * ((EN E v) w8)))))] rfl (by omega) (by first | decide | omega) rfl rfl dL_acts_618 ?_
                        refine g_iinc (pc := 619) (n := 1) (v := (nI (w8 + 1))) C 5 [(8, .int (nI (w8 + 1))), (0, .ref lo), (1, .ref o), (4, .int (nI aw)), (5, .int (nI v)), (7, .int 1)] rfl (nI_1 w8) dL_acts_619 (by decide) rfl ?_
                        refine g_goto (pc := 622) C 589 (by decide) dL_acts_622 ?_
                        refine G.loc [1, 2, 3, 4, 5, 0] (lv' := [(0, .ref lo), (1, .ref o), (4, .int (nI aw)), (5, .int (nI v)), (7, .int 1), (8, .int (nI (w8 + 1)))]) rfl ?_
                        refine G.fn (ddF E v 1 fo (w8 + 1)) 15 [(o, .inr (12, [.ref h, .ref pp, .ref x2, .ref x3, .ref x4, .ref o2, .ref o4, .ref o9, .ref o7, .ref o0, .ref o1])), (h, .inr (5, [.ref jj, .ref dd, .int (nI n), .int (nI z)])), (jj, aI k 36 fj), (dd, aI k 6 fd), (o0, .inr (2, [.ref h, .ref o2, .ref t1, .ref t2, .ref t3, .ref t4, .ref t5])), (t1, .inr (10, [.ref u1])), (u1, aI k 6 fo), (lo, .inr (13, [.ref eo, .ref e1, .ref e2, .ref e3, .ref e4, .ref e5, .int (nI n), .int (nI z), .int tk])), (eo, aR k 3 6 (fun i9 => if i9 < 6 then some (er i9) else none)), ((er 0), aI k 6 (EN E 0)), ((er 1), aI k 6 (EN E 1)), ((er 2), aI k 6 (EN E 2)), ((er 3), aI k 6 (EN E 3)), ((er 4), aI k 6 (EN E 4)), ((er 5), aI k 6 (EN E 5)), (e3, aI k 6 (ddF E v 1 fo (w8 + 1)))] rfl (fun j hj => by rfl) rfl ?_
                        exact ih_589 (w8 + 1) (by omega) (by omega)
                  refine G.loc [4, 5, 8, 3, 1, 0] (lv' := [(0, .ref lo), (1, .ref o), (4, .int (nI aw)), (5, .int (nI v)), (7, .int 1), (8, .int 0)]) rfl ?_
                  refine G.fn (ddF E v 1 fo 0) 15 [(o, .inr (12, [.ref h, .ref pp, .ref x2, .ref x3, .ref x4, .ref o2, .ref o4, .ref o9, .ref o7, .ref o0, .ref o1])), (h, .inr (5, [.ref jj, .ref dd, .int (nI n), .int (nI z)])), (jj, aI k 36 fj), (dd, aI k 6 fd), (o0, .inr (2, [.ref h, .ref o2, .ref t1, .ref t2, .ref t3, .ref t4, .ref t5])), (t1, .inr (10, [.ref u1])), (u1, aI k 6 fo), (lo, .inr (13, [.ref eo, .ref e1, .ref e2, .ref e3, .ref e4, .ref e5, .int (nI n), .int (nI z), .int tk])), (eo, aR k 3 6 (fun i9 => if i9 < 6 then some (er i9) else none)), ((er 0), aI k 6 (EN E 0)), ((er 1), aI k 6 (EN E 1)), ((er 2), aI k 6 (EN E 2)), ((er 3), aI k 6 (EN E 3)), ((er 4), aI k 6 (EN E 4)), ((er 5), aI k 6 (EN E 5)), (e3, aI k 6 (ddF E v 1 fo 0))] rfl (fun j hj => by rfl) rfl ?_
                  refine G.eql (lv' := [(0, .ref lo), (1, .ref o), (4, .int (nI aw)), (5, .int (nI v)), (7, .int 1), (8, .int (nI 0))]) (congrArg (β := List (Nat × Value)) (fun z9 => [(0, .ref lo), (1, .ref o), (4, .int (nI aw)), (5, .int (nI v)), (7, .int 1), (8, .int z9)]) (show (0 : Int32) = (nI 0) from by first | rfl | exact nI_0.symm)) ?_
                  exact key_589 (6 - 0 + 1) 0 (by omega) (Nat.lt_succ_self _)
              · exact absurd (show nI 15 ≤ nI kd from nI_le (by omega) (by omega)) c_501
            · exact absurd ((nI_eq (a := kd) (b := 12) (by omega) (by omega)).mp c_487) (by omega)
          · exact absurd (show nI 12 ≤ nI kd from nI_le (by omega) (by omega)) c_463
        · exact absurd ((nI_eq (a := kd) (b := 8) (by omega) (by omega)).mp c_315) (by omega)
      · exact absurd (show nI 8 ≤ nI kd from nI_le (by omega) (by omega)) c_231
    · exact absurd (show nI 3 ≤ nI kd from nI_le (by omega) (by omega)) c_111
  · exact absurd c_18 (nI_ne0 (by omega) (by omega))
set_option maxRecDepth 100000 in
set_option maxHeartbeats 400000 in
theorem c_L_acts_k15a {l : Launch} {D : va_G} {k : Nat → ClassId} (o : Nat) (h : Nat) (pp : Nat) (x2 : Nat) (x3 : Nat) (x4 : Nat) (o2 : Nat) (o4 : Nat) (o9 : Nat) (o7 : Nat) (o0 : Nat) (o1 : Nat) (jj : Nat) (dd : Nat) (n : Nat) (z : Nat) (fj : Nat → Int32) (fd : Nat → Int32) (t1 : Nat) (t2 : Nat) (t3 : Nat) (t4 : Nat) (t5 : Nat) (u1 : Nat) (fo : Nat → Int32) (lo : Nat) (eo : Nat) (e1 : Nat) (e2 : Nat) (e3 : Nat) (e4 : Nat) (e5 : Nat) (tk : Int32) (er : Nat → Nat) (E : Nat → Nat → Nat) (kd : Nat) (av : Nat) (aw : Nat) (v : Nat) (u : Nat) (hn : n ≤ 6) (hz : z < n) (hE3 : ∀ i j, E i j ≤ 3) (hav : av % n = v) (haw : aw % n = u) (hv : v < n) (hu : u < n) (hb1 : av ≤ 9000) (hb2 : aw ≤ 9000) (hk1 : 15 ≤ kd) (hk2 : kd ≤ 16) (hq2 : ¬ aw % 2 = 0) (hb : ∀ u, u < n → ¬ 9999 < adI fj fd fo u v (-1) ∧ ¬ adI fj fd fo u v (-1) < -9999) (hde : dlF fj fd v (-1) fo n v = (ddF E v (-1) fo 6) v) : CM l D k yL_acts cL_acts 9 (some .boolean)  4 95 [.ref lo, .ref o, .int (nI kd), .int (nI av), .int (nI aw)] [(o, .inr (12, [.ref h, .ref pp, .ref x2, .ref x3, .ref x4, .ref o2, .ref o4, .ref o9, .ref o7, .ref o0, .ref o1])), (h, .inr (5, [.ref jj, .ref dd, .int (nI n), .int (nI z)])), (jj, aI k 36 fj), (dd, aI k 6 fd), (o0, .inr (2, [.ref h, .ref o2, .ref t1, .ref t2, .ref t3, .ref t4, .ref t5])), (t1, .inr (10, [.ref u1])), (u1, aI k 6 fo), (lo, .inr (13, [.ref eo, .ref e1, .ref e2, .ref e3, .ref e4, .ref e5, .int (nI n), .int (nI z), .int tk])), (eo, aR k 3 6 (fun i9 => if i9 < 6 then some (er i9) else none)), ((er 0), aI k 6 (EN E 0)), ((er 1), aI k 6 (EN E 1)), ((er 2), aI k 6 (EN E 2)), ((er 3), aI k 6 (EN E 3)), ((er 4), aI k 6 (EN E 4)), ((er 5), aI k 6 (EN E 5)), (e3, aI k 6 fo)] (is1 (some (.int 1)) [(o, .inr (12, [.ref h, .ref pp, .ref x2, .ref x3, .ref x4, .ref o2, .ref o4, .ref o9, .ref o7, .ref o0, .ref o1])), (h, .inr (5, [.ref jj, .ref dd, .int (nI n), .int (nI z)])), (jj, aI k 36 fj), (dd, aI k 6 fd), (o0, .inr (2, [.ref h, .ref o2, .ref t1, .ref t2, .ref t3, .ref t4, .ref t5])), (t1, .inr (10, [.ref u1])), (u1, aI k 6 (dlF fj fd v (-1) fo n)), (lo, .inr (13, [.ref eo, .ref e1, .ref e2, .ref e3, .ref e4, .ref e5, .int (nI n), .int (nI z), .int tk])), (eo, aR k 3 6 (fun i9 => if i9 < 6 then some (er i9) else none)), ((er 0), aI k 6 (EN E 0)), ((er 1), aI k 6 (EN E 1)), ((er 2), aI k 6 (EN E 2)), ((er 3), aI k 6 (EN E 3)), ((er 4), aI k 6 (EN E 4)), ((er 5), aI k 6 (EN E 5)), (e3, aI k 6 (ddF E v (-1) fo 6))]) 0 0 0 := by
  refine CM.of (lv0 := [(0, .ref lo), (1, .ref o), (2, .int (nI kd)), (3, .int (nI av)), (4, .int (nI aw))]) (by decide +kernel) (Nat.le_of_ble_eq_true rfl) rfl ?_
  intro p9 e9 s9 m9 bl9 me9 co9 C hr hlk hin had
  refine g_iload_n (pc := 0) C 3 rfl rfl dL_acts_0 ?_
  refine g_aload_n (pc := 1) C 0 rfl rfl dL_acts_1 ?_
  refine g_get (pc := 2) C (T := TXL) inXL 7 rfl rfl 6 (by decide) q_564 rfl rfl dL_acts_2 ?_
  refine g_irem (pc := 5) C (nI_ne0 (by omega) (by omega)) dL_acts_5 ?_
  refine G.eqs (st' := [.int (nI v)]) (congrArg (β := List Value) (fun z9 => [.int z9]) (show (((nI av) - (nI av) / (nI n) * (nI n)) : Int32) = (nI v) from (by rw [← hav]; exact pk_rem (by omega) (by omega) (by omega)))) ?_
  refine g_istore (pc := 6) C [(5, .int (nI v)), (0, .ref lo), (1, .ref o), (2, .int (nI kd)), (3, .int (nI av)), (4, .int (nI aw))] dL_acts_6 (by decide) rfl ?_
  refine g_iload (pc := 8) C 5 rfl dL_acts_8 ?_
  refine g_aload_n (pc := 10) C 1 rfl rfl dL_acts_10 ?_
  refine g_get (pc := 11) C (T := TXL) inXL 7 rfl rfl 6 (by decide) q_564 rfl rfl dL_acts_11 ?_
  refine g_irem (pc := 14) C (nI_ne0 (by omega) (by omega)) dL_acts_14 ?_
  refine G.eqs (st' := [.int (nI u)]) (congrArg (β := List Value) (fun z9 => [.int z9]) (show (((nI aw) - (nI aw) / (nI n) * (nI n)) : Int32) = (nI u) from (by rw [← haw]; exact pk_rem (by omega) (by omega) (by omega)))) ?_
  refine g_istore (pc := 15) C [(6, .int (nI u)), (5, .int (nI v)), (0, .ref lo), (1, .ref o), (2, .int (nI kd)), (3, .int (nI av)), (4, .int (nI aw))] dL_acts_15 (by decide) rfl ?_
  refine g_iload_n (pc := 17) C 4 rfl rfl dL_acts_17 ?_
  refine g_if_ne (pc := 18) C 109 (by decide) dL_acts_18 (fun c_18 => ?_) (fun c_18 => ?_)
  · refine g_iload_n (pc := 109) C 4 rfl rfl dL_acts_109 ?_
    refine g_iconst (pc := 110) (v := 3) C (by decide) dL_acts_110 ?_
    refine g_icmp_ge (pc := 111) C 228 (by decide) dL_acts_111 (fun c_111 => ?_) (fun c_111 => ?_)
    · refine g_iload_n (pc := 228) C 4 rfl rfl dL_acts_228 ?_
      refine g_bipush (pc := 229) (v := 8) C (by decide) dL_acts_229 ?_
      refine g_icmp_ge (pc := 231) C 312 (by decide) dL_acts_231 (fun c_231 => ?_) (fun c_231 => ?_)
      · refine g_iload_n (pc := 312) C 4 rfl rfl dL_acts_312 ?_
        refine g_bipush (pc := 313) (v := 8) C (by decide) dL_acts_313 ?_
        refine g_icmp_ne (pc := 315) C 460 (by decide) dL_acts_315 (fun c_315 => ?_) (fun c_315 => ?_)
        · refine g_iload_n (pc := 460) C 4 rfl rfl dL_acts_460 ?_
          refine g_bipush (pc := 461) (v := 12) C (by decide) dL_acts_461 ?_
          refine g_icmp_ge (pc := 463) C 484 (by decide) dL_acts_463 (fun c_463 => ?_) (fun c_463 => ?_)
          · refine g_iload_n (pc := 484) C 4 rfl rfl dL_acts_484 ?_
            refine g_bipush (pc := 485) (v := 12) C (by decide) dL_acts_485 ?_
            refine g_icmp_ne (pc := 487) C 498 (by decide) dL_acts_487 (fun c_487 => ?_) (fun c_487 => ?_)
            · refine g_iload_n (pc := 498) C 4 rfl rfl dL_acts_498 ?_
              refine g_bipush (pc := 499) (v := 15) C (by decide) dL_acts_499 ?_
              refine g_icmp_ge (pc := 501) C 553 (by decide) dL_acts_501 (fun c_501 => ?_) (fun c_501 => ?_)
              · refine g_iload (pc := 553) C 6 rfl dL_acts_553 ?_
                refine g_iconst (pc := 555) (v := 2) C (by decide) dL_acts_555 ?_
                refine g_irem (pc := 556) C (by decide) dL_acts_556 ?_
                refine G.eqs (st' := [.int (nI (aw % 2))]) (congrArg (β := List Value) (fun z9 => [.int z9]) (show (((nI aw) - (nI aw) / 2 * 2) : Int32) = (nI (aw % 2)) from (pk_rem (a := aw) (d := 2) (by omega) (by omega) (by omega)))) ?_
                refine g_if_ne (pc := 557) C 564 (by decide) dL_acts_557 (fun c_557 => ?_) (fun c_557 => ?_)
                · refine g_iconst (pc := 564) (v := (-1)) C (by decide) dL_acts_564 ?_
                  refine g_istore (pc := 565) C [(7, .int (-1)), (6, .int (nI u)), (5, .int (nI v)), (0, .ref lo), (1, .ref o), (2, .int (nI kd)), (3, .int (nI av)), (4, .int (nI aw))] dL_acts_565 (by decide) rfl ?_
                  refine g_aload_n (pc := 567) C 3 rfl rfl dL_acts_567 ?_
                  refine g_get (pc := 568) C (T := TXL) inXL 7 rfl rfl 3 (by decide) q_698 rfl rfl dL_acts_568 ?_
                  refine g_iload (pc := 571) C 2 rfl dL_acts_571 ?_
                  refine g_dup2 (pc := 573) C rfl rfl dL_acts_573 ?_
                  refine g_iald_n (pc := 574) C (j := v) 15 rfl (by omega) (by first | decide | omega) rfl dL_acts_574 ?_
                  refine g_iload (pc := 575) C 0 rfl dL_acts_575 ?_
                  refine g_aload_n (pc := 577) C 3 rfl rfl dL_acts_577 ?_
                  refine g_iload (pc := 578) C 2 rfl dL_acts_578 ?_
                  refine g_callV (pc := 580) (cells := 0) (slots := 0) (g := 0) (As := [.int (nI v)]) (st := [.int (-1), .int (fo v), .int (nI v), .ref e3]) (T := TXL) (q0 := 7) C (nA := 1) rfl (c_L_degree_ lo eo e1 e2 e3 e4 e5 er E n z tk v (by omega)) q_569 q_570 q_568 q_551 q_567 (by decide +kernel) rfl rfl dL_acts_580 ⟨Nat.le_of_ble_eq_true rfl, Nat.le_of_ble_eq_true rfl⟩ [7, 8, 9, 10, 11, 12, 13, 14] [0, 1, 2, 3, 4, 5, 6, 15] rfl (wr := [(o, .inr (12, [.ref h, .ref pp, .ref x2, .ref x3, .ref x4, .ref o2, .ref o4, .ref o9, .ref o7, .ref o0, .ref o1])), (h, .inr (5, [.ref jj, .ref dd, .int (nI n), .int (nI z)])), (jj, aI k 36 fj), (dd, aI k 6 fd), (o0, .inr (2, [.ref h, .ref o2, .ref t1, .ref t2, .ref t3, .ref t4, .ref t5])), (t1, .inr (10, [.ref u1])), (u1, aI k 6 fo), (e3, aI k 6 fo)]) rfl (by decide) (by decide) (by decide) (Nat.le_of_ble_eq_true rfl) ⟨Nat.le_of_ble_eq_true rfl, Nat.le_of_ble_eq_true rfl⟩ (fun rv w1 h1 => ?_)
                  obtain ⟨rfl, rfl⟩ := h1
                  refine G.aft [0, 1, 2, 3, 4, 5, 6, 8, 9, 10, 11, 12, 13, 14, 15, 7] (ws' := [(o, .inr (12, [.ref h, .ref pp, .ref x2, .ref x3, .ref x4, .ref o2, .ref o4, .ref o9, .ref o7, .ref o0, .ref o1])), (h, .inr (5, [.ref jj, .ref dd, .int (nI n), .int (nI z)])), (jj, aI k 36 fj), (dd, aI k 6 fd), (o0, .inr (2, [.ref h, .ref o2, .ref t1, .ref t2, .ref t3, .ref t4, .ref t5])), (t1, .inr (10, [.ref u1])), (u1, aI k 6 fo), (lo, .inr (13, [.ref eo, .ref e1, .ref e2, .ref e3, .ref e4, .ref e5, .int (nI n), .int (nI z), .int tk])), (eo, aR k 3 6 (fun i9 => if i9 < 6 then some (er i9) else none)), ((er 0), aI k 6 (EN E 0)), ((er 1), aI k 6 (EN E 1)), ((er 2), aI k 6 (EN E 2)), ((er 3), aI k 6 (EN E 3)), ((er 4), aI k 6 (EN E 4)), ((er 5), aI k 6 (EN E 5)), (e3, aI k 6 fo)]) (st' := [.int (nI (dg E v)), .int (-1), .int (fo v), .int (nI v), .ref e3]) (cells' := 0) (slots' := 0) (g' := 0) (by decide) rfl rfl rfl rfl rfl ?_
                  refine g_imul (pc := 583) C dL_acts_583 ?_
                  refine g_isub (pc := 584) C dL_acts_584 ?_
                  refine g_iast_n (pc := 585) C (j := v) 15 [(o, .inr (12, [.ref h, .ref pp, .ref x2, .ref x3, .ref x4, .ref o2, .ref o4, .ref o9, .ref o7, .ref o0, .ref o1])), (h, .inr (5, [.ref jj, .ref dd, .int (nI n), .int (nI z)])), (jj, aI k 36 fj), (dd, aI k 6 fd), (o0, .inr (2, [.ref h, .ref o2, .ref t1, .ref t2, .ref t3, .ref t4, .ref t5])), (t1, .inr (10, [.ref u1])), (u1, aI k 6 fo), (lo, .inr (13, [.ref eo, .ref e1, .ref e2, .ref e3, .ref e4, .ref e5, .int (nI n), .int (nI z), .int tk])), (eo, aR k 3 6 (fun i9 => if i9 < 6 then some (er i9) else none)), ((er 0), aI k 6 (EN E 0)), ((er 1), aI k 6 (EN E 1)), ((er 2), aI k 6 (EN E 2)), ((er 3), aI k 6 (EN E 3)), ((er 4), aI k 6 (EN E 4)), ((er 5), aI k 6 (EN E 5)), (e3, aI k 6 (upd fo v ((fo v) - ((-1) * (nI (dg E v))))))] rfl (by omega) (by first | decide | omega) rfl rfl dL_acts_585 ?_
                  refine g_iconst (pc := 586) (v := 0) C (by decide) dL_acts_586 ?_
                  refine g_istore (pc := 587) C [(8, .int 0), (7, .int (-1)), (6, .int (nI u)), (5, .int (nI v)), (0, .ref lo), (1, .ref o), (2, .int (nI kd)), (3, .int (nI av)), (4, .int (nI aw))] dL_acts_587 (by decide) rfl ?_
                  have key_589 : ∀ (fuel : Nat) (w8 : Nat), w8 ≤ 6 → 6 - w8 < fuel → G p9 l e9 { frames := 4, cells := 0, slots := 0, locals := 95 } s9 m9 ([.ref lo, .ref o, .int (nI kd), .int (nI av), .int (nI aw)] : List Value).toArray bl9 me9 co9 D 9 (va_A [(o, .inr (12, [.ref h, .ref pp, .ref x2, .ref x3, .ref x4, .ref o2, .ref o4, .ref o9, .ref o7, .ref o0, .ref o1])), (h, .inr (5, [.ref jj, .ref dd, .int (nI n), .int (nI z)])), (jj, aI k 36 fj), (dd, aI k 6 fd), (o0, .inr (2, [.ref h, .ref o2, .ref t1, .ref t2, .ref t3, .ref t4, .ref t5])), (t1, .inr (10, [.ref u1])), (u1, aI k 6 fo), (lo, .inr (13, [.ref eo, .ref e1, .ref e2, .ref e3, .ref e4, .ref e5, .int (nI n), .int (nI z), .int tk])), (eo, aR k 3 6 (fun i9 => if i9 < 6 then some (er i9) else none)), ((er 0), aI k 6 (EN E 0)), ((er 1), aI k 6 (EN E 1)), ((er 2), aI k 6 (EN E 2)), ((er 3), aI k 6 (EN E 3)), ((er 4), aI k 6 (EN E 4)), ((er 5), aI k 6 (EN E 5)), (e3, aI k 6 fo)] s9.heap.size) (QM bl9 D ([.ref lo, .ref o, .int (nI kd), .int (nI av), .int (nI aw)] : List Value).toArray s9 [(o, .inr (12, [.ref h, .ref pp, .ref x2, .ref x3, .ref x4, .ref o2, .ref o4, .ref o9, .ref o7, .ref o0, .ref o1])), (h, .inr (5, [.ref jj, .ref dd, .int (nI n), .int (nI z)])), (jj, aI k 36 fj), (dd, aI k 6 fd), (o0, .inr (2, [.ref h, .ref o2, .ref t1, .ref t2, .ref t3, .ref t4, .ref t5])), (t1, .inr (10, [.ref u1])), (u1, aI k 6 fo), (lo, .inr (13, [.ref eo, .ref e1, .ref e2, .ref e3, .ref e4, .ref e5, .int (nI n), .int (nI z), .int tk])), (eo, aR k 3 6 (fun i9 => if i9 < 6 then some (er i9) else none)), ((er 0), aI k 6 (EN E 0)), ((er 1), aI k 6 (EN E 1)), ((er 2), aI k 6 (EN E 2)), ((er 3), aI k 6 (EN E 3)), ((er 4), aI k 6 (EN E 4)), ((er 5), aI k 6 (EN E 5)), (e3, aI k 6 fo)] (is1 (some (.int 1)) [(o, .inr (12, [.ref h, .ref pp, .ref x2, .ref x3, .ref x4, .ref o2, .ref o4, .ref o9, .ref o7, .ref o0, .ref o1])), (h, .inr (5, [.ref jj, .ref dd, .int (nI n), .int (nI z)])), (jj, aI k 36 fj), (dd, aI k 6 fd), (o0, .inr (2, [.ref h, .ref o2, .ref t1, .ref t2, .ref t3, .ref t4, .ref t5])), (t1, .inr (10, [.ref u1])), (u1, aI k 6 (dlF fj fd v (-1) fo n)), (lo, .inr (13, [.ref eo, .ref e1, .ref e2, .ref e3, .ref e4, .ref e5, .int (nI n), .int (nI z), .int tk])), (eo, aR k 3 6 (fun i9 => if i9 < 6 then some (er i9) else none)), ((er 0), aI k 6 (EN E 0)), ((er 1), aI k 6 (EN E 1)), ((er 2), aI k 6 (EN E 2)), ((er 3), aI k 6 (EN E 3)), ((er 4), aI k 6 (EN E 4)), ((er 5), aI k 6 (EN E 5)), (e3, aI k 6 (ddF E v (-1) fo 6))]) 0 0 0) [(o, .inr (12, [.ref h, .ref pp, .ref x2, .ref x3, .ref x4, .ref o2, .ref o4, .ref o9, .ref o7, .ref o0, .ref o1])), (h, .inr (5, [.ref jj, .ref dd, .int (nI n), .int (nI z)])), (jj, aI k 36 fj), (dd, aI k 6 fd), (o0, .inr (2, [.ref h, .ref o2, .ref t1, .ref t2, .ref t3, .ref t4, .ref t5])), (t1, .inr (10, [.ref u1])), (u1, aI k 6 fo), (lo, .inr (13, [.ref eo, .ref e1, .ref e2, .ref e3, .ref e4, .ref e5, .int (nI n), .int (nI z), .int tk])), (eo, aR k 3 6 (fun i9 => if i9 < 6 then some (er i9) else none)), ((er 0), aI k 6 (EN E 0)), ((er 1), aI k 6 (EN E 1)), ((er 2), aI k 6 (EN E 2)), ((er 3), aI k 6 (EN E 3)), ((er 4), aI k 6 (EN E 4)), ((er 5), aI k 6 (EN E 5)), (e3, aI k 6 (ddF E v (-1) fo w8))] [(0, .ref lo), (1, .ref o), (4, .int (nI aw)), (5, .int (nI v)), (7, .int (-1)), (8, .int (nI w8))] 0 0 0 589 [] := by
                    intro fuel
                    induction fuel with
                    | zero => intro w8 hw8 hm; exact absurd hm (Nat.not_lt_zero _)
                    | succ fuel ih =>
                      intro w8 hw8 hm
                      have ih_589 := ih
                      refine g_iload (pc := 589) C 5 rfl dL_acts_589 ?_
                      refine g_bipush (pc := 591) (v := 6) C (by decide) dL_acts_591 ?_
                      refine g_icmp_ge (pc := 593) C 625 (by decide) dL_acts_593 (fun c_593 => ?_) (fun c_593 => ?_)
                      · have h3 : w8 = 6 := by { have := nle_ge (b := 6) (a := w8) (by omega) c_593; omega }
                        refine G.fn (ddF E v (-1) fo 6) 15 [(o, .inr (12, [.ref h, .ref pp, .ref x2, .ref x3, .ref x4, .ref o2, .ref o4, .ref o9, .ref o7, .ref o0, .ref o1])), (h, .inr (5, [.ref jj, .ref dd, .int (nI n), .int (nI z)])), (jj, aI k 36 fj), (dd, aI k 6 fd), (o0, .inr (2, [.ref h, .ref o2, .ref t1, .ref t2, .ref t3, .ref t4, .ref t5])), (t1, .inr (10, [.ref u1])), (u1, aI k 6 fo), (lo, .inr (13, [.ref eo, .ref e1, .ref e2, .ref e3, .ref e4, .ref e5, .int (nI n), .int (nI z), .int tk])), (eo, aR k 3 6 (fun i9 => if i9 < 6 then some (er i9) else none)), ((er 0), aI k 6 (EN E 0)), ((er 1), aI k 6 (EN E 1)), ((er 2), aI k 6 (EN E 2)), ((er 3), aI k 6 (EN E 3)), ((er 4), aI k 6 (EN E 4)), ((er 5), aI k 6 (EN E 5)), (e3, aI k 6 (ddF E v (-1) fo 6))] rfl (fun j hj => by rw [h3]) rfl ?_
                        refine g_aload_n (pc := 625) C 1 rfl rfl dL_acts_625 ?_
                        refine g_iload (pc := 626) C 3 rfl dL_acts_626 ?_
                        refine g_iload (pc := 628) C 2 rfl dL_acts_628 ?_
                        refine g_iconst (pc := 630) (v := 2) C (by decide) dL_acts_630 ?_
                        refine g_irem (pc := 631) C (by decide) dL_acts_631 ?_
                        refine G.eqs (st' := [.int (nI (aw % 2)), .int (nI v), .ref o]) (congrArg (β := List Value) (fun z9 => [.int z9, .int (nI v), .ref o]) (show (((nI aw) - (nI aw) / 2 * 2) : Int32) = (nI (aw % 2)) from (pk_rem (a := aw) (d := 2) (by omega) (by omega) (by omega)))) ?_
                        refine g_if_ne (pc := 632) C 639 (by decide) dL_acts_632 (fun c_632 => ?_) (fun c_632 => ?_)
                        · refine g_iconst (pc := 639) (v := 0) C (by decide) dL_acts_639 ?_
                          refine g_callSW (pc := 640) (cells := 0) (slots := 0) (g := 0) (As := [.ref o, .int (nI v), .int 0]) (st := []) (b := 0) C (nA := 3) rfl (c_L_deal_0 o h pp x2 x3 x4 o2 o4 o9 o7 o0 o1 jj dd n z fj fd t1 t2 t3 t4 t5 u1 fo v (by first | assumption | decide | omega) (by first | assumption | decide | omega) hb) q_801 q_802 q_551 q_800 (by decide +kernel) dL_acts_640 ⟨Nat.le_of_ble_eq_true rfl, Nat.le_of_ble_eq_true rfl⟩ [0, 1, 2, 3, 4, 5, 6] [7, 8, 9, 10, 11, 12, 13, 14, 15] rfl (wr := [(lo, .inr (13, [.ref eo, .ref e1, .ref e2, .ref e3, .ref e4, .ref e5, .int (nI n), .int (nI z), .int tk])), (eo, aR k 3 6 (fun i9 => if i9 < 6 then some (er i9) else none)), ((er 0), aI k 6 (EN E 0)), ((er 1), aI k 6 (EN E 1)), ((er 2), aI k 6 (EN E 2)), ((er 3), aI k 6 (EN E 3)), ((er 4), aI k 6 (EN E 4)), ((er 5), aI k 6 (EN E 5)), (e3, aI k 6 (ddF E v (-1) fo 6))]) rfl (by decide) (by decide) (by decide) (Nat.le_of_ble_eq_true rfl) ⟨Nat.le_of_ble_eq_true rfl, Nat.le_of_ble_eq_true rfl⟩ (fun rv w1 h1 => ?_)
                          obtain ⟨rfl, rfl⟩ := h1
                          refine G.aft [9, 10, 11, 12, 13, 14, 15, 0, 1, 2, 3, 4, 5, 6, 7, 8] (ws' := [(o, .inr (12, [.ref h, .ref pp, .ref x2, .ref x3, .ref x4, .ref o2, .ref o4, .ref o9, .ref o7, .ref o0, .ref o1])), (h, .inr (5, [.ref jj, .ref dd, .int (nI n), .int (nI z)])), (jj, aI k 36 fj), (dd, aI k 6 fd), (o0, .inr (2, [.ref h, .ref o2, .ref t1, .ref t2, .ref t3, .ref t4, .ref t5])), (t1, .inr (10, [.ref u1])), (u1, aI k 6 (dlF fj fd v (-1) fo n)), (lo, .inr (13, [.ref eo, .ref e1, .ref e2, .ref e3, .ref e4, .ref e5, .int (nI n), .int (nI z), .int tk])), (eo, aR k 3 6 (fun i9 => if i9 < 6 then some (er i9) else none)), ((er 0), aI k 6 (EN E 0)), ((er 1), aI k 6 (EN E 1)), ((er 2), aI k 6 (EN E 2)), ((er 3), aI k 6 (EN E 3)), ((er 4), aI k 6 (EN E 4)), ((er 5), aI k 6 (EN E 5)), (e3, aI k 6 (ddF E v (-1) fo 6))]) (st' := [.int (dlF fj fd v (-1) fo n v)]) (cells' := 0) (slots' := 0) (g' := 0) (by decide) rfl rfl rfl rfl rfl ?_
                          refine g_aload_n (pc := 643) C 0 rfl rfl dL_acts_643 ?_
                          refine g_get (pc := 644) C (T := TXL) inXL 7 rfl rfl 3 (by decide) q_698 rfl rfl dL_acts_644 ?_
                          refine g_iload (pc := 647) C 3 rfl dL_acts_647 ?_
                          refine g_iald_n (pc := 649) C (j := v) 15 rfl (by omega) (by first | decide | omega) rfl dL_acts_649 ?_
                          refine g_icmp_ne (pc := 650) C 657 (by decide) dL_acts_650 (fun c_650 => ?_) (fun c_650 => ?_)
                          · exact absurd hde c_650
                          · refine g_iconst (pc := 653) (v := 1) C (by decide) dL_acts_653 ?_
                            refine g_goto (pc := 654) C 658 (by decide) dL_acts_654 ?_
                            exact g_zret (pc := 658) C hr (by first | rfl | exact bI_nar _) hlk (by first | decide | omega) (by first | decide | omega) (by first | decide | omega) dL_acts_658 ⟨rfl, rfl⟩
                        · exact absurd c_632 (nI_ne0 (by omega) (by omega))
                      · have hl593 : w8 < 6 := nle_lt (by omega) c_593
                        refine g_aload_n (pc := 596) C 0 rfl rfl dL_acts_596 ?_
                        refine g_get (pc := 597) C (T := TXL) inXL 7 rfl rfl 3 (by decide) q_698 rfl rfl dL_acts_597 ?_
                        refine g_iload (pc := 600) C 5 rfl dL_acts_600 ?_
                        refine g_dup2 (pc := 602) C rfl rfl dL_acts_602 ?_
                        refine g_iald_n (pc := 603) C (j := w8) 15 rfl (by omega) (by first | decide | omega) rfl dL_acts_603 ?_
                        refine g_iload (pc := 604) C 4 rfl dL_acts_604 ?_
                        refine g_aload_n (pc := 606) C 0 rfl rfl dL_acts_606 ?_
                        refine g_get (pc := 607) C (T := TXL) inXL 7 rfl rfl 0 (by decide) q_561 rfl rfl dL_acts_607 ?_
                        refine g_iload (pc := 610) C 3 rfl dL_acts_610 ?_
                        refine g_aald (pc := 612) C (j := v) (b := er v) 8 rfl (by omega) (by decide) rfl (if_pos (by omega)) dL_acts_612 ?_
                        refine g_iload (pc := 613) C 5 rfl dL_acts_613 ?_
                        refine g_iald_n (pc := 615) (a := (er v)) (n := 6) (f := (EN E v)) C (j := w8) (9 + v) (by rcases (show v = 0 ∨ v = 1 ∨ v = 2 ∨ v = 3 ∨ v = 4 ∨ v = 5 by omega) with h9 | h9 | h9 | h9 | h9 | h9 <;> rw [h9] <;> rfl) (by omega) (by first | decide | omega) rfl dL_acts_615 ?_
                        refine g_imul (pc := 616) C dL_acts_616 ?_
                        refine g_iadd (pc := 617) C dL_acts_617 ?_
                        refine g_iast_n (pc := 618) C (j := w8) 15 [(o, .inr (12, [.ref h, .ref pp, .ref x2, .ref x3, .ref x4, .ref o2, .ref o4, .ref o9, .ref o7, .ref o0, .ref o1])), (h, .inr (5, [.ref jj, .ref dd, .int (nI n), .int (nI z)])), (jj, aI k 36 fj), (dd, aI k 6 fd), (o0, .inr (2, [.ref h, .ref o2, .ref t1, .ref t2, .ref t3, .ref t4, .ref t5])), (t1, .inr (10, [.ref u1])), (u1, aI k 6 fo), (lo, .inr (13, [.ref eo, .ref e1, .ref e2, .ref e3, .ref e4, .ref e5, .int (nI n), .int (nI z), .int tk])), (eo, aR k 3 6 (fun i9 => if i9 < 6 then some (er i9) else none)), ((er 0), aI k 6 (EN E 0)), ((er 1), aI k 6 (EN E 1)), ((er 2), aI k 6 (EN E 2)), ((er 3), aI k 6 (EN E 3)), ((er 4), aI k 6 (EN E 4)), ((er 5), aI k 6 (EN E 5)), (e3, aI k 6 (upd (ddF E v (-1) fo w8) w8 (((ddF E v (-1) fo w8) w8) + ((-1) * ((EN E v) w8)))))] rfl (by omega) (by first | decide | omega) rfl rfl dL_acts_618 ?_
                        refine g_iinc (pc := 619) (n := 1) (v := (nI (w8 + 1))) C 5 [(8, .int (nI (w8 + 1))), (0, .ref lo), (1, .ref o), (4, .int (nI aw)), (5, .int (nI v)), (7, .int (-1))] rfl (nI_1 w8) dL_acts_619 (by decide) rfl ?_
                        refine g_goto (pc := 622) C 589 (by decide) dL_acts_622 ?_
                        refine G.loc [1, 2, 3, 4, 5, 0] (lv' := [(0, .ref lo), (1, .ref o), (4, .int (nI aw)), (5, .int (nI v)), (7, .int (-1)), (8, .int (nI (w8 + 1)))]) rfl ?_
                        refine G.fn (ddF E v (-1) fo (w8 + 1)) 15 [(o, .inr (12, [.ref h, .ref pp, .ref x2, .ref x3, .ref x4, .ref o2, .ref o4, .ref o9, .ref o7, .ref o0, .ref o1])), (h, .inr (5, [.ref jj, .ref dd, .int (nI n), .int (nI z)])), (jj, aI k 36 fj), (dd, aI k 6 fd), (o0, .inr (2, [.ref h, .ref o2, .ref t1, .ref t2, .ref t3, .ref t4, .ref t5])), (t1, .inr (10, [.ref u1])), (u1, aI k 6 fo), (lo, .inr (13, [.ref eo, .ref e1, .ref e2, .ref e3, .ref e4, .ref e5, .int (nI n), .int (nI z), .int tk])), (eo, aR k 3 6 (fun i9 => if i9 < 6 then some (er i9) else none)), ((er 0), aI k 6 (EN E 0)), ((er 1), aI k 6 (EN E 1)), ((er 2), aI k 6 (EN E 2)), ((er 3), aI k 6 (EN E 3)), ((er 4), aI k 6 (EN E 4)), ((er 5), aI k 6 (EN E 5)), (e3, aI k 6 (ddF E v (-1) fo (w8 + 1)))] rfl (fun j hj => by rfl) rfl ?_
                        exact ih_589 (w8 + 1) (by omega) (by omega)
                  refine G.loc [4, 5, 8, 3, 1, 0] (lv' := [(0, .ref lo), (1, .ref o), (4, .int (nI aw)), (5, .int (nI v)), (7, .int (-1)), (8, .int 0)]) rfl ?_
                  refine G.fn (ddF E v (-1) fo 0) 15 [(o, .inr (12, [.ref h, .ref pp, .ref x2, .ref x3, .ref x4, .ref o2, .ref o4, .ref o9, .ref o7, .ref o0, .ref o1])), (h, .inr (5, [.ref jj, .ref dd, .int (nI n), .int (nI z)])), (jj, aI k 36 fj), (dd, aI k 6 fd), (o0, .inr (2, [.ref h, .ref o2, .ref t1, .ref t2, .ref t3, .ref t4, .ref t5])), (t1, .inr (10, [.ref u1])), (u1, aI k 6 fo), (lo, .inr (13, [.ref eo, .ref e1, .ref e2, .ref e3, .ref e4, .ref e5, .int (nI n), .int (nI z), .int tk])), (eo, aR k 3 6 (fun i9 => if i9 < 6 then some (er i9) else none)), ((er 0), aI k 6 (EN E 0)), ((er 1), aI k 6 (EN E 1)), ((er 2), aI k 6 (EN E 2)), ((er 3), aI k 6 (EN E 3)), ((er 4), aI k 6 (EN E 4)), ((er 5), aI k 6 (EN E 5)), (e3, aI k 6 (ddF E v (-1) fo 0))] rfl (fun j hj => by rfl) rfl ?_
                  refine G.eql (lv' := [(0, .ref lo), (1, .ref o), (4, .int (nI aw)), (5, .int (nI v)), (7, .int (-1)), (8, .int (nI 0))]) (congrArg (β := List (Nat × Value)) (fun z9 => [(0, .ref lo), (1, .ref o), (4, .int (nI aw)), (5, .int (nI v)), (7, .int (-1)), (8, .int z9)]) (show (0 : Int32) = (nI 0) from by first | rfl | exact nI_0.symm)) ?_
                  exact key_589 (6 - 0 + 1) 0 (by omega) (Nat.lt_succ_self _)
                · exact absurd c_557 (nI_ne0 (by omega) (by omega))
              · exact absurd (show nI 15 ≤ nI kd from nI_le (by omega) (by omega)) c_501
            · exact absurd ((nI_eq (a := kd) (b := 12) (by omega) (by omega)).mp c_487) (by omega)
          · exact absurd (show nI 12 ≤ nI kd from nI_le (by omega) (by omega)) c_463
        · exact absurd ((nI_eq (a := kd) (b := 8) (by omega) (by omega)).mp c_315) (by omega)
      · exact absurd (show nI 8 ≤ nI kd from nI_le (by omega) (by omega)) c_231
    · exact absurd (show nI 3 ≤ nI kd from nI_le (by omega) (by omega)) c_111
  · exact absurd c_18 (nI_ne0 (by omega) (by omega))
