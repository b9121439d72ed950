def RX0 : String := "Chipfold$Debts"
def TX0 : u_T := fun k => match k with
  | 0 => ("Chipfold$Debts", "graph", "LChipfold$Graph;", true)
  | 1 => ("Chipfold$Debts", "finder", "LChipfold$Finder;", true)
  | 2 => ("Chipfold$Debts", "owned", "LChipfold$Row;", true)
  | 3 => ("Chipfold$Debts", "rest", "LChipfold$Row;", true)
  | 4 => ("Chipfold$Debts", "missing", "LChipfold$Row;", true)
  | 5 => ("Chipfold$Debts", "losses", "LChipfold$Row;", true)
  | _ => ("Chipfold$Debts", "poorer", "LChipfold$Pile;", true)
def tyX0 : Nat → FieldType := fun k => match k with
  | 0 => .object "Chipfold$Graph"
  | 1 => .object "Chipfold$Finder"
  | 2 => .object "Chipfold$Row"
  | 3 => .object "Chipfold$Row"
  | 4 => .object "Chipfold$Row"
  | 5 => .object "Chipfold$Row"
  | _ => .object "Chipfold$Pile"
theorem nmX0 : ∀ a, a < 7 → ∀ b, b < 7 → a ≠ b → (TX0 a).2.1 ≠ (TX0 b).2.1 := by decide +kernel
theorem tyX0_ok : ∀ k, k < 7 → parseFieldDescriptor (TX0 k).2.2.1 = some (tyX0 k) := by decide +kernel
abbrev cX0_init : ByteArray := prog_2_method_1_code
def yX0_init : MethodName := ⟨RX0, "<init>", "(LChipfold$Graph;LChipfold$Finder;)V"⟩
abbrev cX0_clear : ByteArray := prog_2_method_2_code
def yX0_clear : MethodName := ⟨RX0, "clear", "()V"⟩
abbrev cX0_at : ByteArray := prog_2_method_3_code
def yX0_at : MethodName := ⟨RX0, "at", "(I)I"⟩
abbrev cX0_write : ByteArray := prog_2_method_4_code
def yX0_write : MethodName := ⟨RX0, "write", "(II)V"⟩
abbrev cX0_total : ByteArray := prog_2_method_5_code
def yX0_total : MethodName := ⟨RX0, "total", "()I"⟩
abbrev cX0_afterDeal : ByteArray := prog_2_method_6_code
def yX0_afterDeal : MethodName := ⟨RX0, "afterDeal", "(III)I"⟩
abbrev cX0_reducedAt : ByteArray := prog_2_method_7_code
def yX0_reducedAt : MethodName := ⟨RX0, "reducedAt", "(I)I"⟩
abbrev cX0_findMissing : ByteArray := prog_2_method_8_code
def yX0_findMissing : MethodName := ⟨RX0, "findMissing", "(LChipfold$Row;)V"⟩
abbrev cX0_sinkReduced : ByteArray := prog_2_method_9_code
def yX0_sinkReduced : MethodName := ⟨RX0, "sinkReduced", "(ILChipfold$Pile;)I"⟩
abbrev cX0_canRankBoth : ByteArray := prog_2_method_10_code
def yX0_canRankBoth : MethodName := ⟨RX0, "canRankBoth", "()Z"⟩
abbrev cX0_writeRest : ByteArray := prog_2_method_11_code
def yX0_writeRest : MethodName := ⟨RX0, "writeRest", "()V"⟩
abbrev cX0_rankOf : ByteArray := prog_2_method_12_code
def yX0_rankOf : MethodName := ⟨RX0, "rankOf", "(Z)I"⟩
abbrev cX0_rankWithLosses : ByteArray := prog_2_method_13_code
def yX0_rankWithLosses : MethodName := ⟨RX0, "rankWithLosses", "(III)I"⟩
abbrev cX0_nextLosses : ByteArray := prog_2_method_14_code
def yX0_nextLosses : MethodName := ⟨RX0, "nextLosses", "()Z"⟩
def RX1 : String := "Chipfold$Drawing"
def TX1 : u_T := fun k => match k with
  | 0 => ("Chipfold$Drawing", "cells", "LChipfold$Row;", true)
  | _ => ("Chipfold$Drawing", "width", "I", false)
def tyX1 : Nat → FieldType := fun k => match k with
  | 0 => .object "Chipfold$Row"
  | _ => .int
theorem nmX1 : ∀ a, a < 2 → ∀ b, b < 2 → a ≠ b → (TX1 a).2.1 ≠ (TX1 b).2.1 := by decide +kernel
theorem tyX1_ok : ∀ k, k < 2 → parseFieldDescriptor (TX1 k).2.2.1 = some (tyX1 k) := by decide +kernel
abbrev cX1_init : ByteArray := prog_3_method_1_code
def yX1_init : MethodName := ⟨RX1, "<init>", "()V"⟩
abbrev cX1_cellNumber : ByteArray := prog_3_method_2_code
def yX1_cellNumber : MethodName := ⟨RX1, "cellNumber", "()I"⟩
abbrev cX1_at : ByteArray := prog_3_method_3_code
def yX1_at : MethodName := ⟨RX1, "at", "(I)I"⟩
abbrev cX1_draw : ByteArray := prog_3_method_4_code
def yX1_draw : MethodName := ⟨RX1, "draw", "(II)I"⟩
abbrev cX1_toppleCell : ByteArray := prog_3_method_5_code
def yX1_toppleCell : MethodName := ⟨RX1, "toppleCell", "(I)I"⟩
def RX2 : String := "Chipfold$Finder"
def TX2 : u_T := fun k => match k with
  | 0 => ("Chipfold$Finder", "graph", "LChipfold$Graph;", true)
  | 1 => ("Chipfold$Finder", "found", "LChipfold$Pile;", true)
  | 2 => ("Chipfold$Finder", "degreesSettled", "LChipfold$Pile;", true)
  | _ => ("Chipfold$Finder", "zeros", "LChipfold$Row;", true)
def tyX2 : Nat → FieldType := fun k => match k with
  | 0 => .object "Chipfold$Graph"
  | 1 => .object "Chipfold$Pile"
  | 2 => .object "Chipfold$Pile"
  | _ => .object "Chipfold$Row"
theorem nmX2 : ∀ a, a < 4 → ∀ b, b < 4 → a ≠ b → (TX2 a).2.1 ≠ (TX2 b).2.1 := by decide +kernel
theorem tyX2_ok : ∀ k, k < 4 → parseFieldDescriptor (TX2 k).2.2.1 = some (tyX2 k) := by decide +kernel
abbrev cX2_init : ByteArray := prog_4_method_1_code
def yX2_init : MethodName := ⟨RX2, "<init>", "(LChipfold$Graph;)V"⟩
abbrev cX2_at : ByteArray := prog_4_method_2_code
def yX2_at : MethodName := ⟨RX2, "at", "(I)I"⟩
abbrev cX2_pileFound : ByteArray := prog_4_method_3_code
def yX2_pileFound : MethodName := ⟨RX2, "pileFound", "()LChipfold$Pile;"⟩
abbrev cX2_findUnit : ByteArray := prog_4_method_4_code
def yX2_findUnit : MethodName := ⟨RX2, "findUnit", "()V"⟩
abbrev cX2_find : ByteArray := prog_4_method_5_code
def yX2_find : MethodName := ⟨RX2, "find", "(LChipfold$Row;)V"⟩
def RX3 : String := "Chipfold$Graph"
def TX3 : u_T := fun k => match k with
  | 0 => ("Chipfold$Graph", "joined", "[I", true)
  | 1 => ("Chipfold$Graph", "degrees", "[I", true)
  | 2 => ("Chipfold$Graph", "vertices", "I", false)
  | _ => ("Chipfold$Graph", "sinkNow", "I", false)
def tyX3 : Nat → FieldType := fun k => match k with
  | 0 => .array .int
  | 1 => .array .int
  | 2 => .int
  | _ => .int
theorem nmX3 : ∀ a, a < 4 → ∀ b, b < 4 → a ≠ b → (TX3 a).2.1 ≠ (TX3 b).2.1 := by decide +kernel
theorem tyX3_ok : ∀ k, k < 4 → parseFieldDescriptor (TX3 k).2.2.1 = some (tyX3 k) := by decide +kernel
abbrev cX3_init : ByteArray := prog_5_method_1_code
def yX3_init : MethodName := ⟨RX3, "<init>", "()V"⟩
abbrev cX3_size : ByteArray := prog_5_method_2_code
def yX3_size : MethodName := ⟨RX3, "size", "()I"⟩
abbrev cX3_has : ByteArray := prog_5_method_3_code
def yX3_has : MethodName := ⟨RX3, "has", "(I)Z"⟩
abbrev cX3_grow : ByteArray := prog_5_method_4_code
def yX3_grow : MethodName := ⟨RX3, "grow", "()I"⟩
abbrev cX3_between : ByteArray := prog_5_method_5_code
def yX3_between : MethodName := ⟨RX3, "between", "(II)I"⟩
abbrev cX3_join : ByteArray := prog_5_method_6_code
def yX3_join : MethodName := ⟨RX3, "join", "(III)V"⟩
abbrev cX3_joinOneWay : ByteArray := prog_5_method_7_code
def yX3_joinOneWay : MethodName := ⟨RX3, "joinOneWay", "(III)V"⟩
abbrev cX3_sinkVertex : ByteArray := prog_5_method_8_code
def yX3_sinkVertex : MethodName := ⟨RX3, "sinkVertex", "()I"⟩
abbrev cX3_isSink : ByteArray := prog_5_method_9_code
def yX3_isSink : MethodName := ⟨RX3, "isSink", "(I)Z"⟩
abbrev cX3_moveSink : ByteArray := prog_5_method_10_code
def yX3_moveSink : MethodName := ⟨RX3, "moveSink", "(I)V"⟩
abbrev cX3_degreeOf : ByteArray := prog_5_method_11_code
def yX3_degreeOf : MethodName := ⟨RX3, "degreeOf", "(I)I"⟩
abbrev cX3_edgeNumber : ByteArray := prog_5_method_12_code
def yX3_edgeNumber : MethodName := ⟨RX3, "edgeNumber", "()I"⟩
abbrev cX3_others : ByteArray := prog_5_method_13_code
def yX3_others : MethodName := ⟨RX3, "others", "()I"⟩
abbrev cX3_otherAt : ByteArray := prog_5_method_14_code
def yX3_otherAt : MethodName := ⟨RX3, "otherAt", "(I)I"⟩
abbrev cX3_isConnected : ByteArray := prog_5_method_15_code
def yX3_isConnected : MethodName := ⟨RX3, "isConnected", "()Z"⟩
abbrev cX3_neighboursOf : ByteArray := prog_5_method_16_code
def yX3_neighboursOf : MethodName := ⟨RX3, "neighboursOf", "(I)I"⟩
abbrev cX3_endOf : ByteArray := prog_5_method_17_code
def yX3_endOf : MethodName := ⟨RX3, "endOf", "(II)I"⟩
def RX4 : String := "Chipfold$Group"
def TX4 : u_T := fun k => match k with
  | 0 => ("Chipfold$Group", "graph", "LChipfold$Graph;", true)
  | 1 => ("Chipfold$Group", "matrix", "LChipfold$Matrix;", true)
  | _ => ("Chipfold$Group", "found", "LChipfold$Row;", true)
def tyX4 : Nat → FieldType := fun k => match k with
  | 0 => .object "Chipfold$Graph"
  | 1 => .object "Chipfold$Matrix"
  | _ => .object "Chipfold$Row"
theorem nmX4 : ∀ a, a < 3 → ∀ b, b < 3 → a ≠ b → (TX4 a).2.1 ≠ (TX4 b).2.1 := by decide +kernel
theorem tyX4_ok : ∀ k, k < 3 → parseFieldDescriptor (TX4 k).2.2.1 = some (tyX4 k) := by decide +kernel
abbrev cX4_init : ByteArray := prog_6_method_1_code
def yX4_init : MethodName := ⟨RX4, "<init>", "(LChipfold$Graph;)V"⟩
abbrev cX4_entry : ByteArray := prog_6_method_2_code
def yX4_entry : MethodName := ⟨RX4, "entry", "(II)I"⟩
abbrev cX4_minor : ByteArray := prog_6_method_3_code
def yX4_minor : MethodName := ⟨RX4, "minor", "(II)J"⟩
abbrev cX4_treeNumber : ByteArray := prog_6_method_4_code
def yX4_treeNumber : MethodName := ⟨RX4, "treeNumber", "()J"⟩
abbrev cX4_findFactors : ByteArray := prog_6_method_5_code
def yX4_findFactors : MethodName := ⟨RX4, "findFactors", "()I"⟩
abbrev cX4_factorFound : ByteArray := prog_6_method_6_code
def yX4_factorFound : MethodName := ⟨RX4, "factorFound", "(I)I"⟩
abbrev cX4_divisorOfMinors : ByteArray := prog_6_method_7_code
def yX4_divisorOfMinors : MethodName := ⟨RX4, "divisorOfMinors", "(I)J"⟩
abbrev cX4_orderOf : ByteArray := prog_6_method_8_code
def yX4_orderOf : MethodName := ⟨RX4, "orderOf", "(LChipfold$Pile;)J"⟩
abbrev cX4_determinantWith : ByteArray := prog_6_method_9_code
def yX4_determinantWith : MethodName := ⟨RX4, "determinantWith", "(LChipfold$Pile;I)J"⟩
abbrev cX4_commonDivisor : ByteArray := prog_6_method_10_code
def yX4_commonDivisor : MethodName := ⟨RX4, "commonDivisor", "(JJ)J"⟩
def RX5 : String := "Chipfold$Matrix"
def TX5 : u_T := fun k => match k with
  | _ => ("Chipfold$Matrix", "cells", "[J", true)
def tyX5 : Nat → FieldType := fun k => match k with
  | _ => .array .long
theorem nmX5 : ∀ a, a < 1 → ∀ b, b < 1 → a ≠ b → (TX5 a).2.1 ≠ (TX5 b).2.1 := by decide +kernel
theorem tyX5_ok : ∀ k, k < 1 → parseFieldDescriptor (TX5 k).2.2.1 = some (tyX5 k) := by decide +kernel
abbrev cX5_init : ByteArray := prog_7_method_1_code
def yX5_init : MethodName := ⟨RX5, "<init>", "()V"⟩
abbrev cX5_at : ByteArray := prog_7_method_2_code
def yX5_at : MethodName := ⟨RX5, "at", "(II)J"⟩
abbrev cX5_write : ByteArray := prog_7_method_3_code
def yX5_write : MethodName := ⟨RX5, "write", "(IIJ)V"⟩
abbrev cX5_determinant : ByteArray := prog_7_method_4_code
def yX5_determinant : MethodName := ⟨RX5, "determinant", "(I)J"⟩
abbrev cX5_pivotRow : ByteArray := prog_7_method_5_code
def yX5_pivotRow : MethodName := ⟨RX5, "pivotRow", "(II)I"⟩
abbrev cX5_swapRows : ByteArray := prog_7_method_6_code
def yX5_swapRows : MethodName := ⟨RX5, "swapRows", "(III)V"⟩
abbrev cX5_clearBelow : ByteArray := prog_7_method_7_code
def yX5_clearBelow : MethodName := ⟨RX5, "clearBelow", "(IIJ)V"⟩
def RX6 : String := "Chipfold$Pile"
def TX6 : u_T := fun k => match k with
  | 0 => ("Chipfold$Pile", "graph", "LChipfold$Graph;", true)
  | 1 => ("Chipfold$Pile", "held", "LChipfold$Row;", true)
  | 2 => ("Chipfold$Pile", "counts", "LChipfold$Row;", true)
  | _ => ("Chipfold$Pile", "taken", "I", false)
def tyX6 : Nat → FieldType := fun k => match k with
  | 0 => .object "Chipfold$Graph"
  | 1 => .object "Chipfold$Row"
  | 2 => .object "Chipfold$Row"
  | _ => .int
theorem nmX6 : ∀ a, a < 4 → ∀ b, b < 4 → a ≠ b → (TX6 a).2.1 ≠ (TX6 b).2.1 := by decide +kernel
theorem tyX6_ok : ∀ k, k < 4 → parseFieldDescriptor (TX6 k).2.2.1 = some (tyX6 k) := by decide +kernel
abbrev cX6_init : ByteArray := prog_8_method_1_code
def yX6_init : MethodName := ⟨RX6, "<init>", "(LChipfold$Graph;)V"⟩
abbrev cX6_clear : ByteArray := prog_8_method_2_code
def yX6_clear : MethodName := ⟨RX6, "clear", "()V"⟩
abbrev cX6_copyChips : ByteArray := prog_8_method_3_code
def yX6_copyChips : MethodName := ⟨RX6, "copyChips", "(LChipfold$Pile;)V"⟩
abbrev cX6_isLike : ByteArray := prog_8_method_4_code
def yX6_isLike : MethodName := ⟨RX6, "isLike", "(LChipfold$Pile;)Z"⟩
abbrev cX6_at : ByteArray := prog_8_method_5_code
def yX6_at : MethodName := ⟨RX6, "at", "(I)I"⟩
abbrev cX6_countAt : ByteArray := prog_8_method_6_code
def yX6_countAt : MethodName := ⟨RX6, "countAt", "(I)I"⟩
abbrev cX6_swallowedChips : ByteArray := prog_8_method_7_code
def yX6_swallowedChips : MethodName := ⟨RX6, "swallowedChips", "()I"⟩
abbrev cX6_total : ByteArray := prog_8_method_8_code
def yX6_total : MethodName := ⟨RX6, "total", "()I"⟩
abbrev cX6_receive : ByteArray := prog_8_method_9_code
def yX6_receive : MethodName := ⟨RX6, "receive", "(II)V"⟩
abbrev cX6_canTopple : ByteArray := prog_8_method_10_code
def yX6_canTopple : MethodName := ⟨RX6, "canTopple", "(I)Z"⟩
abbrev cX6_isSettled : ByteArray := prog_8_method_11_code
def yX6_isSettled : MethodName := ⟨RX6, "isSettled", "()Z"⟩
abbrev cX6_toppleTimes : ByteArray := prog_8_method_12_code
def yX6_toppleTimes : MethodName := ⟨RX6, "toppleTimes", "(II)V"⟩
abbrev cX6_settleAll : ByteArray := prog_8_method_13_code
def yX6_settleAll : MethodName := ⟨RX6, "settleAll", "(Z)I"⟩
abbrev cX6_toppleWave : ByteArray := prog_8_method_14_code
def yX6_toppleWave : MethodName := ⟨RX6, "toppleWave", "()Z"⟩
abbrev cX6_burn : ByteArray := prog_8_method_15_code
def yX6_burn : MethodName := ⟨RX6, "burn", "(LChipfold$Row;)V"⟩
abbrev cX6_unburntEdges : ByteArray := prog_8_method_16_code
def yX6_unburntEdges : MethodName := ⟨RX6, "unburntEdges", "(ILChipfold$Row;)I"⟩
def RX7 : String := "Chipfold$Rotors"
def TX7 : u_T := fun k => match k with
  | 0 => ("Chipfold$Rotors", "graph", "LChipfold$Graph;", true)
  | 1 => ("Chipfold$Rotors", "pointed", "LChipfold$Row;", true)
  | _ => ("Chipfold$Rotors", "visited", "LChipfold$Row;", true)
def tyX7 : Nat → FieldType := fun k => match k with
  | 0 => .object "Chipfold$Graph"
  | 1 => .object "Chipfold$Row"
  | _ => .object "Chipfold$Row"
theorem nmX7 : ∀ a, a < 3 → ∀ b, b < 3 → a ≠ b → (TX7 a).2.1 ≠ (TX7 b).2.1 := by decide +kernel
theorem tyX7_ok : ∀ k, k < 3 → parseFieldDescriptor (TX7 k).2.2.1 = some (tyX7 k) := by decide +kernel
abbrev cX7_init : ByteArray := prog_9_method_1_code
def yX7_init : MethodName := ⟨RX7, "<init>", "(LChipfold$Graph;)V"⟩
abbrev cX7_clear : ByteArray := prog_9_method_2_code
def yX7_clear : MethodName := ⟨RX7, "clear", "()V"⟩
abbrev cX7_target : ByteArray := prog_9_method_3_code
def yX7_target : MethodName := ⟨RX7, "target", "(I)I"⟩
abbrev cX7_visitsAt : ByteArray := prog_9_method_4_code
def yX7_visitsAt : MethodName := ⟨RX7, "visitsAt", "(I)I"⟩
abbrev cX7_lead : ByteArray := prog_9_method_5_code
def yX7_lead : MethodName := ⟨RX7, "lead", "(I)I"⟩
abbrev cX7_turn : ByteArray := prog_9_method_6_code
def yX7_turn : MethodName := ⟨RX7, "turn", "(I)V"⟩
abbrev cX7_leadToSink : ByteArray := prog_9_method_7_code
def yX7_leadToSink : MethodName := ⟨RX7, "leadToSink", "()Z"⟩
def RX8 : String := "Chipfold$Row"
def TX8 : u_T := fun k => match k with
  | _ => ("Chipfold$Row", "cells", "[I", true)
def tyX8 : Nat → FieldType := fun k => match k with
  | _ => .array .int
theorem nmX8 : ∀ a, a < 1 → ∀ b, b < 1 → a ≠ b → (TX8 a).2.1 ≠ (TX8 b).2.1 := by decide +kernel
theorem tyX8_ok : ∀ k, k < 1 → parseFieldDescriptor (TX8 k).2.2.1 = some (tyX8 k) := by decide +kernel
abbrev cX8_init : ByteArray := prog_10_method_1_code
def yX8_init : MethodName := ⟨RX8, "<init>", "(I)V"⟩
abbrev cX8_at : ByteArray := prog_10_method_2_code
def yX8_at : MethodName := ⟨RX8, "at", "(I)I"⟩
abbrev cX8_write : ByteArray := prog_10_method_3_code
def yX8_write : MethodName := ⟨RX8, "write", "(II)V"⟩
abbrev cX8_add : ByteArray := prog_10_method_4_code
def yX8_add : MethodName := ⟨RX8, "add", "(II)V"⟩
abbrev cX8_fill : ByteArray := prog_10_method_5_code
def yX8_fill : MethodName := ⟨RX8, "fill", "(I)V"⟩
abbrev cX8_copy : ByteArray := prog_10_method_6_code
def yX8_copy : MethodName := ⟨RX8, "copy", "(LChipfold$Row;)V"⟩
abbrev cX8_isLike : ByteArray := prog_10_method_7_code
def yX8_isLike : MethodName := ⟨RX8, "isLike", "(LChipfold$Row;)Z"⟩
abbrev cX8_sum : ByteArray := prog_10_method_8_code
def yX8_sum : MethodName := ⟨RX8, "sum", "()I"⟩
def RX9 : String := "Chipfold$TreeCount"
def TX9 : u_T := fun k => match k with
  | _ => ("Chipfold$TreeCount", "squares", "LChipfold$Row;", true)
def tyX9 : Nat → FieldType := fun k => match k with
  | _ => .object "Chipfold$Row"
theorem nmX9 : ∀ a, a < 1 → ∀ b, b < 1 → a ≠ b → (TX9 a).2.1 ≠ (TX9 b).2.1 := by decide +kernel
theorem tyX9_ok : ∀ k, k < 1 → parseFieldDescriptor (TX9 k).2.2.1 = some (tyX9 k) := by decide +kernel
abbrev cX9_init : ByteArray := prog_11_method_1_code
def yX9_init : MethodName := ⟨RX9, "<init>", "()V"⟩
abbrev cX9_countTrees : ByteArray := prog_11_method_2_code
def yX9_countTrees : MethodName := ⟨RX9, "countTrees", "(LChipfold$Graph;)J"⟩
abbrev cX9_cell : ByteArray := prog_11_method_3_code
def yX9_cell : MethodName := ⟨RX9, "cell", "(III)I"⟩
abbrev cX9_countLeft : ByteArray := prog_11_method_4_code
def yX9_countLeft : MethodName := ⟨RX9, "countLeft", "(LChipfold$Row;I)J"⟩
abbrev cX9_merge : ByteArray := prog_11_method_5_code
def yX9_merge : MethodName := ⟨RX9, "merge", "(LChipfold$Row;II)V"⟩
def RX10 : String := "Chipfold"
def TX10 : u_T := fun k => match k with
  | 0 => ("Chipfold", "graph", "LChipfold$Graph;", true)
  | 1 => ("Chipfold", "pile", "LChipfold$Pile;", true)
  | 2 => ("Chipfold", "trial", "LChipfold$Pile;", true)
  | 3 => ("Chipfold", "secondTrial", "LChipfold$Pile;", true)
  | 4 => ("Chipfold", "fire", "LChipfold$Row;", true)
  | 5 => ("Chipfold", "finder", "LChipfold$Finder;", true)
  | 6 => ("Chipfold", "group", "LChipfold$Group;", true)
  | 7 => ("Chipfold", "treeCount", "LChipfold$TreeCount;", true)
  | 8 => ("Chipfold", "rotors", "LChipfold$Rotors;", true)
  | 9 => ("Chipfold", "debts", "LChipfold$Debts;", true)
  | _ => ("Chipfold", "drawing", "LChipfold$Drawing;", true)
def tyX10 : Nat → FieldType := fun k => match k with
  | 0 => .object "Chipfold$Graph"
  | 1 => .object "Chipfold$Pile"
  | 2 => .object "Chipfold$Pile"
  | 3 => .object "Chipfold$Pile"
  | 4 => .object "Chipfold$Row"
  | 5 => .object "Chipfold$Finder"
  | 6 => .object "Chipfold$Group"
  | 7 => .object "Chipfold$TreeCount"
  | 8 => .object "Chipfold$Rotors"
  | 9 => .object "Chipfold$Debts"
  | _ => .object "Chipfold$Drawing"
theorem nmX10 : ∀ a, a < 11 → ∀ b, b < 11 → a ≠ b → (TX10 a).2.1 ≠ (TX10 b).2.1 := by decide +kernel
theorem tyX10_ok : ∀ k, k < 11 → parseFieldDescriptor (TX10 k).2.2.1 = some (tyX10 k) := by decide +kernel
abbrev cX10_init : ByteArray := prog_1_method_1_code
def yX10_init : MethodName := ⟨RX10, "<init>", "()V"⟩
abbrev cX10_vertex : ByteArray := prog_1_method_2_code
def yX10_vertex : MethodName := ⟨RX10, "vertex", "()I"⟩
abbrev cX10_edges : ByteArray := prog_1_method_3_code
def yX10_edges : MethodName := ⟨RX10, "edges", "(III)I"⟩
abbrev cX10_setSink : ByteArray := prog_1_method_4_code
def yX10_setSink : MethodName := ⟨RX10, "setSink", "(I)I"⟩
abbrev cX10_degree : ByteArray := prog_1_method_5_code
def yX10_degree : MethodName := ⟨RX10, "degree", "(I)I"⟩
abbrev cX10_isWhole : ByteArray := prog_1_method_6_code
def yX10_isWhole : MethodName := ⟨RX10, "isWhole", "()Z"⟩
abbrev cX10_put : ByteArray := prog_1_method_7_code
def yX10_put : MethodName := ⟨RX10, "put", "(II)I"⟩
abbrev cX10_chips : ByteArray := prog_1_method_8_code
def yX10_chips : MethodName := ⟨RX10, "chips", "(I)I"⟩
abbrev cX10_topple : ByteArray := prog_1_method_9_code
def yX10_topple : MethodName := ⟨RX10, "topple", "(I)I"⟩
abbrev cX10_settle : ByteArray := prog_1_method_10_code
def yX10_settle : MethodName := ⟨RX10, "settle", "()I"⟩
abbrev cX10_waves : ByteArray := prog_1_method_11_code
def yX10_waves : MethodName := ⟨RX10, "waves", "()I"⟩
abbrev cX10_count : ByteArray := prog_1_method_12_code
def yX10_count : MethodName := ⟨RX10, "count", "(I)I"⟩
abbrev cX10_swallowed : ByteArray := prog_1_method_13_code
def yX10_swallowed : MethodName := ⟨RX10, "swallowed", "()I"⟩
abbrev cX10_isAgain : ByteArray := prog_1_method_14_code
def yX10_isAgain : MethodName := ⟨RX10, "isAgain", "()Z"⟩
abbrev cX10_burns : ByteArray := prog_1_method_15_code
def yX10_burns : MethodName := ⟨RX10, "burns", "(I)I"⟩
abbrev cX10_unit : ByteArray := prog_1_method_16_code
def yX10_unit : MethodName := ⟨RX10, "unit", "(I)I"⟩
abbrev cX10_square : ByteArray := prog_1_method_17_code
def yX10_square : MethodName := ⟨RX10, "square", "()I"⟩
abbrev cX10_trees : ByteArray := prog_1_method_18_code
def yX10_trees : MethodName := ⟨RX10, "trees", "()J"⟩
abbrev cX10_factors : ByteArray := prog_1_method_19_code
def yX10_factors : MethodName := ⟨RX10, "factors", "()I"⟩
abbrev cX10_factorAt : ByteArray := prog_1_method_20_code
def yX10_factorAt : MethodName := ⟨RX10, "factorAt", "(I)J"⟩
abbrev cX10_order : ByteArray := prog_1_method_21_code
def yX10_order : MethodName := ⟨RX10, "order", "()J"⟩
abbrev cX10_walk : ByteArray := prog_1_method_22_code
def yX10_walk : MethodName := ⟨RX10, "walk", "(I)I"⟩
abbrev cX10_rotor : ByteArray := prog_1_method_23_code
def yX10_rotor : MethodName := ⟨RX10, "rotor", "(I)I"⟩
abbrev cX10_visits : ByteArray := prog_1_method_24_code
def yX10_visits : MethodName := ⟨RX10, "visits", "(I)I"⟩
abbrev cX10_areTree : ByteArray := prog_1_method_25_code
def yX10_areTree : MethodName := ⟨RX10, "areTree", "()Z"⟩
abbrev cX10_setDebt : ByteArray := prog_1_method_26_code
def yX10_setDebt : MethodName := ⟨RX10, "setDebt", "(II)I"⟩
abbrev cX10_deal : ByteArray := prog_1_method_27_code
def yX10_deal : MethodName := ⟨RX10, "deal", "(IZ)I"⟩
abbrev cX10_debt : ByteArray := prog_1_method_28_code
def yX10_debt : MethodName := ⟨RX10, "debt", "(I)I"⟩
abbrev cX10_reduced : ByteArray := prog_1_method_29_code
def yX10_reduced : MethodName := ⟨RX10, "reduced", "(I)I"⟩
abbrev cX10_canPay : ByteArray := prog_1_method_30_code
def yX10_canPay : MethodName := ⟨RX10, "canPay", "()Z"⟩
abbrev cX10_rank : ByteArray := prog_1_method_31_code
def yX10_rank : MethodName := ⟨RX10, "rank", "()I"⟩
abbrev cX10_picture : ByteArray := prog_1_method_32_code
def yX10_picture : MethodName := ⟨RX10, "picture", "(II)I"⟩
abbrev cX10_pixel : ByteArray := prog_1_method_33_code
def yX10_pixel : MethodName := ⟨RX10, "pixel", "(I)I"⟩
abbrev cX10_settledShare : ByteArray := prog_1_method_34_code
def yX10_settledShare : MethodName := ⟨RX10, "settledShare", "()F"⟩
abbrev cX10_meanChips : ByteArray := prog_1_method_35_code
def yX10_meanChips : MethodName := ⟨RX10, "meanChips", "()D"⟩
abbrev cX10_isSound : ByteArray := prog_1_method_36_code
def yX10_isSound : MethodName := ⟨RX10, "isSound", "()Z"⟩
abbrev cX10_settlesAlikeFromAbove : ByteArray := prog_1_method_37_code
def yX10_settlesAlikeFromAbove : MethodName := ⟨RX10, "settlesAlikeFromAbove", "()Z"⟩
abbrev cX10_beginAgain : ByteArray := prog_1_method_38_code
def yX10_beginAgain : MethodName := ⟨RX10, "beginAgain", "()V"⟩
abbrev cX10_needVertex : ByteArray := prog_1_method_39_code
def yX10_needVertex : MethodName := ⟨RX10, "needVertex", "(I)V"⟩
abbrev cX10_needWhole : ByteArray := prog_1_method_40_code
def yX10_needWhole : MethodName := ⟨RX10, "needWhole", "()V"⟩
def RX11 : String := "ChipfoldModel"
def TX11 : u_T := fun k => match k with
  | 0 => ("ChipfoldModel", "edges", "[[I", true)
  | 1 => ("ChipfoldModel", "chips", "[I", false)
  | 2 => ("ChipfoldModel", "counts", "[I", false)
  | 3 => ("ChipfoldModel", "rotors", "[I", false)
  | 4 => ("ChipfoldModel", "visits", "[I", false)
  | 5 => ("ChipfoldModel", "debts", "[I", false)
  | 6 => ("ChipfoldModel", "cells", "[I", false)
  | 7 => ("ChipfoldModel", "size", "I", false)
  | 8 => ("ChipfoldModel", "sink", "I", false)
  | 9 => ("ChipfoldModel", "swallowed", "I", false)
  | 10 => ("ChipfoldModel", "side", "I", false)
  | _ => ("ChipfoldModel", "thrown", "I", false)
def tyX11 : Nat → FieldType := fun k => match k with
  | 0 => .array (.array .int)
  | 1 => .array .int
  | 2 => .array .int
  | 3 => .array .int
  | 4 => .array .int
  | 5 => .array .int
  | 6 => .array .int
  | 7 => .int
  | 8 => .int
  | 9 => .int
  | 10 => .int
  | _ => .int
theorem nmX11 : ∀ a, a < 12 → ∀ b, b < 12 → a ≠ b → (TX11 a).2.1 ≠ (TX11 b).2.1 := by decide +kernel
theorem tyX11_ok : ∀ k, k < 12 → parseFieldDescriptor (TX11 k).2.2.1 = some (tyX11 k) := by decide +kernel
abbrev cX11_init : ByteArray := prog_13_method_1_code
def yX11_init : MethodName := ⟨RX11, "<init>", "()V"⟩
abbrev cX11_in : ByteArray := prog_13_method_3_code
def yX11_in : MethodName := ⟨RX11, "in", "(III)Z"⟩
abbrev cX11_isVertex : ByteArray := prog_13_method_4_code
def yX11_isVertex : MethodName := ⟨RX11, "isVertex", "(I)Z"⟩
abbrev cX11_wrongVertex : ByteArray := prog_13_method_5_code
def yX11_wrongVertex : MethodName := ⟨RX11, "wrongVertex", "(I)I"⟩
abbrev cX11_plain : ByteArray := prog_13_method_6_code
def yX11_plain : MethodName := ⟨RX11, "plain", "(I)I"⟩
abbrev cX11_begin : ByteArray := prog_13_method_7_code
def yX11_begin : MethodName := ⟨RX11, "begin", "()V"⟩
abbrev cX11_vertex : ByteArray := prog_13_method_8_code
def yX11_vertex : MethodName := ⟨RX11, "vertex", "()I"⟩
abbrev cX11_edges : ByteArray := prog_13_method_9_code
def yX11_edges : MethodName := ⟨RX11, "edges", "(III)I"⟩
abbrev cX11_setSink : ByteArray := prog_13_method_10_code
def yX11_setSink : MethodName := ⟨RX11, "setSink", "(I)I"⟩
abbrev cX11_degreeOf : ByteArray := prog_13_method_11_code
def yX11_degreeOf : MethodName := ⟨RX11, "degreeOf", "(I)I"⟩
abbrev cX11_degree : ByteArray := prog_13_method_12_code
def yX11_degree : MethodName := ⟨RX11, "degree", "(I)I"⟩
abbrev cX11_reach : ByteArray := prog_13_method_13_code
def yX11_reach : MethodName := ⟨RX11, "reach", "(I[Z)V"⟩
abbrev cX11_whole : ByteArray := prog_13_method_14_code
def yX11_whole : MethodName := ⟨RX11, "whole", "()Z"⟩
abbrev cX11_isWhole : ByteArray := prog_13_method_15_code
def yX11_isWhole : MethodName := ⟨RX11, "isWhole", "()Z"⟩
abbrev cX11_wrongWhole : ByteArray := prog_13_method_16_code
def yX11_wrongWhole : MethodName := ⟨RX11, "wrongWhole", "()I"⟩
abbrev cX11_put : ByteArray := prog_13_method_17_code
def yX11_put : MethodName := ⟨RX11, "put", "(II)I"⟩
abbrev cX11_chips : ByteArray := prog_13_method_18_code
def yX11_chips : MethodName := ⟨RX11, "chips", "(I)I"⟩
abbrev cX11_can : ByteArray := prog_13_method_19_code
def yX11_can : MethodName := ⟨RX11, "can", "([II)Z"⟩
abbrev cX11_topples : ByteArray := prog_13_method_20_code
def yX11_topples : MethodName := ⟨RX11, "topples", "([III)V"⟩
abbrev cX11_settles : ByteArray := prog_13_method_21_code
def yX11_settles : MethodName := ⟨RX11, "settles", "([I[I)I"⟩
abbrev cX11_swallow : ByteArray := prog_13_method_22_code
def yX11_swallow : MethodName := ⟨RX11, "swallow", "()V"⟩
abbrev cX11_topple : ByteArray := prog_13_method_23_code
def yX11_topple : MethodName := ⟨RX11, "topple", "(I)I"⟩
abbrev cX11_settle : ByteArray := prog_13_method_24_code
def yX11_settle : MethodName := ⟨RX11, "settle", "()I"⟩
abbrev cX11_waves : ByteArray := prog_13_method_25_code
def yX11_waves : MethodName := ⟨RX11, "waves", "()I"⟩
abbrev cX11_count : ByteArray := prog_13_method_26_code
def yX11_count : MethodName := ⟨RX11, "count", "(I)I"⟩
abbrev cX11_swallowed : ByteArray := prog_13_method_27_code
def yX11_swallowed : MethodName := ⟨RX11, "swallowed", "()I"⟩
abbrev cX11_fire : ByteArray := prog_13_method_28_code
def yX11_fire : MethodName := ⟨RX11, "fire", "([I)[I"⟩
abbrev cX11_unburnt : ByteArray := prog_13_method_29_code
def yX11_unburnt : MethodName := ⟨RX11, "unburnt", "(I[I)I"⟩
abbrev cX11_burnsAll : ByteArray := prog_13_method_30_code
def yX11_burnsAll : MethodName := ⟨RX11, "burnsAll", "([I)Z"⟩
abbrev cX11_isAgain : ByteArray := prog_13_method_31_code
def yX11_isAgain : MethodName := ⟨RX11, "isAgain", "()Z"⟩
abbrev cX11_burns : ByteArray := prog_13_method_32_code
def yX11_burns : MethodName := ⟨RX11, "burns", "(I)I"⟩
abbrev cX11_nothing : ByteArray := prog_13_method_33_code
def yX11_nothing : MethodName := ⟨RX11, "nothing", "()[I"⟩
abbrev cX11_units : ByteArray := prog_13_method_34_code
def yX11_units : MethodName := ⟨RX11, "units", "()[I"⟩
abbrev cX11_unit : ByteArray := prog_13_method_35_code
def yX11_unit : MethodName := ⟨RX11, "unit", "(I)I"⟩
abbrev cX11_square : ByteArray := prog_13_method_36_code
def yX11_square : MethodName := ⟨RX11, "square", "()I"⟩
abbrev cX11_rows : ByteArray := prog_13_method_37_code
def yX11_rows : MethodName := ⟨RX11, "rows", "()[[J"⟩
abbrev cX11_middle : ByteArray := prog_13_method_38_code
def yX11_middle : MethodName := ⟨RX11, "middle", "([[J)[J"⟩
abbrev cX11_isClear : ByteArray := prog_13_method_39_code
def yX11_isClear : MethodName := ⟨RX11, "isClear", "([[JI)Z"⟩
abbrev cX11_step : ByteArray := prog_13_method_40_code
def yX11_step : MethodName := ⟨RX11, "step", "([[JI)V"⟩
abbrev cX11_allTrees : ByteArray := prog_13_method_41_code
def yX11_allTrees : MethodName := ⟨RX11, "allTrees", "()J"⟩
abbrev cX11_trees : ByteArray := prog_13_method_42_code
def yX11_trees : MethodName := ⟨RX11, "trees", "()J"⟩
abbrev cX11_allFactors : ByteArray := prog_13_method_43_code
def yX11_allFactors : MethodName := ⟨RX11, "allFactors", "()Ljava/util/ArrayList;"⟩
abbrev cX11_factors : ByteArray := prog_13_method_44_code
def yX11_factors : MethodName := ⟨RX11, "factors", "()I"⟩
abbrev cX11_factorAt : ByteArray := prog_13_method_45_code
def yX11_factorAt : MethodName := ⟨RX11, "factorAt", "(I)J"⟩
abbrev cX11_isNothing : ByteArray := prog_13_method_46_code
def yX11_isNothing : MethodName := ⟨RX11, "isNothing", "(JJ)Z"⟩
abbrev cX11_order : ByteArray := prog_13_method_47_code
def yX11_order : MethodName := ⟨RX11, "order", "()J"⟩
abbrev cX11_isPrime : ByteArray := prog_13_method_48_code
def yX11_isPrime : MethodName := ⟨RX11, "isPrime", "(J)Z"⟩
abbrev cX11_pointed : ByteArray := prog_13_method_49_code
def yX11_pointed : MethodName := ⟨RX11, "pointed", "(I)I"⟩
abbrev cX11_walk : ByteArray := prog_13_method_50_code
def yX11_walk : MethodName := ⟨RX11, "walk", "(I)I"⟩
abbrev cX11_rotor : ByteArray := prog_13_method_51_code
def yX11_rotor : MethodName := ⟨RX11, "rotor", "(I)I"⟩
abbrev cX11_visits : ByteArray := prog_13_method_52_code
def yX11_visits : MethodName := ⟨RX11, "visits", "(I)I"⟩
abbrev cX11_areTree : ByteArray := prog_13_method_53_code
def yX11_areTree : MethodName := ⟨RX11, "areTree", "()Z"⟩
abbrev cX11_setDebt : ByteArray := prog_13_method_54_code
def yX11_setDebt : MethodName := ⟨RX11, "setDebt", "(II)I"⟩
abbrev cX11_deal : ByteArray := prog_13_method_55_code
def yX11_deal : MethodName := ⟨RX11, "deal", "(IZ)I"⟩
abbrev cX11_debt : ByteArray := prog_13_method_56_code
def yX11_debt : MethodName := ⟨RX11, "debt", "(I)I"⟩
abbrev cX11_reducedBy : ByteArray := prog_13_method_57_code
def yX11_reducedBy : MethodName := ⟨RX11, "reducedBy", "([I)[I"⟩
abbrev cX11_fireOut : ByteArray := prog_13_method_58_code
def yX11_fireOut : MethodName := ⟨RX11, "fireOut", "([I)[I"⟩
abbrev cX11_reduced : ByteArray := prog_13_method_59_code
def yX11_reduced : MethodName := ⟨RX11, "reduced", "(I)I"⟩
abbrev cX11_canBePaid : ByteArray := prog_13_method_60_code
def yX11_canBePaid : MethodName := ⟨RX11, "canBePaid", "([I)Z"⟩
abbrev cX11_canPay : ByteArray := prog_13_method_61_code
def yX11_canPay : MethodName := ⟨RX11, "canPay", "()Z"⟩
abbrev cX11_together : ByteArray := prog_13_method_62_code
def yX11_together : MethodName := ⟨RX11, "together", "([I)I"⟩
abbrev cX11_canLose : ByteArray := prog_13_method_63_code
def yX11_canLose : MethodName := ⟨RX11, "canLose", "([III)Z"⟩
abbrev cX11_rank : ByteArray := prog_13_method_64_code
def yX11_rank : MethodName := ⟨RX11, "rank", "()I"⟩
abbrev cX11_picture : ByteArray := prog_13_method_65_code
def yX11_picture : MethodName := ⟨RX11, "picture", "(II)I"⟩
abbrev cX11_pixel : ByteArray := prog_13_method_66_code
def yX11_pixel : MethodName := ⟨RX11, "pixel", "(I)I"⟩
abbrev cX11_settledShare : ByteArray := prog_13_method_67_code
def yX11_settledShare : MethodName := ⟨RX11, "settledShare", "()F"⟩
abbrev cX11_meanChips : ByteArray := prog_13_method_68_code
def yX11_meanChips : MethodName := ⟨RX11, "meanChips", "()D"⟩
abbrev cX11_isSound : ByteArray := prog_13_method_69_code
def yX11_isSound : MethodName := ⟨RX11, "isSound", "()Z"⟩
abbrev cX11_isSameRow : ByteArray := prog_13_method_70_code
def yX11_isSameRow : MethodName := ⟨RX11, "isSameRow", "([I[I)Z"⟩
def RJx145de : String := "java/io/Serializable"
def TJx145de : u_T := fun k => match k with
  | _ => ("", "", "", false)
def tyJx145de : Nat → FieldType := fun k => match k with
  | _ => .int
theorem nmJx145de : ∀ a, a < 0 → ∀ b, b < 0 → a ≠ b → (TJx145de a).2.1 ≠ (TJx145de b).2.1 := by decide +kernel
theorem tyJx145de_ok : ∀ k, k < 0 → parseFieldDescriptor (TJx145de k).2.2.1 = some (tyJx145de k) := by decide +kernel
def RJx00060 : String := "java/lang/ArrayIndexOutOfBoundsException"
def TJx00060 : u_T := fun k => match k with
  | 0 => ("java/lang/Throwable", "backtrace", "Ljava/lang/Object;", false)
  | 1 => ("java/lang/Throwable", "detailMessage", "Ljava/lang/String;", false)
  | 2 => ("java/lang/Throwable", "cause", "Ljava/lang/Throwable;", false)
  | 3 => ("java/lang/Throwable", "stackTrace", "[Ljava/lang/StackTraceElement;", false)
  | 4 => ("java/lang/Throwable", "depth", "I", false)
  | _ => ("java/lang/Throwable", "suppressedExceptions", "Ljava/util/List;", false)
def tyJx00060 : Nat → FieldType := fun k => match k with
  | 0 => .object "java/lang/Object"
  | 1 => .object "java/lang/String"
  | 2 => .object "java/lang/Throwable"
  | 3 => .array (.object "java/lang/StackTraceElement")
  | 4 => .int
  | _ => .object "java/util/List"
theorem nmJx00060 : ∀ a, a < 6 → ∀ b, b < 6 → a ≠ b → (TJx00060 a).2.1 ≠ (TJx00060 b).2.1 := by decide +kernel
theorem tyJx00060_ok : ∀ k, k < 6 → parseFieldDescriptor (TJx00060 k).2.2.1 = some (tyJx00060 k) := by decide +kernel
abbrev cJx00060_init_a7421 : ByteArray := prog_16_method_2_code
def yJx00060_init_a7421 : MethodName := ⟨RJx00060, "<init>", "(Ljava/lang/String;)V"⟩
def RJx8e188 : String := "java/lang/Cloneable"
def TJx8e188 : u_T := fun k => match k with
  | _ => ("", "", "", false)
def tyJx8e188 : Nat → FieldType := fun k => match k with
  | _ => .int
theorem nmJx8e188 : ∀ a, a < 0 → ∀ b, b < 0 → a ≠ b → (TJx8e188 a).2.1 ≠ (TJx8e188 b).2.1 := by decide +kernel
theorem tyJx8e188_ok : ∀ k, k < 0 → parseFieldDescriptor (TJx8e188 k).2.2.1 = some (tyJx8e188 k) := by decide +kernel
def RJxb160c : String := "java/lang/Comparable"
def TJxb160c : u_T := fun k => match k with
  | _ => ("", "", "", false)
def tyJxb160c : Nat → FieldType := fun k => match k with
  | _ => .int
theorem nmJxb160c : ∀ a, a < 0 → ∀ b, b < 0 → a ≠ b → (TJxb160c a).2.1 ≠ (TJxb160c b).2.1 := by decide +kernel
theorem tyJxb160c_ok : ∀ k, k < 0 → parseFieldDescriptor (TJxb160c k).2.2.1 = some (tyJxb160c k) := by decide +kernel
def RJ6 : String := "java/lang/Integer"
def TJ6 : u_T := fun k => match k with
  | _ => ("", "", "", false)
def tyJ6 : Nat → FieldType := fun k => match k with
  | _ => .int
theorem nmJ6 : ∀ a, a < 0 → ∀ b, b < 0 → a ≠ b → (TJ6 a).2.1 ≠ (TJ6 b).2.1 := by decide +kernel
theorem tyJ6_ok : ∀ k, k < 0 → parseFieldDescriptor (TJ6 k).2.2.1 = some (tyJ6 k) := by decide +kernel
abbrev cJ6_bitCount_0f7a4 : ByteArray := prog_23_method_49_code
def yJ6_bitCount_0f7a4 : MethodName := ⟨RJ6, "bitCount", "(I)I"⟩
def RJxab1ab : String := "java/lang/Iterable"
def TJxab1ab : u_T := fun k => match k with
  | _ => ("", "", "", false)
def tyJxab1ab : Nat → FieldType := fun k => match k with
  | _ => .int
theorem nmJxab1ab : ∀ a, a < 0 → ∀ b, b < 0 → a ≠ b → (TJxab1ab a).2.1 ≠ (TJxab1ab b).2.1 := by decide +kernel
theorem tyJxab1ab_ok : ∀ k, k < 0 → parseFieldDescriptor (TJxab1ab k).2.2.1 = some (tyJxab1ab k) := by decide +kernel
def RJxdb0fc : String := "java/lang/Long$LongCache"
def TJxdb0fc : u_T := fun k => match k with
  | _ => ("", "", "", false)
def tyJxdb0fc : Nat → FieldType := fun k => match k with
  | _ => .int
theorem nmJxdb0fc : ∀ a, a < 0 → ∀ b, b < 0 → a ≠ b → (TJxdb0fc a).2.1 ≠ (TJxdb0fc b).2.1 := by decide +kernel
theorem tyJxdb0fc_ok : ∀ k, k < 0 → parseFieldDescriptor (TJxdb0fc k).2.2.1 = some (tyJxdb0fc k) := by decide +kernel
def RJ13 : String := "java/lang/Long"
def TJ13 : u_T := fun k => match k with
  | _ => ("java/lang/Long", "value", "J", true)
def tyJ13 : Nat → FieldType := fun k => match k with
  | _ => .long
theorem nmJ13 : ∀ a, a < 1 → ∀ b, b < 1 → a ≠ b → (TJ13 a).2.1 ≠ (TJ13 b).2.1 := by decide +kernel
theorem tyJ13_ok : ∀ k, k < 1 → parseFieldDescriptor (TJ13 k).2.2.1 = some (tyJ13 k) := by decide +kernel
abbrev cJ13_valueOf_928b6 : ByteArray := prog_25_method_24_code
def yJ13_valueOf_928b6 : MethodName := ⟨RJ13, "valueOf", "(J)Ljava/lang/Long;"⟩
abbrev cJ13_init_e45a9 : ByteArray := prog_25_method_26_code
def yJ13_init_e45a9 : MethodName := ⟨RJ13, "<init>", "(J)V"⟩
abbrev cJ13_longValue_f9912 : ByteArray := prog_25_method_31_code
def yJ13_longValue_f9912 : MethodName := ⟨RJ13, "longValue", "()J"⟩
def RJ9 : String := "java/lang/Math"
def TJ9 : u_T := fun k => match k with
  | _ => ("", "", "", false)
def tyJ9 : Nat → FieldType := fun k => match k with
  | _ => .int
theorem nmJ9 : ∀ a, a < 0 → ∀ b, b < 0 → a ≠ b → (TJ9 a).2.1 ≠ (TJ9 b).2.1 := by decide +kernel
theorem tyJ9_ok : ∀ k, k < 0 → parseFieldDescriptor (TJ9 k).2.2.1 = some (tyJ9 k) := by decide +kernel
abbrev cJ9_abs_067f4 : ByteArray := prog_27_method_61_code
def yJ9_abs_067f4 : MethodName := ⟨RJ9, "abs", "(J)J"⟩
abbrev cJ9_max_7cf53 : ByteArray := prog_27_method_65_code
def yJ9_max_7cf53 : MethodName := ⟨RJ9, "max", "(II)I"⟩
abbrev cJ9_min_7cf53 : ByteArray := prog_27_method_69_code
def yJ9_min_7cf53 : MethodName := ⟨RJ9, "min", "(II)I"⟩
def RJxd2413 : String := "java/lang/Number"
def TJxd2413 : u_T := fun k => match k with
  | _ => ("", "", "", false)
def tyJxd2413 : Nat → FieldType := fun k => match k with
  | _ => .int
theorem nmJxd2413 : ∀ a, a < 0 → ∀ b, b < 0 → a ≠ b → (TJxd2413 a).2.1 ≠ (TJxd2413 b).2.1 := by decide +kernel
theorem tyJxd2413_ok : ∀ k, k < 0 → parseFieldDescriptor (TJxd2413 k).2.2.1 = some (tyJxd2413 k) := by decide +kernel
abbrev cJxd2413_init_da8c8 : ByteArray := prog_28_method_1_code
def yJxd2413_init_da8c8 : MethodName := ⟨RJxd2413, "<init>", "()V"⟩
def RJ0 : String := "java/lang/String"
def TJ0 : u_T := fun k => match k with
  | 0 => ("java/lang/String", "value", "[B", true)
  | _ => ("java/lang/String", "coder", "B", true)
def tyJ0 : Nat → FieldType := fun k => match k with
  | 0 => .array .byte
  | _ => .byte
theorem nmJ0 : ∀ a, a < 2 → ∀ b, b < 2 → a ≠ b → (TJ0 a).2.1 ≠ (TJ0 b).2.1 := by decide +kernel
theorem tyJ0_ok : ∀ k, k < 2 → parseFieldDescriptor (TJ0 k).2.2.1 = some (tyJ0 k) := by decide +kernel
def RJ10 : String := "java/lang/System"
def TJ10 : u_T := fun k => match k with
  | _ => ("", "", "", false)
def tyJ10 : Nat → FieldType := fun k => match k with
  | _ => .int
theorem nmJ10 : ∀ a, a < 0 → ∀ b, b < 0 → a ≠ b → (TJ10 a).2.1 ≠ (TJ10 b).2.1 := by decide +kernel
theorem tyJ10_ok : ∀ k, k < 0 → parseFieldDescriptor (TJ10 k).2.2.1 = some (tyJ10 k) := by decide +kernel
def RJxfd54e : String := "java/lang/constant/Constable"
def TJxfd54e : u_T := fun k => match k with
  | _ => ("", "", "", false)
def tyJxfd54e : Nat → FieldType := fun k => match k with
  | _ => .int
theorem nmJxfd54e : ∀ a, a < 0 → ∀ b, b < 0 → a ≠ b → (TJxfd54e a).2.1 ≠ (TJxfd54e b).2.1 := by decide +kernel
theorem tyJxfd54e_ok : ∀ k, k < 0 → parseFieldDescriptor (TJxfd54e k).2.2.1 = some (tyJxfd54e k) := by decide +kernel
def RJx3cf43 : String := "java/lang/constant/ConstantDesc"
def TJx3cf43 : u_T := fun k => match k with
  | _ => ("", "", "", false)
def tyJx3cf43 : Nat → FieldType := fun k => match k with
  | _ => .int
theorem nmJx3cf43 : ∀ a, a < 0 → ∀ b, b < 0 → a ≠ b → (TJx3cf43 a).2.1 ≠ (TJx3cf43 b).2.1 := by decide +kernel
theorem tyJx3cf43_ok : ∀ k, k < 0 → parseFieldDescriptor (TJx3cf43 k).2.2.1 = some (tyJx3cf43 k) := by decide +kernel
def RJxa1e45 : String := "java/util/AbstractCollection"
def TJxa1e45 : u_T := fun k => match k with
  | _ => ("", "", "", false)
def tyJxa1e45 : Nat → FieldType := fun k => match k with
  | _ => .int
theorem nmJxa1e45 : ∀ a, a < 0 → ∀ b, b < 0 → a ≠ b → (TJxa1e45 a).2.1 ≠ (TJxa1e45 b).2.1 := by decide +kernel
theorem tyJxa1e45_ok : ∀ k, k < 0 → parseFieldDescriptor (TJxa1e45 k).2.2.1 = some (tyJxa1e45 k) := by decide +kernel
abbrev cJxa1e45_init_da8c8 : ByteArray := prog_36_method_1_code
def yJxa1e45_init_da8c8 : MethodName := ⟨RJxa1e45, "<init>", "()V"⟩
def RJxc12de : String := "java/util/AbstractList"
def TJxc12de : u_T := fun k => match k with
  | _ => ("", "", "", false)
def tyJxc12de : Nat → FieldType := fun k => match k with
  | _ => .int
theorem nmJxc12de : ∀ a, a < 0 → ∀ b, b < 0 → a ≠ b → (TJxc12de a).2.1 ≠ (TJxc12de b).2.1 := by decide +kernel
theorem tyJxc12de_ok : ∀ k, k < 0 → parseFieldDescriptor (TJxc12de k).2.2.1 = some (tyJxc12de k) := by decide +kernel
abbrev cJxc12de_init_da8c8 : ByteArray := prog_37_method_1_code
def yJxc12de_init_da8c8 : MethodName := ⟨RJxc12de, "<init>", "()V"⟩
def RJx4a65c : String := "java/util/ArrayList"
def TJx4a65c : u_T := fun k => match k with
  | 0 => ("java/util/AbstractList", "modCount", "I", false)
  | 1 => ("java/util/ArrayList", "elementData", "[Ljava/lang/Object;", false)
  | _ => ("java/util/ArrayList", "size", "I", false)
def tyJx4a65c : Nat → FieldType := fun k => match k with
  | 0 => .int
  | 1 => .array (.object "java/lang/Object")
  | _ => .int
theorem nmJx4a65c : ∀ a, a < 3 → ∀ b, b < 3 → a ≠ b → (TJx4a65c a).2.1 ≠ (TJx4a65c b).2.1 := by decide +kernel
theorem tyJx4a65c_ok : ∀ k, k < 3 → parseFieldDescriptor (TJx4a65c k).2.2.1 = some (tyJx4a65c k) := by decide +kernel
abbrev cJx4a65c_init_da8c8 : ByteArray := prog_38_method_2_code
def yJx4a65c_init_da8c8 : MethodName := ⟨RJx4a65c, "<init>", "()V"⟩
abbrev cJx4a65c_grow_92f84 : ByteArray := prog_38_method_6_code
def yJx4a65c_grow_92f84 : MethodName := ⟨RJx4a65c, "grow", "(I)[Ljava/lang/Object;"⟩
abbrev cJx4a65c_grow_d5877 : ByteArray := prog_38_method_7_code
def yJx4a65c_grow_d5877 : MethodName := ⟨RJx4a65c, "grow", "()[Ljava/lang/Object;"⟩
abbrev cJx4a65c_size_8abf5 : ByteArray := prog_38_method_8_code
def yJx4a65c_size_8abf5 : MethodName := ⟨RJx4a65c, "size", "()I"⟩
abbrev cJx4a65c_elementData_915e3 : ByteArray := prog_38_method_18_code
def yJx4a65c_elementData_915e3 : MethodName := ⟨RJx4a65c, "elementData", "(I)Ljava/lang/Object;"⟩
abbrev cJx4a65c_get_915e3 : ByteArray := prog_38_method_20_code
def yJx4a65c_get_915e3 : MethodName := ⟨RJx4a65c, "get", "(I)Ljava/lang/Object;"⟩
abbrev cJx4a65c_add_72be8 : ByteArray := prog_38_method_24_code
def yJx4a65c_add_72be8 : MethodName := ⟨RJx4a65c, "add", "(Ljava/lang/Object;[Ljava/lang/Object;I)V"⟩
abbrev cJx4a65c_add_9ea2d : ByteArray := prog_38_method_25_code
def yJx4a65c_add_9ea2d : MethodName := ⟨RJx4a65c, "add", "(Ljava/lang/Object;)Z"⟩
def RJ7 : String := "java/util/Arrays"
def TJ7 : u_T := fun k => match k with
  | _ => ("", "", "", false)
def tyJ7 : Nat → FieldType := fun k => match k with
  | _ => .int
theorem nmJ7 : ∀ a, a < 0 → ∀ b, b < 0 → a ≠ b → (TJ7 a).2.1 ≠ (TJ7 b).2.1 := by decide +kernel
theorem tyJ7_ok : ∀ k, k < 0 → parseFieldDescriptor (TJ7 k).2.2.1 = some (tyJ7 k) := by decide +kernel
abbrev cJ7_fill_53178 : ByteArray := prog_39_method_103_code
def yJ7_fill_53178 : MethodName := ⟨RJ7, "fill", "([II)V"⟩
abbrev cJ7_copyOf_1904c : ByteArray := prog_39_method_119_code
def yJ7_copyOf_1904c : MethodName := ⟨RJ7, "copyOf", "([Ljava/lang/Object;I)[Ljava/lang/Object;"⟩
abbrev cJ7_copyOf_6403c : ByteArray := prog_39_method_120_code
def yJ7_copyOf_6403c : MethodName := ⟨RJ7, "copyOf", "([Ljava/lang/Object;ILjava/lang/Class;)[Ljava/lang/Object;"⟩
def RJx5ef63 : String := "java/util/Collection"
def TJx5ef63 : u_T := fun k => match k with
  | _ => ("", "", "", false)
def tyJx5ef63 : Nat → FieldType := fun k => match k with
  | _ => .int
theorem nmJx5ef63 : ∀ a, a < 0 → ∀ b, b < 0 → a ≠ b → (TJx5ef63 a).2.1 ≠ (TJx5ef63 b).2.1 := by decide +kernel
theorem tyJx5ef63_ok : ∀ k, k < 0 → parseFieldDescriptor (TJx5ef63 k).2.2.1 = some (tyJx5ef63 k) := by decide +kernel
def RJxbd725 : String := "java/util/List"
def TJxbd725 : u_T := fun k => match k with
  | _ => ("", "", "", false)
def tyJxbd725 : Nat → FieldType := fun k => match k with
  | _ => .int
theorem nmJxbd725 : ∀ a, a < 0 → ∀ b, b < 0 → a ≠ b → (TJxbd725 a).2.1 ≠ (TJxbd725 b).2.1 := by decide +kernel
theorem tyJxbd725_ok : ∀ k, k < 0 → parseFieldDescriptor (TJxbd725 k).2.2.1 = some (tyJxbd725 k) := by decide +kernel
def RJ15 : String := "java/util/Objects"
def TJ15 : u_T := fun k => match k with
  | _ => ("", "", "", false)
def tyJ15 : Nat → FieldType := fun k => match k with
  | _ => .int
theorem nmJ15 : ∀ a, a < 0 → ∀ b, b < 0 → a ≠ b → (TJ15 a).2.1 ≠ (TJ15 b).2.1 := by decide +kernel
theorem tyJ15_ok : ∀ k, k < 0 → parseFieldDescriptor (TJ15 k).2.2.1 = some (tyJ15 k) := by decide +kernel
abbrev cJ15_checkIndex_7cf53 : ByteArray := prog_43_method_17_code
def yJ15_checkIndex_7cf53 : MethodName := ⟨RJ15, "checkIndex", "(II)I"⟩
def RJxf0a74 : String := "java/util/RandomAccess"
def TJxf0a74 : u_T := fun k => match k with
  | _ => ("", "", "", false)
def tyJxf0a74 : Nat → FieldType := fun k => match k with
  | _ => .int
theorem nmJxf0a74 : ∀ a, a < 0 → ∀ b, b < 0 → a ≠ b → (TJxf0a74 a).2.1 ≠ (TJxf0a74 b).2.1 := by decide +kernel
theorem tyJxf0a74_ok : ∀ k, k < 0 → parseFieldDescriptor (TJxf0a74 k).2.2.1 = some (tyJxf0a74 k) := by decide +kernel
def RJxa66e6 : String := "java/util/SequencedCollection"
def TJxa66e6 : u_T := fun k => match k with
  | _ => ("", "", "", false)
def tyJxa66e6 : Nat → FieldType := fun k => match k with
  | _ => .int
theorem nmJxa66e6 : ∀ a, a < 0 → ∀ b, b < 0 → a ≠ b → (TJxa66e6 a).2.1 ≠ (TJxa66e6 b).2.1 := by decide +kernel
theorem tyJxa66e6_ok : ∀ k, k < 0 → parseFieldDescriptor (TJxa66e6 k).2.2.1 = some (tyJxa66e6 k) := by decide +kernel
def RJ8 : String := "jdk/internal/util/ArraysSupport"
def TJ8 : u_T := fun k => match k with
  | _ => ("", "", "", false)
def tyJ8 : Nat → FieldType := fun k => match k with
  | _ => .int
theorem nmJ8 : ∀ a, a < 0 → ∀ b, b < 0 → a ≠ b → (TJ8 a).2.1 ≠ (TJ8 b).2.1 := by decide +kernel
theorem tyJ8_ok : ∀ k, k < 0 → parseFieldDescriptor (TJ8 k).2.2.1 = some (tyJ8 k) := by decide +kernel
abbrev cJ8_newLength_cabcc : ByteArray := prog_46_method_27_code
def yJ8_newLength_cabcc : MethodName := ⟨RJ8, "newLength", "(III)I"⟩
abbrev cJ8_hugeLength_7cf53 : ByteArray := prog_46_method_28_code
def yJ8_hugeLength_7cf53 : MethodName := ⟨RJ8, "hugeLength", "(II)I"⟩
def RJ3 : String := "jdk/internal/util/Preconditions"
def TJ3 : u_T := fun k => match k with
  | _ => ("", "", "", false)
def tyJ3 : Nat → FieldType := fun k => match k with
  | _ => .int
theorem nmJ3 : ∀ a, a < 0 → ∀ b, b < 0 → a ≠ b → (TJ3 a).2.1 ≠ (TJ3 b).2.1 := by decide +kernel
theorem tyJ3_ok : ∀ k, k < 0 → parseFieldDescriptor (TJ3 k).2.2.1 = some (tyJ3 k) := by decide +kernel
abbrev cJ3_checkIndex_8e157 : ByteArray := prog_47_method_11_code
def yJ3_checkIndex_8e157 : MethodName := ⟨RJ3, "checkIndex", "(IILjava/util/function/BiFunction;)I"⟩
def RL : String := "ChipfoldLaw"
abbrev cL_vertex : ByteArray := method_3_code
def yL_vertex : MethodName := ⟨RL, "vertex", "(LChipfold;[J)I"⟩
abbrev cL_edges : ByteArray := method_4_code
def yL_edges : MethodName := ⟨RL, "edges", "(LChipfold;III[J)I"⟩
abbrev cL_setSink : ByteArray := method_5_code
def yL_setSink : MethodName := ⟨RL, "setSink", "(LChipfold;I[J)I"⟩
abbrev cL_degree : ByteArray := method_6_code
def yL_degree : MethodName := ⟨RL, "degree", "(LChipfold;I[J)I"⟩
abbrev cL_put : ByteArray := method_7_code
def yL_put : MethodName := ⟨RL, "put", "(LChipfold;II[J)I"⟩
abbrev cL_chips : ByteArray := method_8_code
def yL_chips : MethodName := ⟨RL, "chips", "(LChipfold;I[J)I"⟩
abbrev cL_topple : ByteArray := method_9_code
def yL_topple : MethodName := ⟨RL, "topple", "(LChipfold;I[J)I"⟩
abbrev cL_settle : ByteArray := method_10_code
def yL_settle : MethodName := ⟨RL, "settle", "(LChipfold;[J)I"⟩
abbrev cL_waves : ByteArray := method_11_code
def yL_waves : MethodName := ⟨RL, "waves", "(LChipfold;[J)I"⟩
abbrev cL_count : ByteArray := method_12_code
def yL_count : MethodName := ⟨RL, "count", "(LChipfold;I[J)I"⟩
abbrev cL_isAgain : ByteArray := method_13_code
def yL_isAgain : MethodName := ⟨RL, "isAgain", "(LChipfold;[J)I"⟩
abbrev cL_burns : ByteArray := method_14_code
def yL_burns : MethodName := ⟨RL, "burns", "(LChipfold;I[J)I"⟩
abbrev cL_unit : ByteArray := method_15_code
def yL_unit : MethodName := ⟨RL, "unit", "(LChipfold;I[J)I"⟩
abbrev cL_square : ByteArray := method_16_code
def yL_square : MethodName := ⟨RL, "square", "(LChipfold;[J)I"⟩
abbrev cL_factors : ByteArray := method_17_code
def yL_factors : MethodName := ⟨RL, "factors", "(LChipfold;[J)I"⟩
abbrev cL_factorAt : ByteArray := method_18_code
def yL_factorAt : MethodName := ⟨RL, "factorAt", "(LChipfold;I[J)I"⟩
abbrev cL_order : ByteArray := method_19_code
def yL_order : MethodName := ⟨RL, "order", "(LChipfold;[J)I"⟩
abbrev cL_walk : ByteArray := method_20_code
def yL_walk : MethodName := ⟨RL, "walk", "(LChipfold;I[J)I"⟩
abbrev cL_rotor : ByteArray := method_21_code
def yL_rotor : MethodName := ⟨RL, "rotor", "(LChipfold;I[J)I"⟩
abbrev cL_visits : ByteArray := method_22_code
def yL_visits : MethodName := ⟨RL, "visits", "(LChipfold;I[J)I"⟩
abbrev cL_areTree : ByteArray := method_23_code
def yL_areTree : MethodName := ⟨RL, "areTree", "(LChipfold;[J)I"⟩
abbrev cL_setDebt : ByteArray := method_24_code
def yL_setDebt : MethodName := ⟨RL, "setDebt", "(LChipfold;II[J)I"⟩
abbrev cL_deal : ByteArray := method_25_code
def yL_deal : MethodName := ⟨RL, "deal", "(LChipfold;IZ[J)I"⟩
abbrev cL_debt : ByteArray := method_26_code
def yL_debt : MethodName := ⟨RL, "debt", "(LChipfold;I[J)I"⟩
abbrev cL_reduced : ByteArray := method_27_code
def yL_reduced : MethodName := ⟨RL, "reduced", "(LChipfold;I[J)I"⟩
abbrev cL_canPay : ByteArray := method_28_code
def yL_canPay : MethodName := ⟨RL, "canPay", "(LChipfold;[J)I"⟩
abbrev cL_rank : ByteArray := method_29_code
def yL_rank : MethodName := ⟨RL, "rank", "(LChipfold;[J)I"⟩
abbrev cL_picture : ByteArray := method_30_code
def yL_picture : MethodName := ⟨RL, "picture", "(LChipfold;II[J)I"⟩
abbrev cL_pixel : ByteArray := method_31_code
def yL_pixel : MethodName := ⟨RL, "pixel", "(LChipfold;I[J)I"⟩
abbrev cL_settledShare : ByteArray := method_32_code
def yL_settledShare : MethodName := ⟨RL, "settledShare", "(LChipfold;[D)I"⟩
abbrev cL_meanChips : ByteArray := method_33_code
def yL_meanChips : MethodName := ⟨RL, "meanChips", "(LChipfold;[D)I"⟩
abbrev cL_law : ByteArray := code
def yL_law : MethodName := ⟨RL, "law", "([I)Z"⟩
abbrev vwCl : List vw_C := [(RJ0, TJ0, 2), (RJ13, TJ13, 1), (RJx00060, TJx00060, 6), (RJx4a65c, TJx4a65c, 3), (RX0, TX0, 7), (RX1, TX1, 2), (RX2, TX2, 4), (RX3, TX3, 4), (RX4, TX4, 3), (RX5, TX5, 1), (RX6, TX6, 4), (RX7, TX7, 3), (RX8, TX8, 1), (RX9, TX9, 1), (RX10, TX10, 11), (RX11, TX11, 12)]
