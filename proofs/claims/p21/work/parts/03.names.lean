def RX0 : String := "Knitstead$Balls"
def TX0 : u_T := fun k => match k with
  | 0 => ("Knitstead$Balls", "yarn", "[I", true)
  | 1 => ("Knitstead$Balls", "count", "I", false)
  | _ => ("Knitstead$Balls", "joined", "I", false)
def tyX0 : Nat → FieldType := fun k => match k with
  | 0 => .array .int
  | 1 => .int
  | _ => .int
abbrev wsX00 : List Cond := u_ws RX0 TX0 3
theorem nmX0 : ∀ a, a < 3 → ∀ b, b < 3 → a ≠ b → (TX0 a).2.1 ≠ (TX0 b).2.1 := by decide +kernel
theorem tyX0_ok : ∀ k, k < 3 → parseFieldDescriptor (TX0 k).2.2.1 = some (tyX0 k) := by decide +kernel
abbrev cX0_init : ByteArray := prog_2_method_1_code
def yX0_init : MethodName := ⟨RX0, "<init>", "()V"⟩
abbrev cX0_has : ByteArray := prog_2_method_2_code
def yX0_has : MethodName := ⟨RX0, "has", "(I)Z"⟩
abbrev cX0_add : ByteArray := prog_2_method_3_code
def yX0_add : MethodName := ⟨RX0, "add", "(I)I"⟩
abbrev cX0_of : ByteArray := prog_2_method_4_code
def yX0_of : MethodName := ⟨RX0, "of", "(I)I"⟩
abbrev cX0_set : ByteArray := prog_2_method_5_code
def yX0_set : MethodName := ⟨RX0, "set", "(II)V"⟩
abbrev cX0_ofJoined : ByteArray := prog_2_method_6_code
def yX0_ofJoined : MethodName := ⟨RX0, "ofJoined", "()I"⟩
abbrev cX0_spend : ByteArray := prog_2_method_7_code
def yX0_spend : MethodName := ⟨RX0, "spend", "(I)V"⟩
abbrev cX0_ofAll : ByteArray := prog_2_method_8_code
def yX0_ofAll : MethodName := ⟨RX0, "ofAll", "()I"⟩
def RX1 : String := "Knitstead$History"
def TX1 : u_T := fun k => match k with
  | 0 => ("Knitstead$History", "works", "[LKnitstead$Work;", true)
  | 1 => ("Knitstead$History", "ball", "[I", true)
  | 2 => ("Knitstead$History", "yarn", "[I", true)
  | 3 => ("Knitstead$History", "next", "I", false)
  | _ => ("Knitstead$History", "count", "I", false)
def tyX1 : Nat → FieldType := fun k => match k with
  | 0 => .array (.object "Knitstead$Work")
  | 1 => .array .int
  | 2 => .array .int
  | 3 => .int
  | _ => .int
abbrev wsX10 : List Cond := u_ws RX1 TX1 5
theorem nmX1 : ∀ a, a < 5 → ∀ b, b < 5 → a ≠ b → (TX1 a).2.1 ≠ (TX1 b).2.1 := by decide +kernel
theorem tyX1_ok : ∀ k, k < 5 → parseFieldDescriptor (TX1 k).2.2.1 = some (tyX1 k) := by decide +kernel
abbrev cX1_init : ByteArray := prog_3_method_1_code
def yX1_init : MethodName := ⟨RX1, "<init>", "()V"⟩
abbrev cX1_isSlot : ByteArray := prog_3_method_2_code
def yX1_isSlot : MethodName := ⟨RX1, "isSlot", "(I)Z"⟩
abbrev cX1_keep : ByteArray := prog_3_method_3_code
def yX1_keep : MethodName := ⟨RX1, "keep", "(LKnitstead$Work;LKnitstead$Balls;)V"⟩
abbrev cX1_bringBack : ByteArray := prog_3_method_4_code
def yX1_bringBack : MethodName := ⟨RX1, "bringBack", "(LKnitstead$Work;LKnitstead$Balls;)V"⟩
def RX2 : String := "Knitstead$Needle"
def TX2 : u_T := fun k => match k with
  | 0 => ("Knitstead$Needle", "row", "[I", true)
  | _ => ("Knitstead$Needle", "count", "I", false)
def tyX2 : Nat → FieldType := fun k => match k with
  | 0 => .array .int
  | _ => .int
abbrev wsX20 : List Cond := u_ws RX2 TX2 2
theorem nmX2 : ∀ a, a < 2 → ∀ b, b < 2 → a ≠ b → (TX2 a).2.1 ≠ (TX2 b).2.1 := by decide +kernel
theorem tyX2_ok : ∀ k, k < 2 → parseFieldDescriptor (TX2 k).2.2.1 = some (tyX2 k) := by decide +kernel
abbrev cX2_init : ByteArray := prog_4_method_1_code
def yX2_init : MethodName := ⟨RX2, "<init>", "()V"⟩
abbrev cX2_at : ByteArray := prog_4_method_2_code
def yX2_at : MethodName := ⟨RX2, "at", "(I)I"⟩
abbrev cX2_replace : ByteArray := prog_4_method_3_code
def yX2_replace : MethodName := ⟨RX2, "replace", "(II)V"⟩
abbrev cX2_holds : ByteArray := prog_4_method_4_code
def yX2_holds : MethodName := ⟨RX2, "holds", "(I)Z"⟩
abbrev cX2_put : ByteArray := prog_4_method_5_code
def yX2_put : MethodName := ⟨RX2, "put", "(I)V"⟩
abbrev cX2_takeAt : ByteArray := prog_4_method_6_code
def yX2_takeAt : MethodName := ⟨RX2, "takeAt", "(I)I"⟩
abbrev cX2_moveTipBehind : ByteArray := prog_4_method_7_code
def yX2_moveTipBehind : MethodName := ⟨RX2, "moveTipBehind", "(I)V"⟩
abbrev cX2_swapWith : ByteArray := prog_4_method_8_code
def yX2_swapWith : MethodName := ⟨RX2, "swapWith", "(LKnitstead$Needle;)V"⟩
abbrev cX2_copyFrom : ByteArray := prog_4_method_9_code
def yX2_copyFrom : MethodName := ⟨RX2, "copyFrom", "(LKnitstead$Needle;)V"⟩
def RX3 : String := "Knitstead$Table"
def TX3 : u_T := fun k => match k with
  | 0 => ("Knitstead$Table", "facts", "I", true)
  | 1 => ("Knitstead$Table", "mostRows", "I", true)
  | _ => ("Knitstead$Table", "cells", "[I", false)
def tyX3 : Nat → FieldType := fun k => match k with
  | 0 => .int
  | 1 => .int
  | _ => .array .int
abbrev wsX30 : List Cond := u_ws RX3 TX3 3
theorem nmX3 : ∀ a, a < 3 → ∀ b, b < 3 → a ≠ b → (TX3 a).2.1 ≠ (TX3 b).2.1 := by decide +kernel
theorem tyX3_ok : ∀ k, k < 3 → parseFieldDescriptor (TX3 k).2.2.1 = some (tyX3 k) := by decide +kernel
abbrev cX3_init : ByteArray := prog_5_method_1_code
def yX3_init : MethodName := ⟨RX3, "<init>", "(III)V"⟩
abbrev cX3_cellOf : ByteArray := prog_5_method_2_code
def yX3_cellOf : MethodName := ⟨RX3, "cellOf", "(II)I"⟩
abbrev cX3_get : ByteArray := prog_5_method_3_code
def yX3_get : MethodName := ⟨RX3, "get", "(II)I"⟩
abbrev cX3_set : ByteArray := prog_5_method_4_code
def yX3_set : MethodName := ⟨RX3, "set", "(III)V"⟩
abbrev cX3_growTo : ByteArray := prog_5_method_5_code
def yX3_growTo : MethodName := ⟨RX3, "growTo", "(I)V"⟩
abbrev cX3_copyFrom : ByteArray := prog_5_method_6_code
def yX3_copyFrom : MethodName := ⟨RX3, "copyFrom", "(LKnitstead$Table;)V"⟩
def RX4 : String := "Knitstead$Trial"
def TX4 : u_T := fun k => match k with
  | 0 => ("Knitstead$Trial", "onLeft", "I", false)
  | 1 => ("Knitstead$Trial", "onBoth", "I", false)
  | 2 => ("Knitstead$Trial", "yarn", "I", false)
  | 3 => ("Knitstead$Trial", "spent", "I", false)
  | _ => ("Knitstead$Trial", "done", "I", false)
def tyX4 : Nat → FieldType := fun k => match k with
  | 0 => .int
  | 1 => .int
  | 2 => .int
  | 3 => .int
  | _ => .int
abbrev wsX40 : List Cond := u_ws RX4 TX4 5
theorem nmX4 : ∀ a, a < 5 → ∀ b, b < 5 → a ≠ b → (TX4 a).2.1 ≠ (TX4 b).2.1 := by decide +kernel
theorem tyX4_ok : ∀ k, k < 5 → parseFieldDescriptor (TX4 k).2.2.1 = some (tyX4 k) := by decide +kernel
abbrev cX4_init : ByteArray := prog_6_method_1_code
def yX4_init : MethodName := ⟨RX4, "<init>", "()V"⟩
abbrev cX4_start : ByteArray := prog_6_method_2_code
def yX4_start : MethodName := ⟨RX4, "start", "(III)V"⟩
abbrev cX4_takesStep : ByteArray := prog_6_method_3_code
def yX4_takesStep : MethodName := ⟨RX4, "takesStep", "(I)Z"⟩
def RX5 : String := "Knitstead$Work"
def TX5 : u_T := fun k => match k with
  | 0 => ("Knitstead$Work", "leftNeedle", "LKnitstead$Needle;", true)
  | 1 => ("Knitstead$Work", "rightNeedle", "LKnitstead$Needle;", true)
  | 2 => ("Knitstead$Work", "runs", "LKnitstead$Table;", true)
  | 3 => ("Knitstead$Work", "runCount", "I", false)
  | 4 => ("Knitstead$Work", "made", "I", false)
  | 5 => ("Knitstead$Work", "row", "I", false)
  | 6 => ("Knitstead$Work", "holes", "I", false)
  | 7 => ("Knitstead$Work", "cables", "I", false)
  | 8 => ("Knitstead$Work", "gaps", "I", false)
  | _ => ("Knitstead$Work", "bound", "I", false)
def tyX5 : Nat → FieldType := fun k => match k with
  | 0 => .object "Knitstead$Needle"
  | 1 => .object "Knitstead$Needle"
  | 2 => .object "Knitstead$Table"
  | 3 => .int
  | 4 => .int
  | 5 => .int
  | 6 => .int
  | 7 => .int
  | 8 => .int
  | _ => .int
abbrev wsX50 : List Cond := u_ws RX5 TX5 10
theorem nmX5 : ∀ a, a < 10 → ∀ b, b < 10 → a ≠ b → (TX5 a).2.1 ≠ (TX5 b).2.1 := by decide +kernel
theorem tyX5_ok : ∀ k, k < 10 → parseFieldDescriptor (TX5 k).2.2.1 = some (tyX5 k) := by decide +kernel
abbrev cX5_init : ByteArray := prog_7_method_1_code
def yX5_init : MethodName := ⟨RX5, "<init>", "()V"⟩
abbrev cX5_onBoth : ByteArray := prog_7_method_2_code
def yX5_onBoth : MethodName := ⟨RX5, "onBoth", "()I"⟩
abbrev cX5_openRun : ByteArray := prog_7_method_3_code
def yX5_openRun : MethodName := ⟨RX5, "openRun", "(II)I"⟩
abbrev cX5_isOpen : ByteArray := prog_7_method_4_code
def yX5_isOpen : MethodName := ⟨RX5, "isOpen", "(I)Z"⟩
abbrev cX5_openRuns : ByteArray := prog_7_method_5_code
def yX5_openRuns : MethodName := ⟨RX5, "openRuns", "()I"⟩
abbrev cX5_hasInOpenRun : ByteArray := prog_7_method_6_code
def yX5_hasInOpenRun : MethodName := ⟨RX5, "hasInOpenRun", "(I)Z"⟩
abbrev cX5_letRunsFall : ByteArray := prog_7_method_7_code
def yX5_letRunsFall : MethodName := ⟨RX5, "letRunsFall", "()V"⟩
abbrev cX5_copyFrom : ByteArray := prog_7_method_8_code
def yX5_copyFrom : MethodName := ⟨RX5, "copyFrom", "(LKnitstead$Work;)V"⟩
def RX6 : String := "Knitstead"
def TX6 : u_T := fun k => match k with
  | 0 => ("Knitstead", "balls", "LKnitstead$Balls;", true)
  | 1 => ("Knitstead", "now", "LKnitstead$Work;", true)
  | 2 => ("Knitstead", "loops", "LKnitstead$Table;", true)
  | 3 => ("Knitstead", "patterns", "LKnitstead$Table;", true)
  | 4 => ("Knitstead", "patternDigits", "LKnitstead$Table;", true)
  | 5 => ("Knitstead", "history", "LKnitstead$History;", true)
  | 6 => ("Knitstead", "trial", "LKnitstead$Trial;", true)
  | _ => ("Knitstead", "patternCount", "I", false)
def tyX6 : Nat → FieldType := fun k => match k with
  | 0 => .object "Knitstead$Balls"
  | 1 => .object "Knitstead$Work"
  | 2 => .object "Knitstead$Table"
  | 3 => .object "Knitstead$Table"
  | 4 => .object "Knitstead$Table"
  | 5 => .object "Knitstead$History"
  | 6 => .object "Knitstead$Trial"
  | _ => .int
abbrev wsX60 : List Cond := u_ws RX6 TX6 8
theorem nmX6 : ∀ a, a < 8 → ∀ b, b < 8 → a ≠ b → (TX6 a).2.1 ≠ (TX6 b).2.1 := by decide +kernel
theorem tyX6_ok : ∀ k, k < 8 → parseFieldDescriptor (TX6 k).2.2.1 = some (tyX6 k) := by decide +kernel
abbrev cX6_init : ByteArray := prog_1_method_1_code
def yX6_init : MethodName := ⟨RX6, "<init>", "()V"⟩
abbrev cX6_buy : ByteArray := prog_1_method_2_code
def yX6_buy : MethodName := ⟨RX6, "buy", "(I)I"⟩
abbrev cX6_join : ByteArray := prog_1_method_3_code
def yX6_join : MethodName := ⟨RX6, "join", "(I)I"⟩
abbrev cX6_cast : ByteArray := prog_1_method_4_code
def yX6_cast : MethodName := ⟨RX6, "cast", "(I)I"⟩
abbrev cX6_work : ByteArray := prog_1_method_5_code
def yX6_work : MethodName := ⟨RX6, "work", "(Z)I"⟩
abbrev cX6_over : ByteArray := prog_1_method_6_code
def yX6_over : MethodName := ⟨RX6, "over", "()I"⟩
abbrev cX6_together : ByteArray := prog_1_method_7_code
def yX6_together : MethodName := ⟨RX6, "together", "(IZ)I"⟩
abbrev cX6_slip : ByteArray := prog_1_method_8_code
def yX6_slip : MethodName := ⟨RX6, "slip", "()I"⟩
abbrev cX6_cross : ByteArray := prog_1_method_9_code
def yX6_cross : MethodName := ⟨RX6, "cross", "(II)I"⟩
abbrev cX6_turn : ByteArray := prog_1_method_10_code
def yX6_turn : MethodName := ⟨RX6, "turn", "()I"⟩
abbrev cX6_bind : ByteArray := prog_1_method_11_code
def yX6_bind : MethodName := ⟨RX6, "bind", "(I)I"⟩
abbrev cX6_drop : ByteArray := prog_1_method_12_code
def yX6_drop : MethodName := ⟨RX6, "drop", "()I"⟩
abbrev cX6_latch : ByteArray := prog_1_method_13_code
def yX6_latch : MethodName := ⟨RX6, "latch", "(I)I"⟩
abbrev cX6_pattern : ByteArray := prog_1_method_14_code
def yX6_pattern : MethodName := ⟨RX6, "pattern", "(I)I"⟩
abbrev cX6_follow : ByteArray := prog_1_method_15_code
def yX6_follow : MethodName := ⟨RX6, "follow", "(I)I"⟩
abbrev cX6_undo : ByteArray := prog_1_method_16_code
def yX6_undo : MethodName := ⟨RX6, "undo", "()I"⟩
abbrev cX6_on : ByteArray := prog_1_method_17_code
def yX6_on : MethodName := ⟨RX6, "on", "(ZI)I"⟩
abbrev cX6_ofLoop : ByteArray := prog_1_method_18_code
def yX6_ofLoop : MethodName := ⟨RX6, "ofLoop", "(II)I"⟩
abbrev cX6_ofRun : ByteArray := prog_1_method_19_code
def yX6_ofRun : MethodName := ⟨RX6, "ofRun", "(II)I"⟩
abbrev cX6_seen : ByteArray := prog_1_method_20_code
def yX6_seen : MethodName := ⟨RX6, "seen", "(Z)Ljava/lang/String;"⟩
abbrev cX6_width : ByteArray := prog_1_method_21_code
def yX6_width : MethodName := ⟨RX6, "width", "(Z)D"⟩
abbrev cX6_many : ByteArray := prog_1_method_22_code
def yX6_many : MethodName := ⟨RX6, "many", "(I)I"⟩
abbrev cX6_left : ByteArray := prog_1_method_23_code
def yX6_left : MethodName := ⟨RX6, "left", "(I)I"⟩
abbrev cX6_ofPattern : ByteArray := prog_1_method_24_code
def yX6_ofPattern : MethodName := ⟨RX6, "ofPattern", "(II)I"⟩
abbrev cX6_would : ByteArray := prog_1_method_25_code
def yX6_would : MethodName := ⟨RX6, "would", "(I)I"⟩
abbrev cX6_needs : ByteArray := prog_1_method_26_code
def yX6_needs : MethodName := ⟨RX6, "needs", "(I)I"⟩
abbrev cX6_best : ByteArray := prog_1_method_27_code
def yX6_best : MethodName := ⟨RX6, "best", "()I"⟩
abbrev cX6_digest : ByteArray := prog_1_method_28_code
def yX6_digest : MethodName := ⟨RX6, "digest", "()J"⟩
abbrev cX6_make : ByteArray := prog_1_method_29_code
def yX6_make : MethodName := ⟨RX6, "make", "(IIII)I"⟩
abbrev cX6_takeWorked : ByteArray := prog_1_method_30_code
def yX6_takeWorked : MethodName := ⟨RX6, "takeWorked", "()I"⟩
abbrev cX6_workNext : ByteArray := prog_1_method_31_code
def yX6_workNext : MethodName := ⟨RX6, "workNext", "(I)I"⟩
abbrev cX6_makeOver : ByteArray := prog_1_method_32_code
def yX6_makeOver : MethodName := ⟨RX6, "makeOver", "()I"⟩
abbrev cX6_takeTogether : ByteArray := prog_1_method_33_code
def yX6_takeTogether : MethodName := ⟨RX6, "takeTogether", "(II)I"⟩
abbrev cX6_slipNext : ByteArray := prog_1_method_34_code
def yX6_slipNext : MethodName := ⟨RX6, "slipNext", "()I"⟩
abbrev cX6_crossNext : ByteArray := prog_1_method_35_code
def yX6_crossNext : MethodName := ⟨RX6, "crossNext", "(II)I"⟩
abbrev cX6_bindSeconds : ByteArray := prog_1_method_36_code
def yX6_bindSeconds : MethodName := ⟨RX6, "bindSeconds", "(I)V"⟩
abbrev cX6_fastenLast : ByteArray := prog_1_method_37_code
def yX6_fastenLast : MethodName := ⟨RX6, "fastenLast", "()V"⟩
abbrev cX6_bindAt : ByteArray := prog_1_method_38_code
def yX6_bindAt : MethodName := ⟨RX6, "bindAt", "(I)V"⟩
abbrev cX6_stepFact : ByteArray := prog_1_method_39_code
def yX6_stepFact : MethodName := ⟨RX6, "stepFact", "([II)I"⟩
abbrev cX6_canDo : ByteArray := prog_1_method_40_code
def yX6_canDo : MethodName := ⟨RX6, "canDo", "(I)Z"⟩
abbrev cX6_fits : ByteArray := prog_1_method_41_code
def yX6_fits : MethodName := ⟨RX6, "fits", "(IIII)Z"⟩
abbrev cX6_doStep : ByteArray := prog_1_method_42_code
def yX6_doStep : MethodName := ⟨RX6, "doStep", "(I)V"⟩
abbrev cX6_hasPattern : ByteArray := prog_1_method_43_code
def yX6_hasPattern : MethodName := ⟨RX6, "hasPattern", "(I)Z"⟩
abbrev cX6_hasZero : ByteArray := prog_1_method_44_code
def yX6_hasZero : MethodName := ⟨RX6, "hasZero", "(I)Z"⟩
abbrev cX6_digitsIn : ByteArray := prog_1_method_45_code
def yX6_digitsIn : MethodName := ⟨RX6, "digitsIn", "(I)I"⟩
abbrev cX6_tellPattern : ByteArray := prog_1_method_46_code
def yX6_tellPattern : MethodName := ⟨RX6, "tellPattern", "(II)V"⟩
abbrev cX6_stepAt : ByteArray := prog_1_method_47_code
def yX6_stepAt : MethodName := ⟨RX6, "stepAt", "(II)I"⟩
abbrev cX6_tryOut : ByteArray := prog_1_method_48_code
def yX6_tryOut : MethodName := ⟨RX6, "tryOut", "(I)V"⟩
abbrev cX6_endsWhole : ByteArray := prog_1_method_49_code
def yX6_endsWhole : MethodName := ⟨RX6, "endsWhole", "(I)Z"⟩
abbrev cX6_bestPattern : ByteArray := prog_1_method_50_code
def yX6_bestPattern : MethodName := ⟨RX6, "bestPattern", "()I"⟩
abbrev cX6_needle : ByteArray := prog_1_method_51_code
def yX6_needle : MethodName := ⟨RX6, "needle", "(Z)LKnitstead$Needle;"⟩
abbrev cX6_loopFact : ByteArray := prog_1_method_52_code
def yX6_loopFact : MethodName := ⟨RX6, "loopFact", "(II)I"⟩
abbrev cX6_whereIs : ByteArray := prog_1_method_53_code
def yX6_whereIs : MethodName := ⟨RX6, "whereIs", "(I)I"⟩
abbrev cX6_isAsMade : ByteArray := prog_1_method_54_code
def yX6_isAsMade : MethodName := ⟨RX6, "isAsMade", "(I)Z"⟩
abbrev cX6_isSmooth : ByteArray := prog_1_method_55_code
def yX6_isSmooth : MethodName := ⟨RX6, "isSmooth", "(I)Z"⟩
abbrev cX6_signOf : ByteArray := prog_1_method_56_code
def yX6_signOf : MethodName := ⟨RX6, "signOf", "(I)C"⟩
abbrev cX6_widthOf : ByteArray := prog_1_method_57_code
def yX6_widthOf : MethodName := ⟨RX6, "widthOf", "(LKnitstead$Needle;)F"⟩
abbrev cX6_number : ByteArray := prog_1_method_58_code
def yX6_number : MethodName := ⟨RX6, "number", "(I)I"⟩
abbrev cX6_mixed : ByteArray := prog_1_method_59_code
def yX6_mixed : MethodName := ⟨RX6, "mixed", "(JJ)J"⟩
abbrev cX6_mixedRow : ByteArray := prog_1_method_60_code
def yX6_mixedRow : MethodName := ⟨RX6, "mixedRow", "(JLKnitstead$Table;II)J"⟩
abbrev cX6_mixedLoops : ByteArray := prog_1_method_61_code
def yX6_mixedLoops : MethodName := ⟨RX6, "mixedLoops", "(JLKnitstead$Needle;)J"⟩
abbrev cX6_mixedPatterns : ByteArray := prog_1_method_62_code
def yX6_mixedPatterns : MethodName := ⟨RX6, "mixedPatterns", "(J)J"⟩
def RX7 : String := "KnitsteadLaw$Out"
def TX7 : u_T := fun k => match k with
  | _ => ("KnitsteadLaw$Out", "n", "J", false)
def tyX7 : Nat → FieldType := fun k => match k with
  | _ => .long
abbrev wsX70 : List Cond := u_ws RX7 TX7 1
theorem nmX7 : ∀ a, a < 1 → ∀ b, b < 1 → a ≠ b → (TX7 a).2.1 ≠ (TX7 b).2.1 := by decide +kernel
theorem tyX7_ok : ∀ k, k < 1 → parseFieldDescriptor (TX7 k).2.2.1 = some (tyX7 k) := by decide +kernel
abbrev cX7_init : ByteArray := prog_9_method_1_code
def yX7_init : MethodName := ⟨RX7, "<init>", "()V"⟩
def RX8 : String := "KnitsteadModel$Loop"
def TX8 : u_T := fun k => match k with
  | 0 => ("KnitsteadModel$Loop", "kind", "I", true)
  | 1 => ("KnitsteadModel$Loop", "ball", "I", true)
  | 2 => ("KnitsteadModel$Loop", "row", "I", true)
  | 3 => ("KnitsteadModel$Loop", "height", "I", true)
  | 4 => ("KnitsteadModel$Loop", "side", "I", true)
  | _ => ("KnitsteadModel$Loop", "worked", "I", true)
def tyX8 : Nat → FieldType := fun k => match k with
  | 0 => .int
  | 1 => .int
  | 2 => .int
  | 3 => .int
  | 4 => .int
  | _ => .int
abbrev wsX80 : List Cond := u_ws RX8 TX8 6
theorem nmX8 : ∀ a, a < 6 → ∀ b, b < 6 → a ≠ b → (TX8 a).2.1 ≠ (TX8 b).2.1 := by decide +kernel
theorem tyX8_ok : ∀ k, k < 6 → parseFieldDescriptor (TX8 k).2.2.1 = some (tyX8 k) := by decide +kernel
abbrev cX8_init : ByteArray := prog_11_method_1_code
def yX8_init : MethodName := ⟨RX8, "<init>", "(IIIIII)V"⟩
abbrev cX8_isSmooth : ByteArray := prog_11_method_2_code
def yX8_isSmooth : MethodName := ⟨RX8, "isSmooth", "(I)Z"⟩
def RX9 : String := "KnitsteadModel$State"
def TX9 : u_T := fun k => match k with
  | 0 => ("KnitsteadModel$State", "left", "Ljava/util/ArrayList;", false)
  | 1 => ("KnitsteadModel$State", "right", "Ljava/util/ArrayList;", false)
  | 2 => ("KnitsteadModel$State", "runs", "Ljava/util/ArrayList;", true)
  | 3 => ("KnitsteadModel$State", "yarn", "[I", true)
  | 4 => ("KnitsteadModel$State", "side", "I", false)
  | 5 => ("KnitsteadModel$State", "row", "I", false)
  | 6 => ("KnitsteadModel$State", "made", "I", false)
  | 7 => ("KnitsteadModel$State", "bound", "I", false)
  | 8 => ("KnitsteadModel$State", "holes", "I", false)
  | 9 => ("KnitsteadModel$State", "cables", "I", false)
  | _ => ("KnitsteadModel$State", "gaps", "I", false)
def tyX9 : Nat → FieldType := fun k => match k with
  | 0 => .object "java/util/ArrayList"
  | 1 => .object "java/util/ArrayList"
  | 2 => .object "java/util/ArrayList"
  | 3 => .array .int
  | 4 => .int
  | 5 => .int
  | 6 => .int
  | 7 => .int
  | 8 => .int
  | 9 => .int
  | _ => .int
abbrev wsX90 : List Cond := u_ws RX9 TX9 11
theorem nmX9 : ∀ a, a < 11 → ∀ b, b < 11 → a ≠ b → (TX9 a).2.1 ≠ (TX9 b).2.1 := by decide +kernel
theorem tyX9_ok : ∀ k, k < 11 → parseFieldDescriptor (TX9 k).2.2.1 = some (tyX9 k) := by decide +kernel
abbrev cX9_init : ByteArray := prog_12_method_1_code
def yX9_init : MethodName := ⟨RX9, "<init>", "()V"⟩
abbrev cX9_copy : ByteArray := prog_12_method_2_code
def yX9_copy : MethodName := ⟨RX9, "copy", "()LKnitsteadModel$State;"⟩
abbrev cX9_all : ByteArray := prog_12_method_3_code
def yX9_all : MethodName := ⟨RX9, "all", "()I"⟩
def RX10 : String := "KnitsteadModel"
def TX10 : u_T := fun k => match k with
  | 0 => ("KnitsteadModel", "thrown", "I", false)
  | 1 => ("KnitsteadModel", "loops", "Ljava/util/ArrayList;", true)
  | 2 => ("KnitsteadModel", "bound", "Ljava/util/ArrayList;", true)
  | 3 => ("KnitsteadModel", "patterns", "Ljava/util/ArrayList;", true)
  | 4 => ("KnitsteadModel", "past", "Ljava/util/ArrayList;", true)
  | 5 => ("KnitsteadModel", "now", "LKnitsteadModel$State;", false)
  | 6 => ("KnitsteadModel", "balls", "I", false)
  | 7 => ("KnitsteadModel", "joined", "I", false)
  | _ => ("KnitsteadModel", "sum", "J", false)
def tyX10 : Nat → FieldType := fun k => match k with
  | 0 => .int
  | 1 => .object "java/util/ArrayList"
  | 2 => .object "java/util/ArrayList"
  | 3 => .object "java/util/ArrayList"
  | 4 => .object "java/util/ArrayList"
  | 5 => .object "KnitsteadModel$State"
  | 6 => .int
  | 7 => .int
  | _ => .long
abbrev wsX100 : List Cond := u_ws RX10 TX10 9
theorem nmX10 : ∀ a, a < 9 → ∀ b, b < 9 → a ≠ b → (TX10 a).2.1 ≠ (TX10 b).2.1 := by decide +kernel
theorem tyX10_ok : ∀ k, k < 9 → parseFieldDescriptor (TX10 k).2.2.1 = some (tyX10 k) := by decide +kernel
abbrev cX10_init : ByteArray := prog_10_method_1_code
def yX10_init : MethodName := ⟨RX10, "<init>", "()V"⟩
abbrev cX10_refuse : ByteArray := prog_10_method_3_code
def yX10_refuse : MethodName := ⟨RX10, "refuse", "(I)I"⟩
abbrev cX10_is : ByteArray := prog_10_method_4_code
def yX10_is : MethodName := ⟨RX10, "is", "(III)Z"⟩
abbrev cX10_pull : ByteArray := prog_10_method_5_code
def yX10_pull : MethodName := ⟨RX10, "pull", "(Ljava/util/ArrayList;)I"⟩
abbrev cX10_yarn : ByteArray := prog_10_method_6_code
def yX10_yarn : MethodName := ⟨RX10, "yarn", "()I"⟩
abbrev cX10_keep : ByteArray := prog_10_method_7_code
def yX10_keep : MethodName := ⟨RX10, "keep", "()V"⟩
abbrev cX10_make : ByteArray := prog_10_method_8_code
def yX10_make : MethodName := ⟨RX10, "make", "(IIII)I"⟩
abbrev cX10_buy : ByteArray := prog_10_method_9_code
def yX10_buy : MethodName := ⟨RX10, "buy", "(I)I"⟩
abbrev cX10_join : ByteArray := prog_10_method_10_code
def yX10_join : MethodName := ⟨RX10, "join", "(I)I"⟩
abbrev cX10_cast : ByteArray := prog_10_method_11_code
def yX10_cast : MethodName := ⟨RX10, "cast", "(I)I"⟩
abbrev cX10_workNow : ByteArray := prog_10_method_12_code
def yX10_workNow : MethodName := ⟨RX10, "workNow", "(Z)I"⟩
abbrev cX10_work : ByteArray := prog_10_method_13_code
def yX10_work : MethodName := ⟨RX10, "work", "(Z)I"⟩
abbrev cX10_overNow : ByteArray := prog_10_method_14_code
def yX10_overNow : MethodName := ⟨RX10, "overNow", "()I"⟩
abbrev cX10_over : ByteArray := prog_10_method_15_code
def yX10_over : MethodName := ⟨RX10, "over", "()I"⟩
abbrev cX10_togetherNow : ByteArray := prog_10_method_16_code
def yX10_togetherNow : MethodName := ⟨RX10, "togetherNow", "(IZ)I"⟩
abbrev cX10_together : ByteArray := prog_10_method_17_code
def yX10_together : MethodName := ⟨RX10, "together", "(IZ)I"⟩
abbrev cX10_slipNow : ByteArray := prog_10_method_18_code
def yX10_slipNow : MethodName := ⟨RX10, "slipNow", "()I"⟩
abbrev cX10_slip : ByteArray := prog_10_method_19_code
def yX10_slip : MethodName := ⟨RX10, "slip", "()I"⟩
abbrev cX10_crossNow : ByteArray := prog_10_method_20_code
def yX10_crossNow : MethodName := ⟨RX10, "crossNow", "(II)I"⟩
abbrev cX10_cross : ByteArray := prog_10_method_21_code
def yX10_cross : MethodName := ⟨RX10, "cross", "(II)I"⟩
abbrev cX10_turn : ByteArray := prog_10_method_22_code
def yX10_turn : MethodName := ⟨RX10, "turn", "()I"⟩
abbrev cX10_bind : ByteArray := prog_10_method_23_code
def yX10_bind : MethodName := ⟨RX10, "bind", "(I)I"⟩
abbrev cX10_drop : ByteArray := prog_10_method_24_code
def yX10_drop : MethodName := ⟨RX10, "drop", "()I"⟩
abbrev cX10_isRun : ByteArray := prog_10_method_25_code
def yX10_isRun : MethodName := ⟨RX10, "isRun", "(I)Z"⟩
abbrev cX10_latch : ByteArray := prog_10_method_26_code
def yX10_latch : MethodName := ⟨RX10, "latch", "(I)I"⟩
abbrev cX10_pattern : ByteArray := prog_10_method_27_code
def yX10_pattern : MethodName := ⟨RX10, "pattern", "(I)I"⟩
abbrev cX10_isPattern : ByteArray := prog_10_method_28_code
def yX10_isPattern : MethodName := ⟨RX10, "isPattern", "(I)Z"⟩
abbrev cX10_length : ByteArray := prog_10_method_29_code
def yX10_length : MethodName := ⟨RX10, "length", "(I)I"⟩
abbrev cX10_step : ByteArray := prog_10_method_30_code
def yX10_step : MethodName := ⟨RX10, "step", "(II)I"⟩
abbrev cX10_eats : ByteArray := prog_10_method_31_code
def yX10_eats : MethodName := ⟨RX10, "eats", "(I)I"⟩
abbrev cX10_makes : ByteArray := prog_10_method_32_code
def yX10_makes : MethodName := ⟨RX10, "makes", "(I)I"⟩
abbrev cX10_takes : ByteArray := prog_10_method_33_code
def yX10_takes : MethodName := ⟨RX10, "takes", "(I)I"⟩
abbrev cX10_can : ByteArray := prog_10_method_34_code
def yX10_can : MethodName := ⟨RX10, "can", "(IIII)Z"⟩
abbrev cX10_doStep : ByteArray := prog_10_method_35_code
def yX10_doStep : MethodName := ⟨RX10, "doStep", "(I)V"⟩
abbrev cX10_follow : ByteArray := prog_10_method_36_code
def yX10_follow : MethodName := ⟨RX10, "follow", "(I)I"⟩
abbrev cX10_undo : ByteArray := prog_10_method_37_code
def yX10_undo : MethodName := ⟨RX10, "undo", "()I"⟩
abbrev cX10_needle : ByteArray := prog_10_method_38_code
def yX10_needle : MethodName := ⟨RX10, "needle", "(Z)Ljava/util/ArrayList;"⟩
abbrev cX10_on : ByteArray := prog_10_method_39_code
def yX10_on : MethodName := ⟨RX10, "on", "(ZI)I"⟩
abbrev cX10_has : ByteArray := prog_10_method_40_code
def yX10_has : MethodName := ⟨RX10, "has", "(Ljava/util/ArrayList;I)Z"⟩
abbrev cX10_where : ByteArray := prog_10_method_41_code
def yX10_where : MethodName := ⟨RX10, "where", "(I)I"⟩
abbrev cX10_ofLoopNow : ByteArray := prog_10_method_42_code
def yX10_ofLoopNow : MethodName := ⟨RX10, "ofLoopNow", "(II)I"⟩
abbrev cX10_ofLoop : ByteArray := prog_10_method_43_code
def yX10_ofLoop : MethodName := ⟨RX10, "ofLoop", "(II)I"⟩
abbrev cX10_ofRun : ByteArray := prog_10_method_44_code
def yX10_ofRun : MethodName := ⟨RX10, "ofRun", "(II)I"⟩
abbrev cX10_sign : ByteArray := prog_10_method_45_code
def yX10_sign : MethodName := ⟨RX10, "sign", "(LKnitsteadModel$Loop;)C"⟩
abbrev cX10_seen : ByteArray := prog_10_method_46_code
def yX10_seen : MethodName := ⟨RX10, "seen", "(Z)Ljava/lang/String;"⟩
abbrev cX10_widthNow : ByteArray := prog_10_method_47_code
def yX10_widthNow : MethodName := ⟨RX10, "widthNow", "(Z)I"⟩
abbrev cX10_width : ByteArray := prog_10_method_48_code
def yX10_width : MethodName := ⟨RX10, "width", "(Z)D"⟩
abbrev cX10_manyNow : ByteArray := prog_10_method_49_code
def yX10_manyNow : MethodName := ⟨RX10, "manyNow", "(I)I"⟩
abbrev cX10_many : ByteArray := prog_10_method_50_code
def yX10_many : MethodName := ⟨RX10, "many", "(I)I"⟩
abbrev cX10_left : ByteArray := prog_10_method_51_code
def yX10_left : MethodName := ⟨RX10, "left", "(I)I"⟩
abbrev cX10_ofPatternNow : ByteArray := prog_10_method_52_code
def yX10_ofPatternNow : MethodName := ⟨RX10, "ofPatternNow", "(II)I"⟩
abbrev cX10_ofPattern : ByteArray := prog_10_method_53_code
def yX10_ofPattern : MethodName := ⟨RX10, "ofPattern", "(II)I"⟩
abbrev cX10_wouldNow : ByteArray := prog_10_method_54_code
def yX10_wouldNow : MethodName := ⟨RX10, "wouldNow", "(II)I"⟩
abbrev cX10_would : ByteArray := prog_10_method_55_code
def yX10_would : MethodName := ⟨RX10, "would", "(I)I"⟩
abbrev cX10_needs : ByteArray := prog_10_method_56_code
def yX10_needs : MethodName := ⟨RX10, "needs", "(I)I"⟩
abbrev cX10_bestNow : ByteArray := prog_10_method_57_code
def yX10_bestNow : MethodName := ⟨RX10, "bestNow", "()I"⟩
abbrev cX10_best : ByteArray := prog_10_method_58_code
def yX10_best : MethodName := ⟨RX10, "best", "()I"⟩
abbrev cX10_add : ByteArray := prog_10_method_59_code
def yX10_add : MethodName := ⟨RX10, "add", "(I)V"⟩
abbrev cX10_addNeedle : ByteArray := prog_10_method_60_code
def yX10_addNeedle : MethodName := ⟨RX10, "addNeedle", "(Z)V"⟩
abbrev cX10_digest : ByteArray := prog_10_method_61_code
def yX10_digest : MethodName := ⟨RX10, "digest", "()J"⟩
def RJx145de : String := "java/io/Serializable"
def TJx145de : u_T := fun k => match k with
  | _ => ("", "", "", false)
def tyJx145de : Nat → FieldType := fun k => match k with
  | _ => .int
abbrev wsJx145de0 : List Cond := u_ws RJx145de TJx145de 0
theorem nmJx145de : ∀ a, a < 0 → ∀ b, b < 0 → a ≠ b → (TJx145de a).2.1 ≠ (TJx145de b).2.1 := by decide +kernel
theorem tyJx145de_ok : ∀ k, k < 0 → parseFieldDescriptor (TJx145de k).2.2.1 = some (tyJx145de k) := by decide +kernel
def RJ5 : String := "java/lang/AbstractStringBuilder"
def TJ5 : u_T := fun k => match k with
  | _ => ("", "", "", false)
def tyJ5 : Nat → FieldType := fun k => match k with
  | _ => .int
abbrev wsJ50 : List Cond := u_ws RJ5 TJ5 0
theorem nmJ5 : ∀ a, a < 0 → ∀ b, b < 0 → a ≠ b → (TJ5 a).2.1 ≠ (TJ5 b).2.1 := by decide +kernel
theorem tyJ5_ok : ∀ k, k < 0 → parseFieldDescriptor (TJ5 k).2.2.1 = some (tyJ5 k) := by decide +kernel
abbrev cJ5_init_d00df : ByteArray := prog_14_method_2_code
def yJ5_init_d00df : MethodName := ⟨RJ5, "<init>", "(I)V"⟩
abbrev cJ5_length_8abf5 : ByteArray := prog_14_method_6_code
def yJ5_length_8abf5 : MethodName := ⟨RJ5, "length", "()I"⟩
abbrev cJ5_ensureCapacityInternal_d00df : ByteArray := prog_14_method_9_code
def yJ5_ensureCapacityInternal_d00df : MethodName := ⟨RJ5, "ensureCapacityInternal", "(I)V"⟩
abbrev cJ5_newCapacity_0f7a4 : ByteArray := prog_14_method_10_code
def yJ5_newCapacity_0f7a4 : MethodName := ⟨RJ5, "newCapacity", "(I)I"⟩
abbrev cJ5_inflate_da8c8 : ByteArray := prog_14_method_11_code
def yJ5_inflate_da8c8 : MethodName := ⟨RJ5, "inflate", "()V"⟩
abbrev cJ5_append_cf1ce : ByteArray := prog_14_method_22_code
def yJ5_append_cf1ce : MethodName := ⟨RJ5, "append", "(Ljava/lang/String;)Ljava/lang/AbstractStringBuilder;"⟩
abbrev cJ5_appendNull_278bc : ByteArray := prog_14_method_26_code
def yJ5_appendNull_278bc : MethodName := ⟨RJ5, "appendNull", "()Ljava/lang/AbstractStringBuilder;"⟩
abbrev cJ5_append_3fe6f : ByteArray := prog_14_method_31_code
def yJ5_append_3fe6f : MethodName := ⟨RJ5, "append", "(C)Ljava/lang/AbstractStringBuilder;"⟩
abbrev cJ5_append_c97b9 : ByteArray := prog_14_method_32_code
def yJ5_append_c97b9 : MethodName := ⟨RJ5, "append", "(I)Ljava/lang/AbstractStringBuilder;"⟩
abbrev cJ5_getValue_6d5f1 : ByteArray := prog_14_method_64_code
def yJ5_getValue_6d5f1 : MethodName := ⟨RJ5, "getValue", "()[B"⟩
abbrev cJ5_isLatin1_aae02 : ByteArray := prog_14_method_68_code
def yJ5_isLatin1_aae02 : MethodName := ⟨RJ5, "isLatin1", "()Z"⟩
abbrev cJ5_inflateIfNeededFor_a7421 : ByteArray := prog_14_method_71_code
def yJ5_inflateIfNeededFor_a7421 : MethodName := ⟨RJ5, "inflateIfNeededFor", "(Ljava/lang/String;)V"⟩
abbrev cJ5_putStringAt_47b60 : ByteArray := prog_14_method_73_code
def yJ5_putStringAt_47b60 : MethodName := ⟨RJ5, "putStringAt", "(ILjava/lang/String;)V"⟩
def RJx2cfe8 : String := "java/lang/Appendable"
def TJx2cfe8 : u_T := fun k => match k with
  | _ => ("", "", "", false)
def tyJx2cfe8 : Nat → FieldType := fun k => match k with
  | _ => .int
abbrev wsJx2cfe80 : List Cond := u_ws RJx2cfe8 TJx2cfe8 0
theorem nmJx2cfe8 : ∀ a, a < 0 → ∀ b, b < 0 → a ≠ b → (TJx2cfe8 a).2.1 ≠ (TJx2cfe8 b).2.1 := by decide +kernel
theorem tyJx2cfe8_ok : ∀ k, k < 0 → parseFieldDescriptor (TJx2cfe8 k).2.2.1 = some (tyJx2cfe8 k) := by decide +kernel
def RJx9f9b0 : String := "java/lang/CharSequence"
def TJx9f9b0 : u_T := fun k => match k with
  | _ => ("", "", "", false)
def tyJx9f9b0 : Nat → FieldType := fun k => match k with
  | _ => .int
abbrev wsJx9f9b00 : List Cond := u_ws RJx9f9b0 TJx9f9b0 0
theorem nmJx9f9b0 : ∀ a, a < 0 → ∀ b, b < 0 → a ≠ b → (TJx9f9b0 a).2.1 ≠ (TJx9f9b0 b).2.1 := by decide +kernel
theorem tyJx9f9b0_ok : ∀ k, k < 0 → parseFieldDescriptor (TJx9f9b0 k).2.2.1 = some (tyJx9f9b0 k) := by decide +kernel
def RJx8e188 : String := "java/lang/Cloneable"
def TJx8e188 : u_T := fun k => match k with
  | _ => ("", "", "", false)
def tyJx8e188 : Nat → FieldType := fun k => match k with
  | _ => .int
abbrev wsJx8e1880 : List Cond := u_ws RJx8e188 TJx8e188 0
theorem nmJx8e188 : ∀ a, a < 0 → ∀ b, b < 0 → a ≠ b → (TJx8e188 a).2.1 ≠ (TJx8e188 b).2.1 := by decide +kernel
theorem tyJx8e188_ok : ∀ k, k < 0 → parseFieldDescriptor (TJx8e188 k).2.2.1 = some (tyJx8e188 k) := by decide +kernel
def RJxb160c : String := "java/lang/Comparable"
def TJxb160c : u_T := fun k => match k with
  | _ => ("", "", "", false)
def tyJxb160c : Nat → FieldType := fun k => match k with
  | _ => .int
abbrev wsJxb160c0 : List Cond := u_ws RJxb160c TJxb160c 0
theorem nmJxb160c : ∀ a, a < 0 → ∀ b, b < 0 → a ≠ b → (TJxb160c a).2.1 ≠ (TJxb160c b).2.1 := by decide +kernel
theorem tyJxb160c_ok : ∀ k, k < 0 → parseFieldDescriptor (TJxb160c k).2.2.1 = some (tyJxb160c k) := by decide +kernel
def RJxabbfe : String := "java/lang/Integer$IntegerCache"
def TJxabbfe : u_T := fun k => match k with
  | _ => ("", "", "", false)
def tyJxabbfe : Nat → FieldType := fun k => match k with
  | _ => .int
abbrev wsJxabbfe0 : List Cond := u_ws RJxabbfe TJxabbfe 0
theorem nmJxabbfe : ∀ a, a < 0 → ∀ b, b < 0 → a ≠ b → (TJxabbfe a).2.1 ≠ (TJxabbfe b).2.1 := by decide +kernel
theorem tyJxabbfe_ok : ∀ k, k < 0 → parseFieldDescriptor (TJxabbfe k).2.2.1 = some (tyJxabbfe k) := by decide +kernel
def RJ6 : String := "java/lang/Integer"
def TJ6 : u_T := fun k => match k with
  | _ => ("java/lang/Integer", "value", "I", true)
def tyJ6 : Nat → FieldType := fun k => match k with
  | _ => .int
abbrev wsJ60 : List Cond := u_ws RJ6 TJ6 1
theorem nmJ6 : ∀ a, a < 1 → ∀ b, b < 1 → a ≠ b → (TJ6 a).2.1 ≠ (TJ6 b).2.1 := by decide +kernel
theorem tyJ6_ok : ∀ k, k < 1 → parseFieldDescriptor (TJ6 k).2.2.1 = some (tyJ6 k) := by decide +kernel
abbrev cJ6_getChars_ba4f3 : ByteArray := prog_23_method_12_code
def yJ6_getChars_ba4f3 : MethodName := ⟨RJ6, "getChars", "(II[B)I"⟩
abbrev cJ6_stringSize_0f7a4 : ByteArray := prog_23_method_13_code
def yJ6_stringSize_0f7a4 : MethodName := ⟨RJ6, "stringSize", "(I)I"⟩
abbrev cJ6_valueOf_2dffe : ByteArray := prog_23_method_22_code
def yJ6_valueOf_2dffe : MethodName := ⟨RJ6, "valueOf", "(I)Ljava/lang/Integer;"⟩
abbrev cJ6_init_d00df : ByteArray := prog_23_method_23_code
def yJ6_init_d00df : MethodName := ⟨RJ6, "<init>", "(I)V"⟩
abbrev cJ6_intValue_8abf5 : ByteArray := prog_23_method_27_code
def yJ6_intValue_8abf5 : MethodName := ⟨RJ6, "intValue", "()I"⟩
def RJxab1ab : String := "java/lang/Iterable"
def TJxab1ab : u_T := fun k => match k with
  | _ => ("", "", "", false)
def tyJxab1ab : Nat → FieldType := fun k => match k with
  | _ => .int
abbrev wsJxab1ab0 : List Cond := u_ws RJxab1ab TJxab1ab 0
theorem nmJxab1ab : ∀ a, a < 0 → ∀ b, b < 0 → a ≠ b → (TJxab1ab a).2.1 ≠ (TJxab1ab b).2.1 := by decide +kernel
theorem tyJxab1ab_ok : ∀ k, k < 0 → parseFieldDescriptor (TJxab1ab k).2.2.1 = some (tyJxab1ab k) := by decide +kernel
def RJ9 : String := "java/lang/Math"
def TJ9 : u_T := fun k => match k with
  | _ => ("", "", "", false)
def tyJ9 : Nat → FieldType := fun k => match k with
  | _ => .int
abbrev wsJ90 : List Cond := u_ws RJ9 TJ9 0
theorem nmJ9 : ∀ a, a < 0 → ∀ b, b < 0 → a ≠ b → (TJ9 a).2.1 ≠ (TJ9 b).2.1 := by decide +kernel
theorem tyJ9_ok : ∀ k, k < 0 → parseFieldDescriptor (TJ9 k).2.2.1 = some (tyJ9 k) := by decide +kernel
abbrev cJ9_max_7cf53 : ByteArray := prog_26_method_65_code
def yJ9_max_7cf53 : MethodName := ⟨RJ9, "max", "(II)I"⟩
abbrev cJ9_min_7cf53 : ByteArray := prog_26_method_69_code
def yJ9_min_7cf53 : MethodName := ⟨RJ9, "min", "(II)I"⟩
def RJxd2413 : String := "java/lang/Number"
def TJxd2413 : u_T := fun k => match k with
  | _ => ("", "", "", false)
def tyJxd2413 : Nat → FieldType := fun k => match k with
  | _ => .int
abbrev wsJxd24130 : List Cond := u_ws RJxd2413 TJxd2413 0
theorem nmJxd2413 : ∀ a, a < 0 → ∀ b, b < 0 → a ≠ b → (TJxd2413 a).2.1 ≠ (TJxd2413 b).2.1 := by decide +kernel
theorem tyJxd2413_ok : ∀ k, k < 0 → parseFieldDescriptor (TJxd2413 k).2.2.1 = some (tyJxd2413 k) := by decide +kernel
abbrev cJxd2413_init_da8c8 : ByteArray := prog_27_method_1_code
def yJxd2413_init_da8c8 : MethodName := ⟨RJxd2413, "<init>", "()V"⟩
def RJ0 : String := "java/lang/String"
def TJ0 : u_T := fun k => match k with
  | 0 => ("java/lang/String", "value", "[B", true)
  | 1 => ("java/lang/String", "coder", "B", true)
  | 2 => ("java/lang/String", "hash", "I", false)
  | _ => ("java/lang/String", "hashIsZero", "Z", false)
def tyJ0 : Nat → FieldType := fun k => match k with
  | 0 => .array .byte
  | 1 => .byte
  | 2 => .int
  | _ => .boolean
abbrev wsJ00 : List Cond := u_ws RJ0 TJ0 4
theorem nmJ0 : ∀ a, a < 4 → ∀ b, b < 4 → a ≠ b → (TJ0 a).2.1 ≠ (TJ0 b).2.1 := by decide +kernel
theorem tyJ0_ok : ∀ k, k < 4 → parseFieldDescriptor (TJ0 k).2.2.1 = some (tyJ0 k) := by decide +kernel
abbrev cJ0_init_81219 : ByteArray := prog_29_method_53_code
def yJ0_init_81219 : MethodName := ⟨RJ0, "<init>", "(Ljava/lang/StringBuilder;)V"⟩
abbrev cJ0_length_8abf5 : ByteArray := prog_29_method_54_code
def yJ0_length_8abf5 : MethodName := ⟨RJ0, "length", "()I"⟩
abbrev cJ0_getBytes_840e7 : ByteArray := prog_29_method_147_code
def yJ0_getBytes_840e7 : MethodName := ⟨RJ0, "getBytes", "([BIB)V"⟩
abbrev cJ0_init_db425 : ByteArray := prog_29_method_150_code
def yJ0_init_db425 : MethodName := ⟨RJ0, "<init>", "(Ljava/lang/AbstractStringBuilder;Ljava/lang/Void;)V"⟩
abbrev cJ0_coder_7d493 : ByteArray := prog_29_method_152_code
def yJ0_coder_7d493 : MethodName := ⟨RJ0, "coder", "()B"⟩
abbrev cJ0_checkIndex_df160 : ByteArray := prog_29_method_155_code
def yJ0_checkIndex_df160 : MethodName := ⟨RJ0, "checkIndex", "(II)V"⟩
abbrev cJ0_checkBoundsOffCount_cabcc : ByteArray := prog_29_method_157_code
def yJ0_checkBoundsOffCount_cabcc : MethodName := ⟨RJ0, "checkBoundsOffCount", "(III)I"⟩
abbrev cJ0_checkBoundsBeginEnd_23922 : ByteArray := prog_29_method_158_code
def yJ0_checkBoundsBeginEnd_23922 : MethodName := ⟨RJ0, "checkBoundsBeginEnd", "(III)V"⟩
def RJ4 : String := "java/lang/StringBuilder"
def TJ4 : u_T := fun k => match k with
  | 0 => ("java/lang/AbstractStringBuilder", "value", "[B", false)
  | 1 => ("java/lang/AbstractStringBuilder", "coder", "B", false)
  | 2 => ("java/lang/AbstractStringBuilder", "maybeLatin1", "Z", false)
  | _ => ("java/lang/AbstractStringBuilder", "count", "I", false)
def tyJ4 : Nat → FieldType := fun k => match k with
  | 0 => .array .byte
  | 1 => .byte
  | 2 => .boolean
  | _ => .int
abbrev wsJ40 : List Cond := u_ws RJ4 TJ4 4
theorem nmJ4 : ∀ a, a < 4 → ∀ b, b < 4 → a ≠ b → (TJ4 a).2.1 ≠ (TJ4 b).2.1 := by decide +kernel
theorem tyJ4_ok : ∀ k, k < 4 → parseFieldDescriptor (TJ4 k).2.2.1 = some (tyJ4 k) := by decide +kernel
abbrev cJ4_init_da8c8 : ByteArray := prog_30_method_1_code
def yJ4_init_da8c8 : MethodName := ⟨RJ4, "<init>", "()V"⟩
abbrev cJ4_append_15ec4 : ByteArray := prog_30_method_7_code
def yJ4_append_15ec4 : MethodName := ⟨RJ4, "append", "(Ljava/lang/String;)Ljava/lang/StringBuilder;"⟩
abbrev cJ4_append_cf468 : ByteArray := prog_30_method_14_code
def yJ4_append_cf468 : MethodName := ⟨RJ4, "append", "(C)Ljava/lang/StringBuilder;"⟩
abbrev cJ4_append_bf812 : ByteArray := prog_30_method_15_code
def yJ4_append_bf812 : MethodName := ⟨RJ4, "append", "(I)Ljava/lang/StringBuilder;"⟩
abbrev cJ4_toString_0e30d : ByteArray := prog_30_method_42_code
def yJ4_toString_0e30d : MethodName := ⟨RJ4, "toString", "()Ljava/lang/String;"⟩
abbrev cJ4_length_8abf5 : ByteArray := prog_30_method_93_code
def yJ4_length_8abf5 : MethodName := ⟨RJ4, "length", "()I"⟩
def RJ1 : String := "java/lang/StringLatin1"
def TJ1 : u_T := fun k => match k with
  | _ => ("", "", "", false)
def tyJ1 : Nat → FieldType := fun k => match k with
  | _ => .int
abbrev wsJ10 : List Cond := u_ws RJ1 TJ1 0
theorem nmJ1 : ∀ a, a < 0 → ∀ b, b < 0 → a ≠ b → (TJ1 a).2.1 ≠ (TJ1 b).2.1 := by decide +kernel
theorem tyJ1_ok : ∀ k, k < 0 → parseFieldDescriptor (TJ1 k).2.2.1 = some (tyJ1 k) := by decide +kernel
abbrev cJ1_canEncode_fc78d : ByteArray := prog_31_method_3_code
def yJ1_canEncode_fc78d : MethodName := ⟨RJ1, "canEncode", "(C)Z"⟩
abbrev cJ1_inflate_0e8fd : ByteArray := prog_31_method_50_code
def yJ1_inflate_0e8fd : MethodName := ⟨RJ1, "inflate", "([BI[BII)V"⟩
def RJ2 : String := "java/lang/StringUTF16"
def TJ2 : u_T := fun k => match k with
  | _ => ("", "", "", false)
def tyJ2 : Nat → FieldType := fun k => match k with
  | _ => .int
abbrev wsJ20 : List Cond := u_ws RJ2 TJ2 0
theorem nmJ2 : ∀ a, a < 0 → ∀ b, b < 0 → a ≠ b → (TJ2 a).2.1 ≠ (TJ2 b).2.1 := by decide +kernel
theorem tyJ2_ok : ∀ k, k < 0 → parseFieldDescriptor (TJ2 k).2.2.1 = some (tyJ2 k) := by decide +kernel
abbrev cJ2_newBytesFor_77867 : ByteArray := prog_32_method_2_code
def yJ2_newBytesFor_77867 : MethodName := ⟨RJ2, "newBytesFor", "(I)[B"⟩
abbrev cJ2_newBytesLength_0f7a4 : ByteArray := prog_32_method_3_code
def yJ2_newBytesLength_0f7a4 : MethodName := ⟨RJ2, "newBytesLength", "(I)I"⟩
abbrev cJ2_putChar_b72d1 : ByteArray := prog_32_method_4_code
def yJ2_putChar_b72d1 : MethodName := ⟨RJ2, "putChar", "([BII)V"⟩
abbrev cJ2_getChar_3b067 : ByteArray := prog_32_method_5_code
def yJ2_getChar_3b067 : MethodName := ⟨RJ2, "getChar", "([BI)C"⟩
abbrev cJ2_length_9d52b : ByteArray := prog_32_method_6_code
def yJ2_length_9d52b : MethodName := ⟨RJ2, "length", "([B)I"⟩
abbrev cJ2_coderFromArrayLen_85cad : ByteArray := prog_32_method_15_code
def yJ2_coderFromArrayLen_85cad : MethodName := ⟨RJ2, "coderFromArrayLen", "([BI)B"⟩
abbrev cJ2_compress_39247 : ByteArray := prog_32_method_17_code
def yJ2_compress_39247 : MethodName := ⟨RJ2, "compress", "([BII)[B"⟩
abbrev cJ2_compress_5af95 : ByteArray := prog_32_method_22_code
def yJ2_compress_5af95 : MethodName := ⟨RJ2, "compress", "([BI[BII)I"⟩
abbrev cJ2_putCharSB_b72d1 : ByteArray := prog_32_method_71_code
def yJ2_putCharSB_b72d1 : MethodName := ⟨RJ2, "putCharSB", "([BII)V"⟩
abbrev cJ2_getChars_46870 : ByteArray := prog_32_method_77_code
def yJ2_getChars_46870 : MethodName := ⟨RJ2, "getChars", "(III[B)I"⟩
abbrev cJ2_putCharsAt_cd4e5 : ByteArray := prog_32_method_81_code
def yJ2_putCharsAt_cd4e5 : MethodName := ⟨RJ2, "putCharsAt", "([BICCCC)I"⟩
abbrev cJ2_inflate_0e8fd : ByteArray := prog_32_method_86_code
def yJ2_inflate_0e8fd : MethodName := ⟨RJ2, "inflate", "([BI[BII)V"⟩
abbrev cJ2_getChars_ba4f3 : ByteArray := prog_32_method_89_code
def yJ2_getChars_ba4f3 : MethodName := ⟨RJ2, "getChars", "(II[B)I"⟩
abbrev cJ2_checkIndex_2214a : ByteArray := prog_32_method_91_code
def yJ2_checkIndex_2214a : MethodName := ⟨RJ2, "checkIndex", "(I[B)V"⟩
abbrev cJ2_checkBoundsBeginEnd_d044e : ByteArray := prog_32_method_93_code
def yJ2_checkBoundsBeginEnd_d044e : MethodName := ⟨RJ2, "checkBoundsBeginEnd", "(II[B)V"⟩
abbrev cJ2_checkBoundsOffCount_d044e : ByteArray := prog_32_method_94_code
def yJ2_checkBoundsOffCount_d044e : MethodName := ⟨RJ2, "checkBoundsOffCount", "(II[B)V"⟩
def RJ10 : String := "java/lang/System"
def TJ10 : u_T := fun k => match k with
  | _ => ("", "", "", false)
def tyJ10 : Nat → FieldType := fun k => match k with
  | _ => .int
abbrev wsJ100 : List Cond := u_ws RJ10 TJ10 0
theorem nmJ10 : ∀ a, a < 0 → ∀ b, b < 0 → a ≠ b → (TJ10 a).2.1 ≠ (TJ10 b).2.1 := by decide +kernel
theorem tyJ10_ok : ∀ k, k < 0 → parseFieldDescriptor (TJ10 k).2.2.1 = some (tyJ10 k) := by decide +kernel
def RJxfd54e : String := "java/lang/constant/Constable"
def TJxfd54e : u_T := fun k => match k with
  | _ => ("", "", "", false)
def tyJxfd54e : Nat → FieldType := fun k => match k with
  | _ => .int
abbrev wsJxfd54e0 : List Cond := u_ws RJxfd54e TJxfd54e 0
theorem nmJxfd54e : ∀ a, a < 0 → ∀ b, b < 0 → a ≠ b → (TJxfd54e a).2.1 ≠ (TJxfd54e b).2.1 := by decide +kernel
theorem tyJxfd54e_ok : ∀ k, k < 0 → parseFieldDescriptor (TJxfd54e k).2.2.1 = some (tyJxfd54e k) := by decide +kernel
def RJx3cf43 : String := "java/lang/constant/ConstantDesc"
def TJx3cf43 : u_T := fun k => match k with
  | _ => ("", "", "", false)
def tyJx3cf43 : Nat → FieldType := fun k => match k with
  | _ => .int
abbrev wsJx3cf430 : List Cond := u_ws RJx3cf43 TJx3cf43 0
theorem nmJx3cf43 : ∀ a, a < 0 → ∀ b, b < 0 → a ≠ b → (TJx3cf43 a).2.1 ≠ (TJx3cf43 b).2.1 := by decide +kernel
theorem tyJx3cf43_ok : ∀ k, k < 0 → parseFieldDescriptor (TJx3cf43 k).2.2.1 = some (tyJx3cf43 k) := by decide +kernel
def RJxa1e45 : String := "java/util/AbstractCollection"
def TJxa1e45 : u_T := fun k => match k with
  | _ => ("", "", "", false)
def tyJxa1e45 : Nat → FieldType := fun k => match k with
  | _ => .int
abbrev wsJxa1e450 : List Cond := u_ws RJxa1e45 TJxa1e45 0
theorem nmJxa1e45 : ∀ a, a < 0 → ∀ b, b < 0 → a ≠ b → (TJxa1e45 a).2.1 ≠ (TJxa1e45 b).2.1 := by decide +kernel
theorem tyJxa1e45_ok : ∀ k, k < 0 → parseFieldDescriptor (TJxa1e45 k).2.2.1 = some (tyJxa1e45 k) := by decide +kernel
abbrev cJxa1e45_init_da8c8 : ByteArray := prog_37_method_1_code
def yJxa1e45_init_da8c8 : MethodName := ⟨RJxa1e45, "<init>", "()V"⟩
def RJxc12de : String := "java/util/AbstractList"
def TJxc12de : u_T := fun k => match k with
  | _ => ("", "", "", false)
def tyJxc12de : Nat → FieldType := fun k => match k with
  | _ => .int
abbrev wsJxc12de0 : List Cond := u_ws RJxc12de TJxc12de 0
theorem nmJxc12de : ∀ a, a < 0 → ∀ b, b < 0 → a ≠ b → (TJxc12de a).2.1 ≠ (TJxc12de b).2.1 := by decide +kernel
theorem tyJxc12de_ok : ∀ k, k < 0 → parseFieldDescriptor (TJxc12de k).2.2.1 = some (tyJxc12de k) := by decide +kernel
abbrev cJxc12de_init_da8c8 : ByteArray := prog_38_method_1_code
def yJxc12de_init_da8c8 : MethodName := ⟨RJxc12de, "<init>", "()V"⟩
def RJx35411 : String := "java/util/ArrayList$Itr"
def TJx35411 : u_T := fun k => match k with
  | 0 => ("java/util/ArrayList$Itr", "cursor", "I", false)
  | 1 => ("java/util/ArrayList$Itr", "lastRet", "I", false)
  | 2 => ("java/util/ArrayList$Itr", "expectedModCount", "I", false)
  | _ => ("java/util/ArrayList$Itr", "this$0", "Ljava/util/ArrayList;", true)
def tyJx35411 : Nat → FieldType := fun k => match k with
  | 0 => .int
  | 1 => .int
  | 2 => .int
  | _ => .object "java/util/ArrayList"
abbrev wsJx354110 : List Cond := u_ws RJx35411 TJx35411 4
theorem nmJx35411 : ∀ a, a < 4 → ∀ b, b < 4 → a ≠ b → (TJx35411 a).2.1 ≠ (TJx35411 b).2.1 := by decide +kernel
theorem tyJx35411_ok : ∀ k, k < 4 → parseFieldDescriptor (TJx35411 k).2.2.1 = some (tyJx35411 k) := by decide +kernel
abbrev cJx35411_init_45d68 : ByteArray := prog_40_method_1_code
def yJx35411_init_45d68 : MethodName := ⟨RJx35411, "<init>", "(Ljava/util/ArrayList;)V"⟩
abbrev cJx35411_hasNext_aae02 : ByteArray := prog_40_method_2_code
def yJx35411_hasNext_aae02 : MethodName := ⟨RJx35411, "hasNext", "()Z"⟩
abbrev cJx35411_next_0502b : ByteArray := prog_40_method_3_code
def yJx35411_next_0502b : MethodName := ⟨RJx35411, "next", "()Ljava/lang/Object;"⟩
abbrev cJx35411_checkForComodification_da8c8 : ByteArray := prog_40_method_6_code
def yJx35411_checkForComodification_da8c8 : MethodName := ⟨RJx35411, "checkForComodification", "()V"⟩
def RJx4a65c : String := "java/util/ArrayList"
def TJx4a65c : u_T := fun k => match k with
  | 0 => ("java/util/AbstractList", "modCount", "I", false)
  | 1 => ("java/util/ArrayList", "elementData", "[Ljava/lang/Object;", false)
  | _ => ("java/util/ArrayList", "size", "I", false)
def tyJx4a65c : Nat → FieldType := fun k => match k with
  | 0 => .int
  | 1 => .array (.object "java/lang/Object")
  | _ => .int
abbrev wsJx4a65c0 : List Cond := u_ws RJx4a65c TJx4a65c 3
theorem nmJx4a65c : ∀ a, a < 3 → ∀ b, b < 3 → a ≠ b → (TJx4a65c a).2.1 ≠ (TJx4a65c b).2.1 := by decide +kernel
theorem tyJx4a65c_ok : ∀ k, k < 3 → parseFieldDescriptor (TJx4a65c k).2.2.1 = some (tyJx4a65c k) := by decide +kernel
abbrev cJx4a65c_init_da8c8 : ByteArray := prog_39_method_2_code
def yJx4a65c_init_da8c8 : MethodName := ⟨RJx4a65c, "<init>", "()V"⟩
abbrev cJx4a65c_grow_92f84 : ByteArray := prog_39_method_6_code
def yJx4a65c_grow_92f84 : MethodName := ⟨RJx4a65c, "grow", "(I)[Ljava/lang/Object;"⟩
abbrev cJx4a65c_grow_d5877 : ByteArray := prog_39_method_7_code
def yJx4a65c_grow_d5877 : MethodName := ⟨RJx4a65c, "grow", "()[Ljava/lang/Object;"⟩
abbrev cJx4a65c_size_8abf5 : ByteArray := prog_39_method_8_code
def yJx4a65c_size_8abf5 : MethodName := ⟨RJx4a65c, "size", "()I"⟩
abbrev cJx4a65c_isEmpty_aae02 : ByteArray := prog_39_method_9_code
def yJx4a65c_isEmpty_aae02 : MethodName := ⟨RJx4a65c, "isEmpty", "()Z"⟩
abbrev cJx4a65c_toArray_d5877 : ByteArray := prog_39_method_16_code
def yJx4a65c_toArray_d5877 : MethodName := ⟨RJx4a65c, "toArray", "()[Ljava/lang/Object;"⟩
abbrev cJx4a65c_elementData_915e3 : ByteArray := prog_39_method_18_code
def yJx4a65c_elementData_915e3 : MethodName := ⟨RJx4a65c, "elementData", "(I)Ljava/lang/Object;"⟩
abbrev cJx4a65c_get_915e3 : ByteArray := prog_39_method_20_code
def yJx4a65c_get_915e3 : MethodName := ⟨RJx4a65c, "get", "(I)Ljava/lang/Object;"⟩
abbrev cJx4a65c_add_72be8 : ByteArray := prog_39_method_24_code
def yJx4a65c_add_72be8 : MethodName := ⟨RJx4a65c, "add", "(Ljava/lang/Object;[Ljava/lang/Object;I)V"⟩
abbrev cJx4a65c_add_9ea2d : ByteArray := prog_39_method_25_code
def yJx4a65c_add_9ea2d : MethodName := ⟨RJx4a65c, "add", "(Ljava/lang/Object;)Z"⟩
abbrev cJx4a65c_add_7a177 : ByteArray := prog_39_method_26_code
def yJx4a65c_add_7a177 : MethodName := ⟨RJx4a65c, "add", "(ILjava/lang/Object;)V"⟩
abbrev cJx4a65c_remove_915e3 : ByteArray := prog_39_method_29_code
def yJx4a65c_remove_915e3 : MethodName := ⟨RJx4a65c, "remove", "(I)Ljava/lang/Object;"⟩
abbrev cJx4a65c_fastRemove_b59b0 : ByteArray := prog_39_method_39_code
def yJx4a65c_fastRemove_b59b0 : MethodName := ⟨RJx4a65c, "fastRemove", "([Ljava/lang/Object;I)V"⟩
abbrev cJx4a65c_addAll_f0b43 : ByteArray := prog_39_method_41_code
def yJx4a65c_addAll_f0b43 : MethodName := ⟨RJx4a65c, "addAll", "(Ljava/util/Collection;)Z"⟩
abbrev cJx4a65c_rangeCheckForAdd_d00df : ByteArray := prog_39_method_45_code
def yJx4a65c_rangeCheckForAdd_d00df : MethodName := ⟨RJx4a65c, "rangeCheckForAdd", "(I)V"⟩
abbrev cJx4a65c_outOfBoundsMsg_b52d3 : ByteArray := prog_39_method_46_code
def yJx4a65c_outOfBoundsMsg_b52d3 : MethodName := ⟨RJx4a65c, "outOfBoundsMsg", "(I)Ljava/lang/String;"⟩
abbrev cJx4a65c_iterator_32c93 : ByteArray := prog_39_method_55_code
def yJx4a65c_iterator_32c93 : MethodName := ⟨RJx4a65c, "iterator", "()Ljava/util/Iterator;"⟩
def RJ7 : String := "java/util/Arrays"
def TJ7 : u_T := fun k => match k with
  | _ => ("", "", "", false)
def tyJ7 : Nat → FieldType := fun k => match k with
  | _ => .int
abbrev wsJ70 : List Cond := u_ws RJ7 TJ7 0
theorem nmJ7 : ∀ a, a < 0 → ∀ b, b < 0 → a ≠ b → (TJ7 a).2.1 ≠ (TJ7 b).2.1 := by decide +kernel
theorem tyJ7_ok : ∀ k, k < 0 → parseFieldDescriptor (TJ7 k).2.2.1 = some (tyJ7 k) := by decide +kernel
abbrev cJ7_copyOf_1904c : ByteArray := prog_41_method_119_code
def yJ7_copyOf_1904c : MethodName := ⟨RJ7, "copyOf", "([Ljava/lang/Object;I)[Ljava/lang/Object;"⟩
abbrev cJ7_copyOf_6403c : ByteArray := prog_41_method_120_code
def yJ7_copyOf_6403c : MethodName := ⟨RJ7, "copyOf", "([Ljava/lang/Object;ILjava/lang/Class;)[Ljava/lang/Object;"⟩
abbrev cJ7_copyOf_9075b : ByteArray := prog_41_method_121_code
def yJ7_copyOf_9075b : MethodName := ⟨RJ7, "copyOf", "([BI)[B"⟩
abbrev cJ7_copyOf_59c91 : ByteArray := prog_41_method_123_code
def yJ7_copyOf_59c91 : MethodName := ⟨RJ7, "copyOf", "([II)[I"⟩
abbrev cJ7_checkLength_df160 : ByteArray := prog_41_method_131_code
def yJ7_checkLength_df160 : MethodName := ⟨RJ7, "checkLength", "(II)V"⟩
abbrev cJ7_copyOfRange_39247 : ByteArray := prog_41_method_132_code
def yJ7_copyOfRange_39247 : MethodName := ⟨RJ7, "copyOfRange", "([BII)[B"⟩
abbrev cJ7_copyOfRangeByte_39247 : ByteArray := prog_41_method_133_code
def yJ7_copyOfRangeByte_39247 : MethodName := ⟨RJ7, "copyOfRangeByte", "([BII)[B"⟩
def RJx5ef63 : String := "java/util/Collection"
def TJx5ef63 : u_T := fun k => match k with
  | _ => ("", "", "", false)
def tyJx5ef63 : Nat → FieldType := fun k => match k with
  | _ => .int
abbrev wsJx5ef630 : List Cond := u_ws RJx5ef63 TJx5ef63 0
theorem nmJx5ef63 : ∀ a, a < 0 → ∀ b, b < 0 → a ≠ b → (TJx5ef63 a).2.1 ≠ (TJx5ef63 b).2.1 := by decide +kernel
theorem tyJx5ef63_ok : ∀ k, k < 0 → parseFieldDescriptor (TJx5ef63 k).2.2.1 = some (tyJx5ef63 k) := by decide +kernel
def RJx4d0d8 : String := "java/util/Iterator"
def TJx4d0d8 : u_T := fun k => match k with
  | _ => ("", "", "", false)
def tyJx4d0d8 : Nat → FieldType := fun k => match k with
  | _ => .int
abbrev wsJx4d0d80 : List Cond := u_ws RJx4d0d8 TJx4d0d8 0
theorem nmJx4d0d8 : ∀ a, a < 0 → ∀ b, b < 0 → a ≠ b → (TJx4d0d8 a).2.1 ≠ (TJx4d0d8 b).2.1 := by decide +kernel
theorem tyJx4d0d8_ok : ∀ k, k < 0 → parseFieldDescriptor (TJx4d0d8 k).2.2.1 = some (tyJx4d0d8 k) := by decide +kernel
def RJxbd725 : String := "java/util/List"
def TJxbd725 : u_T := fun k => match k with
  | _ => ("", "", "", false)
def tyJxbd725 : Nat → FieldType := fun k => match k with
  | _ => .int
abbrev wsJxbd7250 : List Cond := u_ws RJxbd725 TJxbd725 0
theorem nmJxbd725 : ∀ a, a < 0 → ∀ b, b < 0 → a ≠ b → (TJxbd725 a).2.1 ≠ (TJxbd725 b).2.1 := by decide +kernel
theorem tyJxbd725_ok : ∀ k, k < 0 → parseFieldDescriptor (TJxbd725 k).2.2.1 = some (tyJxbd725 k) := by decide +kernel
def RJ15 : String := "java/util/Objects"
def TJ15 : u_T := fun k => match k with
  | _ => ("", "", "", false)
def tyJ15 : Nat → FieldType := fun k => match k with
  | _ => .int
abbrev wsJ150 : List Cond := u_ws RJ15 TJ15 0
theorem nmJ15 : ∀ a, a < 0 → ∀ b, b < 0 → a ≠ b → (TJ15 a).2.1 ≠ (TJ15 b).2.1 := by decide +kernel
theorem tyJ15_ok : ∀ k, k < 0 → parseFieldDescriptor (TJ15 k).2.2.1 = some (tyJ15 k) := by decide +kernel
abbrev cJ15_checkIndex_7cf53 : ByteArray := prog_45_method_17_code
def yJ15_checkIndex_7cf53 : MethodName := ⟨RJ15, "checkIndex", "(II)I"⟩
def RJxf0a74 : String := "java/util/RandomAccess"
def TJxf0a74 : u_T := fun k => match k with
  | _ => ("", "", "", false)
def tyJxf0a74 : Nat → FieldType := fun k => match k with
  | _ => .int
abbrev wsJxf0a740 : List Cond := u_ws RJxf0a74 TJxf0a74 0
theorem nmJxf0a74 : ∀ a, a < 0 → ∀ b, b < 0 → a ≠ b → (TJxf0a74 a).2.1 ≠ (TJxf0a74 b).2.1 := by decide +kernel
theorem tyJxf0a74_ok : ∀ k, k < 0 → parseFieldDescriptor (TJxf0a74 k).2.2.1 = some (tyJxf0a74 k) := by decide +kernel
def RJxa66e6 : String := "java/util/SequencedCollection"
def TJxa66e6 : u_T := fun k => match k with
  | _ => ("", "", "", false)
def tyJxa66e6 : Nat → FieldType := fun k => match k with
  | _ => .int
abbrev wsJxa66e60 : List Cond := u_ws RJxa66e6 TJxa66e6 0
theorem nmJxa66e6 : ∀ a, a < 0 → ∀ b, b < 0 → a ≠ b → (TJxa66e6 a).2.1 ≠ (TJxa66e6 b).2.1 := by decide +kernel
theorem tyJxa66e6_ok : ∀ k, k < 0 → parseFieldDescriptor (TJxa66e6 k).2.2.1 = some (tyJxa66e6 k) := by decide +kernel
def RJ8 : String := "jdk/internal/util/ArraysSupport"
def TJ8 : u_T := fun k => match k with
  | _ => ("", "", "", false)
def tyJ8 : Nat → FieldType := fun k => match k with
  | _ => .int
abbrev wsJ80 : List Cond := u_ws RJ8 TJ8 0
theorem nmJ8 : ∀ a, a < 0 → ∀ b, b < 0 → a ≠ b → (TJ8 a).2.1 ≠ (TJ8 b).2.1 := by decide +kernel
theorem tyJ8_ok : ∀ k, k < 0 → parseFieldDescriptor (TJ8 k).2.2.1 = some (tyJ8 k) := by decide +kernel
abbrev cJ8_newLength_cabcc : ByteArray := prog_48_method_27_code
def yJ8_newLength_cabcc : MethodName := ⟨RJ8, "newLength", "(III)I"⟩
abbrev cJ8_hugeLength_7cf53 : ByteArray := prog_48_method_28_code
def yJ8_hugeLength_7cf53 : MethodName := ⟨RJ8, "hugeLength", "(II)I"⟩
def RJ3 : String := "jdk/internal/util/Preconditions"
def TJ3 : u_T := fun k => match k with
  | _ => ("", "", "", false)
def tyJ3 : Nat → FieldType := fun k => match k with
  | _ => .int
abbrev wsJ30 : List Cond := u_ws RJ3 TJ3 0
theorem nmJ3 : ∀ a, a < 0 → ∀ b, b < 0 → a ≠ b → (TJ3 a).2.1 ≠ (TJ3 b).2.1 := by decide +kernel
theorem tyJ3_ok : ∀ k, k < 0 → parseFieldDescriptor (TJ3 k).2.2.1 = some (tyJ3 k) := by decide +kernel
abbrev cJ3_checkIndex_8e157 : ByteArray := prog_49_method_11_code
def yJ3_checkIndex_8e157 : MethodName := ⟨RJ3, "checkIndex", "(IILjava/util/function/BiFunction;)I"⟩
abbrev cJ3_checkFromToIndex_8c36e : ByteArray := prog_49_method_12_code
def yJ3_checkFromToIndex_8c36e : MethodName := ⟨RJ3, "checkFromToIndex", "(IIILjava/util/function/BiFunction;)I"⟩
abbrev cJ3_checkFromIndexSize_8c36e : ByteArray := prog_49_method_13_code
def yJ3_checkFromIndexSize_8c36e : MethodName := ⟨RJ3, "checkFromIndexSize", "(IIILjava/util/function/BiFunction;)I"⟩
def RL : String := "KnitsteadLaw"
abbrev cL_buy : ByteArray := method_2_code
def yL_buy : MethodName := ⟨RL, "buy", "(LKnitstead;ILKnitsteadLaw$Out;)I"⟩
abbrev cL_join : ByteArray := method_3_code
def yL_join : MethodName := ⟨RL, "join", "(LKnitstead;ILKnitsteadLaw$Out;)I"⟩
abbrev cL_cast : ByteArray := method_4_code
def yL_cast : MethodName := ⟨RL, "cast", "(LKnitstead;ILKnitsteadLaw$Out;)I"⟩
abbrev cL_work : ByteArray := method_5_code
def yL_work : MethodName := ⟨RL, "work", "(LKnitstead;ZLKnitsteadLaw$Out;)I"⟩
abbrev cL_over : ByteArray := method_6_code
def yL_over : MethodName := ⟨RL, "over", "(LKnitstead;LKnitsteadLaw$Out;)I"⟩
abbrev cL_together : ByteArray := method_7_code
def yL_together : MethodName := ⟨RL, "together", "(LKnitstead;IZLKnitsteadLaw$Out;)I"⟩
abbrev cL_slip : ByteArray := method_8_code
def yL_slip : MethodName := ⟨RL, "slip", "(LKnitstead;LKnitsteadLaw$Out;)I"⟩
abbrev cL_cross : ByteArray := method_9_code
def yL_cross : MethodName := ⟨RL, "cross", "(LKnitstead;IILKnitsteadLaw$Out;)I"⟩
abbrev cL_turn : ByteArray := method_10_code
def yL_turn : MethodName := ⟨RL, "turn", "(LKnitstead;LKnitsteadLaw$Out;)I"⟩
abbrev cL_bind : ByteArray := method_11_code
def yL_bind : MethodName := ⟨RL, "bind", "(LKnitstead;ILKnitsteadLaw$Out;)I"⟩
abbrev cL_drop : ByteArray := method_12_code
def yL_drop : MethodName := ⟨RL, "drop", "(LKnitstead;LKnitsteadLaw$Out;)I"⟩
abbrev cL_latch : ByteArray := method_13_code
def yL_latch : MethodName := ⟨RL, "latch", "(LKnitstead;ILKnitsteadLaw$Out;)I"⟩
abbrev cL_pattern : ByteArray := method_14_code
def yL_pattern : MethodName := ⟨RL, "pattern", "(LKnitstead;ILKnitsteadLaw$Out;)I"⟩
abbrev cL_follow : ByteArray := method_15_code
def yL_follow : MethodName := ⟨RL, "follow", "(LKnitstead;ILKnitsteadLaw$Out;)I"⟩
abbrev cL_undo : ByteArray := method_16_code
def yL_undo : MethodName := ⟨RL, "undo", "(LKnitstead;LKnitsteadLaw$Out;)I"⟩
abbrev cL_on : ByteArray := method_17_code
def yL_on : MethodName := ⟨RL, "on", "(LKnitstead;ZILKnitsteadLaw$Out;)I"⟩
abbrev cL_ofLoop : ByteArray := method_18_code
def yL_ofLoop : MethodName := ⟨RL, "ofLoop", "(LKnitstead;IILKnitsteadLaw$Out;)I"⟩
abbrev cL_ofRun : ByteArray := method_19_code
def yL_ofRun : MethodName := ⟨RL, "ofRun", "(LKnitstead;IILKnitsteadLaw$Out;)I"⟩
abbrev cL_many : ByteArray := method_20_code
def yL_many : MethodName := ⟨RL, "many", "(LKnitstead;ILKnitsteadLaw$Out;)I"⟩
abbrev cL_left : ByteArray := method_21_code
def yL_left : MethodName := ⟨RL, "left", "(LKnitstead;ILKnitsteadLaw$Out;)I"⟩
abbrev cL_ofPattern : ByteArray := method_22_code
def yL_ofPattern : MethodName := ⟨RL, "ofPattern", "(LKnitstead;IILKnitsteadLaw$Out;)I"⟩
abbrev cL_would : ByteArray := method_23_code
def yL_would : MethodName := ⟨RL, "would", "(LKnitstead;ILKnitsteadLaw$Out;)I"⟩
abbrev cL_needs : ByteArray := method_24_code
def yL_needs : MethodName := ⟨RL, "needs", "(LKnitstead;ILKnitsteadLaw$Out;)I"⟩
abbrev cL_law : ByteArray := code
def yL_law : MethodName := ⟨RL, "law", "([I)Z"⟩
abbrev vwCl : List vw_C := [(RJ0, TJ0, 4), (RJ4, TJ4, 4), (RJ6, TJ6, 1), (RJx35411, TJx35411, 4), (RJx4a65c, TJx4a65c, 3), (RX0, TX0, 3), (RX1, TX1, 5), (RX2, TX2, 2), (RX3, TX3, 3), (RX4, TX4, 5), (RX5, TX5, 10), (RX6, TX6, 8), (RX7, TX7, 1), (RX8, TX8, 6), (RX9, TX9, 11), (RX10, TX10, 9)]
