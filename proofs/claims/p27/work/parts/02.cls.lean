section
def RX0 : String := "RodRings$Acts"
def TX0 : u_T := fun k => match k with
  | 0 => ("RodRings$Acts", "before", "[LRodRings$Rod;", true)
  | 1 => ("RodRings$Acts", "next", "I", false)
  | _ => ("RodRings$Acts", "size", "I", false)
def tyX0 : Nat → FieldType := fun k => match k with
  | 0 => .array (.object "RodRings$Rod")
  | 1 => .int
  | _ => .int
abbrev wsX00 : List Cond := u_ws RX0 TX0 3
theorem nmX0 : ∀ a, a < 3 → ∀ b, b < 3 → a ≠ b → (TX0 a).2.1 ≠ (TX0 b).2.1 := by decide +kernel
theorem tyX0_ok : ∀ k, k < 3 → parseFieldDescriptor (TX0 k).2.2.1 = some (tyX0 k) := by decide +kernel
abbrev cX0_init : ByteArray := prog_2_method_1_code
def yX0_init : MethodName := ⟨RX0, "<init>", "()V"⟩
abbrev cX0_remember : ByteArray := prog_2_method_2_code
def yX0_remember : MethodName := ⟨RX0, "remember", "(LRodRings$Rod;)V"⟩
abbrev cX0_takeBack : ByteArray := prog_2_method_3_code
def yX0_takeBack : MethodName := ⟨RX0, "takeBack", "(LRodRings$Rod;)Z"⟩
abbrev cX0_forget : ByteArray := prog_2_method_4_code
def yX0_forget : MethodName := ⟨RX0, "forget", "()V"⟩
def RX1 : String := "RodRings$Clock"
def TX1 : u_T := fun k => match k with
  | 0 => ("RodRings$Clock", "law", "LRodRings$Law;", true)
  | _ => ("RodRings$Clock", "draft", "LRodRings$Rod;", true)
def tyX1 : Nat → FieldType := fun k => match k with
  | 0 => .object "RodRings$Law"
  | _ => .object "RodRings$Rod"
abbrev wsX10 : List Cond := u_ws RX1 TX1 2
theorem nmX1 : ∀ a, a < 2 → ∀ b, b < 2 → a ≠ b → (TX1 a).2.1 ≠ (TX1 b).2.1 := by decide +kernel
theorem tyX1_ok : ∀ k, k < 2 → parseFieldDescriptor (TX1 k).2.2.1 = some (tyX1 k) := by decide +kernel
abbrev cX1_init : ByteArray := prog_3_method_1_code
def yX1_init : MethodName := ⟨RX1, "<init>", "(LRodRings$Law;LRodRings$Rod;)V"⟩
abbrev cX1_run : ByteArray := prog_3_method_2_code
def yX1_run : MethodName := ⟨RX1, "run", "(LRodRings$Rod;I)I"⟩
abbrev cX1_tryHours : ByteArray := prog_3_method_3_code
def yX1_tryHours : MethodName := ⟨RX1, "tryHours", "(LRodRings$Rod;II)V"⟩
abbrev cX1_goAhead : ByteArray := prog_3_method_4_code
def yX1_goAhead : MethodName := ⟨RX1, "goAhead", "(LRodRings$Rod;I)V"⟩
abbrev cX1_firstPale : ByteArray := prog_3_method_5_code
def yX1_firstPale : MethodName := ⟨RX1, "firstPale", "(LRodRings$Rod;)I"⟩
abbrev cX1_oddsToStay : ByteArray := prog_3_method_6_code
def yX1_oddsToStay : MethodName := ⟨RX1, "oddsToStay", "(LRodRings$Rod;II)I"⟩
abbrev cX1_isSomePale : ByteArray := prog_3_method_7_code
def yX1_isSomePale : MethodName := ⟨RX1, "isSomePale", "(LRodRings$Rod;)Z"⟩
abbrev cX1_fadeAll : ByteArray := prog_3_method_8_code
def yX1_fadeAll : MethodName := ⟨RX1, "fadeAll", "(LRodRings$Rod;)V"⟩
abbrev cX1_catchSome : ByteArray := prog_3_method_9_code
def yX1_catchSome : MethodName := ⟨RX1, "catchSome", "(LRodRings$Rod;)I"⟩
abbrev cX1_dropSome : ByteArray := prog_3_method_10_code
def yX1_dropSome : MethodName := ⟨RX1, "dropSome", "(LRodRings$Rod;)I"⟩
abbrev cX1_draw : ByteArray := prog_3_method_11_code
def yX1_draw : MethodName := ⟨RX1, "draw", "(LRodRings$Rod;)I"⟩
abbrev cX1_turn : ByteArray := prog_3_method_12_code
def yX1_turn : MethodName := ⟨RX1, "turn", "(LRodRings$Rod;)V"⟩
def RX2 : String := "RodRings$Law"
def TX2 : u_T := fun k => match k with
  | 0 => ("RodRings$Law", "kinds", "[I", true)
  | 1 => ("RodRings$Law", "amounts", "[I", true)
  | 2 => ("RodRings$Law", "stops", "[I", true)
  | 3 => ("RodRings$Law", "codes", "[I", true)
  | 4 => ("RodRings$Law", "stack", "[I", true)
  | 5 => ("RodRings$Law", "depth", "I", false)
  | 6 => ("RodRings$Law", "size", "I", false)
  | 7 => ("RodRings$Law", "told", "Z", false)
  | _ => ("RodRings$Law", "lines", "I", false)
def tyX2 : Nat → FieldType := fun k => match k with
  | 0 => .array .int
  | 1 => .array .int
  | 2 => .array .int
  | 3 => .array .int
  | 4 => .array .int
  | 5 => .int
  | 6 => .int
  | 7 => .boolean
  | _ => .int
abbrev wsX20 : List Cond := u_ws RX2 TX2 9
theorem nmX2 : ∀ a, a < 9 → ∀ b, b < 9 → a ≠ b → (TX2 a).2.1 ≠ (TX2 b).2.1 := by decide +kernel
theorem tyX2_ok : ∀ k, k < 9 → parseFieldDescriptor (TX2 k).2.2.1 = some (tyX2 k) := by decide +kernel
abbrev cX2_init : ByteArray := prog_4_method_1_code
def yX2_init : MethodName := ⟨RX2, "<init>", "()V"⟩
abbrev cX2_begin : ByteArray := prog_4_method_2_code
def yX2_begin : MethodName := ⟨RX2, "begin", "()V"⟩
abbrev cX2_copyFrom : ByteArray := prog_4_method_3_code
def yX2_copyFrom : MethodName := ⟨RX2, "copyFrom", "(LRodRings$Law;)V"⟩
abbrev cX2_addLine : ByteArray := prog_4_method_4_code
def yX2_addLine : MethodName := ⟨RX2, "addLine", "(II)V"⟩
abbrev cX2_addCode : ByteArray := prog_4_method_5_code
def yX2_addCode : MethodName := ⟨RX2, "addCode", "(I)V"⟩
abbrev cX2_amount : ByteArray := prog_4_method_6_code
def yX2_amount : MethodName := ⟨RX2, "amount", "(ILRodRings$Rod;I)I"⟩
abbrev cX2_untoldAmount : ByteArray := prog_4_method_7_code
def yX2_untoldAmount : MethodName := ⟨RX2, "untoldAmount", "(ILRodRings$Rod;I)I"⟩
abbrev cX2_holds : ByteArray := prog_4_method_8_code
def yX2_holds : MethodName := ⟨RX2, "holds", "(ILRodRings$Rod;I)Z"⟩
abbrev cX2_isValue : ByteArray := prog_4_method_9_code
def yX2_isValue : MethodName := ⟨RX2, "isValue", "(I)Z"⟩
abbrev cX2_push : ByteArray := prog_4_method_10_code
def yX2_push : MethodName := ⟨RX2, "push", "(I)V"⟩
abbrev cX2_pop : ByteArray := prog_4_method_11_code
def yX2_pop : MethodName := ⟨RX2, "pop", "()I"⟩
abbrev cX2_value : ByteArray := prog_4_method_12_code
def yX2_value : MethodName := ⟨RX2, "value", "(ILRodRings$Rod;I)I"⟩
abbrev cX2_joined : ByteArray := prog_4_method_13_code
def yX2_joined : MethodName := ⟨RX2, "joined", "(III)I"⟩
def RX3 : String := "RodRings$LawReader"
def TX3 : u_T := fun k => match k with
  | 0 => ("RodRings$LineReader", "tape", "LRodRings$Tape;", true)
  | 1 => ("RodRings$LineReader", "mostLines", "I", true)
  | _ => ("RodRings$LawReader", "draft", "LRodRings$Law;", true)
def tyX3 : Nat → FieldType := fun k => match k with
  | 0 => .object "RodRings$Tape"
  | 1 => .int
  | _ => .object "RodRings$Law"
abbrev wsX30 : List Cond := u_ws RX3 TX3 3
theorem nmX3 : ∀ a, a < 3 → ∀ b, b < 3 → a ≠ b → (TX3 a).2.1 ≠ (TX3 b).2.1 := by decide +kernel
theorem tyX3_ok : ∀ k, k < 3 → parseFieldDescriptor (TX3 k).2.2.1 = some (tyX3 k) := by decide +kernel
abbrev cX3_init : ByteArray := prog_5_method_1_code
def yX3_init : MethodName := ⟨RX3, "<init>", "(LRodRings$Tape;LRodRings$Law;)V"⟩
abbrev cX3_readLine : ByteArray := prog_5_method_2_code
def yX3_readLine : MethodName := ⟨RX3, "readLine", "()Z"⟩
abbrev cX3_readCondition : ByteArray := prog_5_method_3_code
def yX3_readCondition : MethodName := ⟨RX3, "readCondition", "(I)Z"⟩
abbrev cX3_readAtom : ByteArray := prog_5_method_4_code
def yX3_readAtom : MethodName := ⟨RX3, "readAtom", "(I)Z"⟩
abbrev cX3_readComparison : ByteArray := prog_5_method_5_code
def yX3_readComparison : MethodName := ⟨RX3, "readComparison", "()Z"⟩
abbrev cX3_readSum : ByteArray := prog_5_method_6_code
def yX3_readSum : MethodName := ⟨RX3, "readSum", "()Z"⟩
def RX4 : String := "RodRings$LineReader"
def TX4 : u_T := fun k => match k with
  | _ => ("", "", "", false)
def tyX4 : Nat → FieldType := fun k => match k with
  | _ => .int
abbrev wsX40 : List Cond := u_ws RX4 TX4 0
theorem nmX4 : ∀ a, a < 0 → ∀ b, b < 0 → a ≠ b → (TX4 a).2.1 ≠ (TX4 b).2.1 := by decide +kernel
theorem tyX4_ok : ∀ k, k < 0 → parseFieldDescriptor (TX4 k).2.2.1 = some (tyX4 k) := by decide +kernel
abbrev cX4_init : ByteArray := prog_6_method_1_code
def yX4_init : MethodName := ⟨RX4, "<init>", "(LRodRings$Tape;I)V"⟩
abbrev cX4_read : ByteArray := prog_6_method_3_code
def yX4_read : MethodName := ⟨RX4, "read", "()I"⟩
def RX5 : String := "RodRings$Log"
def TX5 : u_T := fun k => match k with
  | 0 => ("RodRings$Log", "rows", "[I", true)
  | 1 => ("RodRings$Log", "size", "I", false)
  | _ => ("RodRings$Log", "next", "I", false)
def tyX5 : Nat → FieldType := fun k => match k with
  | 0 => .array .int
  | 1 => .int
  | _ => .int
abbrev wsX50 : List Cond := u_ws RX5 TX5 3
theorem nmX5 : ∀ a, a < 3 → ∀ b, b < 3 → a ≠ b → (TX5 a).2.1 ≠ (TX5 b).2.1 := by decide +kernel
theorem tyX5_ok : ∀ k, k < 3 → parseFieldDescriptor (TX5 k).2.2.1 = some (tyX5 k) := by decide +kernel
abbrev cX5_init : ByteArray := prog_7_method_1_code
def yX5_init : MethodName := ⟨RX5, "<init>", "()V"⟩
abbrev cX5_copyFrom : ByteArray := prog_7_method_2_code
def yX5_copyFrom : MethodName := ⟨RX5, "copyFrom", "(LRodRings$Log;)V"⟩
abbrev cX5_add : ByteArray := prog_7_method_3_code
def yX5_add : MethodName := ⟨RX5, "add", "(LRodRings$Rod;III)V"⟩
abbrev cX5_read : ByteArray := prog_7_method_4_code
def yX5_read : MethodName := ⟨RX5, "read", "(II)I"⟩
abbrev cX5_rowsOf : ByteArray := prog_7_method_5_code
def yX5_rowsOf : MethodName := ⟨RX5, "rowsOf", "(I)I"⟩
abbrev cX5_latestPlace : ByteArray := prog_7_method_6_code
def yX5_latestPlace : MethodName := ⟨RX5, "latestPlace", "(I)I"⟩
def RX6 : String := "RodRings$Looks"
def TX6 : u_T := fun k => match k with
  | _ => ("", "", "", false)
def tyX6 : Nat → FieldType := fun k => match k with
  | _ => .int
abbrev wsX60 : List Cond := u_ws RX6 TX6 0
theorem nmX6 : ∀ a, a < 0 → ∀ b, b < 0 → a ≠ b → (TX6 a).2.1 ≠ (TX6 b).2.1 := by decide +kernel
theorem tyX6_ok : ∀ k, k < 0 → parseFieldDescriptor (TX6 k).2.2.1 = some (tyX6 k) := by decide +kernel
abbrev cX6_hangsBy : ByteArray := prog_8_method_2_code
def yX6_hangsBy : MethodName := ⟨RX6, "hangsBy", "(LRodRings$Rod;I)I"⟩
abbrev cX6_share : ByteArray := prog_8_method_3_code
def yX6_share : MethodName := ⟨RX6, "share", "(LRodRings$Rod;I)I"⟩
abbrev cX6_outOfOrder : ByteArray := prog_8_method_4_code
def yX6_outOfOrder : MethodName := ⟨RX6, "outOfOrder", "(LRodRings$Rod;)I"⟩
abbrev cX6_isInOrder : ByteArray := prog_8_method_5_code
def yX6_isInOrder : MethodName := ⟨RX6, "isInOrder", "(LRodRings$Rod;I)Z"⟩
abbrev cX6_tightest : ByteArray := prog_8_method_6_code
def yX6_tightest : MethodName := ⟨RX6, "tightest", "(LRodRings$Rod;I)I"⟩
abbrev cX6_spareCloth : ByteArray := prog_8_method_7_code
def yX6_spareCloth : MethodName := ⟨RX6, "spareCloth", "(LRodRings$Rod;)I"⟩
abbrev cX6_tautRings : ByteArray := prog_8_method_8_code
def yX6_tautRings : MethodName := ⟨RX6, "tautRings", "(LRodRings$Rod;)I"⟩
abbrev cX6_litRings : ByteArray := prog_8_method_9_code
def yX6_litRings : MethodName := ⟨RX6, "litRings", "(LRodRings$Rod;I)I"⟩
abbrev cX6_sunniest : ByteArray := prog_8_method_10_code
def yX6_sunniest : MethodName := ⟨RX6, "sunniest", "(LRodRings$Rod;)I"⟩
abbrev cX6_litHours : ByteArray := prog_8_method_11_code
def yX6_litHours : MethodName := ⟨RX6, "litHours", "(LRodRings$Rod;I)I"⟩
abbrev cX6_evenLength : ByteArray := prog_8_method_12_code
def yX6_evenLength : MethodName := ⟨RX6, "evenLength", "(LRodRings$Rod;II)I"⟩
abbrev cX6_enviousPairs : ByteArray := prog_8_method_13_code
def yX6_enviousPairs : MethodName := ⟨RX6, "enviousPairs", "(LRodRings$Rod;)I"⟩
abbrev cX6_restingChoices : ByteArray := prog_8_method_14_code
def yX6_restingChoices : MethodName := ⟨RX6, "restingChoices", "(LRodRings$Rod;I)I"⟩
abbrev cX6_gain : ByteArray := prog_8_method_15_code
def yX6_gain : MethodName := ⟨RX6, "gain", "(LRodRings$Rod;II)I"⟩
abbrev cX6_largestBunch : ByteArray := prog_8_method_16_code
def yX6_largestBunch : MethodName := ⟨RX6, "largestBunch", "(LRodRings$Rod;)I"⟩
abbrev cX6_thickBeyondJoin : ByteArray := prog_8_method_17_code
def yX6_thickBeyondJoin : MethodName := ⟨RX6, "thickBeyondJoin", "(LRodRings$Rod;)I"⟩
abbrev cX6_likePairs : ByteArray := prog_8_method_18_code
def yX6_likePairs : MethodName := ⟨RX6, "likePairs", "(LRodRings$Rod;)I"⟩
def RX7 : String := "RodRings$Pulls"
def TX7 : u_T := fun k => match k with
  | 0 => ("RodRings$Pulls", "tape", "LRodRings$Tape;", true)
  | 1 => ("RodRings$Pulls", "draft", "LRodRings$Rod;", true)
  | 2 => ("RodRings$Pulls", "fitting", "[I", true)
  | 3 => ("RodRings$Pulls", "parts", "[I", true)
  | 4 => ("RodRings$Pulls", "fits", "I", false)
  | 5 => ("RodRings$Pulls", "steps", "I", false)
  | _ => ("RodRings$Pulls", "mover", "I", false)
def tyX7 : Nat → FieldType := fun k => match k with
  | 0 => .object "RodRings$Tape"
  | 1 => .object "RodRings$Rod"
  | 2 => .array .int
  | 3 => .array .int
  | 4 => .int
  | 5 => .int
  | _ => .int
abbrev wsX70 : List Cond := u_ws RX7 TX7 7
theorem nmX7 : ∀ a, a < 7 → ∀ b, b < 7 → a ≠ b → (TX7 a).2.1 ≠ (TX7 b).2.1 := by decide +kernel
theorem tyX7_ok : ∀ k, k < 7 → parseFieldDescriptor (TX7 k).2.2.1 = some (tyX7 k) := by decide +kernel
abbrev cX7_init : ByteArray := prog_9_method_1_code
def yX7_init : MethodName := ⟨RX7, "<init>", "(LRodRings$Tape;LRodRings$Rod;)V"⟩
abbrev cX7_shadiest : ByteArray := prog_9_method_2_code
def yX7_shadiest : MethodName := ⟨RX7, "shadiest", "(LRodRings$Rod;)I"⟩
abbrev cX7_seekShade : ByteArray := prog_9_method_3_code
def yX7_seekShade : MethodName := ⟨RX7, "seekShade", "(LRodRings$Rod;I)V"⟩
abbrev cX7_stepsToShade : ByteArray := prog_9_method_4_code
def yX7_stepsToShade : MethodName := ⟨RX7, "stepsToShade", "(LRodRings$Rod;II)I"⟩
abbrev cX7_fewestFreed : ByteArray := prog_9_method_5_code
def yX7_fewestFreed : MethodName := ⟨RX7, "fewestFreed", "(LRodRings$Rod;IZI)I"⟩
abbrev cX7_farWith : ByteArray := prog_9_method_6_code
def yX7_farWith : MethodName := ⟨RX7, "farWith", "(LRodRings$Rod;IIZI)I"⟩
abbrev cX7_areRows : ByteArray := prog_9_method_7_code
def yX7_areRows : MethodName := ⟨RX7, "areRows", "(I)Z"⟩
abbrev cX7_seekSnags : ByteArray := prog_9_method_8_code
def yX7_seekSnags : MethodName := ⟨RX7, "seekSnags", "(LRodRings$Rod;)V"⟩
abbrev cX7_isFitting : ByteArray := prog_9_method_9_code
def yX7_isFitting : MethodName := ⟨RX7, "isFitting", "(LRodRings$Rod;I)Z"⟩
abbrev cX7_inAllFitting : ByteArray := prog_9_method_10_code
def yX7_inAllFitting : MethodName := ⟨RX7, "inAllFitting", "()I"⟩
abbrev cX7_partingPull : ByteArray := prog_9_method_11_code
def yX7_partingPull : MethodName := ⟨RX7, "partingPull", "(LRodRings$Rod;)I"⟩
abbrev cX7_greatestPart : ByteArray := prog_9_method_12_code
def yX7_greatestPart : MethodName := ⟨RX7, "greatestPart", "(LRodRings$Rod;I)I"⟩
def RX8 : String := "RodRings$Rod"
def TX8 : u_T := fun k => match k with
  | 0 => ("RodRings$Rod", "place", "[I", true)
  | 1 => ("RodRings$Rod", "cloth", "[I", true)
  | 2 => ("RodRings$Rod", "fade", "[I", true)
  | 3 => ("RodRings$Rod", "length", "[I", true)
  | 4 => ("RodRings$Rod", "log", "LRodRings$Log;", true)
  | 5 => ("RodRings$Rod", "count", "I", false)
  | 6 => ("RodRings$Rod", "thick", "I", false)
  | 7 => ("RodRings$Rod", "wood", "I", false)
  | 8 => ("RodRings$Rod", "hooked", "I", false)
  | 9 => ("RodRings$Rod", "snagged", "I", false)
  | 10 => ("RodRings$Rod", "chairs", "I", false)
  | 11 => ("RodRings$Rod", "join", "I", false)
  | 12 => ("RodRings$Rod", "wide", "I", false)
  | 13 => ("RodRings$Rod", "hour", "I", false)
  | 14 => ("RodRings$Rod", "day", "I", false)
  | 15 => ("RodRings$Rod", "noise", "I", false)
  | 16 => ("RodRings$Rod", "seed", "I", false)
  | _ => ("RodRings$Rod", "texts", "I", false)
def tyX8 : Nat → FieldType := fun k => match k with
  | 0 => .array .int
  | 1 => .array .int
  | 2 => .array .int
  | 3 => .array .int
  | 4 => .object "RodRings$Log"
  | 5 => .int
  | 6 => .int
  | 7 => .int
  | 8 => .int
  | 9 => .int
  | 10 => .int
  | 11 => .int
  | 12 => .int
  | 13 => .int
  | 14 => .int
  | 15 => .int
  | 16 => .int
  | _ => .int
abbrev wsX80 : List Cond := u_ws RX8 TX8 18
theorem nmX8 : ∀ a, a < 18 → ∀ b, b < 18 → a ≠ b → (TX8 a).2.1 ≠ (TX8 b).2.1 := by decide +kernel
theorem tyX8_ok : ∀ k, k < 18 → parseFieldDescriptor (TX8 k).2.2.1 = some (tyX8 k) := by decide +kernel
abbrev cX8_init : ByteArray := prog_10_method_1_code
def yX8_init : MethodName := ⟨RX8, "<init>", "()V"⟩
abbrev cX8_copyFrom : ByteArray := prog_10_method_2_code
def yX8_copyFrom : MethodName := ⟨RX8, "copyFrom", "(LRodRings$Rod;)V"⟩
abbrev cX8_hangAs : ByteArray := prog_10_method_3_code
def yX8_hangAs : MethodName := ⟨RX8, "hangAs", "(LRodRings$Rod;)V"⟩
abbrev cX8_nearestNew : ByteArray := prog_10_method_4_code
def yX8_nearestNew : MethodName := ⟨RX8, "nearestNew", "()I"⟩
abbrev cX8_farthestNew : ByteArray := prog_10_method_5_code
def yX8_farthestNew : MethodName := ⟨RX8, "farthestNew", "()I"⟩
abbrev cX8_add : ByteArray := prog_10_method_6_code
def yX8_add : MethodName := ⟨RX8, "add", "(II)V"⟩
abbrev cX8_gap : ByteArray := prog_10_method_7_code
def yX8_gap : MethodName := ⟨RX8, "gap", "(II)I"⟩
abbrev cX8_isLit : ByteArray := prog_10_method_8_code
def yX8_isLit : MethodName := ⟨RX8, "isLit", "(II)Z"⟩
abbrev cX8_unhooked : ByteArray := prog_10_method_9_code
def yX8_unhooked : MethodName := ⟨RX8, "unhooked", "()I"⟩
abbrev cX8_allFades : ByteArray := prog_10_method_10_code
def yX8_allFades : MethodName := ⟨RX8, "allFades", "()I"⟩
abbrev cX8_shadow : ByteArray := prog_10_method_11_code
def yX8_shadow : MethodName := ⟨RX8, "shadow", "()I"⟩
abbrev cX8_shadedChairs : ByteArray := prog_10_method_12_code
def yX8_shadedChairs : MethodName := ⟨RX8, "shadedChairs", "()I"⟩
abbrev cX8_goers : ByteArray := prog_10_method_13_code
def yX8_goers : MethodName := ⟨RX8, "goers", "(IZ)I"⟩
abbrev cX8_goTogether : ByteArray := prog_10_method_14_code
def yX8_goTogether : MethodName := ⟨RX8, "goTogether", "(IZ)Z"⟩
abbrev cX8_isStopped : ByteArray := prog_10_method_15_code
def yX8_isStopped : MethodName := ⟨RX8, "isStopped", "(IZ)Z"⟩
abbrev cX8_move : ByteArray := prog_10_method_16_code
def yX8_move : MethodName := ⟨RX8, "move", "(IZI)I"⟩
def RX9 : String := "RodRings$RodReader"
def TX9 : u_T := fun k => match k with
  | 0 => ("RodRings$LineReader", "tape", "LRodRings$Tape;", true)
  | 1 => ("RodRings$LineReader", "mostLines", "I", true)
  | _ => ("RodRings$RodReader", "draft", "LRodRings$Rod;", true)
def tyX9 : Nat → FieldType := fun k => match k with
  | 0 => .object "RodRings$Tape"
  | 1 => .int
  | _ => .object "RodRings$Rod"
abbrev wsX90 : List Cond := u_ws RX9 TX9 3
theorem nmX9 : ∀ a, a < 3 → ∀ b, b < 3 → a ≠ b → (TX9 a).2.1 ≠ (TX9 b).2.1 := by decide +kernel
theorem tyX9_ok : ∀ k, k < 3 → parseFieldDescriptor (TX9 k).2.2.1 = some (tyX9 k) := by decide +kernel
abbrev cX9_init : ByteArray := prog_11_method_1_code
def yX9_init : MethodName := ⟨RX9, "<init>", "(LRodRings$Tape;LRodRings$Rod;)V"⟩
abbrev cX9_readLine : ByteArray := prog_11_method_2_code
def yX9_readLine : MethodName := ⟨RX9, "readLine", "()Z"⟩
abbrev cX9_beginsLine : ByteArray := prog_11_method_3_code
def yX9_beginsLine : MethodName := ⟨RX9, "beginsLine", "(I)Z"⟩
abbrev cX9_readNumber : ByteArray := prog_11_method_4_code
def yX9_readNumber : MethodName := ⟨RX9, "readNumber", "(I)I"⟩
abbrev cX9_keepNumber : ByteArray := prog_11_method_5_code
def yX9_keepNumber : MethodName := ⟨RX9, "keepNumber", "(II)V"⟩
abbrev cX9_readRing : ByteArray := prog_11_method_6_code
def yX9_readRing : MethodName := ⟨RX9, "readRing", "()Z"⟩
abbrev cX9_readMore : ByteArray := prog_11_method_7_code
def yX9_readMore : MethodName := ⟨RX9, "readMore", "(I[III)Z"⟩
def RX10 : String := "RodRings$Tape"
def TX10 : u_T := fun k => match k with
  | 0 => ("RodRings$Tape", "bytes", "[B", true)
  | 1 => ("RodRings$Tape", "kinds", "[I", true)
  | 2 => ("RodRings$Tape", "starts", "[I", true)
  | 3 => ("RodRings$Tape", "numbers", "[I", true)
  | 4 => ("RodRings$Tape", "things", "I", false)
  | 5 => ("RodRings$Tape", "next", "I", false)
  | _ => ("RodRings$Tape", "length", "I", false)
def tyX10 : Nat → FieldType := fun k => match k with
  | 0 => .array .byte
  | 1 => .array .int
  | 2 => .array .int
  | 3 => .array .int
  | 4 => .int
  | 5 => .int
  | _ => .int
abbrev wsX100 : List Cond := u_ws RX10 TX10 7
theorem nmX10 : ∀ a, a < 7 → ∀ b, b < 7 → a ≠ b → (TX10 a).2.1 ≠ (TX10 b).2.1 := by decide +kernel
theorem tyX10_ok : ∀ k, k < 7 → parseFieldDescriptor (TX10 k).2.2.1 = some (tyX10 k) := by decide +kernel
abbrev cX10_init : ByteArray := prog_12_method_1_code
def yX10_init : MethodName := ⟨RX10, "<init>", "()V"⟩
abbrev cX10_hasRoom : ByteArray := prog_12_method_2_code
def yX10_hasRoom : MethodName := ⟨RX10, "hasRoom", "()Z"⟩
abbrev cX10_put : ByteArray := prog_12_method_3_code
def yX10_put : MethodName := ⟨RX10, "put", "(I)V"⟩
abbrev cX10_at : ByteArray := prog_12_method_4_code
def yX10_at : MethodName := ⟨RX10, "at", "(I)I"⟩
abbrev cX10_scan : ByteArray := prog_12_method_5_code
def yX10_scan : MethodName := ⟨RX10, "scan", "()V"⟩
abbrev cX10_scanThing : ByteArray := prog_12_method_6_code
def yX10_scanThing : MethodName := ⟨RX10, "scanThing", "(I)I"⟩
abbrev cX10_endOfRow : ByteArray := prog_12_method_7_code
def yX10_endOfRow : MethodName := ⟨RX10, "endOfRow", "(III)I"⟩
abbrev cX10_numberBetween : ByteArray := prog_12_method_8_code
def yX10_numberBetween : MethodName := ⟨RX10, "numberBetween", "(II)I"⟩
abbrev cX10_wordBetween : ByteArray := prog_12_method_9_code
def yX10_wordBetween : MethodName := ⟨RX10, "wordBetween", "(II)I"⟩
abbrev cX10_standsAt : ByteArray := prog_12_method_10_code
def yX10_standsAt : MethodName := ⟨RX10, "standsAt", "(III)Z"⟩
abbrev cX10_kind : ByteArray := prog_12_method_11_code
def yX10_kind : MethodName := ⟨RX10, "kind", "()I"⟩
abbrev cX10_start : ByteArray := prog_12_method_12_code
def yX10_start : MethodName := ⟨RX10, "start", "()I"⟩
abbrev cX10_skip : ByteArray := prog_12_method_13_code
def yX10_skip : MethodName := ⟨RX10, "skip", "()V"⟩
abbrev cX10_take : ByteArray := prog_12_method_14_code
def yX10_take : MethodName := ⟨RX10, "take", "(I)Z"⟩
abbrev cX10_takeNumber : ByteArray := prog_12_method_15_code
def yX10_takeNumber : MethodName := ⟨RX10, "takeNumber", "(II)I"⟩
def RX11 : String := "RodRings"
def TX11 : u_T := fun k => match k with
  | 0 => ("RodRings", "tape", "LRodRings$Tape;", true)
  | 1 => ("RodRings", "rod", "LRodRings$Rod;", true)
  | 2 => ("RodRings", "law", "LRodRings$Law;", true)
  | 3 => ("RodRings", "acts", "LRodRings$Acts;", true)
  | 4 => ("RodRings", "draft", "LRodRings$Rod;", true)
  | 5 => ("RodRings", "draftLaw", "LRodRings$Law;", true)
  | 6 => ("RodRings", "rodReader", "LRodRings$RodReader;", true)
  | 7 => ("RodRings", "lawReader", "LRodRings$LawReader;", true)
  | 8 => ("RodRings", "clock", "LRodRings$Clock;", true)
  | 9 => ("RodRings", "pulls", "LRodRings$Pulls;", true)
  | 10 => ("RodRings", "keptRod", "LRodRings$Rod;", false)
  | 11 => ("RodRings", "keptLaw", "LRodRings$Law;", false)
  | _ => ("RodRings", "wrongByte", "I", false)
def tyX11 : Nat → FieldType := fun k => match k with
  | 0 => .object "RodRings$Tape"
  | 1 => .object "RodRings$Rod"
  | 2 => .object "RodRings$Law"
  | 3 => .object "RodRings$Acts"
  | 4 => .object "RodRings$Rod"
  | 5 => .object "RodRings$Law"
  | 6 => .object "RodRings$RodReader"
  | 7 => .object "RodRings$LawReader"
  | 8 => .object "RodRings$Clock"
  | 9 => .object "RodRings$Pulls"
  | 10 => .object "RodRings$Rod"
  | 11 => .object "RodRings$Law"
  | _ => .int
abbrev wsX110 : List Cond := u_ws RX11 TX11 13
theorem nmX11 : ∀ a, a < 13 → ∀ b, b < 13 → a ≠ b → (TX11 a).2.1 ≠ (TX11 b).2.1 := by decide +kernel
theorem tyX11_ok : ∀ k, k < 13 → parseFieldDescriptor (TX11 k).2.2.1 = some (tyX11 k) := by decide +kernel
abbrev cX11_init : ByteArray := prog_1_method_1_code
def yX11_init : MethodName := ⟨RX11, "<init>", "()V"⟩
abbrev cX11_feed : ByteArray := prog_1_method_2_code
def yX11_feed : MethodName := ⟨RX11, "feed", "(IIIII)I"⟩
abbrev cX11_end : ByteArray := prog_1_method_3_code
def yX11_end : MethodName := ⟨RX11, "end", "(I)Z"⟩
abbrev cX11_pole : ByteArray := prog_1_method_4_code
def yX11_pole : MethodName := ⟨RX11, "pole", "()I"⟩
abbrev cX11_law : ByteArray := prog_1_method_5_code
def yX11_law : MethodName := ⟨RX11, "law", "()I"⟩
abbrev cX11_fault : ByteArray := prog_1_method_6_code
def yX11_fault : MethodName := ⟨RX11, "fault", "()I"⟩
abbrev cX11_ring : ByteArray := prog_1_method_7_code
def yX11_ring : MethodName := ⟨RX11, "ring", "(II)I"⟩
abbrev cX11_pull : ByteArray := prog_1_method_8_code
def yX11_pull : MethodName := ⟨RX11, "pull", "(IZI)I"⟩
abbrev cX11_free : ByteArray := prog_1_method_9_code
def yX11_free : MethodName := ⟨RX11, "free", "(I)I"⟩
abbrev cX11_snag : ByteArray := prog_1_method_10_code
def yX11_snag : MethodName := ⟨RX11, "snag", "(I)I"⟩
abbrev cX11_hook : ByteArray := prog_1_method_11_code
def yX11_hook : MethodName := ⟨RX11, "hook", "(IZ)Z"⟩
abbrev cX11_sew : ByteArray := prog_1_method_12_code
def yX11_sew : MethodName := ⟨RX11, "sew", "(II)I"⟩
abbrev cX11_let : ByteArray := prog_1_method_13_code
def yX11_let : MethodName := ⟨RX11, "let", "(II)I"⟩
abbrev cX11_chair : ByteArray := prog_1_method_14_code
def yX11_chair : MethodName := ⟨RX11, "chair", "(IZ)Z"⟩
abbrev cX11_hours : ByteArray := prog_1_method_15_code
def yX11_hours : MethodName := ⟨RX11, "hours", "(I)I"⟩
abbrev cX11_shade : ByteArray := prog_1_method_16_code
def yX11_shade : MethodName := ⟨RX11, "shade", "()I"⟩
abbrev cX11_dark : ByteArray := prog_1_method_17_code
def yX11_dark : MethodName := ⟨RX11, "dark", "()I"⟩
abbrev cX11_bare : ByteArray := prog_1_method_18_code
def yX11_bare : MethodName := ⟨RX11, "bare", "()I"⟩
abbrev cX11_goes : ByteArray := prog_1_method_19_code
def yX11_goes : MethodName := ⟨RX11, "goes", "(IZ)I"⟩
abbrev cX11_with : ByteArray := prog_1_method_20_code
def yX11_with : MethodName := ⟨RX11, "with", "(IZ)I"⟩
abbrev cX11_would : ByteArray := prog_1_method_21_code
def yX11_would : MethodName := ⟨RX11, "would", "(IZIZ)I"⟩
abbrev cX11_best : ByteArray := prog_1_method_22_code
def yX11_best : MethodName := ⟨RX11, "best", "()I"⟩
abbrev cX11_fewest : ByteArray := prog_1_method_23_code
def yX11_fewest : MethodName := ⟨RX11, "fewest", "(I)I"⟩
abbrev cX11_first : ByteArray := prog_1_method_24_code
def yX11_first : MethodName := ⟨RX11, "first", "(I)I"⟩
abbrev cX11_snags : ByteArray := prog_1_method_25_code
def yX11_snags : MethodName := ⟨RX11, "snags", "(Z)I"⟩
abbrev cX11_tries : ByteArray := prog_1_method_26_code
def yX11_tries : MethodName := ⟨RX11, "tries", "()I"⟩
abbrev cX11_loosen : ByteArray := prog_1_method_27_code
def yX11_loosen : MethodName := ⟨RX11, "loosen", "(IZI)I"⟩
abbrev cX11_order : ByteArray := prog_1_method_28_code
def yX11_order : MethodName := ⟨RX11, "order", "()I"⟩
abbrev cX11_tight : ByteArray := prog_1_method_29_code
def yX11_tight : MethodName := ⟨RX11, "tight", "(I)I"⟩
abbrev cX11_slack : ByteArray := prog_1_method_30_code
def yX11_slack : MethodName := ⟨RX11, "slack", "()I"⟩
abbrev cX11_taut : ByteArray := prog_1_method_31_code
def yX11_taut : MethodName := ⟨RX11, "taut", "()I"⟩
abbrev cX11_lit : ByteArray := prog_1_method_32_code
def yX11_lit : MethodName := ⟨RX11, "lit", "(I)I"⟩
abbrev cX11_sunny : ByteArray := prog_1_method_33_code
def yX11_sunny : MethodName := ⟨RX11, "sunny", "()I"⟩
abbrev cX11_faded : ByteArray := prog_1_method_34_code
def yX11_faded : MethodName := ⟨RX11, "faded", "(I)I"⟩
abbrev cX11_pale : ByteArray := prog_1_method_35_code
def yX11_pale : MethodName := ⟨RX11, "pale", "()I"⟩
abbrev cX11_lets : ByteArray := prog_1_method_36_code
def yX11_lets : MethodName := ⟨RX11, "lets", "(II)I"⟩
abbrev cX11_envy : ByteArray := prog_1_method_37_code
def yX11_envy : MethodName := ⟨RX11, "envy", "()I"⟩
abbrev cX11_rests : ByteArray := prog_1_method_38_code
def yX11_rests : MethodName := ⟨RX11, "rests", "(I)I"⟩
abbrev cX11_bunch : ByteArray := prog_1_method_39_code
def yX11_bunch : MethodName := ⟨RX11, "bunch", "()I"⟩
abbrev cX11_wooden : ByteArray := prog_1_method_40_code
def yX11_wooden : MethodName := ⟨RX11, "wooden", "()I"⟩
abbrev cX11_caught : ByteArray := prog_1_method_41_code
def yX11_caught : MethodName := ⟨RX11, "caught", "()I"⟩
abbrev cX11_loose : ByteArray := prog_1_method_42_code
def yX11_loose : MethodName := ⟨RX11, "loose", "()I"⟩
abbrev cX11_beyond : ByteArray := prog_1_method_43_code
def yX11_beyond : MethodName := ⟨RX11, "beyond", "()I"⟩
abbrev cX11_odds : ByteArray := prog_1_method_44_code
def yX11_odds : MethodName := ⟨RX11, "odds", "(II)I"⟩
abbrev cX11_twins : ByteArray := prog_1_method_45_code
def yX11_twins : MethodName := ⟨RX11, "twins", "()I"⟩
abbrev cX11_ahead : ByteArray := prog_1_method_46_code
def yX11_ahead : MethodName := ⟨RX11, "ahead", "(II)I"⟩
abbrev cX11_trial : ByteArray := prog_1_method_47_code
def yX11_trial : MethodName := ⟨RX11, "trial", "(IZ)I"⟩
abbrev cX11_span : ByteArray := prog_1_method_48_code
def yX11_span : MethodName := ⟨RX11, "span", "(IZ)I"⟩
abbrev cX11_led : ByteArray := prog_1_method_49_code
def yX11_led : MethodName := ⟨RX11, "led", "(IZ)I"⟩
abbrev cX11_log : ByteArray := prog_1_method_50_code
def yX11_log : MethodName := ⟨RX11, "log", "(II)I"⟩
abbrev cX11_seed : ByteArray := prog_1_method_51_code
def yX11_seed : MethodName := ⟨RX11, "seed", "(I)I"⟩
abbrev cX11_undo : ByteArray := prog_1_method_52_code
def yX11_undo : MethodName := ⟨RX11, "undo", "()Z"⟩
abbrev cX11_image : ByteArray := prog_1_method_53_code
def yX11_image : MethodName := ⟨RX11, "image", "()V"⟩
abbrev cX11_back : ByteArray := prog_1_method_54_code
def yX11_back : MethodName := ⟨RX11, "back", "()Z"⟩
abbrev cX11_count : ByteArray := prog_1_method_55_code
def yX11_count : MethodName := ⟨RX11, "count", "(I)I"⟩
abbrev cX11_requireRing : ByteArray := prog_1_method_56_code
def yX11_requireRing : MethodName := ⟨RX11, "requireRing", "(I)V"⟩
abbrev cX11_requirePlace : ByteArray := prog_1_method_57_code
def yX11_requirePlace : MethodName := ⟨RX11, "requirePlace", "(I)V"⟩
abbrev cX11_requireNumber : ByteArray := prog_1_method_58_code
def yX11_requireNumber : MethodName := ⟨RX11, "requireNumber", "(III)V"⟩
abbrev cX11_readSnags : ByteArray := prog_1_method_59_code
def yX11_readSnags : MethodName := ⟨RX11, "readSnags", "()V"⟩
abbrev cX11_bit : ByteArray := prog_1_method_60_code
def yX11_bit : MethodName := ⟨RX11, "bit", "(II)I"⟩
abbrev cX11_withBit : ByteArray := prog_1_method_61_code
def yX11_withBit : MethodName := ⟨RX11, "withBit", "(IIZ)I"⟩
def RX12 : String := "RodRingsModel"
def TX12 : u_T := fun k => match k with
  | 0 => ("RodRingsModel", "thrown", "I", false)
  | 1 => ("RodRingsModel", "world", "[I", true)
  | 2 => ("RodRingsModel", "image", "[I", true)
  | 3 => ("RodRingsModel", "earlier", "[I", true)
  | 4 => ("RodRingsModel", "trial", "[I", true)
  | 5 => ("RodRingsModel", "acts", "[I", true)
  | 6 => ("RodRingsModel", "hasImage", "Z", false)
  | 7 => ("RodRingsModel", "remembered", "I", false)
  | 8 => ("RodRingsModel", "tape", "[B", true)
  | 9 => ("RodRingsModel", "taped", "I", false)
  | 10 => ("RodRingsModel", "point", "I", false)
  | 11 => ("RodRingsModel", "end", "I", false)
  | 12 => ("RodRingsModel", "begin", "I", false)
  | 13 => ("RodRingsModel", "deep", "I", false)
  | 14 => ("RodRingsModel", "faultAt", "I", false)
  | 15 => ("RodRingsModel", "five", "[I", true)
  | 16 => ("RodRingsModel", "steps", "I", false)
  | 17 => ("RodRingsModel", "value", "[I", true)
  | 18 => ("RodRingsModel", "sound", "I", false)
  | 19 => ("RodRingsModel", "fitting", "[Z", true)
  | 20 => ("RodRingsModel", "parts", "[I", true)
  | _ => ("RodRingsModel", "stays", "[I", true)
def tyX12 : Nat → FieldType := fun k => match k with
  | 0 => .int
  | 1 => .array .int
  | 2 => .array .int
  | 3 => .array .int
  | 4 => .array .int
  | 5 => .array .int
  | 6 => .boolean
  | 7 => .int
  | 8 => .array .byte
  | 9 => .int
  | 10 => .int
  | 11 => .int
  | 12 => .int
  | 13 => .int
  | 14 => .int
  | 15 => .array .int
  | 16 => .int
  | 17 => .array .int
  | 18 => .int
  | 19 => .array .boolean
  | 20 => .array .int
  | _ => .array .int
abbrev wsX120 : List Cond := u_ws RX12 TX12 22
theorem nmX12 : ∀ a, a < 22 → ∀ b, b < 22 → a ≠ b → (TX12 a).2.1 ≠ (TX12 b).2.1 := by decide +kernel
theorem tyX12_ok : ∀ k, k < 22 → parseFieldDescriptor (TX12 k).2.2.1 = some (tyX12 k) := by decide +kernel
abbrev cX12_thrown : ByteArray := prog_14_method_1_code
def yX12_thrown : MethodName := ⟨RX12, "thrown", "()I"⟩
abbrev cX12_throwsIf : ByteArray := prog_14_method_2_code
def yX12_throwsIf : MethodName := ⟨RX12, "throwsIf", "(ZI)Z"⟩
abbrev cX12_in : ByteArray := prog_14_method_3_code
def yX12_in : MethodName := ⟨RX12, "in", "(III)Z"⟩
abbrev cX12_has : ByteArray := prog_14_method_4_code
def yX12_has : MethodName := ⟨RX12, "has", "(II)Z"⟩
abbrev cX12_init : ByteArray := prog_14_method_5_code
def yX12_init : MethodName := ⟨RX12, "<init>", "()V"⟩
abbrev cX12_image : ByteArray := prog_14_method_6_code
def yX12_image : MethodName := ⟨RX12, "image", "()V"⟩
abbrev cX12_back : ByteArray := prog_14_method_7_code
def yX12_back : MethodName := ⟨RX12, "back", "()Z"⟩
abbrev cX12_remembers : ByteArray := prog_14_method_8_code
def yX12_remembers : MethodName := ⟨RX12, "remembers", "()V"⟩
abbrev cX12_undo : ByteArray := prog_14_method_9_code
def yX12_undo : MethodName := ⟨RX12, "undo", "()Z"⟩
abbrev cX12_rings : ByteArray := prog_14_method_10_code
def yX12_rings : MethodName := ⟨RX12, "rings", "()I"⟩
abbrev cX12_lastRing : ByteArray := prog_14_method_11_code
def yX12_lastRing : MethodName := ⟨RX12, "lastRing", "()I"⟩
abbrev cX12_at : ByteArray := prog_14_method_12_code
def yX12_at : MethodName := ⟨RX12, "at", "(II)I"⟩
abbrev cX12_of : ByteArray := prog_14_method_13_code
def yX12_of : MethodName := ⟨RX12, "of", "(II)I"⟩
abbrev cX12_is : ByteArray := prog_14_method_14_code
def yX12_is : MethodName := ⟨RX12, "is", "(II)Z"⟩
abbrev cX12_gapOf : ByteArray := prog_14_method_15_code
def yX12_gapOf : MethodName := ⟨RX12, "gapOf", "(I)I"⟩
abbrev cX12_ringsThat : ByteArray := prog_14_method_16_code
def yX12_ringsThat : MethodName := ⟨RX12, "ringsThat", "(I)I"⟩
abbrev cX12_noRing : ByteArray := prog_14_method_17_code
def yX12_noRing : MethodName := ⟨RX12, "noRing", "(I)Z"⟩
abbrev cX12_noPlace : ByteArray := prog_14_method_18_code
def yX12_noPlace : MethodName := ⟨RX12, "noPlace", "(I)Z"⟩
abbrev cX12_noSteps : ByteArray := prog_14_method_19_code
def yX12_noSteps : MethodName := ⟨RX12, "noSteps", "(I)Z"⟩
abbrev cX12_drawn : ByteArray := prog_14_method_20_code
def yX12_drawn : MethodName := ⟨RX12, "drawn", "(I)I"⟩
abbrev cX12_feed : ByteArray := prog_14_method_21_code
def yX12_feed : MethodName := ⟨RX12, "feed", "(IIIII)I"⟩
abbrev cX12_end : ByteArray := prog_14_method_22_code
def yX12_end : MethodName := ⟨RX12, "end", "(I)Z"⟩
abbrev cX12_isAt : ByteArray := prog_14_method_23_code
def yX12_isAt : MethodName := ⟨RX12, "isAt", "(II)Z"⟩
abbrev cX12_blanks : ByteArray := prog_14_method_24_code
def yX12_blanks : MethodName := ⟨RX12, "blanks", "()V"⟩
abbrev cX12_letters : ByteArray := prog_14_method_25_code
def yX12_letters : MethodName := ⟨RX12, "letters", "()V"⟩
abbrev cX12_isWord : ByteArray := prog_14_method_26_code
def yX12_isWord : MethodName := ⟨RX12, "isWord", "(Ljava/lang/String;)Z"⟩
abbrev cX12_passes : ByteArray := prog_14_method_27_code
def yX12_passes : MethodName := ⟨RX12, "passes", "(Ljava/lang/String;)Z"⟩
abbrev cX12_sign : ByteArray := prog_14_method_28_code
def yX12_sign : MethodName := ⟨RX12, "sign", "(I)Z"⟩
abbrev cX12_number : ByteArray := prog_14_method_29_code
def yX12_number : MethodName := ⟨RX12, "number", "(II)I"⟩
abbrev cX12_after : ByteArray := prog_14_method_30_code
def yX12_after : MethodName := ⟨RX12, "after", "(Ljava/lang/String;II)I"⟩
abbrev cX12_fault : ByteArray := prog_14_method_31_code
def yX12_fault : MethodName := ⟨RX12, "fault", "()I"⟩
abbrev cX12_uses : ByteArray := prog_14_method_32_code
def yX12_uses : MethodName := ⟨RX12, "uses", "()V"⟩
abbrev cX12_readNumber : ByteArray := prog_14_method_33_code
def yX12_readNumber : MethodName := ⟨RX12, "readNumber", "(III)Z"⟩
abbrev cX12_leastPlace : ByteArray := prog_14_method_34_code
def yX12_leastPlace : MethodName := ⟨RX12, "leastPlace", "()I"⟩
abbrev cX12_mostPlace : ByteArray := prog_14_method_35_code
def yX12_mostPlace : MethodName := ⟨RX12, "mostPlace", "()I"⟩
abbrev cX12_hangs : ByteArray := prog_14_method_36_code
def yX12_hangs : MethodName := ⟨RX12, "hangs", "(II)V"⟩
abbrev cX12_readRing : ByteArray := prog_14_method_37_code
def yX12_readRing : MethodName := ⟨RX12, "readRing", "()Z"⟩
abbrev cX12_readCaught : ByteArray := prog_14_method_38_code
def yX12_readCaught : MethodName := ⟨RX12, "readCaught", "()Z"⟩
abbrev cX12_readChair : ByteArray := prog_14_method_39_code
def yX12_readChair : MethodName := ⟨RX12, "readChair", "()Z"⟩
abbrev cX12_readPoleLine : ByteArray := prog_14_method_40_code
def yX12_readPoleLine : MethodName := ⟨RX12, "readPoleLine", "()Z"⟩
abbrev cX12_emits : ByteArray := prog_14_method_41_code
def yX12_emits : MethodName := ⟨RX12, "emits", "(II)V"⟩
abbrev cX12_wordOfPart : ByteArray := prog_14_method_42_code
def yX12_wordOfPart : MethodName := ⟨RX12, "wordOfPart", "()I"⟩
abbrev cX12_readPart : ByteArray := prog_14_method_43_code
def yX12_readPart : MethodName := ⟨RX12, "readPart", "()Z"⟩
abbrev cX12_readSum : ByteArray := prog_14_method_44_code
def yX12_readSum : MethodName := ⟨RX12, "readSum", "()Z"⟩
abbrev cX12_readTag : ByteArray := prog_14_method_45_code
def yX12_readTag : MethodName := ⟨RX12, "readTag", "()Z"⟩
abbrev cX12_readAtom : ByteArray := prog_14_method_46_code
def yX12_readAtom : MethodName := ⟨RX12, "readAtom", "()Z"⟩
abbrev cX12_readAllOf : ByteArray := prog_14_method_47_code
def yX12_readAllOf : MethodName := ⟨RX12, "readAllOf", "()Z"⟩
abbrev cX12_readCond : ByteArray := prog_14_method_48_code
def yX12_readCond : MethodName := ⟨RX12, "readCond", "()Z"⟩
abbrev cX12_readLawLine : ByteArray := prog_14_method_49_code
def yX12_readLawLine : MethodName := ⟨RX12, "readLawLine", "(I)Z"⟩
abbrev cX12_readLine : ByteArray := prog_14_method_50_code
def yX12_readLine : MethodName := ⟨RX12, "readLine", "(ZI)Z"⟩
abbrev cX12_readAll : ByteArray := prog_14_method_51_code
def yX12_readAll : MethodName := ⟨RX12, "readAll", "(Z)I"⟩
abbrev cX12_pole : ByteArray := prog_14_method_52_code
def yX12_pole : MethodName := ⟨RX12, "pole", "()I"⟩
abbrev cX12_law : ByteArray := prog_14_method_53_code
def yX12_law : MethodName := ⟨RX12, "law", "()I"⟩
abbrev cX12_isLit : ByteArray := prog_14_method_54_code
def yX12_isLit : MethodName := ⟨RX12, "isLit", "(II)Z"⟩
abbrev cX12_factOf : ByteArray := prog_14_method_55_code
def yX12_factOf : MethodName := ⟨RX12, "factOf", "(III)I"⟩
abbrev cX12_holdsLine : ByteArray := prog_14_method_56_code
def yX12_holdsLine : MethodName := ⟨RX12, "holdsLine", "(II)Z"⟩
abbrev cX12_sumOf : ByteArray := prog_14_method_57_code
def yX12_sumOf : MethodName := ⟨RX12, "sumOf", "(II)I"⟩
abbrev cX12_byLaw : ByteArray := prog_14_method_58_code
def yX12_byLaw : MethodName := ⟨RX12, "byLaw", "(II)I"⟩
abbrev cX12_fadesOfAll : ByteArray := prog_14_method_59_code
def yX12_fadesOfAll : MethodName := ⟨RX12, "fadesOfAll", "()I"⟩
abbrev cX12_shareOf : ByteArray := prog_14_method_60_code
def yX12_shareOf : MethodName := ⟨RX12, "shareOf", "(I)I"⟩
abbrev cX12_hangsOn : ByteArray := prog_14_method_61_code
def yX12_hangsOn : MethodName := ⟨RX12, "hangsOn", "(I)I"⟩
abbrev cX12_ring : ByteArray := prog_14_method_62_code
def yX12_ring : MethodName := ⟨RX12, "ring", "(II)I"⟩
abbrev cX12_takesAlong : ByteArray := prog_14_method_63_code
def yX12_takesAlong : MethodName := ⟨RX12, "takesAlong", "(IIZ)Z"⟩
abbrev cX12_allWith : ByteArray := prog_14_method_64_code
def yX12_allWith : MethodName := ⟨RX12, "allWith", "(IZ)I"⟩
abbrev cX12_mayGo : ByteArray := prog_14_method_65_code
def yX12_mayGo : MethodName := ⟨RX12, "mayGo", "(IZ)Z"⟩
abbrev cX12_goingBy : ByteArray := prog_14_method_66_code
def yX12_goingBy : MethodName := ⟨RX12, "goingBy", "(IZ)I"⟩
abbrev cX12_goesOne : ByteArray := prog_14_method_67_code
def yX12_goesOne : MethodName := ⟨RX12, "goesOne", "(IZ)Z"⟩
abbrev cX12_pulls : ByteArray := prog_14_method_68_code
def yX12_pulls : MethodName := ⟨RX12, "pulls", "(IZI)I"⟩
abbrev cX12_tells : ByteArray := prog_14_method_69_code
def yX12_tells : MethodName := ⟨RX12, "tells", "(III)V"⟩
abbrev cX12_pull : ByteArray := prog_14_method_70_code
def yX12_pull : MethodName := ⟨RX12, "pull", "(IZI)I"⟩
abbrev cX12_free : ByteArray := prog_14_method_71_code
def yX12_free : MethodName := ⟨RX12, "free", "(I)I"⟩
abbrev cX12_snag : ByteArray := prog_14_method_72_code
def yX12_snag : MethodName := ⟨RX12, "snag", "(I)I"⟩
abbrev cX12_hook : ByteArray := prog_14_method_73_code
def yX12_hook : MethodName := ⟨RX12, "hook", "(IZ)Z"⟩
abbrev cX12_sew : ByteArray := prog_14_method_74_code
def yX12_sew : MethodName := ⟨RX12, "sew", "(II)I"⟩
abbrev cX12_let : ByteArray := prog_14_method_75_code
def yX12_let : MethodName := ⟨RX12, "let", "(II)I"⟩
abbrev cX12_chair : ByteArray := prog_14_method_76_code
def yX12_chair : MethodName := ⟨RX12, "chair", "(IZ)Z"⟩
abbrev cX12_catches : ByteArray := prog_14_method_77_code
def yX12_catches : MethodName := ⟨RX12, "catches", "()I"⟩
abbrev cX12_falls : ByteArray := prog_14_method_78_code
def yX12_falls : MethodName := ⟨RX12, "falls", "()I"⟩
abbrev cX12_oneHour : ByteArray := prog_14_method_79_code
def yX12_oneHour : MethodName := ⟨RX12, "oneHour", "(Z)I"⟩
abbrev cX12_goesOn : ByteArray := prog_14_method_80_code
def yX12_goesOn : MethodName := ⟨RX12, "goesOn", "(IZ)I"⟩
abbrev cX12_keepsAll : ByteArray := prog_14_method_81_code
def yX12_keepsAll : MethodName := ⟨RX12, "keepsAll", "()V"⟩
abbrev cX12_bringsBack : ByteArray := prog_14_method_82_code
def yX12_bringsBack : MethodName := ⟨RX12, "bringsBack", "()V"⟩
abbrev cX12_hours : ByteArray := prog_14_method_83_code
def yX12_hours : MethodName := ⟨RX12, "hours", "(I)I"⟩
abbrev cX12_noAhead : ByteArray := prog_14_method_84_code
def yX12_noAhead : MethodName := ⟨RX12, "noAhead", "(I)Z"⟩
abbrev cX12_ahead : ByteArray := prog_14_method_85_code
def yX12_ahead : MethodName := ⟨RX12, "ahead", "(II)I"⟩
abbrev cX12_faded : ByteArray := prog_14_method_86_code
def yX12_faded : MethodName := ⟨RX12, "faded", "(I)I"⟩
abbrev cX12_somePale : ByteArray := prog_14_method_87_code
def yX12_somePale : MethodName := ⟨RX12, "somePale", "()Z"⟩
abbrev cX12_pale : ByteArray := prog_14_method_88_code
def yX12_pale : MethodName := ⟨RX12, "pale", "()I"⟩
abbrev cX12_shadeNow : ByteArray := prog_14_method_89_code
def yX12_shadeNow : MethodName := ⟨RX12, "shadeNow", "()I"⟩
abbrev cX12_darkNow : ByteArray := prog_14_method_90_code
def yX12_darkNow : MethodName := ⟨RX12, "darkNow", "()I"⟩
abbrev cX12_shade : ByteArray := prog_14_method_91_code
def yX12_shade : MethodName := ⟨RX12, "shade", "()I"⟩
abbrev cX12_dark : ByteArray := prog_14_method_92_code
def yX12_dark : MethodName := ⟨RX12, "dark", "()I"⟩
abbrev cX12_bare : ByteArray := prog_14_method_93_code
def yX12_bare : MethodName := ⟨RX12, "bare", "()I"⟩
abbrev cX12_goes : ByteArray := prog_14_method_94_code
def yX12_goes : MethodName := ⟨RX12, "goes", "(IZ)I"⟩
abbrev cX12_with : ByteArray := prog_14_method_95_code
def yX12_with : MethodName := ⟨RX12, "with", "(IZ)I"⟩
abbrev cX12_would : ByteArray := prog_14_method_96_code
def yX12_would : MethodName := ⟨RX12, "would", "(IZIZ)I"⟩
abbrev cX12_best : ByteArray := prog_14_method_97_code
def yX12_best : MethodName := ⟨RX12, "best", "()I"⟩
abbrev cX12_shadesAll : ByteArray := prog_14_method_98_code
def yX12_shadesAll : MethodName := ⟨RX12, "shadesAll", "(I)Z"⟩
abbrev cX12_stepsTo : ByteArray := prog_14_method_99_code
def yX12_stepsTo : MethodName := ⟨RX12, "stepsTo", "(IIZ)I"⟩
abbrev cX12_fewestTo : ByteArray := prog_14_method_100_code
def yX12_fewestTo : MethodName := ⟨RX12, "fewestTo", "(IZ)I"⟩
abbrev cX12_fewest : ByteArray := prog_14_method_101_code
def yX12_fewest : MethodName := ⟨RX12, "fewest", "(I)I"⟩
abbrev cX12_first : ByteArray := prog_14_method_102_code
def yX12_first : MethodName := ⟨RX12, "first", "(I)I"⟩
abbrev cX12_isTold : ByteArray := prog_14_method_103_code
def yX12_isTold : MethodName := ⟨RX12, "isTold", "()Z"⟩
abbrev cX12_thatCanCatch : ByteArray := prog_14_method_104_code
def yX12_thatCanCatch : MethodName := ⟨RX12, "thatCanCatch", "()I"⟩
abbrev cX12_areCaught : ByteArray := prog_14_method_105_code
def yX12_areCaught : MethodName := ⟨RX12, "areCaught", "(I)V"⟩
abbrev cX12_wentWith : ByteArray := prog_14_method_106_code
def yX12_wentWith : MethodName := ⟨RX12, "wentWith", "(IIZI)I"⟩
abbrev cX12_fits : ByteArray := prog_14_method_107_code
def yX12_fits : MethodName := ⟨RX12, "fits", "(I)Z"⟩
abbrev cX12_snags : ByteArray := prog_14_method_108_code
def yX12_snags : MethodName := ⟨RX12, "snags", "(Z)I"⟩
abbrev cX12_partBy : ByteArray := prog_14_method_109_code
def yX12_partBy : MethodName := ⟨RX12, "partBy", "(IZ)I"⟩
abbrev cX12_tries : ByteArray := prog_14_method_110_code
def yX12_tries : MethodName := ⟨RX12, "tries", "()I"⟩
abbrev cX12_loosen : ByteArray := prog_14_method_111_code
def yX12_loosen : MethodName := ⟨RX12, "loosen", "(IZI)I"⟩
abbrev cX12_order : ByteArray := prog_14_method_112_code
def yX12_order : MethodName := ⟨RX12, "order", "()I"⟩
abbrev cX12_tight : ByteArray := prog_14_method_113_code
def yX12_tight : MethodName := ⟨RX12, "tight", "(I)I"⟩
abbrev cX12_slack : ByteArray := prog_14_method_114_code
def yX12_slack : MethodName := ⟨RX12, "slack", "()I"⟩
abbrev cX12_taut : ByteArray := prog_14_method_115_code
def yX12_taut : MethodName := ⟨RX12, "taut", "()I"⟩
abbrev cX12_bunch : ByteArray := prog_14_method_116_code
def yX12_bunch : MethodName := ⟨RX12, "bunch", "()I"⟩
abbrev cX12_litIn : ByteArray := prog_14_method_117_code
def yX12_litIn : MethodName := ⟨RX12, "litIn", "(I)I"⟩
abbrev cX12_lit : ByteArray := prog_14_method_118_code
def yX12_lit : MethodName := ⟨RX12, "lit", "(I)I"⟩
abbrev cX12_sunny : ByteArray := prog_14_method_119_code
def yX12_sunny : MethodName := ⟨RX12, "sunny", "()I"⟩
abbrev cX12_lets : ByteArray := prog_14_method_120_code
def yX12_lets : MethodName := ⟨RX12, "lets", "(II)I"⟩
abbrev cX12_envy : ByteArray := prog_14_method_121_code
def yX12_envy : MethodName := ⟨RX12, "envy", "()I"⟩
abbrev cX12_eachHas : ByteArray := prog_14_method_122_code
def yX12_eachHas : MethodName := ⟨RX12, "eachHas", "(III)I"⟩
abbrev cX12_rests : ByteArray := prog_14_method_123_code
def yX12_rests : MethodName := ⟨RX12, "rests", "(I)I"⟩
abbrev cX12_wooden : ByteArray := prog_14_method_124_code
def yX12_wooden : MethodName := ⟨RX12, "wooden", "()I"⟩
abbrev cX12_caught : ByteArray := prog_14_method_125_code
def yX12_caught : MethodName := ⟨RX12, "caught", "()I"⟩
abbrev cX12_looseOnes : ByteArray := prog_14_method_126_code
def yX12_looseOnes : MethodName := ⟨RX12, "looseOnes", "()I"⟩
abbrev cX12_loose : ByteArray := prog_14_method_127_code
def yX12_loose : MethodName := ⟨RX12, "loose", "()I"⟩
abbrev cX12_beyond : ByteArray := prog_14_method_128_code
def yX12_beyond : MethodName := ⟨RX12, "beyond", "()I"⟩
abbrev cX12_odds : ByteArray := prog_14_method_129_code
def yX12_odds : MethodName := ⟨RX12, "odds", "(II)I"⟩
abbrev cX12_likens : ByteArray := prog_14_method_130_code
def yX12_likens : MethodName := ⟨RX12, "likens", "(II)Z"⟩
abbrev cX12_twins : ByteArray := prog_14_method_131_code
def yX12_twins : MethodName := ⟨RX12, "twins", "()I"⟩
abbrev cX12_trial : ByteArray := prog_14_method_132_code
def yX12_trial : MethodName := ⟨RX12, "trial", "(IZ)I"⟩
abbrev cX12_span : ByteArray := prog_14_method_133_code
def yX12_span : MethodName := ⟨RX12, "span", "(IZ)I"⟩
abbrev cX12_ofLog : ByteArray := prog_14_method_134_code
def yX12_ofLog : MethodName := ⟨RX12, "ofLog", "(II)I"⟩
abbrev cX12_led : ByteArray := prog_14_method_135_code
def yX12_led : MethodName := ⟨RX12, "led", "(IZ)I"⟩
abbrev cX12_log : ByteArray := prog_14_method_136_code
def yX12_log : MethodName := ⟨RX12, "log", "(II)I"⟩
abbrev cX12_seed : ByteArray := prog_14_method_137_code
def yX12_seed : MethodName := ⟨RX12, "seed", "(I)I"⟩
abbrev cX12_count : ByteArray := prog_14_method_138_code
def yX12_count : MethodName := ⟨RX12, "count", "(I)I"⟩
def RJx145de : String := "java/io/Serializable"
def TJx145de : u_T := fun k => match k with
  | _ => ("", "", "", false)
def tyJx145de : Nat → FieldType := fun k => match k with
  | _ => .int
abbrev wsJx145de0 : List Cond := u_ws RJx145de TJx145de 0
theorem nmJx145de : ∀ a, a < 0 → ∀ b, b < 0 → a ≠ b → (TJx145de a).2.1 ≠ (TJx145de b).2.1 := by decide +kernel
theorem tyJx145de_ok : ∀ k, k < 0 → parseFieldDescriptor (TJx145de k).2.2.1 = some (tyJx145de k) := by decide +kernel
def RJx9f9b0 : String := "java/lang/CharSequence"
def TJx9f9b0 : u_T := fun k => match k with
  | _ => ("", "", "", false)
def tyJx9f9b0 : Nat → FieldType := fun k => match k with
  | _ => .int
abbrev wsJx9f9b00 : List Cond := u_ws RJx9f9b0 TJx9f9b0 0
theorem nmJx9f9b0 : ∀ a, a < 0 → ∀ b, b < 0 → a ≠ b → (TJx9f9b0 a).2.1 ≠ (TJx9f9b0 b).2.1 := by decide +kernel
theorem tyJx9f9b0_ok : ∀ k, k < 0 → parseFieldDescriptor (TJx9f9b0 k).2.2.1 = some (tyJx9f9b0 k) := by decide +kernel
def RJxb160c : String := "java/lang/Comparable"
def TJxb160c : u_T := fun k => match k with
  | _ => ("", "", "", false)
def tyJxb160c : Nat → FieldType := fun k => match k with
  | _ => .int
abbrev wsJxb160c0 : List Cond := u_ws RJxb160c TJxb160c 0
theorem nmJxb160c : ∀ a, a < 0 → ∀ b, b < 0 → a ≠ b → (TJxb160c a).2.1 ≠ (TJxb160c b).2.1 := by decide +kernel
theorem tyJxb160c_ok : ∀ k, k < 0 → parseFieldDescriptor (TJxb160c k).2.2.1 = some (tyJxb160c k) := by decide +kernel
def RJ6 : String := "java/lang/Integer"
def TJ6 : u_T := fun k => match k with
  | _ => ("", "", "", false)
def tyJ6 : Nat → FieldType := fun k => match k with
  | _ => .int
abbrev wsJ60 : List Cond := u_ws RJ6 TJ6 0
theorem nmJ6 : ∀ a, a < 0 → ∀ b, b < 0 → a ≠ b → (TJ6 a).2.1 ≠ (TJ6 b).2.1 := by decide +kernel
theorem tyJ6_ok : ∀ k, k < 0 → parseFieldDescriptor (TJ6 k).2.2.1 = some (tyJ6 k) := by decide +kernel
abbrev cJ6_bitCount_0f7a4 : ByteArray := prog_22_method_49_code
def yJ6_bitCount_0f7a4 : MethodName := ⟨RJ6, "bitCount", "(I)I"⟩
def RJ9 : String := "java/lang/Math"
def TJ9 : u_T := fun k => match k with
  | _ => ("", "", "", false)
def tyJ9 : Nat → FieldType := fun k => match k with
  | _ => .int
abbrev wsJ90 : List Cond := u_ws RJ9 TJ9 0
theorem nmJ9 : ∀ a, a < 0 → ∀ b, b < 0 → a ≠ b → (TJ9 a).2.1 ≠ (TJ9 b).2.1 := by decide +kernel
theorem tyJ9_ok : ∀ k, k < 0 → parseFieldDescriptor (TJ9 k).2.2.1 = some (tyJ9 k) := by decide +kernel
abbrev cJ9_floorMod_7cf53 : ByteArray := prog_23_method_50_code
def yJ9_floorMod_7cf53 : MethodName := ⟨RJ9, "floorMod", "(II)I"⟩
abbrev cJ9_abs_0f7a4 : ByteArray := prog_23_method_59_code
def yJ9_abs_0f7a4 : MethodName := ⟨RJ9, "abs", "(I)I"⟩
abbrev cJ9_max_7cf53 : ByteArray := prog_23_method_65_code
def yJ9_max_7cf53 : MethodName := ⟨RJ9, "max", "(II)I"⟩
abbrev cJ9_min_7cf53 : ByteArray := prog_23_method_69_code
def yJ9_min_7cf53 : MethodName := ⟨RJ9, "min", "(II)I"⟩
def RJ0 : String := "java/lang/String"
def TJ0 : u_T := fun k => match k with
  | _ => ("", "", "", false)
def tyJ0 : Nat → FieldType := fun k => match k with
  | _ => .int
abbrev wsJ00 : List Cond := u_ws RJ0 TJ0 0
theorem nmJ0 : ∀ a, a < 0 → ∀ b, b < 0 → a ≠ b → (TJ0 a).2.1 ≠ (TJ0 b).2.1 := by decide +kernel
theorem tyJ0_ok : ∀ k, k < 0 → parseFieldDescriptor (TJ0 k).2.2.1 = some (tyJ0 k) := by decide +kernel
abbrev cJ0_length_8abf5 : ByteArray := prog_25_method_54_code
def yJ0_length_8abf5 : MethodName := ⟨RJ0, "length", "()I"⟩
abbrev cJ0_charAt_5068e : ByteArray := prog_25_method_56_code
def yJ0_charAt_5068e : MethodName := ⟨RJ0, "charAt", "(I)C"⟩
abbrev cJ0_coder_7d493 : ByteArray := prog_25_method_152_code
def yJ0_coder_7d493 : MethodName := ⟨RJ0, "coder", "()B"⟩
abbrev cJ0_isLatin1_aae02 : ByteArray := prog_25_method_154_code
def yJ0_isLatin1_aae02 : MethodName := ⟨RJ0, "isLatin1", "()Z"⟩
abbrev cJ0_checkIndex_df160 : ByteArray := prog_25_method_155_code
def yJ0_checkIndex_df160 : MethodName := ⟨RJ0, "checkIndex", "(II)V"⟩
def RJ1 : String := "java/lang/StringLatin1"
def TJ1 : u_T := fun k => match k with
  | _ => ("", "", "", false)
def tyJ1 : Nat → FieldType := fun k => match k with
  | _ => .int
abbrev wsJ10 : List Cond := u_ws RJ1 TJ1 0
theorem nmJ1 : ∀ a, a < 0 → ∀ b, b < 0 → a ≠ b → (TJ1 a).2.1 ≠ (TJ1 b).2.1 := by decide +kernel
theorem tyJ1_ok : ∀ k, k < 0 → parseFieldDescriptor (TJ1 k).2.2.1 = some (tyJ1 k) := by decide +kernel
abbrev cJ1_charAt_3b067 : ByteArray := prog_26_method_2_code
def yJ1_charAt_3b067 : MethodName := ⟨RJ1, "charAt", "([BI)C"⟩
def RJ2 : String := "java/lang/StringUTF16"
def TJ2 : u_T := fun k => match k with
  | _ => ("", "", "", false)
def tyJ2 : Nat → FieldType := fun k => match k with
  | _ => .int
abbrev wsJ20 : List Cond := u_ws RJ2 TJ2 0
theorem nmJ2 : ∀ a, a < 0 → ∀ b, b < 0 → a ≠ b → (TJ2 a).2.1 ≠ (TJ2 b).2.1 := by decide +kernel
theorem tyJ2_ok : ∀ k, k < 0 → parseFieldDescriptor (TJ2 k).2.2.1 = some (tyJ2 k) := by decide +kernel
abbrev cJ2_getChar_3b067 : ByteArray := prog_27_method_5_code
def yJ2_getChar_3b067 : MethodName := ⟨RJ2, "getChar", "([BI)C"⟩
abbrev cJ2_length_9d52b : ByteArray := prog_27_method_6_code
def yJ2_length_9d52b : MethodName := ⟨RJ2, "length", "([B)I"⟩
abbrev cJ2_charAt_3b067 : ByteArray := prog_27_method_83_code
def yJ2_charAt_3b067 : MethodName := ⟨RJ2, "charAt", "([BI)C"⟩
abbrev cJ2_checkIndex_2214a : ByteArray := prog_27_method_91_code
def yJ2_checkIndex_2214a : MethodName := ⟨RJ2, "checkIndex", "(I[B)V"⟩
def RJ10 : String := "java/lang/System"
def TJ10 : u_T := fun k => match k with
  | _ => ("", "", "", false)
def tyJ10 : Nat → FieldType := fun k => match k with
  | _ => .int
abbrev wsJ100 : List Cond := u_ws RJ10 TJ10 0
theorem nmJ10 : ∀ a, a < 0 → ∀ b, b < 0 → a ≠ b → (TJ10 a).2.1 ≠ (TJ10 b).2.1 := by decide +kernel
theorem tyJ10_ok : ∀ k, k < 0 → parseFieldDescriptor (TJ10 k).2.2.1 = some (tyJ10 k) := by decide +kernel
def RJxfd54e : String := "java/lang/constant/Constable"
def TJxfd54e : u_T := fun k => match k with
  | _ => ("", "", "", false)
def tyJxfd54e : Nat → FieldType := fun k => match k with
  | _ => .int
abbrev wsJxfd54e0 : List Cond := u_ws RJxfd54e TJxfd54e 0
theorem nmJxfd54e : ∀ a, a < 0 → ∀ b, b < 0 → a ≠ b → (TJxfd54e a).2.1 ≠ (TJxfd54e b).2.1 := by decide +kernel
theorem tyJxfd54e_ok : ∀ k, k < 0 → parseFieldDescriptor (TJxfd54e k).2.2.1 = some (tyJxfd54e k) := by decide +kernel
def RJx3cf43 : String := "java/lang/constant/ConstantDesc"
def TJx3cf43 : u_T := fun k => match k with
  | _ => ("", "", "", false)
def tyJx3cf43 : Nat → FieldType := fun k => match k with
  | _ => .int
abbrev wsJx3cf430 : List Cond := u_ws RJx3cf43 TJx3cf43 0
theorem nmJx3cf43 : ∀ a, a < 0 → ∀ b, b < 0 → a ≠ b → (TJx3cf43 a).2.1 ≠ (TJx3cf43 b).2.1 := by decide +kernel
theorem tyJx3cf43_ok : ∀ k, k < 0 → parseFieldDescriptor (TJx3cf43 k).2.2.1 = some (tyJx3cf43 k) := by decide +kernel
def RJ3 : String := "jdk/internal/util/Preconditions"
def TJ3 : u_T := fun k => match k with
  | _ => ("", "", "", false)
def tyJ3 : Nat → FieldType := fun k => match k with
  | _ => .int
abbrev wsJ30 : List Cond := u_ws RJ3 TJ3 0
theorem nmJ3 : ∀ a, a < 0 → ∀ b, b < 0 → a ≠ b → (TJ3 a).2.1 ≠ (TJ3 b).2.1 := by decide +kernel
theorem tyJ3_ok : ∀ k, k < 0 → parseFieldDescriptor (TJ3 k).2.2.1 = some (tyJ3 k) := by decide +kernel
abbrev cJ3_checkIndex_8e157 : ByteArray := prog_34_method_11_code
def yJ3_checkIndex_8e157 : MethodName := ⟨RJ3, "checkIndex", "(IILjava/util/function/BiFunction;)I"⟩
def RL : String := "RodRingsLaw"
abbrev cL_pole : ByteArray := method_3_code
def yL_pole : MethodName := ⟨RL, "pole", "(LRodRings;[J)I"⟩
abbrev cL_law : ByteArray := method_4_code
def yL_law : MethodName := ⟨RL, "law", "(LRodRings;[J)I"⟩
abbrev cL_ring : ByteArray := method_5_code
def yL_ring : MethodName := ⟨RL, "ring", "(LRodRings;II[J)I"⟩
abbrev cL_pull : ByteArray := method_6_code
def yL_pull : MethodName := ⟨RL, "pull", "(LRodRings;IZI[J)I"⟩
abbrev cL_free : ByteArray := method_7_code
def yL_free : MethodName := ⟨RL, "free", "(LRodRings;I[J)I"⟩
abbrev cL_snag : ByteArray := method_8_code
def yL_snag : MethodName := ⟨RL, "snag", "(LRodRings;I[J)I"⟩
abbrev cL_hook : ByteArray := method_9_code
def yL_hook : MethodName := ⟨RL, "hook", "(LRodRings;IZ[J)I"⟩
abbrev cL_sew : ByteArray := method_10_code
def yL_sew : MethodName := ⟨RL, "sew", "(LRodRings;II[J)I"⟩
abbrev cL_let : ByteArray := method_11_code
def yL_let : MethodName := ⟨RL, "let", "(LRodRings;II[J)I"⟩
abbrev cL_chair : ByteArray := method_12_code
def yL_chair : MethodName := ⟨RL, "chair", "(LRodRings;IZ[J)I"⟩
abbrev cL_hours : ByteArray := method_13_code
def yL_hours : MethodName := ⟨RL, "hours", "(LRodRings;I[J)I"⟩
abbrev cL_goes : ByteArray := method_14_code
def yL_goes : MethodName := ⟨RL, "goes", "(LRodRings;IZ[J)I"⟩
abbrev cL_with : ByteArray := method_15_code
def yL_with : MethodName := ⟨RL, "with", "(LRodRings;IZ[J)I"⟩
abbrev cL_would : ByteArray := method_16_code
def yL_would : MethodName := ⟨RL, "would", "(LRodRings;IZIZ[J)I"⟩
abbrev cL_snags : ByteArray := method_17_code
def yL_snags : MethodName := ⟨RL, "snags", "(LRodRings;Z[J)I"⟩
abbrev cL_tries : ByteArray := method_18_code
def yL_tries : MethodName := ⟨RL, "tries", "(LRodRings;[J)I"⟩
abbrev cL_loosen : ByteArray := method_19_code
def yL_loosen : MethodName := ⟨RL, "loosen", "(LRodRings;IZI[J)I"⟩
abbrev cL_tight : ByteArray := method_20_code
def yL_tight : MethodName := ⟨RL, "tight", "(LRodRings;I[J)I"⟩
abbrev cL_lit : ByteArray := method_21_code
def yL_lit : MethodName := ⟨RL, "lit", "(LRodRings;I[J)I"⟩
abbrev cL_faded : ByteArray := method_22_code
def yL_faded : MethodName := ⟨RL, "faded", "(LRodRings;I[J)I"⟩
abbrev cL_lets : ByteArray := method_23_code
def yL_lets : MethodName := ⟨RL, "lets", "(LRodRings;II[J)I"⟩
abbrev cL_rests : ByteArray := method_24_code
def yL_rests : MethodName := ⟨RL, "rests", "(LRodRings;I[J)I"⟩
abbrev cL_odds : ByteArray := method_25_code
def yL_odds : MethodName := ⟨RL, "odds", "(LRodRings;II[J)I"⟩
abbrev cL_ahead : ByteArray := method_26_code
def yL_ahead : MethodName := ⟨RL, "ahead", "(LRodRings;II[J)I"⟩
abbrev cL_trial : ByteArray := method_27_code
def yL_trial : MethodName := ⟨RL, "trial", "(LRodRings;IZ[J)I"⟩
abbrev cL_span : ByteArray := method_28_code
def yL_span : MethodName := ⟨RL, "span", "(LRodRings;IZ[J)I"⟩
abbrev cL_led : ByteArray := method_29_code
def yL_led : MethodName := ⟨RL, "led", "(LRodRings;IZ[J)I"⟩
abbrev cL_log : ByteArray := method_30_code
def yL_log : MethodName := ⟨RL, "log", "(LRodRings;II[J)I"⟩
abbrev cL_law_ : ByteArray := code
def yL_law_ : MethodName := ⟨RL, "law", "([I)Z"⟩
abbrev vwCl : List vw_C := [(RX0, TX0, 3), (RX1, TX1, 2), (RX2, TX2, 9), (RX3, TX3, 3), (RX5, TX5, 3), (RX7, TX7, 7), (RX8, TX8, 18), (RX9, TX9, 3), (RX10, TX10, 7), (RX11, TX11, 13), (RX12, TX12, 22)]
theorem wlX00_0 : u_lay RX0 TX0 0 ∈ lw_tbl := List.mem_append_right _ (tm_2 (tE_2_0 (List.mem_of_getElem? (i := 14) rfl)))
theorem wlX00_1 : u_lay RX0 TX0 1 ∈ lw_tbl := List.mem_append_right _ (tm_2 (tE_2_1 (List.mem_of_getElem? (i := 0) rfl)))
theorem wlX00_2 : u_lay RX0 TX0 2 ∈ lw_tbl := List.mem_append_right _ (tm_2 (tE_2_1 (List.mem_of_getElem? (i := 2) rfl)))
theorem wsX00_tb : ∀ w ∈ wsX00, w ∈ lw_tbl := fun w hw => by
  obtain ⟨k, hk, rfl⟩ := List.mem_map.mp hw
  have hk := List.mem_range.mp hk
  match k, hk with
  | 0, _ => exact wlX00_0
  | 1, _ => exact wlX00_1
  | 2, _ => exact wlX00_2
  | k + 3, hk => exact absurd hk (by omega)
theorem wlX10_0 : u_lay RX1 TX1 0 ∈ lw_tbl := List.mem_append_right _ (tm_2 (tE_2_4 (List.mem_of_getElem? (i := 0) rfl)))
theorem wlX10_1 : u_lay RX1 TX1 1 ∈ lw_tbl := List.mem_append_right _ (tm_2 (tE_2_4 (List.mem_of_getElem? (i := 2) rfl)))
theorem wsX10_tb : ∀ w ∈ wsX10, w ∈ lw_tbl := fun w hw => by
  obtain ⟨k, hk, rfl⟩ := List.mem_map.mp hw
  have hk := List.mem_range.mp hk
  match k, hk with
  | 0, _ => exact wlX10_0
  | 1, _ => exact wlX10_1
  | k + 2, hk => exact absurd hk (by omega)
theorem wlX20_0 : u_lay RX2 TX2 0 ∈ lw_tbl := List.mem_append_right _ (tm_1 (tE_1_13 (List.mem_of_getElem? (i := 15) rfl)))
theorem wlX20_1 : u_lay RX2 TX2 1 ∈ lw_tbl := List.mem_append_right _ (tm_1 (tE_1_14 (List.mem_of_getElem? (i := 1) rfl)))
theorem wlX20_2 : u_lay RX2 TX2 2 ∈ lw_tbl := List.mem_append_right _ (tm_1 (tE_1_14 (List.mem_of_getElem? (i := 3) rfl)))
theorem wlX20_3 : u_lay RX2 TX2 3 ∈ lw_tbl := List.mem_append_right _ (tm_1 (tE_1_14 (List.mem_of_getElem? (i := 5) rfl)))
theorem wlX20_4 : u_lay RX2 TX2 4 ∈ lw_tbl := List.mem_append_right _ (tm_1 (tE_1_14 (List.mem_of_getElem? (i := 7) rfl)))
theorem wlX20_5 : u_lay RX2 TX2 5 ∈ lw_tbl := List.mem_append_right _ (tm_1 (tE_1_14 (List.mem_of_getElem? (i := 9) rfl)))
theorem wlX20_6 : u_lay RX2 TX2 6 ∈ lw_tbl := List.mem_append_right _ (tm_1 (tE_1_14 (List.mem_of_getElem? (i := 11) rfl)))
theorem wlX20_7 : u_lay RX2 TX2 7 ∈ lw_tbl := List.mem_append_right _ (tm_1 (tE_1_14 (List.mem_of_getElem? (i := 13) rfl)))
theorem wlX20_8 : u_lay RX2 TX2 8 ∈ lw_tbl := List.mem_append_right _ (tm_1 (tE_1_14 (List.mem_of_getElem? (i := 15) rfl)))
theorem wsX20_tb : ∀ w ∈ wsX20, w ∈ lw_tbl := fun w hw => by
  obtain ⟨k, hk, rfl⟩ := List.mem_map.mp hw
  have hk := List.mem_range.mp hk
  match k, hk with
  | 0, _ => exact wlX20_0
  | 1, _ => exact wlX20_1
  | 2, _ => exact wlX20_2
  | 3, _ => exact wlX20_3
  | 4, _ => exact wlX20_4
  | 5, _ => exact wlX20_5
  | 6, _ => exact wlX20_6
  | 7, _ => exact wlX20_7
  | 8, _ => exact wlX20_8
  | k + 9, hk => exact absurd hk (by omega)
theorem wlX30_0 : u_lay RX3 TX3 0 ∈ lw_tbl := List.mem_append_right _ (tm_2 (tE_2_3 (List.mem_of_getElem? (i := 5) rfl)))
theorem wlX30_1 : u_lay RX3 TX3 1 ∈ lw_tbl := List.mem_append_right _ (tm_2 (tE_2_3 (List.mem_of_getElem? (i := 6) rfl)))
theorem wlX30_2 : u_lay RX3 TX3 2 ∈ lw_tbl := List.mem_append_right _ (tm_2 (tE_2_3 (List.mem_of_getElem? (i := 3) rfl)))
theorem wsX30_tb : ∀ w ∈ wsX30, w ∈ lw_tbl := fun w hw => by
  obtain ⟨k, hk, rfl⟩ := List.mem_map.mp hw
  have hk := List.mem_range.mp hk
  match k, hk with
  | 0, _ => exact wlX30_0
  | 1, _ => exact wlX30_1
  | 2, _ => exact wlX30_2
  | k + 3, hk => exact absurd hk (by omega)
theorem wlX50_0 : u_lay RX5 TX5 0 ∈ lw_tbl := List.mem_append_right _ (tm_1 (tE_1_5 (List.mem_of_getElem? (i := 5) rfl)))
theorem wlX50_1 : u_lay RX5 TX5 1 ∈ lw_tbl := List.mem_append_right _ (tm_1 (tE_1_5 (List.mem_of_getElem? (i := 7) rfl)))
theorem wlX50_2 : u_lay RX5 TX5 2 ∈ lw_tbl := List.mem_append_right _ (tm_1 (tE_1_5 (List.mem_of_getElem? (i := 9) rfl)))
theorem wsX50_tb : ∀ w ∈ wsX50, w ∈ lw_tbl := fun w hw => by
  obtain ⟨k, hk, rfl⟩ := List.mem_map.mp hw
  have hk := List.mem_range.mp hk
  match k, hk with
  | 0, _ => exact wlX50_0
  | 1, _ => exact wlX50_1
  | 2, _ => exact wlX50_2
  | k + 3, hk => exact absurd hk (by omega)
theorem wlX70_0 : u_lay RX7 TX7 0 ∈ lw_tbl := List.mem_append_right _ (tm_2 (tE_2_5 (List.mem_of_getElem? (i := 5) rfl)))
theorem wlX70_1 : u_lay RX7 TX7 1 ∈ lw_tbl := List.mem_append_right _ (tm_2 (tE_2_5 (List.mem_of_getElem? (i := 7) rfl)))
theorem wlX70_2 : u_lay RX7 TX7 2 ∈ lw_tbl := List.mem_append_right _ (tm_2 (tE_2_5 (List.mem_of_getElem? (i := 9) rfl)))
theorem wlX70_3 : u_lay RX7 TX7 3 ∈ lw_tbl := List.mem_append_right _ (tm_2 (tE_2_5 (List.mem_of_getElem? (i := 11) rfl)))
theorem wlX70_4 : u_lay RX7 TX7 4 ∈ lw_tbl := List.mem_append_right _ (tm_2 (tE_2_5 (List.mem_of_getElem? (i := 13) rfl)))
theorem wlX70_5 : u_lay RX7 TX7 5 ∈ lw_tbl := List.mem_append_right _ (tm_2 (tE_2_5 (List.mem_of_getElem? (i := 15) rfl)))
theorem wlX70_6 : u_lay RX7 TX7 6 ∈ lw_tbl := List.mem_append_right _ (tm_2 (tE_2_6 (List.mem_of_getElem? (i := 1) rfl)))
theorem wsX70_tb : ∀ w ∈ wsX70, w ∈ lw_tbl := fun w hw => by
  obtain ⟨k, hk, rfl⟩ := List.mem_map.mp hw
  have hk := List.mem_range.mp hk
  match k, hk with
  | 0, _ => exact wlX70_0
  | 1, _ => exact wlX70_1
  | 2, _ => exact wlX70_2
  | 3, _ => exact wlX70_3
  | 4, _ => exact wlX70_4
  | 5, _ => exact wlX70_5
  | 6, _ => exact wlX70_6
  | k + 7, hk => exact absurd hk (by omega)
theorem wlX80_0 : u_lay RX8 TX8 0 ∈ lw_tbl := List.mem_append_right _ (tm_1 (tE_1_10 (List.mem_of_getElem? (i := 9) rfl)))
theorem wlX80_1 : u_lay RX8 TX8 1 ∈ lw_tbl := List.mem_append_right _ (tm_1 (tE_1_10 (List.mem_of_getElem? (i := 11) rfl)))
theorem wlX80_2 : u_lay RX8 TX8 2 ∈ lw_tbl := List.mem_append_right _ (tm_1 (tE_1_10 (List.mem_of_getElem? (i := 13) rfl)))
theorem wlX80_3 : u_lay RX8 TX8 3 ∈ lw_tbl := List.mem_append_right _ (tm_1 (tE_1_10 (List.mem_of_getElem? (i := 15) rfl)))
theorem wlX80_4 : u_lay RX8 TX8 4 ∈ lw_tbl := List.mem_append_right _ (tm_1 (tE_1_11 (List.mem_of_getElem? (i := 1) rfl)))
theorem wlX80_5 : u_lay RX8 TX8 5 ∈ lw_tbl := List.mem_append_right _ (tm_1 (tE_1_11 (List.mem_of_getElem? (i := 3) rfl)))
theorem wlX80_6 : u_lay RX8 TX8 6 ∈ lw_tbl := List.mem_append_right _ (tm_1 (tE_1_11 (List.mem_of_getElem? (i := 5) rfl)))
theorem wlX80_7 : u_lay RX8 TX8 7 ∈ lw_tbl := List.mem_append_right _ (tm_1 (tE_1_11 (List.mem_of_getElem? (i := 7) rfl)))
theorem wlX80_8 : u_lay RX8 TX8 8 ∈ lw_tbl := List.mem_append_right _ (tm_1 (tE_1_11 (List.mem_of_getElem? (i := 9) rfl)))
theorem wlX80_9 : u_lay RX8 TX8 9 ∈ lw_tbl := List.mem_append_right _ (tm_1 (tE_1_11 (List.mem_of_getElem? (i := 11) rfl)))
theorem wlX80_10 : u_lay RX8 TX8 10 ∈ lw_tbl := List.mem_append_right _ (tm_1 (tE_1_11 (List.mem_of_getElem? (i := 13) rfl)))
theorem wlX80_11 : u_lay RX8 TX8 11 ∈ lw_tbl := List.mem_append_right _ (tm_1 (tE_1_11 (List.mem_of_getElem? (i := 15) rfl)))
theorem wlX80_12 : u_lay RX8 TX8 12 ∈ lw_tbl := List.mem_append_right _ (tm_1 (tE_1_12 (List.mem_of_getElem? (i := 1) rfl)))
theorem wlX80_13 : u_lay RX8 TX8 13 ∈ lw_tbl := List.mem_append_right _ (tm_1 (tE_1_12 (List.mem_of_getElem? (i := 3) rfl)))
theorem wlX80_14 : u_lay RX8 TX8 14 ∈ lw_tbl := List.mem_append_right _ (tm_1 (tE_1_12 (List.mem_of_getElem? (i := 5) rfl)))
theorem wlX80_15 : u_lay RX8 TX8 15 ∈ lw_tbl := List.mem_append_right _ (tm_1 (tE_1_12 (List.mem_of_getElem? (i := 7) rfl)))
theorem wlX80_16 : u_lay RX8 TX8 16 ∈ lw_tbl := List.mem_append_right _ (tm_1 (tE_1_12 (List.mem_of_getElem? (i := 9) rfl)))
theorem wlX80_17 : u_lay RX8 TX8 17 ∈ lw_tbl := List.mem_append_right _ (tm_1 (tE_1_12 (List.mem_of_getElem? (i := 11) rfl)))
theorem wsX80_tb : ∀ w ∈ wsX80, w ∈ lw_tbl := fun w hw => by
  obtain ⟨k, hk, rfl⟩ := List.mem_map.mp hw
  have hk := List.mem_range.mp hk
  match k, hk with
  | 0, _ => exact wlX80_0
  | 1, _ => exact wlX80_1
  | 2, _ => exact wlX80_2
  | 3, _ => exact wlX80_3
  | 4, _ => exact wlX80_4
  | 5, _ => exact wlX80_5
  | 6, _ => exact wlX80_6
  | 7, _ => exact wlX80_7
  | 8, _ => exact wlX80_8
  | 9, _ => exact wlX80_9
  | 10, _ => exact wlX80_10
  | 11, _ => exact wlX80_11
  | 12, _ => exact wlX80_12
  | 13, _ => exact wlX80_13
  | 14, _ => exact wlX80_14
  | 15, _ => exact wlX80_15
  | 16, _ => exact wlX80_16
  | 17, _ => exact wlX80_17
  | k + 18, hk => exact absurd hk (by omega)
theorem wlX90_0 : u_lay RX9 TX9 0 ∈ lw_tbl := List.mem_append_right _ (tm_2 (tE_2_2 (List.mem_of_getElem? (i := 7) rfl)))
theorem wlX90_1 : u_lay RX9 TX9 1 ∈ lw_tbl := List.mem_append_right _ (tm_2 (tE_2_2 (List.mem_of_getElem? (i := 9) rfl)))
theorem wlX90_2 : u_lay RX9 TX9 2 ∈ lw_tbl := List.mem_append_right _ (tm_2 (tE_2_2 (List.mem_of_getElem? (i := 5) rfl)))
theorem wsX90_tb : ∀ w ∈ wsX90, w ∈ lw_tbl := fun w hw => by
  obtain ⟨k, hk, rfl⟩ := List.mem_map.mp hw
  have hk := List.mem_range.mp hk
  match k, hk with
  | 0, _ => exact wlX90_0
  | 1, _ => exact wlX90_1
  | 2, _ => exact wlX90_2
  | k + 3, hk => exact absurd hk (by omega)
theorem wlX100_0 : u_lay RX10 TX10 0 ∈ lw_tbl := List.mem_append_right _ (tm_1 (tE_1_3 (List.mem_of_getElem? (i := 4) rfl)))
theorem wlX100_1 : u_lay RX10 TX10 1 ∈ lw_tbl := List.mem_append_right _ (tm_1 (tE_1_3 (List.mem_of_getElem? (i := 6) rfl)))
theorem wlX100_2 : u_lay RX10 TX10 2 ∈ lw_tbl := List.mem_append_right _ (tm_1 (tE_1_3 (List.mem_of_getElem? (i := 8) rfl)))
theorem wlX100_3 : u_lay RX10 TX10 3 ∈ lw_tbl := List.mem_append_right _ (tm_1 (tE_1_3 (List.mem_of_getElem? (i := 10) rfl)))
theorem wlX100_4 : u_lay RX10 TX10 4 ∈ lw_tbl := List.mem_append_right _ (tm_1 (tE_1_3 (List.mem_of_getElem? (i := 12) rfl)))
theorem wlX100_5 : u_lay RX10 TX10 5 ∈ lw_tbl := List.mem_append_right _ (tm_1 (tE_1_3 (List.mem_of_getElem? (i := 14) rfl)))
theorem wlX100_6 : u_lay RX10 TX10 6 ∈ lw_tbl := List.mem_append_right _ (tm_1 (tE_1_4 (List.mem_of_getElem? (i := 0) rfl)))
theorem wsX100_tb : ∀ w ∈ wsX100, w ∈ lw_tbl := fun w hw => by
  obtain ⟨k, hk, rfl⟩ := List.mem_map.mp hw
  have hk := List.mem_range.mp hk
  match k, hk with
  | 0, _ => exact wlX100_0
  | 1, _ => exact wlX100_1
  | 2, _ => exact wlX100_2
  | 3, _ => exact wlX100_3
  | 4, _ => exact wlX100_4
  | 5, _ => exact wlX100_5
  | 6, _ => exact wlX100_6
  | k + 7, hk => exact absurd hk (by omega)
theorem wlX110_0 : u_lay RX11 TX11 0 ∈ lw_tbl := List.mem_append_right _ (tm_2 (tE_2_7 (List.mem_of_getElem? (i := 1) rfl)))
theorem wlX110_1 : u_lay RX11 TX11 1 ∈ lw_tbl := List.mem_append_right _ (tm_2 (tE_2_7 (List.mem_of_getElem? (i := 3) rfl)))
theorem wlX110_2 : u_lay RX11 TX11 2 ∈ lw_tbl := List.mem_append_right _ (tm_2 (tE_2_7 (List.mem_of_getElem? (i := 5) rfl)))
theorem wlX110_3 : u_lay RX11 TX11 3 ∈ lw_tbl := List.mem_append_right _ (tm_2 (tE_2_7 (List.mem_of_getElem? (i := 7) rfl)))
theorem wlX110_4 : u_lay RX11 TX11 4 ∈ lw_tbl := List.mem_append_right _ (tm_2 (tE_2_7 (List.mem_of_getElem? (i := 9) rfl)))
theorem wlX110_5 : u_lay RX11 TX11 5 ∈ lw_tbl := List.mem_append_right _ (tm_2 (tE_2_7 (List.mem_of_getElem? (i := 11) rfl)))
theorem wlX110_6 : u_lay RX11 TX11 6 ∈ lw_tbl := List.mem_append_right _ (tm_2 (tE_2_7 (List.mem_of_getElem? (i := 13) rfl)))
theorem wlX110_7 : u_lay RX11 TX11 7 ∈ lw_tbl := List.mem_append_right _ (tm_2 (tE_2_7 (List.mem_of_getElem? (i := 15) rfl)))
theorem wlX110_8 : u_lay RX11 TX11 8 ∈ lw_tbl := List.mem_append_right _ (tm_2 (tE_2_8 (List.mem_of_getElem? (i := 1) rfl)))
theorem wlX110_9 : u_lay RX11 TX11 9 ∈ lw_tbl := List.mem_append_right _ (tm_2 (tE_2_8 (List.mem_of_getElem? (i := 3) rfl)))
theorem wlX110_10 : u_lay RX11 TX11 10 ∈ lw_tbl := List.mem_append_right _ (tm_2 (tE_2_8 (List.mem_of_getElem? (i := 5) rfl)))
theorem wlX110_11 : u_lay RX11 TX11 11 ∈ lw_tbl := List.mem_append_right _ (tm_2 (tE_2_8 (List.mem_of_getElem? (i := 7) rfl)))
theorem wlX110_12 : u_lay RX11 TX11 12 ∈ lw_tbl := List.mem_append_right _ (tm_2 (tE_2_8 (List.mem_of_getElem? (i := 9) rfl)))
theorem wsX110_tb : ∀ w ∈ wsX110, w ∈ lw_tbl := fun w hw => by
  obtain ⟨k, hk, rfl⟩ := List.mem_map.mp hw
  have hk := List.mem_range.mp hk
  match k, hk with
  | 0, _ => exact wlX110_0
  | 1, _ => exact wlX110_1
  | 2, _ => exact wlX110_2
  | 3, _ => exact wlX110_3
  | 4, _ => exact wlX110_4
  | 5, _ => exact wlX110_5
  | 6, _ => exact wlX110_6
  | 7, _ => exact wlX110_7
  | 8, _ => exact wlX110_8
  | 9, _ => exact wlX110_9
  | 10, _ => exact wlX110_10
  | 11, _ => exact wlX110_11
  | 12, _ => exact wlX110_12
  | k + 13, hk => exact absurd hk (by omega)
theorem wlX120_0 : u_lay RX12 TX12 0 ∈ lw_tbl := List.mem_append_right _ (tm_6 (tE_6_11 (List.mem_of_getElem? (i := 5) rfl)))
theorem wlX120_1 : u_lay RX12 TX12 1 ∈ lw_tbl := List.mem_append_right _ (tm_6 (tE_6_11 (List.mem_of_getElem? (i := 7) rfl)))
theorem wlX120_2 : u_lay RX12 TX12 2 ∈ lw_tbl := List.mem_append_right _ (tm_6 (tE_6_11 (List.mem_of_getElem? (i := 9) rfl)))
theorem wlX120_3 : u_lay RX12 TX12 3 ∈ lw_tbl := List.mem_append_right _ (tm_6 (tE_6_11 (List.mem_of_getElem? (i := 11) rfl)))
theorem wlX120_4 : u_lay RX12 TX12 4 ∈ lw_tbl := List.mem_append_right _ (tm_6 (tE_6_11 (List.mem_of_getElem? (i := 13) rfl)))
theorem wlX120_5 : u_lay RX12 TX12 5 ∈ lw_tbl := List.mem_append_right _ (tm_6 (tE_6_11 (List.mem_of_getElem? (i := 15) rfl)))
theorem wlX120_6 : u_lay RX12 TX12 6 ∈ lw_tbl := List.mem_append_right _ (tm_6 (tE_6_12 (List.mem_of_getElem? (i := 1) rfl)))
theorem wlX120_7 : u_lay RX12 TX12 7 ∈ lw_tbl := List.mem_append_right _ (tm_6 (tE_6_12 (List.mem_of_getElem? (i := 3) rfl)))
theorem wlX120_8 : u_lay RX12 TX12 8 ∈ lw_tbl := List.mem_append_right _ (tm_6 (tE_6_12 (List.mem_of_getElem? (i := 5) rfl)))
theorem wlX120_9 : u_lay RX12 TX12 9 ∈ lw_tbl := List.mem_append_right _ (tm_6 (tE_6_12 (List.mem_of_getElem? (i := 7) rfl)))
theorem wlX120_10 : u_lay RX12 TX12 10 ∈ lw_tbl := List.mem_append_right _ (tm_6 (tE_6_12 (List.mem_of_getElem? (i := 9) rfl)))
theorem wlX120_11 : u_lay RX12 TX12 11 ∈ lw_tbl := List.mem_append_right _ (tm_6 (tE_6_12 (List.mem_of_getElem? (i := 11) rfl)))
theorem wlX120_12 : u_lay RX12 TX12 12 ∈ lw_tbl := List.mem_append_right _ (tm_6 (tE_6_12 (List.mem_of_getElem? (i := 13) rfl)))
theorem wlX120_13 : u_lay RX12 TX12 13 ∈ lw_tbl := List.mem_append_right _ (tm_6 (tE_6_12 (List.mem_of_getElem? (i := 15) rfl)))
theorem wlX120_14 : u_lay RX12 TX12 14 ∈ lw_tbl := List.mem_append_right _ (tm_6 (tE_6_13 (List.mem_of_getElem? (i := 1) rfl)))
theorem wlX120_15 : u_lay RX12 TX12 15 ∈ lw_tbl := List.mem_append_right _ (tm_6 (tE_6_13 (List.mem_of_getElem? (i := 3) rfl)))
theorem wlX120_16 : u_lay RX12 TX12 16 ∈ lw_tbl := List.mem_append_right _ (tm_6 (tE_6_13 (List.mem_of_getElem? (i := 5) rfl)))
theorem wlX120_17 : u_lay RX12 TX12 17 ∈ lw_tbl := List.mem_append_right _ (tm_6 (tE_6_13 (List.mem_of_getElem? (i := 7) rfl)))
theorem wlX120_18 : u_lay RX12 TX12 18 ∈ lw_tbl := List.mem_append_right _ (tm_6 (tE_6_13 (List.mem_of_getElem? (i := 9) rfl)))
theorem wlX120_19 : u_lay RX12 TX12 19 ∈ lw_tbl := List.mem_append_right _ (tm_6 (tE_6_13 (List.mem_of_getElem? (i := 11) rfl)))
theorem wlX120_20 : u_lay RX12 TX12 20 ∈ lw_tbl := List.mem_append_right _ (tm_6 (tE_6_13 (List.mem_of_getElem? (i := 13) rfl)))
theorem wlX120_21 : u_lay RX12 TX12 21 ∈ lw_tbl := List.mem_append_right _ (tm_6 (tE_6_13 (List.mem_of_getElem? (i := 15) rfl)))
theorem wsX120_tb : ∀ w ∈ wsX120, w ∈ lw_tbl := fun w hw => by
  obtain ⟨k, hk, rfl⟩ := List.mem_map.mp hw
  have hk := List.mem_range.mp hk
  match k, hk with
  | 0, _ => exact wlX120_0
  | 1, _ => exact wlX120_1
  | 2, _ => exact wlX120_2
  | 3, _ => exact wlX120_3
  | 4, _ => exact wlX120_4
  | 5, _ => exact wlX120_5
  | 6, _ => exact wlX120_6
  | 7, _ => exact wlX120_7
  | 8, _ => exact wlX120_8
  | 9, _ => exact wlX120_9
  | 10, _ => exact wlX120_10
  | 11, _ => exact wlX120_11
  | 12, _ => exact wlX120_12
  | 13, _ => exact wlX120_13
  | 14, _ => exact wlX120_14
  | 15, _ => exact wlX120_15
  | 16, _ => exact wlX120_16
  | 17, _ => exact wlX120_17
  | 18, _ => exact wlX120_18
  | 19, _ => exact wlX120_19
  | 20, _ => exact wlX120_20
  | 21, _ => exact wlX120_21
  | k + 22, hk => exact absurd hk (by omega)
end
section
/-! PURE HEAPS: what lies in the cells, by address: an object (number of its class in vwCl, its fields), an array of ints, bytes or booleans (kind 0, 1, 2), of Rods, of longs -/
abbrev jE : Type := (Nat × List Value) ⊕ (Nat × Nat × (Nat → Int32)) ⊕ (Nat × (Nat → Option Nat)) ⊕ (Nat × (Nat → Int64))
/-- how many cells there are, and what those hold that count -/
abbrev jH : Type := Nat × (Nat → Option jE)
/-- class numbers and slots, array classes, the first address of what was made since the law began, addresses of texts and static rows -/
abbrev jG : Type := va_G × (Nat → ClassId) × Nat × (Nat → Nat)
def jtr (ca : Nat → ClassId) : jE → va_E
  | .inl o => .inr o
  | .inr (.inl a) => .inl (ca a.1, a.2.1, .inl a.2.2)
  | .inr (.inr (.inl a)) => .inl (ca 4, a.1, .inr (.inr (.inr (.inr a.2))))
  | .inr (.inr (.inr a)) => .inl (ca 3, a.1, .inr (.inl a.2))
def jup (h : jH) (a : Nat) (e : jE) : jH := (h.1, fun q => if q = a then some e else h.2 q)
def jnew (h : jH) (e : jE) : jH := (h.1 + 1, fun q => if q = h.1 then some e else h.2 q)
abbrev jA (G : jG) : Nat → Prop := fun q => G.2.2.1 ≤ q
def jRep (G : jG) (h : jH) (H : Heap) : Prop := H.size = h.1 ∧ ∀ a e, h.2 a = some e → G.2.2.1 ≤ a ∧ va_at G.1 vwCl (a, jtr G.2.1 e) H
def jtys (G : jG) : List (ClassId × FieldType) := [(G.2.1 0, .int), (G.2.1 1, .byte), (G.2.1 2, .boolean), (G.2.1 3, .long), (G.2.1 4, .object "RodRings$Rod")]
theorem jRep.put {G : jG} {h : jH} {H H1 : Heap} {a : Nat} {e0 e : jE} (hR : jRep G h H) (h0 : h.2 a = some e0) (he : va_at G.1 vwCl (a, jtr G.2.1 e) H1) (z : H1.size = H.size) (oq : ∀ q : Nat, q ≠ a → H1[q]? = H[q]?) : jRep G (jup h a e) H1 := by
  refine ⟨z.trans hR.1, fun q x hq => ?_⟩
  show _ ∧ _
  by_cases hqa : q = a
  · subst hqa
    have : some e = some x := by rw [← hq]; simp [jup]
    cases this
    exact ⟨(hR.2 q e0 h0).1, he⟩
  · have hq' : h.2 q = some x := by rw [← hq]; simp [jup, hqa]
    exact ⟨(hR.2 q x hq').1, (hR.2 q x hq').2.kept (oq q hqa)⟩
theorem jRep.mk {G : jG} {h : jH} {H H1 : Heap} {e : jE} (hR : jRep G h H) (hb : G.2.2.1 ≤ H.size) (he : va_at G.1 vwCl (H.size, jtr G.2.1 e) H1) (z : H1.size = H.size + 1) (oq : ∀ q : Nat, q < H.size → H1[q]? = H[q]?) : jRep G (jnew h e) H1 := by
  obtain ⟨hz, hR⟩ := hR
  refine ⟨by show H1.size = h.1 + 1; omega, fun q x hq => ?_⟩
  by_cases hqa : q = h.1
  · subst hqa
    have : some e = some x := by rw [← hq]; simp [jnew]
    cases this
    rw [← hz]
    exact ⟨hb, he⟩
  · have hq' : h.2 q = some x := by rw [← hq]; simp [jnew, hqa]
    exact ⟨(hR q x hq').1, (hR q x hq').2.kept (oq q (hR q x hq').2.lt)⟩
/-! the words that every method has: those of the tables that stay -/
def jall : List Cond := lw_tbl.filter goodWord
theorem jall_of {w : Cond} {i : Nat} (h : lw_tbl[i]? = some w) (g : goodWord w = true) : w ∈ jall := List.mem_filter.mpr ⟨List.mem_of_getElem? h, g⟩
theorem jall_in {w : Cond} (h : w ∈ lw_tbl) (g : goodWord w = true) : w ∈ jall := List.mem_filter.mpr ⟨h, g⟩
theorem jall_good {ws : List Cond} (h : ∀ w ∈ ws, w ∈ jall) : GoodIn jall ws := fun w hw => ⟨h w hw, good_of_word (List.mem_filter.mp (h w hw)).2⟩
/-- a method: its name, bytes, locals, what it returns, its handlers -/
abbrev jM : Type := MethodName × ByteArray × Nat × Option FieldType × List (Nat × Nat × Nat × Nat)
def jcode (M : jM) : Cond := match M.2.2.2.2 with
  | [] => .code M.1 M.2.1 M.2.2.1 M.2.2.2.1
  | hh => .codeWith M.1 M.2.1 M.2.2.1 M.2.2.2.1 hh
def jws (M : jM) : List Cond := jcode M :: jall
def jshf : List Int32 := [18, 15, 12, 10, 5, 0]
def jmsk : List Int32 := [16383, 7, 7, 3, 31, 31]
/-- the texts: class, entry, text, and of those that are read the bytes -/
def jtxt : List (String × Nat × String × List Int32) := [("RodRings$Tape", 53, "ring place gap fade long hour day wood thick lit hooked not and or if catch fall at cloth caught chair join wide ", [114, 105, 110, 103, 32, 112, 108, 97, 99, 101, 32, 103, 97, 112, 32, 102, 97, 100, 101, 32, 108, 111, 110, 103, 32, 104, 111, 117, 114, 32, 100, 97, 121, 32, 119, 111, 111, 100, 32, 116, 104, 105, 99, 107, 32, 108, 105, 116, 32, 104, 111, 111, 107, 101, 100, 32, 110, 111, 116, 32, 97, 110, 100, 32, 111, 114, 32, 105, 102, 32, 99, 97, 116, 99, 104, 32, 102, 97, 108, 108, 32, 97, 116, 32, 99, 108, 111, 116, 104, 32, 99, 97, 117, 103, 104, 116, 32, 99, 104, 97, 105, 114, 32, 106, 111, 105, 110, 32, 119, 105, 100, 101, 32]), ("RodRings", 102, "the text is wrong", [116, 104, 101, 32, 116, 101, 120, 116, 32, 105, 115, 32, 119, 114, 111, 110, 103]), ("RodRings", 112, "there are as many texts as can be", [116, 104, 101, 114, 101, 32, 97, 114, 101, 32, 97, 115, 32, 109, 97, 110, 121, 32, 116, 101, 120, 116, 115, 32, 97, 115, 32, 99, 97, 110, 32, 98, 101]), ("RodRings", 388, "there is no such ring", [116, 104, 101, 114, 101, 32, 105, 115, 32, 110, 111, 32, 115, 117, 99, 104, 32, 114, 105, 110, 103]), ("RodRings", 177, "a ring has nothing of that number", [97, 32, 114, 105, 110, 103, 32, 104, 97, 115, 32, 110, 111, 116, 104, 105, 110, 103, 32, 111, 102, 32, 116, 104, 97, 116, 32, 110, 117, 109, 98, 101, 114]), ("RodRings", 392, "the number is out of its bounds", [116, 104, 101, 32, 110, 117, 109, 98, 101, 114, 32, 105, 115, 32, 111, 117, 116, 32, 111, 102, 32, 105, 116, 115, 32, 98, 111, 117, 110, 100, 115]), ("RodRings", 203, "the ring is not caught", [116, 104, 101, 32, 114, 105, 110, 103, 32, 105, 115, 32, 110, 111, 116, 32, 99, 97, 117, 103, 104, 116]), ("RodRings", 213, "the ring is the last one, or caught", [116, 104, 101, 32, 114, 105, 110, 103, 32, 105, 115, 32, 116, 104, 101, 32, 108, 97, 115, 116, 32, 111, 110, 101, 44, 32, 111, 114, 32, 99, 97, 117, 103, 104, 116]), ("RodRings", 390, "there is no such place", [116, 104, 101, 114, 101, 32, 105, 115, 32, 110, 111, 32, 115, 117, 99, 104, 32, 112, 108, 97, 99, 101]), ("RodRings", 224, "no ring can be sewn on there", [110, 111, 32, 114, 105, 110, 103, 32, 99, 97, 110, 32, 98, 101, 32, 115, 101, 119, 110, 32, 111, 110, 32, 116, 104, 101, 114, 101]), ("RodRings", 401, "the tape holds no such rows", [116, 104, 101, 32, 116, 97, 112, 101, 32, 104, 111, 108, 100, 115, 32, 110, 111, 32, 115, 117, 99, 104, 32, 114, 111, 119, 115]), ("RodRings", 292, "there is no such hour", [116, 104, 101, 114, 101, 32, 105, 115, 32, 110, 111, 32, 115, 117, 99, 104, 32, 104, 111, 117, 114]), ("RodRings", 354, "a row has nothing of that number", [97, 32, 114, 111, 119, 32, 104, 97, 115, 32, 110, 111, 116, 104, 105, 110, 103, 32, 111, 102, 32, 116, 104, 97, 116, 32, 110, 117, 109, 98, 101, 114]), ("RodRingsModel", 152, "ring", [114, 105, 110, 103]), ("RodRingsModel", 124, "at", [97, 116]), ("RodRingsModel", 135, "cloth", [99, 108, 111, 116, 104]), ("RodRingsModel", 137, "thick", [116, 104, 105, 99, 107]), ("RodRingsModel", 142, "wood", [119, 111, 111, 100]), ("RodRingsModel", 144, "fade", [102, 97, 100, 101]), ("RodRingsModel", 146, "long", [108, 111, 110, 103]), ("RodRingsModel", 158, "caught", [99, 97, 117, 103, 104, 116]), ("RodRingsModel", 163, "chair", [99, 104, 97, 105, 114]), ("RodRingsModel", 168, "join", [106, 111, 105, 110]), ("RodRingsModel", 173, "wide", [119, 105, 100, 101]), ("RodRingsModel", 175, "hour", [104, 111, 117, 114]), ("RodRingsModel", 177, "day", [100, 97, 121]), ("RodRingsModel", 227, "catch", [99, 97, 116, 99, 104]), ("RodRingsModel", 229, "fall", [102, 97, 108, 108]), ("RodRingsModel", 231, "if", [105, 102]), ("RodRingsModel", 209, "not", [110, 111, 116]), ("RodRingsModel", 199, "lit", [108, 105, 116]), ("RodRingsModel", 201, "hooked", [104, 111, 111, 107, 101, 100]), ("RodRingsModel", 182, "place", [112, 108, 97, 99, 101]), ("RodRingsModel", 184, "gap", [103, 97, 112]), ("RodRingsModel", 220, "and", [97, 110, 100]), ("RodRingsModel", 225, "or", [111, 114])]
/-- words of the tables that stay, but not by the rule of the good ones -/
def jnk : Cond → Bool
  | .methodLinkNest .. => true
  | .declares _ => true
  | .castable .. => true
  | _ => false
def jnest : List Cond := lw_tbl.filter jnk
theorem jnest_of {w : Cond} {i : Nat} (h : lw_tbl[i]? = some w) (g : jnk w = true) : w ∈ jnest := List.mem_filter.mpr ⟨List.mem_of_getElem? h, g⟩
def jncs : List (String × String) := (["java/lang/IllegalArgumentException", "java/lang/IllegalStateException", "java/lang/IndexOutOfBoundsException", "java/lang/UnsupportedOperationException", "java/util/NoSuchElementException"].flatMap fun a => ["java/lang/IllegalArgumentException", "java/lang/IllegalStateException", "java/lang/IndexOutOfBoundsException", "java/lang/UnsupportedOperationException", "java/util/NoSuchElementException"].map fun b => (a, b)).filter fun x => x.1 != x.2
theorem jnest_warm {s U : State} {w : Cond} (hw : w ∈ jnest) (hW : s.WarmedH U.vm) (h : va_Nw w s) : va_Nw w U := by
  have hk := (List.mem_filter.mp hw).2
  cases w <;> first | (simp [jnk] at hk; done) | exact va_Nw.warmM hW h | exact va_Nw.warmD hW h | exact va_Nw.warmC hW h
theorem jnest_on {w : Cond} (hw : w ∈ jnest) : w.onTables = true := by
  have hk := (List.mem_filter.mp hw).2
  cases w <;> first | (simp [jnk] at hk; done) | rfl
/-- what the law's start says of static rows and texts, at a state and a heap -/
def jSt (G : jG) (U : State) (H : Heap) : Prop :=
  vx_Zq Bundle.tN "UNASSIGNED_STACK" Bundle.steD (jA G) U H ∧ vx_Zq Bundle.tN "SUPPRESSED_SENTINEL" Bundle.listD (jA G) U H ∧
  va_Z "RodRings$Log" "SHIFTS" "[I" (.ref (G.2.2.2 0)) (jA G) U H ∧ va_T .int (G.2.2.2 0) 6 (fun j => .int (jshf.getD j 0)) (jA G) U H ∧
  va_Z "RodRings$Log" "MASKS" "[I" (.ref (G.2.2.2 1)) (jA G) U H ∧ va_T .int (G.2.2.2 1) 6 (fun j => .int (jmsk.getD j 0)) (jA G) U H ∧
  va_Z "java/lang/String" "COMPACT_STRINGS" "Z" (.int 1) (jA G) U H ∧ va_Zq "jdk/internal/util/Preconditions" "SIOOBE_FORMATTER" "Ljava/util/function/BiFunction;" (jA G) U H ∧
  (va_AO "RodRings$Rod" U ∧ (∀ w ∈ jnest, va_Nw w U) ∧ ∀ x ∈ jncs, va_Nc x.1 x.2 U) ∧
  ∀ (i : Nat) (x : String × Nat × String × List Int32), jtxt[i]? = some x → vk_R x.1 x.2.1 x.2.2.1 (G.2.2.2 (10 + 2 * i)) U ∧ vk_S 1 [x.2.2.2.length] [x.2.2.2] (fun _ => G.2.2.2 (10 + 2 * i)) (fun _ => G.2.2.2 (11 + 2 * i)) (jA G) U H
def jEF (G : jG) (U : State) (H : Heap) : Prop := va_K G.1 vwCl (jtys G) U ∧ jSt G U H
theorem jSt.kept {G : jG} {U : State} {H H1 : Heap} (h : jSt G U H) (hq : ∀ a : Nat, a < H.size → ¬ jA G a → H1[a]? = H[a]?) : jSt G U H1 := by
  obtain ⟨h1, h2, h3, h4, h5, h6, h7, h8, h0, h9⟩ := h
  exact ⟨h1.kept hq, h2.kept hq, h3.kept hq, h4.kept hq, h5.kept hq, h6.kept hq, h7.kept hq, h8.kept hq, h0, fun i x hx => ⟨(h9 i x hx).1, (h9 i x hx).2.kept hq⟩⟩
theorem jSt.warm {G : jG} {s U : State} {H : Heap} (hW : s.WarmedH U.vm) (h : jSt G s H) : jSt G U H := by
  obtain ⟨h1, h2, h3, h4, h5, h6, h7, h8, ⟨h01, h02, h03⟩, h9⟩ := h
  have hv := hW.alike
  exact ⟨vx_Zq.moved hv h1, vx_Zq.moved hv h2, va_Z.moved hv h3, va_T.moved hv h4, va_Z.moved hv h5, va_T.moved hv h6, va_Z.moved hv h7, va_Zq.moved hv h8, ⟨h01.moved hv, fun w hw => jnest_warm hw hW (h02 w hw), fun x hx => (h03 x hx).moved hv⟩, fun i x hx => ⟨(h9 i x hx).1.warm hW, vk_S.moved hv (h9 i x hx).2⟩⟩
theorem jSt.same {G : jG} {s U : State} {H : Heap} (hv : U.vm = s.vm) (h : jSt G s H) : jSt G U H := by
  obtain ⟨h1, h2, h3, h4, h5, h6, h7, h8, ⟨h01, h02, h03⟩, h9⟩ := h
  have ha : s.vm.Alike U.vm := by rw [hv]; exact Vm.Alike.refl _
  exact ⟨vx_Zq.moved ha h1, vx_Zq.moved ha h2, va_Z.moved ha h3, va_T.moved ha h4, va_Z.moved ha h5, va_T.moved ha h6, va_Z.moved ha h7, va_Zq.moved ha h8, ⟨h01.moved ha, fun w hw => va_Nw.same (jnest_on hw) hv.symm (h02 w hw), fun x hx => (h03 x hx).moved ha⟩, fun i x hx => ⟨(h9 i x hx).1.same hv, vk_S.moved ha (h9 i x hx).2⟩⟩
theorem jEF.same {G : jG} {s U : State} {H : Heap} (hv : U.vm = s.vm) (h : jEF G s H) : jEF G U H := ⟨va_K.moved (by rw [hv]; exact Vm.Alike.refl _) h.1, h.2.same hv⟩
theorem jEF.warm {G : jG} {s U : State} {H : Heap} (hW : s.WarmedH U.vm) (h : jEF G s H) : jEF G U H := ⟨va_K.moved hW.alike h.1, h.2.warm hW⟩
theorem jEF.kept {G : jG} {U : State} {H H1 : Heap} (h : jEF G U H) (hq : ∀ a : Nat, a < H.size → ¬ jA G a → H1[a]? = H[a]?) : jEF G U H1 := ⟨h.1, h.2.kept hq⟩
/-! ends and contracts: an end is .inl r (returned r; 0 of void) or .inr k (threw the k-th class of jexn) -/
abbrev jR : Type := Int32 ⊕ Nat
def jexn : List String := ["java/lang/IllegalArgumentException", "java/lang/IllegalStateException", "java/lang/IndexOutOfBoundsException", "java/lang/UnsupportedOperationException", "java/util/NoSuchElementException"]
def jval (ret : Option FieldType) (r : Int32) : Option Value := match ret with
  | none => none
  | some _ => some (.int r)
def jQc (G : jG) (ret : Option FieldType) (P : jR → jH → Prop) : Array Value → State → Outcome → State → Prop := fun _ st o t => (∃ (r : Int32) (h1 : jH), o = .returned (jval ret r) ∧ P (.inl r) h1 ∧ jRep G h1 t.heap) ∧ va_F (jA G) st t
def jXC (G : jG) (P : jR → jH → Prop) : String → State → State → Prop := fun E st t => (∃ (k z : Nat) (h1 : jH), jexn[k]? = some E ∧ h1.1 ≤ z ∧ P (.inr k) h1 ∧ jRep G (z, h1.2) t.heap) ∧ va_F (jA G) st t
abbrev jrm (dep mc ms : Nat) : Room := { frames := dep, cells := mc, slots := ms, locals := 80 * dep }
def jC (G : jG) (l : Launch) (M : jM) (dep mc ms : Nat) (av : List Value) (h : jH) (P : jR → jH → Prop) : Prop :=
  vx_Met l M.1 (jws M) (jrm dep mc ms) (va_Pc av (fun U => jRep G h U.heap ∧ jEF G U U.heap ∧ G.2.2.1 ≤ U.heap.size)) (jQc G M.2.2.2.1 P) (jXC G P) mc ms (jA G)
/-! the judgement -/
abbrev jX : Type := Program × Launch × Env × Room × State × MethodId × Array Value × List Frame × Method × Code × Nat × Nat × (State → Prop)
def jlv : Nat → List (Option Value) → List (Nat × Value)
  | _, [] => []
  | i, none :: l => jlv (i + 1) l
  | i, some v :: l => (i, v) :: jlv (i + 1) l
def jcat (L : List (Option Value)) : Prop := ∀ (i : Nat) (v : Value), L[i]? = some (some v) → v.category = 1
theorem jlv_mem : ∀ (L : List (Option Value)) (k : Nat) (q : Nat × Value), q ∈ jlv k L ↔ ∃ i, q.1 = k + i ∧ L[i]? = some (some q.2) := by
  intro L
  induction L with
  | nil => intro k q; simp [jlv]
  | cons x l ih =>
    intro k q
    cases x with
    | none =>
      rw [show jlv k (none :: l) = jlv (k + 1) l from rfl, ih]
      constructor
      · rintro ⟨i, h1, h2⟩
        exact ⟨i + 1, by omega, by simpa using h2⟩
      · rintro ⟨i, h1, h2⟩
        cases i with
        | zero => simp at h2
        | succ i => exact ⟨i, by omega, by simpa using h2⟩
    | some v =>
      rw [show jlv k (some v :: l) = (k, v) :: jlv (k + 1) l from rfl, List.mem_cons, ih]
      constructor
      · rintro (rfl | ⟨i, h1, h2⟩)
        · exact ⟨0, rfl, rfl⟩
        · exact ⟨i + 1, by omega, by simpa using h2⟩
      · rintro ⟨i, h1, h2⟩
        cases i with
        | zero =>
          left
          have : v = q.2 := by simpa using h2
          rw [this]
          exact Prod.ext (by omega) rfl
        | succ i => exact Or.inr ⟨i, by omega, by simpa using h2⟩
theorem jlv_get {ls : Array Slot} {nL i : Nat} {L : List (Option Value)} {v : Value} (h : lv_has ls nL (jlv 0 L)) (hi : L[i]? = some (some v)) : ls[i]? = some (.val v) := h.2.2 (i, v) ((jlv_mem L 0 (i, v)).mpr ⟨i, by omega, hi⟩)
theorem jlv_sub {ls : Array Slot} {nL : Nat} {l l' : List (Nat × Value)} (h : lv_has ls nL l) (hs : ∀ q ∈ l', q ∈ l) : lv_has ls nL l' := ⟨h.1, h.2.1, fun q hq => h.2.2 q (hs q hq)⟩
theorem jlv_set {ls : Array Slot} {nL i : Nat} {L : List (Option Value)} {v : Value} (hc : jcat L) (h : lv_has ls nL ((i, v) :: (jlv 0 L).filter (fun q => !(q.1 == i) && !(q.1 + 1 == i && q.2.category == 2)))) : lv_has ls nL (jlv 0 (L.set i (some v))) := by
  refine jlv_sub h fun q hq => ?_
  obtain ⟨j, h1, h2⟩ := (jlv_mem _ _ _).mp hq
  rw [Nat.zero_add] at h1
  by_cases hj : j = i
  · subst hj
    have hlt : j < (L.set j (some v)).length := (List.getElem?_eq_some_iff.mp h2).1
    rw [List.getElem?_set_self (by simpa using hlt)] at h2
    have h3 : v = q.2 := by simpa using h2
    rw [h3, ← h1]
    exact List.mem_cons_self
  · rw [List.getElem?_set_ne (Ne.symm hj)] at h2
    refine List.mem_cons_of_mem _ (List.mem_filter.mpr ⟨(jlv_mem _ _ _).mpr ⟨j, by omega, h2⟩, ?_⟩)
    have hcq := hc j q.2 h2
    simp [h1, hj, hcq]
theorem jcat_set {i : Nat} {L : List (Option Value)} {v : Value} (hc : jcat L) (hv : v.category = 1) : jcat (L.set i (some v)) := by
  intro j w hw
  by_cases hj : j = i
  · subst hj
    have hlt : j < (L.set j (some v)).length := (List.getElem?_eq_some_iff.mp hw).1
    rw [List.getElem?_set_self (by simpa using hlt)] at hw
    have : v = w := by simpa using hw
    rw [← this]; exact hv
  · rw [List.getElem?_set_ne (Ne.symm hj)] at hw
    exact hc j w hw
/-- from here on: kc cells of ks slots may still be made; behind it X's own end -/
def jJ (G : jG) : jX → jH → Nat → Nat → Nat → List (Option Value) → List Value → Prop
  | (p, l, e, R, s, m, args, below, meth, c, mc, ms, Q), h, kc, ks, pc, L, st =>
    ∀ (H : Heap) (locs : List Loc) (cells slots : Nat) (ls : Array Slot), jRep G h H → va_S (jA G) s.heap H locs → cells + kc ≤ mc → slots + ks ≤ ms → jcat L → lv_has ls c.maxLocals (jlv 0 L) →
      W p l e R s m args below meth c H locs cells slots Q (F0 m pc ls st)
/-- what holds of a method's run: the machine, the method, the words, the room for 'dep' calls, what lies around -/
def jOK (G : jG) (l0 : Launch) (M : jM) (dep : Nat) : jX → Prop
  | (p, l, _, R, s, m, args, _, meth, c, mc, ms, _) =>
    p.tables.exec = Jvm.exec ∧ c.code = M.2.1 ∧ c.maxLocals = M.2.2.1 ∧ meth.sig.returnType = M.2.2.2.1 ∧ s.vm.findClass M.1.cls = some m.cls ∧ (∀ w ∈ jall, w.before args s = true) ∧ meth.locks = false ∧
    meth.name = M.1.name ∧ jEF G s s.heap ∧ G.2.2.1 ≤ s.heap.size ∧ dep ≤ R.frames ∧ 80 * dep ≤ R.locals ∧ mc ≤ R.cells ∧ ms ≤ R.slots ∧ l = l0 ∧ c.exceptionTable.toList = tableOf M.2.2.2.2
section JR
variable {G : jG} {l : Launch} {M : jM} {dep : Nat} {X : jX} {h : jH} {kc ks pc : Nat} {L : List (Option Value)} {st : List Value}
theorem jr_h {h' : jH} (e : h = h') (k : jJ G X h' kc ks pc L st) : jJ G X h kc ks pc L st := e ▸ k
theorem jr_credit {kc' ks' : Nat} (h1 : kc' ≤ kc) (h2 : ks' ≤ ks) (k : jJ G X h kc' ks' pc L st) : jJ G X h kc ks pc L st := by
  obtain ⟨p, l, e, R, s, m, args, below, meth, c, mc, ms, Q⟩ := X
  intro H locs cells slots ls hR hS hc1 hc2 hc hl
  exact k H locs cells slots ls hR hS (by omega) (by omega) hc hl
theorem jr_iconst (K : jOK G l M dep X) {n : Int} {v : Int32} (hd : decode M.2.1 pc = .ok (.iconst n, 1)) (hv : Int32.ofInt n = v) (k : jJ G X h kc ks (pc + 1) L (.int v :: st)) : jJ G X h kc ks (pc) L (st) := by
  obtain ⟨p, l9, e, R, s, m, args, below, meth, c, mc, ms, Q⟩ := X
  obtain ⟨hx, hb, hml, hr, hown, hts, hlk, hin, hE, hbs, hd1, hd2, hd3, hd4, rfl, hxt⟩ := K
  intro H locs cells slots ls hR hS hc1 hc2 hc hl
  exact lv_iconst hx hb hd hv (k H locs cells slots ls hR hS hc1 hc2 hc hl)
theorem jr_bipush (K : jOK G l M dep X) {n : Int} {v : Int32} (hd : decode M.2.1 pc = .ok (.bipush n, 2)) (hv : (Int8.ofInt n).toInt32 = v) (k : jJ G X h kc ks (pc + 2) L (.int v :: st)) : jJ G X h kc ks (pc) L (st) := by
  obtain ⟨p, l9, e, R, s, m, args, below, meth, c, mc, ms, Q⟩ := X
  obtain ⟨hx, hb, hml, hr, hown, hts, hlk, hin, hE, hbs, hd1, hd2, hd3, hd4, rfl, hxt⟩ := K
  intro H locs cells slots ls hR hS hc1 hc2 hc hl
  exact lv_bipush hx hb hd hv (k H locs cells slots ls hR hS hc1 hc2 hc hl)
theorem jr_sipush (K : jOK G l M dep X) {n : Int} {v : Int32} (hd : decode M.2.1 pc = .ok (.sipush n, 3)) (hv : (Int16.ofInt n).toInt32 = v) (k : jJ G X h kc ks (pc + 3) L (.int v :: st)) : jJ G X h kc ks (pc) L (st) := by
  obtain ⟨p, l9, e, R, s, m, args, below, meth, c, mc, ms, Q⟩ := X
  obtain ⟨hx, hb, hml, hr, hown, hts, hlk, hin, hE, hbs, hd1, hd2, hd3, hd4, rfl, hxt⟩ := K
  intro H locs cells slots ls hR hS hc1 hc2 hc hl
  exact lv_sipush hx hb hd hv (k H locs cells slots ls hR hS hc1 hc2 hc hl)
theorem jr_lconst (K : jOK G l M dep X) {n : Fin 2} {v : Int64} (hd : decode M.2.1 pc = .ok (.lconst n, 1)) (hv : Int64.ofNat (n : Nat) = v) (k : jJ G X h kc ks (pc + 1) L (.long v :: st)) : jJ G X h kc ks (pc) L (st) := by
  obtain ⟨p, l9, e, R, s, m, args, below, meth, c, mc, ms, Q⟩ := X
  obtain ⟨hx, hb, hml, hr, hown, hts, hlk, hin, hE, hbs, hd1, hd2, hd3, hd4, rfl, hxt⟩ := K
  intro H locs cells slots ls hR hS hc1 hc2 hc hl
  exact lv_lconst hx hb hd hv (k H locs cells slots ls hR hS hc1 hc2 hc hl)
theorem jr_null (K : jOK G l M dep X) (hd : decode M.2.1 pc = .ok (.aconst_null, 1)) (k : jJ G X h kc ks (pc + 1) L (.null :: st)) : jJ G X h kc ks (pc) L (st) := by
  obtain ⟨p, l9, e, R, s, m, args, below, meth, c, mc, ms, Q⟩ := X
  obtain ⟨hx, hb, hml, hr, hown, hts, hlk, hin, hE, hbs, hd1, hd2, hd3, hd4, rfl, hxt⟩ := K
  intro H locs cells slots ls hR hS hc1 hc2 hc hl
  exact lv_null hx hb hd (k H locs cells slots ls hR hS hc1 hc2 hc hl)
theorem jr_ldc (K : jOK G l M dep X) {index : Nat} {v : Int32} (hd : decode M.2.1 pc = .ok (.ldc index, 2)) (hw : Cond.constant M.1.cls index v ∈ jall) (k : jJ G X h kc ks (pc + 2) L (.int v :: st)) : jJ G X h kc ks (pc) L (st) := by
  obtain ⟨p, l9, e, R, s, m, args, below, meth, c, mc, ms, Q⟩ := X
  obtain ⟨hx, hb, hml, hr, hown, hts, hlk, hin, hE, hbs, hd1, hd2, hd3, hd4, rfl, hxt⟩ := K
  intro H locs cells slots ls hR hS hc1 hc2 hc hl
  exact lv_ldc hx hb hown (hts _ hw) hd (k H locs cells slots ls hR hS hc1 hc2 hc hl)
theorem jr_ldcw (K : jOK G l M dep X) {index : Nat} {v : Int32} (hd : decode M.2.1 pc = .ok (.ldc_w index, 3)) (hw : Cond.constant M.1.cls index v ∈ jall) (k : jJ G X h kc ks (pc + 3) L (.int v :: st)) : jJ G X h kc ks (pc) L (st) := by
  obtain ⟨p, l9, e, R, s, m, args, below, meth, c, mc, ms, Q⟩ := X
  obtain ⟨hx, hb, hml, hr, hown, hts, hlk, hin, hE, hbs, hd1, hd2, hd3, hd4, rfl, hxt⟩ := K
  intro H locs cells slots ls hR hS hc1 hc2 hc hl
  exact lv_ldcw hx hb hown (hts _ hw) hd (k H locs cells slots ls hR hS hc1 hc2 hc hl)
theorem jr_iload_n (K : jOK G l M dep X) {j : Fin 4} {i : Nat} {x : Int32} (hd : decode M.2.1 pc = .ok (.iload_n j, 1)) (hi : (j : Nat) = i) (hv : L[i]? = some (some (.int x))) (k : jJ G X h kc ks (pc + 1) L (.int x :: st)) : jJ G X h kc ks (pc) L (st) := by
  obtain ⟨p, l9, e, R, s, m, args, below, meth, c, mc, ms, Q⟩ := X
  obtain ⟨hx, hb, hml, hr, hown, hts, hlk, hin, hE, hbs, hd1, hd2, hd3, hd4, rfl, hxt⟩ := K
  intro H locs cells slots ls hR hS hc1 hc2 hc hl
  exact lv_iload_n hx hb hd hi (jlv_get hl hv) (k H locs cells slots ls hR hS hc1 hc2 hc hl)
theorem jr_iload (K : jOK G l M dep X) {i : Nat} {x : Int32} (hd : decode M.2.1 pc = .ok (.iload i, 2)) (hv : L[i]? = some (some (.int x))) (k : jJ G X h kc ks (pc + 2) L (.int x :: st)) : jJ G X h kc ks (pc) L (st) := by
  obtain ⟨p, l9, e, R, s, m, args, below, meth, c, mc, ms, Q⟩ := X
  obtain ⟨hx, hb, hml, hr, hown, hts, hlk, hin, hE, hbs, hd1, hd2, hd3, hd4, rfl, hxt⟩ := K
  intro H locs cells slots ls hR hS hc1 hc2 hc hl
  exact lv_iload hx hb hd (jlv_get hl hv) (k H locs cells slots ls hR hS hc1 hc2 hc hl)
theorem jr_aload_n (K : jOK G l M dep X) {j : Fin 4} {i : Nat} {x : Nat} (hd : decode M.2.1 pc = .ok (.aload_n j, 1)) (hi : (j : Nat) = i) (hv : L[i]? = some (some (.ref x))) (k : jJ G X h kc ks (pc + 1) L (.ref x :: st)) : jJ G X h kc ks (pc) L (st) := by
  obtain ⟨p, l9, e, R, s, m, args, below, meth, c, mc, ms, Q⟩ := X
  obtain ⟨hx, hb, hml, hr, hown, hts, hlk, hin, hE, hbs, hd1, hd2, hd3, hd4, rfl, hxt⟩ := K
  intro H locs cells slots ls hR hS hc1 hc2 hc hl
  exact lv_aload_n hx hb hd hi (jlv_get hl hv) (k H locs cells slots ls hR hS hc1 hc2 hc hl)
theorem jr_aload (K : jOK G l M dep X) {i : Nat} {x : Nat} (hd : decode M.2.1 pc = .ok (.aload i, 2)) (hv : L[i]? = some (some (.ref x))) (k : jJ G X h kc ks (pc + 2) L (.ref x :: st)) : jJ G X h kc ks (pc) L (st) := by
  obtain ⟨p, l9, e, R, s, m, args, below, meth, c, mc, ms, Q⟩ := X
  obtain ⟨hx, hb, hml, hr, hown, hts, hlk, hin, hE, hbs, hd1, hd2, hd3, hd4, rfl, hxt⟩ := K
  intro H locs cells slots ls hR hS hc1 hc2 hc hl
  exact lv_aload hx hb hd (jlv_get hl hv) (k H locs cells slots ls hR hS hc1 hc2 hc hl)
theorem jr_istore_n (K : jOK G l M dep X) {j : Fin 4} {i : Nat} {x : Int32} {L2 : List (Option Value)} (hd : decode M.2.1 pc = .ok (.istore_n j, 1)) (hi : (j : Nat) = i) (hn : i < M.2.2.1) (hL : L.set i (some (.int x)) = L2) (k : jJ G X h kc ks (pc + 1) L2 (st)) : jJ G X h kc ks (pc) L (.int x :: st) := by
  obtain ⟨p, l9, e, R, s, m, args, below, meth, c, mc, ms, Q⟩ := X
  obtain ⟨hx, hb, hml, hr, hown, hts, hlk, hin, hE, hbs, hd1, hd2, hd3, hd4, rfl, hxt⟩ := K
  intro H locs cells slots ls hR hS hc1 hc2 hc hl
  subst hL
  exact lv_istore_n hx hb hd hi hl (by rw [hml]; exact hn) rfl (fun ls2 hl2 => k H locs cells slots ls2 hR hS hc1 hc2 (jcat_set hc rfl) (jlv_set hc hl2))
theorem jr_istore (K : jOK G l M dep X) {i : Nat} {x : Int32} {L2 : List (Option Value)} (hd : decode M.2.1 pc = .ok (.istore i, 2)) (hn : i < M.2.2.1) (hL : L.set i (some (.int x)) = L2) (k : jJ G X h kc ks (pc + 2) L2 (st)) : jJ G X h kc ks (pc) L (.int x :: st) := by
  obtain ⟨p, l9, e, R, s, m, args, below, meth, c, mc, ms, Q⟩ := X
  obtain ⟨hx, hb, hml, hr, hown, hts, hlk, hin, hE, hbs, hd1, hd2, hd3, hd4, rfl, hxt⟩ := K
  intro H locs cells slots ls hR hS hc1 hc2 hc hl
  subst hL
  exact lv_istore hx hb hd hl (by rw [hml]; exact hn) rfl (fun ls2 hl2 => k H locs cells slots ls2 hR hS hc1 hc2 (jcat_set hc rfl) (jlv_set hc hl2))
theorem jr_astore_n (K : jOK G l M dep X) {j : Fin 4} {i : Nat} {x : Nat} {L2 : List (Option Value)} (hd : decode M.2.1 pc = .ok (.astore_n j, 1)) (hi : (j : Nat) = i) (hn : i < M.2.2.1) (hL : L.set i (some (.ref x)) = L2) (k : jJ G X h kc ks (pc + 1) L2 (st)) : jJ G X h kc ks (pc) L (.ref x :: st) := by
  obtain ⟨p, l9, e, R, s, m, args, below, meth, c, mc, ms, Q⟩ := X
  obtain ⟨hx, hb, hml, hr, hown, hts, hlk, hin, hE, hbs, hd1, hd2, hd3, hd4, rfl, hxt⟩ := K
  intro H locs cells slots ls hR hS hc1 hc2 hc hl
  subst hL
  exact lv_astore_n hx hb hd hi hl (by rw [hml]; exact hn) rfl (fun ls2 hl2 => k H locs cells slots ls2 hR hS hc1 hc2 (jcat_set hc rfl) (jlv_set hc hl2))
theorem jr_astore (K : jOK G l M dep X) {i : Nat} {x : Nat} {L2 : List (Option Value)} (hd : decode M.2.1 pc = .ok (.astore i, 2)) (hn : i < M.2.2.1) (hL : L.set i (some (.ref x)) = L2) (k : jJ G X h kc ks (pc + 2) L2 (st)) : jJ G X h kc ks (pc) L (.ref x :: st) := by
  obtain ⟨p, l9, e, R, s, m, args, below, meth, c, mc, ms, Q⟩ := X
  obtain ⟨hx, hb, hml, hr, hown, hts, hlk, hin, hE, hbs, hd1, hd2, hd3, hd4, rfl, hxt⟩ := K
  intro H locs cells slots ls hR hS hc1 hc2 hc hl
  subst hL
  exact lv_astore hx hb hd hl (by rw [hml]; exact hn) rfl (fun ls2 hl2 => k H locs cells slots ls2 hR hS hc1 hc2 (jcat_set hc rfl) (jlv_set hc hl2))
theorem jr_iinc (K : jOK G l M dep X) {i : Nat} {n : Int} {x v : Int32} {L2 : List (Option Value)} (hd : decode M.2.1 pc = .ok (.iinc i n, 3)) (hg : L[i]? = some (some (.int x))) (hv : x + Int32.ofInt n = v) (hn : i < M.2.2.1) (hL : L.set i (some (.int v)) = L2) (k : jJ G X h kc ks (pc + 3) L2 (st)) : jJ G X h kc ks (pc) L (st) := by
  obtain ⟨p, l9, e, R, s, m, args, below, meth, c, mc, ms, Q⟩ := X
  obtain ⟨hx, hb, hml, hr, hown, hts, hlk, hin, hE, hbs, hd1, hd2, hd3, hd4, rfl, hxt⟩ := K
  intro H locs cells slots ls hR hS hc1 hc2 hc hl
  subst hL
  obtain ⟨k9, hk9⟩ := List.getElem?_of_mem ((jlv_mem L 0 (i, .int x)).mpr ⟨i, by omega, hg⟩)
  exact lv_iinc hx hb hd hl hk9 hv (by rw [hml]; exact hn) rfl (fun ls2 hl2 => k H locs cells slots ls2 hR hS hc1 hc2 (jcat_set hc rfl) (jlv_set hc hl2))
theorem jr_iadd (K : jOK G l M dep X) {x y : Int32} (hd : decode M.2.1 pc = .ok (.iadd, 1)) (k : jJ G X h kc ks (pc + 1) L (.int (x + y) :: st)) : jJ G X h kc ks (pc) L (.int y :: .int x :: st) := by
  obtain ⟨p, l9, e, R, s, m, args, below, meth, c, mc, ms, Q⟩ := X
  obtain ⟨hx, hb, hml, hr, hown, hts, hlk, hin, hE, hbs, hd1, hd2, hd3, hd4, rfl, hxt⟩ := K
  intro H locs cells slots ls hR hS hc1 hc2 hc hl
  exact lv_iadd hx hb hd (k H locs cells slots ls hR hS hc1 hc2 hc hl)
theorem jr_isub (K : jOK G l M dep X) {x y : Int32} (hd : decode M.2.1 pc = .ok (.isub, 1)) (k : jJ G X h kc ks (pc + 1) L (.int (x - y) :: st)) : jJ G X h kc ks (pc) L (.int y :: .int x :: st) := by
  obtain ⟨p, l9, e, R, s, m, args, below, meth, c, mc, ms, Q⟩ := X
  obtain ⟨hx, hb, hml, hr, hown, hts, hlk, hin, hE, hbs, hd1, hd2, hd3, hd4, rfl, hxt⟩ := K
  intro H locs cells slots ls hR hS hc1 hc2 hc hl
  exact lv_isub hx hb hd (k H locs cells slots ls hR hS hc1 hc2 hc hl)
theorem jr_imul (K : jOK G l M dep X) {x y : Int32} (hd : decode M.2.1 pc = .ok (.imul, 1)) (k : jJ G X h kc ks (pc + 1) L (.int (x * y) :: st)) : jJ G X h kc ks (pc) L (.int y :: .int x :: st) := by
  obtain ⟨p, l9, e, R, s, m, args, below, meth, c, mc, ms, Q⟩ := X
  obtain ⟨hx, hb, hml, hr, hown, hts, hlk, hin, hE, hbs, hd1, hd2, hd3, hd4, rfl, hxt⟩ := K
  intro H locs cells slots ls hR hS hc1 hc2 hc hl
  exact lv_imul hx hb hd (k H locs cells slots ls hR hS hc1 hc2 hc hl)
theorem jr_iand (K : jOK G l M dep X) {x y : Int32} (hd : decode M.2.1 pc = .ok (.iand, 1)) (k : jJ G X h kc ks (pc + 1) L (.int (x &&& y) :: st)) : jJ G X h kc ks (pc) L (.int y :: .int x :: st) := by
  obtain ⟨p, l9, e, R, s, m, args, below, meth, c, mc, ms, Q⟩ := X
  obtain ⟨hx, hb, hml, hr, hown, hts, hlk, hin, hE, hbs, hd1, hd2, hd3, hd4, rfl, hxt⟩ := K
  intro H locs cells slots ls hR hS hc1 hc2 hc hl
  exact lv_iand hx hb hd (k H locs cells slots ls hR hS hc1 hc2 hc hl)
theorem jr_ior (K : jOK G l M dep X) {x y : Int32} (hd : decode M.2.1 pc = .ok (.ior, 1)) (k : jJ G X h kc ks (pc + 1) L (.int (x ||| y) :: st)) : jJ G X h kc ks (pc) L (.int y :: .int x :: st) := by
  obtain ⟨p, l9, e, R, s, m, args, below, meth, c, mc, ms, Q⟩ := X
  obtain ⟨hx, hb, hml, hr, hown, hts, hlk, hin, hE, hbs, hd1, hd2, hd3, hd4, rfl, hxt⟩ := K
  intro H locs cells slots ls hR hS hc1 hc2 hc hl
  exact lv_ior hx hb hd (k H locs cells slots ls hR hS hc1 hc2 hc hl)
theorem jr_ixor (K : jOK G l M dep X) {x y : Int32} (hd : decode M.2.1 pc = .ok (.ixor, 1)) (k : jJ G X h kc ks (pc + 1) L (.int (x ^^^ y) :: st)) : jJ G X h kc ks (pc) L (.int y :: .int x :: st) := by
  obtain ⟨p, l9, e, R, s, m, args, below, meth, c, mc, ms, Q⟩ := X
  obtain ⟨hx, hb, hml, hr, hown, hts, hlk, hin, hE, hbs, hd1, hd2, hd3, hd4, rfl, hxt⟩ := K
  intro H locs cells slots ls hR hS hc1 hc2 hc hl
  exact lv_ixor hx hb hd (k H locs cells slots ls hR hS hc1 hc2 hc hl)
theorem jr_ishl (K : jOK G l M dep X) {x y : Int32} (hd : decode M.2.1 pc = .ok (.ishl, 1)) (k : jJ G X h kc ks (pc + 1) L (.int (x <<< (y &&& 31)) :: st)) : jJ G X h kc ks (pc) L (.int y :: .int x :: st) := by
  obtain ⟨p, l9, e, R, s, m, args, below, meth, c, mc, ms, Q⟩ := X
  obtain ⟨hx, hb, hml, hr, hown, hts, hlk, hin, hE, hbs, hd1, hd2, hd3, hd4, rfl, hxt⟩ := K
  intro H locs cells slots ls hR hS hc1 hc2 hc hl
  exact lv_ishl hx hb hd (k H locs cells slots ls hR hS hc1 hc2 hc hl)
theorem jr_ishr (K : jOK G l M dep X) {x y : Int32} (hd : decode M.2.1 pc = .ok (.ishr, 1)) (k : jJ G X h kc ks (pc + 1) L (.int (x >>> (y &&& 31)) :: st)) : jJ G X h kc ks (pc) L (.int y :: .int x :: st) := by
  obtain ⟨p, l9, e, R, s, m, args, below, meth, c, mc, ms, Q⟩ := X
  obtain ⟨hx, hb, hml, hr, hown, hts, hlk, hin, hE, hbs, hd1, hd2, hd3, hd4, rfl, hxt⟩ := K
  intro H locs cells slots ls hR hS hc1 hc2 hc hl
  exact lv_ishr hx hb hd (k H locs cells slots ls hR hS hc1 hc2 hc hl)
theorem jr_idiv (K : jOK G l M dep X) {x y : Int32} (hd : decode M.2.1 pc = .ok (.idiv, 1)) (hne : ¬ y = 0) (k : jJ G X h kc ks (pc + 1) L (.int (x / y) :: st)) : jJ G X h kc ks (pc) L (.int y :: .int x :: st) := by
  obtain ⟨p, l9, e, R, s, m, args, below, meth, c, mc, ms, Q⟩ := X
  obtain ⟨hx, hb, hml, hr, hown, hts, hlk, hin, hE, hbs, hd1, hd2, hd3, hd4, rfl, hxt⟩ := K
  intro H locs cells slots ls hR hS hc1 hc2 hc hl
  exact lv_idiv hx hb hd hne (k H locs cells slots ls hR hS hc1 hc2 hc hl)
theorem jr_irem (K : jOK G l M dep X) {x y : Int32} (hd : decode M.2.1 pc = .ok (.irem, 1)) (hne : ¬ y = 0) (k : jJ G X h kc ks (pc + 1) L (.int (x - x / y * y) :: st)) : jJ G X h kc ks (pc) L (.int y :: .int x :: st) := by
  obtain ⟨p, l9, e, R, s, m, args, below, meth, c, mc, ms, Q⟩ := X
  obtain ⟨hx, hb, hml, hr, hown, hts, hlk, hin, hE, hbs, hd1, hd2, hd3, hd4, rfl, hxt⟩ := K
  intro H locs cells slots ls hR hS hc1 hc2 hc hl
  exact lv_irem hx hb hd hne (k H locs cells slots ls hR hS hc1 hc2 hc hl)
theorem jr_ineg (K : jOK G l M dep X) {x : Int32} (hd : decode M.2.1 pc = .ok (.ineg, 1)) (k : jJ G X h kc ks (pc + 1) L (.int (-x) :: st)) : jJ G X h kc ks (pc) L (.int x :: st) := by
  obtain ⟨p, l9, e, R, s, m, args, below, meth, c, mc, ms, Q⟩ := X
  obtain ⟨hx, hb, hml, hr, hown, hts, hlk, hin, hE, hbs, hd1, hd2, hd3, hd4, rfl, hxt⟩ := K
  intro H locs cells slots ls hR hS hc1 hc2 hc hl
  exact lv_ineg hx hb hd (k H locs cells slots ls hR hS hc1 hc2 hc hl)
theorem jr_iushr (K : jOK G l M dep X) {x y v : Int32} (hd : decode M.2.1 pc = .ok (.iushr, 1)) (hv : (x.toUInt32 >>> (y.toUInt32 &&& Int32.toUInt32 31)).toInt32 = v) (k : jJ G X h kc ks (pc + 1) L (.int v :: st)) : jJ G X h kc ks (pc) L (.int y :: .int x :: st) := by
  obtain ⟨p, l9, e, R, s, m, args, below, meth, c, mc, ms, Q⟩ := X
  obtain ⟨hx, hb, hml, hr, hown, hts, hlk, hin, hE, hbs, hd1, hd2, hd3, hd4, rfl, hxt⟩ := K
  intro H locs cells slots ls hR hS hc1 hc2 hc hl
  exact lv_iushr hx hb hd hv (k H locs cells slots ls hR hS hc1 hc2 hc hl)
theorem jr_i2l (K : jOK G l M dep X) {x : Int32} {v : Int64} (hd : decode M.2.1 pc = .ok (.i2l, 1)) (hv : x.toInt64 = v) (k : jJ G X h kc ks (pc + 1) L (.long v :: st)) : jJ G X h kc ks (pc) L (.int x :: st) := by
  obtain ⟨p, l9, e, R, s, m, args, below, meth, c, mc, ms, Q⟩ := X
  obtain ⟨hx, hb, hml, hr, hown, hts, hlk, hin, hE, hbs, hd1, hd2, hd3, hd4, rfl, hxt⟩ := K
  intro H locs cells slots ls hR hS hc1 hc2 hc hl
  exact lv_i2l hx hb hd hv (k H locs cells slots ls hR hS hc1 hc2 hc hl)
theorem jr_i2b (K : jOK G l M dep X) {x v : Int32} (hd : decode M.2.1 pc = .ok (.i2b, 1)) (hv : x.toInt8.toInt32 = v) (k : jJ G X h kc ks (pc + 1) L (.int v :: st)) : jJ G X h kc ks (pc) L (.int x :: st) := by
  obtain ⟨p, l9, e, R, s, m, args, below, meth, c, mc, ms, Q⟩ := X
  obtain ⟨hx, hb, hml, hr, hown, hts, hlk, hin, hE, hbs, hd1, hd2, hd3, hd4, rfl, hxt⟩ := K
  intro H locs cells slots ls hR hS hc1 hc2 hc hl
  exact lv_i2b hx hb hd hv (k H locs cells slots ls hR hS hc1 hc2 hc hl)
theorem jr_i2c (K : jOK G l M dep X) {x v : Int32} (hd : decode M.2.1 pc = .ok (.i2c, 1)) (hv : (x.toUInt32 % 65536).toInt32 = v) (k : jJ G X h kc ks (pc + 1) L (.int v :: st)) : jJ G X h kc ks (pc) L (.int x :: st) := by
  obtain ⟨p, l9, e, R, s, m, args, below, meth, c, mc, ms, Q⟩ := X
  obtain ⟨hx, hb, hml, hr, hown, hts, hlk, hin, hE, hbs, hd1, hd2, hd3, hd4, rfl, hxt⟩ := K
  intro H locs cells slots ls hR hS hc1 hc2 hc hl
  exact lv_i2c hx hb hd hv (k H locs cells slots ls hR hS hc1 hc2 hc hl)
theorem jr_dup (K : jOK G l M dep X) {v : Value} (hd : decode M.2.1 pc = .ok (.dup, 1)) (hv : v.category = 1) (k : jJ G X h kc ks (pc + 1) L (v :: v :: st)) : jJ G X h kc ks (pc) L (v :: st) := by
  obtain ⟨p, l9, e, R, s, m, args, below, meth, c, mc, ms, Q⟩ := X
  obtain ⟨hx, hb, hml, hr, hown, hts, hlk, hin, hE, hbs, hd1, hd2, hd3, hd4, rfl, hxt⟩ := K
  intro H locs cells slots ls hR hS hc1 hc2 hc hl
  exact lv_dup hx hb hd hv (k H locs cells slots ls hR hS hc1 hc2 hc hl)
theorem jr_pop (K : jOK G l M dep X) {v : Value} (hd : decode M.2.1 pc = .ok (.pop, 1)) (hv : v.category = 1) (k : jJ G X h kc ks (pc + 1) L (st)) : jJ G X h kc ks (pc) L (v :: st) := by
  obtain ⟨p, l9, e, R, s, m, args, below, meth, c, mc, ms, Q⟩ := X
  obtain ⟨hx, hb, hml, hr, hown, hts, hlk, hin, hE, hbs, hd1, hd2, hd3, hd4, rfl, hxt⟩ := K
  intro H locs cells slots ls hR hS hc1 hc2 hc hl
  exact lv_pop hx hb hd hv (k H locs cells slots ls hR hS hc1 hc2 hc hl)
theorem jr_dup2 (K : jOK G l M dep X) {v u : Value} (hd : decode M.2.1 pc = .ok (.dup2, 1)) (hv : v.category = 1) (hu : u.category = 1) (k : jJ G X h kc ks (pc + 1) L (v :: u :: v :: u :: st)) : jJ G X h kc ks (pc) L (v :: u :: st) := by
  obtain ⟨p, l9, e, R, s, m, args, below, meth, c, mc, ms, Q⟩ := X
  obtain ⟨hx, hb, hml, hr, hown, hts, hlk, hin, hE, hbs, hd1, hd2, hd3, hd4, rfl, hxt⟩ := K
  intro H locs cells slots ls hR hS hc1 hc2 hc hl
  exact lv_dup2_11 hx hb hd hv hu (k H locs cells slots ls hR hS hc1 hc2 hc hl)
theorem jr_goto (K : jOK G l M dep X) {off : Int} {tgt : Nat} (hd : decode M.2.1 pc = .ok (.goto off, 3)) (ht : (pc : Int) + off = (tgt : Int)) (k : jJ G X h kc ks (tgt) L (st)) : jJ G X h kc ks (pc) L (st) := by
  obtain ⟨p, l9, e, R, s, m, args, below, meth, c, mc, ms, Q⟩ := X
  obtain ⟨hx, hb, hml, hr, hown, hts, hlk, hin, hE, hbs, hd1, hd2, hd3, hd4, rfl, hxt⟩ := K
  intro H locs cells slots ls hR hS hc1 hc2 hc hl
  exact lv_goto hx hb hd ht (k H locs cells slots ls hR hS hc1 hc2 hc hl)
theorem jr_icmp_eq (K : jOK G l M dep X) {x y : Int32} {off : Int} {tgt : Nat} (hd : decode M.2.1 pc = .ok (.if_icmp .eq off, 3)) (ht : (pc : Int) + off = (tgt : Int)) (kt : x = y → jJ G X h kc ks (tgt) L (st)) (kf : ¬ x = y → jJ G X h kc ks (pc + 3) L (st)) : jJ G X h kc ks (pc) L (.int y :: .int x :: st) := by
  obtain ⟨p, l9, e, R, s, m, args, below, meth, c, mc, ms, Q⟩ := X
  obtain ⟨hx, hb, hml, hr, hown, hts, hlk, hin, hE, hbs, hd1, hd2, hd3, hd4, rfl, hxt⟩ := K
  intro H locs cells slots ls hR hS hc1 hc2 hc hl
  exact lv_icmp_eq hx hb hd ht (fun q => kt q H locs cells slots ls hR hS hc1 hc2 hc hl) (fun q => kf q H locs cells slots ls hR hS hc1 hc2 hc hl)
theorem jr_if_eq (K : jOK G l M dep X) {x : Int32} {off : Int} {tgt : Nat} (hd : decode M.2.1 pc = .ok (.ifCond .eq off, 3)) (ht : (pc : Int) + off = (tgt : Int)) (kt : x = 0 → jJ G X h kc ks (tgt) L (st)) (kf : ¬ x = 0 → jJ G X h kc ks (pc + 3) L (st)) : jJ G X h kc ks (pc) L (.int x :: st) := by
  obtain ⟨p, l9, e, R, s, m, args, below, meth, c, mc, ms, Q⟩ := X
  obtain ⟨hx, hb, hml, hr, hown, hts, hlk, hin, hE, hbs, hd1, hd2, hd3, hd4, rfl, hxt⟩ := K
  intro H locs cells slots ls hR hS hc1 hc2 hc hl
  exact lv_if_eq hx hb hd ht (fun q => kt q H locs cells slots ls hR hS hc1 hc2 hc hl) (fun q => kf q H locs cells slots ls hR hS hc1 hc2 hc hl)
theorem jr_icmp_ne (K : jOK G l M dep X) {x y : Int32} {off : Int} {tgt : Nat} (hd : decode M.2.1 pc = .ok (.if_icmp .ne off, 3)) (ht : (pc : Int) + off = (tgt : Int)) (kt : ¬ x = y → jJ G X h kc ks (tgt) L (st)) (kf : x = y → jJ G X h kc ks (pc + 3) L (st)) : jJ G X h kc ks (pc) L (.int y :: .int x :: st) := by
  obtain ⟨p, l9, e, R, s, m, args, below, meth, c, mc, ms, Q⟩ := X
  obtain ⟨hx, hb, hml, hr, hown, hts, hlk, hin, hE, hbs, hd1, hd2, hd3, hd4, rfl, hxt⟩ := K
  intro H locs cells slots ls hR hS hc1 hc2 hc hl
  exact lv_icmp_ne hx hb hd ht (fun q => kt q H locs cells slots ls hR hS hc1 hc2 hc hl) (fun q => kf q H locs cells slots ls hR hS hc1 hc2 hc hl)
theorem jr_if_ne (K : jOK G l M dep X) {x : Int32} {off : Int} {tgt : Nat} (hd : decode M.2.1 pc = .ok (.ifCond .ne off, 3)) (ht : (pc : Int) + off = (tgt : Int)) (kt : ¬ x = 0 → jJ G X h kc ks (tgt) L (st)) (kf : x = 0 → jJ G X h kc ks (pc + 3) L (st)) : jJ G X h kc ks (pc) L (.int x :: st) := by
  obtain ⟨p, l9, e, R, s, m, args, below, meth, c, mc, ms, Q⟩ := X
  obtain ⟨hx, hb, hml, hr, hown, hts, hlk, hin, hE, hbs, hd1, hd2, hd3, hd4, rfl, hxt⟩ := K
  intro H locs cells slots ls hR hS hc1 hc2 hc hl
  exact lv_if_ne hx hb hd ht (fun q => kt q H locs cells slots ls hR hS hc1 hc2 hc hl) (fun q => kf q H locs cells slots ls hR hS hc1 hc2 hc hl)
theorem jr_icmp_lt (K : jOK G l M dep X) {x y : Int32} {off : Int} {tgt : Nat} (hd : decode M.2.1 pc = .ok (.if_icmp .lt off, 3)) (ht : (pc : Int) + off = (tgt : Int)) (kt : x < y → jJ G X h kc ks (tgt) L (st)) (kf : ¬ x < y → jJ G X h kc ks (pc + 3) L (st)) : jJ G X h kc ks (pc) L (.int y :: .int x :: st) := by
  obtain ⟨p, l9, e, R, s, m, args, below, meth, c, mc, ms, Q⟩ := X
  obtain ⟨hx, hb, hml, hr, hown, hts, hlk, hin, hE, hbs, hd1, hd2, hd3, hd4, rfl, hxt⟩ := K
  intro H locs cells slots ls hR hS hc1 hc2 hc hl
  exact lv_icmp_lt hx hb hd ht (fun q => kt q H locs cells slots ls hR hS hc1 hc2 hc hl) (fun q => kf q H locs cells slots ls hR hS hc1 hc2 hc hl)
theorem jr_if_lt (K : jOK G l M dep X) {x : Int32} {off : Int} {tgt : Nat} (hd : decode M.2.1 pc = .ok (.ifCond .lt off, 3)) (ht : (pc : Int) + off = (tgt : Int)) (kt : x < 0 → jJ G X h kc ks (tgt) L (st)) (kf : ¬ x < 0 → jJ G X h kc ks (pc + 3) L (st)) : jJ G X h kc ks (pc) L (.int x :: st) := by
  obtain ⟨p, l9, e, R, s, m, args, below, meth, c, mc, ms, Q⟩ := X
  obtain ⟨hx, hb, hml, hr, hown, hts, hlk, hin, hE, hbs, hd1, hd2, hd3, hd4, rfl, hxt⟩ := K
  intro H locs cells slots ls hR hS hc1 hc2 hc hl
  exact lv_if_lt hx hb hd ht (fun q => kt q H locs cells slots ls hR hS hc1 hc2 hc hl) (fun q => kf q H locs cells slots ls hR hS hc1 hc2 hc hl)
theorem jr_icmp_ge (K : jOK G l M dep X) {x y : Int32} {off : Int} {tgt : Nat} (hd : decode M.2.1 pc = .ok (.if_icmp .ge off, 3)) (ht : (pc : Int) + off = (tgt : Int)) (kt : y ≤ x → jJ G X h kc ks (tgt) L (st)) (kf : ¬ y ≤ x → jJ G X h kc ks (pc + 3) L (st)) : jJ G X h kc ks (pc) L (.int y :: .int x :: st) := by
  obtain ⟨p, l9, e, R, s, m, args, below, meth, c, mc, ms, Q⟩ := X
  obtain ⟨hx, hb, hml, hr, hown, hts, hlk, hin, hE, hbs, hd1, hd2, hd3, hd4, rfl, hxt⟩ := K
  intro H locs cells slots ls hR hS hc1 hc2 hc hl
  exact lv_icmp_ge hx hb hd ht (fun q => kt q H locs cells slots ls hR hS hc1 hc2 hc hl) (fun q => kf q H locs cells slots ls hR hS hc1 hc2 hc hl)
theorem jr_if_ge (K : jOK G l M dep X) {x : Int32} {off : Int} {tgt : Nat} (hd : decode M.2.1 pc = .ok (.ifCond .ge off, 3)) (ht : (pc : Int) + off = (tgt : Int)) (kt : 0 ≤ x → jJ G X h kc ks (tgt) L (st)) (kf : ¬ 0 ≤ x → jJ G X h kc ks (pc + 3) L (st)) : jJ G X h kc ks (pc) L (.int x :: st) := by
  obtain ⟨p, l9, e, R, s, m, args, below, meth, c, mc, ms, Q⟩ := X
  obtain ⟨hx, hb, hml, hr, hown, hts, hlk, hin, hE, hbs, hd1, hd2, hd3, hd4, rfl, hxt⟩ := K
  intro H locs cells slots ls hR hS hc1 hc2 hc hl
  exact lv_if_ge hx hb hd ht (fun q => kt q H locs cells slots ls hR hS hc1 hc2 hc hl) (fun q => kf q H locs cells slots ls hR hS hc1 hc2 hc hl)
theorem jr_icmp_gt (K : jOK G l M dep X) {x y : Int32} {off : Int} {tgt : Nat} (hd : decode M.2.1 pc = .ok (.if_icmp .gt off, 3)) (ht : (pc : Int) + off = (tgt : Int)) (kt : y < x → jJ G X h kc ks (tgt) L (st)) (kf : ¬ y < x → jJ G X h kc ks (pc + 3) L (st)) : jJ G X h kc ks (pc) L (.int y :: .int x :: st) := by
  obtain ⟨p, l9, e, R, s, m, args, below, meth, c, mc, ms, Q⟩ := X
  obtain ⟨hx, hb, hml, hr, hown, hts, hlk, hin, hE, hbs, hd1, hd2, hd3, hd4, rfl, hxt⟩ := K
  intro H locs cells slots ls hR hS hc1 hc2 hc hl
  exact lv_icmp_gt hx hb hd ht (fun q => kt q H locs cells slots ls hR hS hc1 hc2 hc hl) (fun q => kf q H locs cells slots ls hR hS hc1 hc2 hc hl)
theorem jr_if_gt (K : jOK G l M dep X) {x : Int32} {off : Int} {tgt : Nat} (hd : decode M.2.1 pc = .ok (.ifCond .gt off, 3)) (ht : (pc : Int) + off = (tgt : Int)) (kt : 0 < x → jJ G X h kc ks (tgt) L (st)) (kf : ¬ 0 < x → jJ G X h kc ks (pc + 3) L (st)) : jJ G X h kc ks (pc) L (.int x :: st) := by
  obtain ⟨p, l9, e, R, s, m, args, below, meth, c, mc, ms, Q⟩ := X
  obtain ⟨hx, hb, hml, hr, hown, hts, hlk, hin, hE, hbs, hd1, hd2, hd3, hd4, rfl, hxt⟩ := K
  intro H locs cells slots ls hR hS hc1 hc2 hc hl
  exact lv_if_gt hx hb hd ht (fun q => kt q H locs cells slots ls hR hS hc1 hc2 hc hl) (fun q => kf q H locs cells slots ls hR hS hc1 hc2 hc hl)
theorem jr_icmp_le (K : jOK G l M dep X) {x y : Int32} {off : Int} {tgt : Nat} (hd : decode M.2.1 pc = .ok (.if_icmp .le off, 3)) (ht : (pc : Int) + off = (tgt : Int)) (kt : x ≤ y → jJ G X h kc ks (tgt) L (st)) (kf : ¬ x ≤ y → jJ G X h kc ks (pc + 3) L (st)) : jJ G X h kc ks (pc) L (.int y :: .int x :: st) := by
  obtain ⟨p, l9, e, R, s, m, args, below, meth, c, mc, ms, Q⟩ := X
  obtain ⟨hx, hb, hml, hr, hown, hts, hlk, hin, hE, hbs, hd1, hd2, hd3, hd4, rfl, hxt⟩ := K
  intro H locs cells slots ls hR hS hc1 hc2 hc hl
  exact lv_icmp_le hx hb hd ht (fun q => kt q H locs cells slots ls hR hS hc1 hc2 hc hl) (fun q => kf q H locs cells slots ls hR hS hc1 hc2 hc hl)
theorem jr_if_le (K : jOK G l M dep X) {x : Int32} {off : Int} {tgt : Nat} (hd : decode M.2.1 pc = .ok (.ifCond .le off, 3)) (ht : (pc : Int) + off = (tgt : Int)) (kt : x ≤ 0 → jJ G X h kc ks (tgt) L (st)) (kf : ¬ x ≤ 0 → jJ G X h kc ks (pc + 3) L (st)) : jJ G X h kc ks (pc) L (.int x :: st) := by
  obtain ⟨p, l9, e, R, s, m, args, below, meth, c, mc, ms, Q⟩ := X
  obtain ⟨hx, hb, hml, hr, hown, hts, hlk, hin, hE, hbs, hd1, hd2, hd3, hd4, rfl, hxt⟩ := K
  intro H locs cells slots ls hR hS hc1 hc2 hc hl
  exact lv_if_le hx hb hd ht (fun q => kt q H locs cells slots ls hR hS hc1 hc2 hc hl) (fun q => kf q H locs cells slots ls hR hS hc1 hc2 hc hl)
theorem jr_ifnonnull (K : jOK G l M dep X) {x : Nat} {off : Int} {tgt : Nat} (hd : decode M.2.1 pc = .ok (.ifnonnull off, 3)) (ht : (pc : Int) + off = (tgt : Int)) (k : jJ G X h kc ks (tgt) L (st)) : jJ G X h kc ks (pc) L (.ref x :: st) := by
  obtain ⟨p, l9, e, R, s, m, args, below, meth, c, mc, ms, Q⟩ := X
  obtain ⟨hx, hb, hml, hr, hown, hts, hlk, hin, hE, hbs, hd1, hd2, hd3, hd4, rfl, hxt⟩ := K
  intro H locs cells slots ls hR hS hc1 hc2 hc hl
  exact lv_ifnonnull hx hb hd ht (k H locs cells slots ls hR hS hc1 hc2 hc hl)
theorem jr_ifnonnullN (K : jOK G l M dep X) {off : Int} (hd : decode M.2.1 pc = .ok (.ifnonnull off, 3)) (k : jJ G X h kc ks (pc + 3) L (st)) : jJ G X h kc ks (pc) L (.null :: st) := by
  obtain ⟨p, l9, e, R, s, m, args, below, meth, c, mc, ms, Q⟩ := X
  obtain ⟨hx, hb, hml, hr, hown, hts, hlk, hin, hE, hbs, hd1, hd2, hd3, hd4, rfl, hxt⟩ := K
  intro H locs cells slots ls hR hS hc1 hc2 hc hl
  exact lv_ifnonnullN hx hb hd (k H locs cells slots ls hR hS hc1 hc2 hc hl)
theorem jr_ifnull (K : jOK G l M dep X) {x : Nat} {off : Int} (hd : decode M.2.1 pc = .ok (.ifnull off, 3)) (k : jJ G X h kc ks (pc + 3) L (st)) : jJ G X h kc ks (pc) L (.ref x :: st) := by
  obtain ⟨p, l9, e, R, s, m, args, below, meth, c, mc, ms, Q⟩ := X
  obtain ⟨hx, hb, hml, hr, hown, hts, hlk, hin, hE, hbs, hd1, hd2, hd3, hd4, rfl, hxt⟩ := K
  intro H locs cells slots ls hR hS hc1 hc2 hc hl
  exact lv_ifnull hx hb hd (k H locs cells slots ls hR hS hc1 hc2 hc hl)
theorem jr_ifnullN (K : jOK G l M dep X) {off : Int} {tgt : Nat} (hd : decode M.2.1 pc = .ok (.ifnull off, 3)) (ht : (pc : Int) + off = (tgt : Int)) (k : jJ G X h kc ks (tgt) L (st)) : jJ G X h kc ks (pc) L (.null :: st) := by
  obtain ⟨p, l9, e, R, s, m, args, below, meth, c, mc, ms, Q⟩ := X
  obtain ⟨hx, hb, hml, hr, hown, hts, hlk, hin, hE, hbs, hd1, hd2, hd3, hd4, rfl, hxt⟩ := K
  intro H locs cells slots ls hR hS hc1 hc2 hc hl
  exact lv_ifnullN hx hb hd ht (k H locs cells slots ls hR hS hc1 hc2 hc hl)
theorem jr_tableIn (K : jOK G l M dep X) {dflt lo hi : Int} {offs : Array Int} {len : Nat} {x : Int32} {off : Int} {tgt : Nat} (hd : decode M.2.1 pc = .ok (.tableswitch dflt lo hi offs, len)) (h1 : ¬ x.toInt < lo) (h2 : ¬ hi < x.toInt) (ho : offs[(x.toInt - lo).toNat]? = some off) (ht : (pc : Int) + off = (tgt : Int)) (k : jJ G X h kc ks (tgt) L (st)) : jJ G X h kc ks (pc) L (.int x :: st) := by
  obtain ⟨p, l9, e, R, s, m, args, below, meth, c, mc, ms, Q⟩ := X
  obtain ⟨hx, hb, hml, hr, hown, hts, hlk, hin, hE, hbs, hd1, hd2, hd3, hd4, rfl, hxt⟩ := K
  intro H locs cells slots ls hR hS hc1 hc2 hc hl
  exact lv_tableIn hx hb hd h1 h2 ho ht (k H locs cells slots ls hR hS hc1 hc2 hc hl)
theorem jr_tableOut (K : jOK G l M dep X) {dflt lo hi : Int} {offs : Array Int} {len : Nat} {x : Int32} {tgt : Nat} (hd : decode M.2.1 pc = .ok (.tableswitch dflt lo hi offs, len)) (h1 : x.toInt < lo ∨ hi < x.toInt) (ht : (pc : Int) + dflt = (tgt : Int)) (k : jJ G X h kc ks (tgt) L (st)) : jJ G X h kc ks (pc) L (.int x :: st) := by
  obtain ⟨p, l9, e, R, s, m, args, below, meth, c, mc, ms, Q⟩ := X
  obtain ⟨hx, hb, hml, hr, hown, hts, hlk, hin, hE, hbs, hd1, hd2, hd3, hd4, rfl, hxt⟩ := K
  intro H locs cells slots ls hR hS hc1 hc2 hc hl
  exact lv_tableOut hx hb hd h1 ht (k H locs cells slots ls hR hS hc1 hc2 hc hl)
theorem jr_lookup (K : jOK G l M dep X) {dflt : Int} {ps : Array (Int × Int)} {len : Nat} {x : Int32} {off : Int} {tgt : Nat} (hd : decode M.2.1 pc = .ok (.lookupswitch dflt ps, len)) (hp : (ps.toList.zip (ps.toList.drop 1)).all (fun (a, next) => a.1 < next.1) = true) (ho : Op.lookupswitch.offset ps.toList dflt x.toInt = off) (ht : (pc : Int) + off = (tgt : Int)) (k : jJ G X h kc ks (tgt) L (st)) : jJ G X h kc ks (pc) L (.int x :: st) := by
  obtain ⟨p, l9, e, R, s, m, args, below, meth, c, mc, ms, Q⟩ := X
  obtain ⟨hx, hb, hml, hr, hown, hts, hlk, hin, hE, hbs, hd1, hd2, hd3, hd4, rfl, hxt⟩ := K
  intro H locs cells slots ls hR hS hc1 hc2 hc hl
  exact lv_lookup hx hb hd hp ho ht (k H locs cells slots ls hR hS hc1 hc2 hc hl)
end JR
end
section
/-! reading and writing pure heaps -/
def jgf (ci : Nat) (h : jH) (a k : Nat) : Option Value := match h.2 a with
  | some (.inl o) => if o.1 = ci then o.2[k]? else none
  | _ => none
def jgI (ci : Nat) (h : jH) (a k : Nat) : Option Int32 := match jgf ci h a k with
  | some (.int x) => some x
  | _ => none
def jgR (ci : Nat) (h : jH) (a k : Nat) : Option Nat := match jgf ci h a k with
  | some (.ref x) => some x
  | _ => none
/-- a reference or null -/
def jgQ (ci : Nat) (h : jH) (a k : Nat) : Option (Option Nat) := match jgf ci h a k with
  | some (.ref x) => some (some x)
  | some .null => some none
  | _ => none
def jpf (ci : Nat) (h : jH) (a k : Nat) (v : Value) : Option jH := match h.2 a with
  | some (.inl o) => if o.1 = ci ∧ k < o.2.length then some (jup h a (.inl (o.1, o.2.set k v))) else none
  | _ => none
def jal (t : Nat) (h : jH) (a : Nat) (i : Int32) : Option Int32 := match h.2 a with
  | some (.inr (.inl x)) => if x.1 = t ∧ ¬ (i < 0 ∨ x.2.1 ≤ i.toNatClampNeg) then some (x.2.2 i.toNatClampNeg) else none
  | _ => none
def jnar (t : Nat) (x : Int32) : Int32 := if t = 1 then x.toInt8.toInt32 else x
def jas (t : Nat) (h : jH) (a : Nat) (i x : Int32) : Option jH := match h.2 a with
  | some (.inr (.inl y)) => if y.1 = t ∧ ¬ (i < 0 ∨ y.2.1 ≤ i.toNatClampNeg) ∧ (t = 2 → x = 0 ∨ x = 1) then some (jup h a (.inr (.inl (t, y.2.1, upd y.2.2 i.toNatClampNeg (jnar t x))))) else none
  | _ => none
def jlen (h : jH) (a : Nat) : Option Int32 := match h.2 a with
  | some (.inr (.inl x)) => if x.1 < 3 then some (Int32.ofNat x.2.1) else none
  | _ => none
def jalq (h : jH) (a : Nat) (i : Int32) : Option (Option Nat) := match h.2 a with
  | some (.inr (.inr (.inl x))) => if ¬ (i < 0 ∨ x.1 ≤ i.toNatClampNeg) then some (x.2 i.toNatClampNeg) else none
  | _ => none
def jasq (ci : Nat) (h : jH) (a : Nat) (i : Int32) (v : Nat) : Option jH := match h.2 a, h.2 v with
  | some (.inr (.inr (.inl x))), some (.inl o) => if ¬ (i < 0 ∨ x.1 ≤ i.toNatClampNeg) ∧ o.1 = ci then some (jup h a (.inr (.inr (.inl (x.1, va_up x.2 i.toNatClampNeg (some v)))))) else none
  | _, _ => none
def jall_ (h : jH) (a : Nat) (i : Int32) : Option Int64 := match h.2 a with
  | some (.inr (.inr (.inr x))) => if ¬ (i < 0 ∨ x.1 ≤ i.toNatClampNeg) then some (x.2 i.toNatClampNeg) else none
  | _ => none
def jasl (h : jH) (a : Nat) (i : Int32) (v : Int64) : Option jH := match h.2 a with
  | some (.inr (.inr (.inr x))) => if ¬ (i < 0 ∨ x.1 ≤ i.toNatClampNeg) then some (jup h a (.inr (.inr (.inr (x.1, vp_updL x.2 i.toNatClampNeg v))))) else none
  | _ => none
/-- System.arraycopy of ints -/
def jcp (h : jH) (a0 : Nat) (sp : Int32) (a : Nat) (dp n : Int32) : Option jH := match h.2 a0, h.2 a with
  | some (.inr (.inl x)), some (.inr (.inl y)) =>
    if x.1 = 0 ∧ y.1 = 0 ∧ ¬ sp < 0 ∧ ¬ dp < 0 ∧ ¬ n < 0 ∧ sp.toNatClampNeg + n.toNatClampNeg ≤ x.2.1 ∧ dp.toNatClampNeg + n.toNatClampNeg ≤ y.2.1 then some (jup h a (.inr (.inl (0, y.2.1, va_cpy x.2.2 y.2.2 sp.toNatClampNeg dp.toNatClampNeg n.toNatClampNeg)))) else none
  | _, _ => none
theorem jgI_f {ci : Nat} {h : jH} {a k : Nat} {x : Int32} (e : jgI ci h a k = some x) : jgf ci h a k = some (.int x) := by
  unfold jgI at e
  split at e
  · cases e; assumption
  · cases e
theorem jgR_f {ci : Nat} {h : jH} {a k x : Nat} (e : jgR ci h a k = some x) : jgf ci h a k = some (.ref x) := by
  unfold jgR at e
  split at e
  · cases e; assumption
  · cases e
theorem jgQ_f {ci : Nat} {h : jH} {a k : Nat} {x : Option Nat} (e : jgQ ci h a k = some x) : jgf ci h a k = some (va_rf x) := by
  unfold jgQ at e
  split at e
  · cases e; assumption
  · cases e; assumption
  · cases e
theorem jgf_o {ci : Nat} {h : jH} {a k : Nat} {v : Value} (e : jgf ci h a k = some v) : ∃ fs, h.2 a = some (.inl (ci, fs)) ∧ fs[k]? = some v := by
  unfold jgf at e
  split at e
  · rename_i o ho
    split at e
    · rename_i hc
      exact ⟨o.2, by rw [ho, ← hc], e⟩
    · cases e
  · cases e
theorem jpf_o {ci : Nat} {h h1 : jH} {a k : Nat} {v : Value} (e : jpf ci h a k v = some h1) : ∃ fs, h.2 a = some (.inl (ci, fs)) ∧ k < fs.length ∧ h1 = jup h a (.inl (ci, fs.set k v)) := by
  unfold jpf at e
  split at e
  · rename_i o ho
    split at e
    · rename_i hc
      cases e
      exact ⟨o.2, by rw [ho, ← hc.1], hc.2, by rw [← hc.1]⟩
    · cases e
  · cases e
theorem jal_o {t : Nat} {h : jH} {a : Nat} {i x : Int32} (e : jal t h a i = some x) : ∃ n f, h.2 a = some (.inr (.inl (t, n, f))) ∧ vp_in i n ∧ x = f i.toNatClampNeg := by
  unfold jal at e
  split at e
  · rename_i y hy
    split at e
    · rename_i hc
      cases e
      exact ⟨y.2.1, y.2.2, by rw [hy, ← hc.1], hc.2, rfl⟩
    · cases e
  · cases e
theorem jas_o {t : Nat} {h h1 : jH} {a : Nat} {i x : Int32} (e : jas t h a i x = some h1) : ∃ n f, h.2 a = some (.inr (.inl (t, n, f))) ∧ vp_in i n ∧ (t = 2 → x = 0 ∨ x = 1) ∧ h1 = jup h a (.inr (.inl (t, n, upd f i.toNatClampNeg (jnar t x)))) := by
  unfold jas at e
  split at e
  · rename_i y hy
    split at e
    · rename_i hc
      cases e
      exact ⟨y.2.1, y.2.2, by rw [hy, ← hc.1], hc.2.1, hc.2.2, rfl⟩
    · cases e
  · cases e
theorem jlen_o {h : jH} {a : Nat} {x : Int32} (e : jlen h a = some x) : ∃ t n f, h.2 a = some (.inr (.inl (t, n, f))) ∧ t < 3 ∧ x = Int32.ofNat n := by
  unfold jlen at e
  split at e
  · rename_i y hy
    split at e
    · rename_i hc
      cases e
      exact ⟨y.1, y.2.1, y.2.2, hy, hc, rfl⟩
    · cases e
  · cases e
theorem jalq_o {h : jH} {a : Nat} {i : Int32} {x : Option Nat} (e : jalq h a i = some x) : ∃ n f, h.2 a = some (.inr (.inr (.inl (n, f)))) ∧ vp_in i n ∧ x = f i.toNatClampNeg := by
  unfold jalq at e
  split at e
  · rename_i y hy
    split at e
    · rename_i hc
      cases e
      exact ⟨y.1, y.2, hy, hc, rfl⟩
    · cases e
  · cases e
theorem jasq_o {ci : Nat} {h h1 : jH} {a v : Nat} {i : Int32} (e : jasq ci h a i v = some h1) : ∃ n f fs, h.2 a = some (.inr (.inr (.inl (n, f)))) ∧ h.2 v = some (.inl (ci, fs)) ∧ vp_in i n ∧ h1 = jup h a (.inr (.inr (.inl (n, va_up f i.toNatClampNeg (some v))))) := by
  unfold jasq at e
  split at e
  · rename_i y o hy ho
    split at e
    · rename_i hc
      cases e
      exact ⟨y.1, y.2, o.2, hy, by rw [ho, ← hc.2], hc.1, rfl⟩
    · cases e
  · cases e
theorem jall_o {h : jH} {a : Nat} {i : Int32} {x : Int64} (e : jall_ h a i = some x) : ∃ n f, h.2 a = some (.inr (.inr (.inr (n, f)))) ∧ vp_in i n ∧ x = f i.toNatClampNeg := by
  unfold jall_ at e
  split at e
  · rename_i y hy
    split at e
    · rename_i hc
      cases e
      exact ⟨y.1, y.2, hy, hc, rfl⟩
    · cases e
  · cases e
theorem jasl_o {h h1 : jH} {a : Nat} {i : Int32} {v : Int64} (e : jasl h a i v = some h1) : ∃ n f, h.2 a = some (.inr (.inr (.inr (n, f)))) ∧ vp_in i n ∧ h1 = jup h a (.inr (.inr (.inr (n, vp_updL f i.toNatClampNeg v)))) := by
  unfold jasl at e
  split at e
  · rename_i y hy
    split at e
    · rename_i hc
      cases e
      exact ⟨y.1, y.2, hy, hc, rfl⟩
    · cases e
  · cases e
theorem jcp_o {h h1 : jH} {a0 a : Nat} {sp dp n : Int32} (e : jcp h a0 sp a dp n = some h1) : ∃ n0 f n1 g, h.2 a0 = some (.inr (.inl (0, n0, f))) ∧ h.2 a = some (.inr (.inl (0, n1, g))) ∧ ¬ sp < 0 ∧ ¬ dp < 0 ∧ ¬ n < 0 ∧ sp.toNatClampNeg + n.toNatClampNeg ≤ n0 ∧ dp.toNatClampNeg + n.toNatClampNeg ≤ n1 ∧ h1 = jup h a (.inr (.inl (0, n1, va_cpy f g sp.toNatClampNeg dp.toNatClampNeg n.toNatClampNeg))) := by
  unfold jcp at e
  split at e
  · rename_i x y hx hy
    split at e
    · rename_i hc
      obtain ⟨c1, c2, c3, c4, c5, c6, c7⟩ := hc
      cases e
      exact ⟨x.2.1, x.2.2, y.2.1, y.2.2, by rw [hx, ← c1], by rw [hy, ← c2], c3, c4, c5, c6, c7, rfl⟩
    · cases e
  · cases e
/-! what a place in the code must link: a field read, a field written -/
def jFg (own : String) (idx ci k : Nat) : Prop := ∃ (C : String) (T : u_T) (N : Nat) (ref : String), vwCl[ci]? = some (C, T, N) ∧ (∀ w ∈ u_ws C T N, w ∈ lw_tbl) ∧ k < N ∧ Cond.fieldLink own idx ref (T k).2.1 (T k).2.2.1 ∈ jall ∧ ((T k).1 = ref ∨ Cond.sameField ref (T k).1 (T k).2.1 (T k).2.2.1 ∈ jall)
def jFp (own : String) (idx ci k : Nat) (fin : Bool) (ty : FieldType) : Prop := ∃ (C : String) (T : u_T) (N : Nat) (ty0 : Nat → FieldType), vwCl[ci]? = some (C, T, N) ∧ (∀ w ∈ u_ws C T N, w ∈ lw_tbl) ∧ (∀ k, k < N → parseFieldDescriptor (T k).2.2.1 = some (ty0 k)) ∧ (∀ a, a < N → ∀ b, b < N → a ≠ b → (T a).2.1 ≠ (T b).2.1) ∧ k < N ∧ Cond.fieldLink own idx (T k).1 (T k).2.1 (T k).2.2.1 ∈ jall ∧ (T k).2.2.2 = fin ∧ parseFieldDescriptor (T k).2.2.1 = some ty ∧ (fin = true → (T k).1 = own)
/-- an object is made: its class, its fields as they are born -/
def jFn (own : String) (idx ci N : Nat) (fs : List Value) : Prop := ∃ (C : String) (T : u_T) (ty0 : Nat → FieldType), vwCl[ci]? = some (C, T, N) ∧ (∀ w ∈ u_ws C T N, w ∈ lw_tbl) ∧ (∀ k, k < N → parseFieldDescriptor (T k).2.2.1 = some (ty0 k)) ∧ Cond.classLink own idx C ∈ jall ∧ Cond.instantiable C N ∈ jall ∧ Cond.initialized C ∈ jall ∧ ∀ j, j < N → defaultValue (ty0 j) = vp_V fs j
theorem u_ws_good (C : String) (T : u_T) (N : Nat) : ∀ w ∈ u_ws C T N, goodWord w = true := by
  intro w hw
  obtain ⟨k, -, rfl⟩ := List.mem_map.mp hw
  unfold u_lay
  split <;> rfl
theorem u_ws_all {C : String} {T : u_T} {N : Nat} (h : ∀ w ∈ u_ws C T N, w ∈ lw_tbl) : ∀ w ∈ u_ws C T N, w ∈ jall := fun w hw => jall_in (h w hw) (u_ws_good C T N w hw)
theorem jRep.at {G : jG} {h : jH} {H : Heap} {a : Nat} {e : jE} (hR : jRep G h H) (he : h.2 a = some e) : va_P G.1 vwCl [(a, jtr G.2.1 e)] H := by
  intro k q hk
  cases k with
  | zero => cases hk; exact (hR.2 a e he).2
  | succ k => cases hk
theorem jRep.dom {G : jG} {h : jH} {H : Heap} {a : Nat} {e : jE} (hR : jRep G h H) (he : h.2 a = some e) : va_D (jA G) [(a, jtr G.2.1 e)] := by
  refine ⟨fun i j x y hi hj _ => ?_, fun k q hk => ?_⟩
  · have h1 : i < 1 := (List.getElem?_eq_some_iff.mp hi).1
    have h2 : j < 1 := (List.getElem?_eq_some_iff.mp hj).1
    omega
  · cases k with
    | zero => cases hk; exact (hR.2 a e he).1
    | succ k => cases hk
section JH
variable {G : jG} {l : Launch} {M : jM} {dep : Nat} {X : jX} {h h1 : jH} {kc ks pc : Nat} {L : List (Option Value)} {st : List Value} {a k i0 : Nat} {x i : Int32}
theorem jr_getf (K : jOK G l M dep X) {index ci : Nat} {v : Value} (hd : decode M.2.1 pc = .ok (.getfield index, 3)) (hf : jFg M.1.cls index ci k) (hg : jgf ci h a k = some v) (kk : jJ G X h kc ks (pc + 3) L (v :: st)) : jJ G X h kc ks pc L (.ref a :: st) := by
  obtain ⟨p, l9, e, R, s, m, args, below, meth, c, mc, ms, Q⟩ := X
  obtain ⟨hx, hb, hml, hr, hown, hts, hlk, hin, hE, hbs, hd1, hd2, hd3, hd4, rfl, hxt⟩ := K
  intro H locs cells slots ls hR hS hc1 hc2 hc hl
  obtain ⟨C, T, N, ref, f1, f2, f3, f4, f5⟩ := hf
  obtain ⟨fs, g1, g2⟩ := jgf_o hg
  refine va_get hx hb hts (u_ws_all f2) hown hE.1 (hR.at g1) 0 rfl f1 k f3 (hts _ f4) ?_ g2 hd (kk H locs cells slots ls hR hS hc1 hc2 hc hl)
  rcases f5 with f5 | f5
  · intro y hy; rw [← f5]; exact hy
  · exact fun y hy => u_same (hts _ f5) y hy
theorem jr_getI (K : jOK G l M dep X) {index ci : Nat} (hd : decode M.2.1 pc = .ok (.getfield index, 3)) (hf : jFg M.1.cls index ci k) (hg : jgI ci h a k = some x) (kk : jJ G X h kc ks (pc + 3) L (.int x :: st)) : jJ G X h kc ks pc L (.ref a :: st) := jr_getf K hd hf (jgI_f hg) kk
theorem jr_getR (K : jOK G l M dep X) {index ci y : Nat} (hd : decode M.2.1 pc = .ok (.getfield index, 3)) (hf : jFg M.1.cls index ci k) (hg : jgR ci h a k = some y) (kk : jJ G X h kc ks (pc + 3) L (.ref y :: st)) : jJ G X h kc ks pc L (.ref a :: st) := jr_getf K hd hf (jgR_f hg) kk
theorem jr_getQ (K : jOK G l M dep X) {index ci : Nat} {y : Option Nat} (hd : decode M.2.1 pc = .ok (.getfield index, 3)) (hf : jFg M.1.cls index ci k) (hg : jgQ ci h a k = some y) (kk : jJ G X h kc ks (pc + 3) L (va_rf y :: st)) : jJ G X h kc ks pc L (.ref a :: st) := jr_getf K hd hf (jgQ_f hg) kk
theorem jr_put (K : jOK G l M dep X) {index ci : Nat} {fin : Bool} {ty : FieldType} {v : Value} (hd : decode M.2.1 pc = .ok (.putfield index, 3)) (hf : jFp M.1.cls index ci k fin ty) (hfi : fin = false ∨ M.1.name = "<init>") (hn : narrow ty v = v) (hfit : fits ty v = true) (hg : jpf ci h a k v = some h1) (kk : jJ G X h1 kc ks (pc + 3) L st) : jJ G X h kc ks pc L (v :: .ref a :: st) := by
  obtain ⟨p, l9, e, R, s, m, args, below, meth, c, mc, ms, Q⟩ := X
  obtain ⟨hx, hb, hml, hr, hown, hts, hlk, hin, hE, hbs, hd1, hd2, hd3, hd4, rfl, hxt⟩ := K
  intro H locs cells slots ls hR hS hc1 hc2 hc hl
  obtain ⟨C, T, N, ty0, f1, f2, f3, f4, f5, f6, f7, f8, f9⟩ := hf
  obtain ⟨fs, g1, g2, rfl⟩ := jpf_o hg
  have hap := va_apart (own := M.1.cls) hts (u_ws_all f2) ty0 f3 f4 hE.1 f1
  obtain ⟨r, h8, cell, q1, q2, q3, q4⟩ := (hR.2 a _ g1).2
  have hr : r = (C, T, N) := Option.some.inj (h8.symm.trans f1)
  subst hr
  obtain ⟨hS9, hfc, kC, hkC, hkind⟩ := hE.1.1 ci _ f1
  obtain ⟨cf, kf, fi, f, hi, hsl⟩ := hS9 k f5
  have hlay := hts _ (u_ws_all f2 _ (u_in_lay f5))
  unfold u_lay at hlay
  have hst := (u_facts hfc hkC (u_lays hts (u_ws_all f2) f5) hi).1
  have key : ∀ (H' : Heap), H'[a]? = some (cell.setSlot f.slot v) → H'.size = H.size → (∀ q, q ≠ a → H'[q]? = H[q]?) → jRep G (jup h a (.inl (ci, fs.set k v))) H' ∧ va_S (jA G) s.heap H' (locs ++ [⟨a, f.slot⟩]) := by
    intro H' e1 e2 e3
    rw [hsl] at e1
    exact ⟨hR.put g1 ⟨_, f1, t_OB.to (V := updV (vp_V fs) k v) ⟨_, e1, q2, q3, t_set q4 hap f5 v⟩ (fun j _ => vp_updV_set g2 v j)⟩ e2 e3, hS.put e2 e3 (hR.2 a _ g1).1⟩
  cases fin with
  | false =>
    rw [if_neg (by rw [f7]; decide)] at hlay
    have h6 := u_store hfc hkC hkind hlay hi f8 hn hfit
    refine W.putK hx hb (f := f) ⟨hown, hts _ f6, ⟨_, _, _, hi⟩, hst⟩ (by rw [q2]; exact h6) q1 q3 (by rw [hsl]; exact k2_hasslot (q4 k f5)) rfl rfl hd fun H' e1 e2 e3 => ?_
    obtain ⟨r1, r2⟩ := key H' e1 e2 e3
    exact kk H' _ cells slots ls r1 r2 hc1 hc2 hc hl
  | true =>
    rw [if_pos f7] at hlay
    have hcf : m.cls = cf := by
      obtain ⟨_, _, c', _, _, _, -, -, hf', -, -, -, hown2, -⟩ := Cond.laysFinal_spec hlay
      have e1 : c' = cf := by have := hi.symm.trans hf'; simp at this; exact this.1.symm
      rw [f9 rfl] at hown2
      rw [← e1]; exact Option.some.inj (hown.symm.trans hown2)
    have hin2 : meth.name = "<init>" := by
      rcases hfi with q | q
      · cases q
      · rw [hin]; exact q
    have h6 := u_fits hfc hkC hkind (Or.inr hlay) hi f8 hn hfit
    refine W.putFinK hx hb hown (hts _ f6) hi hst hcf hin2 (by rw [q2]; exact h6) q1 q3 (by rw [hsl]; exact k2_hasslot (q4 k f5)) rfl rfl hd fun H' e1 e2 e3 => ?_
    obtain ⟨r1, r2⟩ := key H' e1 e2 e3
    exact kk H' _ cells slots ls r1 r2 hc1 hc2 hc hl
theorem jr_putI (K : jOK G l M dep X) {index ci : Nat} {fin : Bool} (hd : decode M.2.1 pc = .ok (.putfield index, 3)) (hf : jFp M.1.cls index ci k fin .int) (hfi : fin = false ∨ M.1.name = "<init>") (hg : jpf ci h a k (.int x) = some h1) (kk : jJ G X h1 kc ks (pc + 3) L st) : jJ G X h kc ks pc L (.int x :: .ref a :: st) := jr_put K hd hf hfi rfl rfl hg kk
theorem jr_putZ (K : jOK G l M dep X) {index ci : Nat} {fin : Bool} (hd : decode M.2.1 pc = .ok (.putfield index, 3)) (hf : jFp M.1.cls index ci k fin .boolean) (hfi : fin = false ∨ M.1.name = "<init>") (hz : x = 0 ∨ x = 1) (hg : jpf ci h a k (.int x) = some h1) (kk : jJ G X h1 kc ks (pc + 3) L st) : jJ G X h kc ks pc L (.int x :: .ref a :: st) := jr_put K hd hf hfi (by rcases hz with rfl | rfl <;> rfl) (by rcases hz with rfl | rfl <;> rfl) hg kk
theorem jr_putR (K : jOK G l M dep X) {index ci y : Nat} {fin : Bool} {C : String} (hd : decode M.2.1 pc = .ok (.putfield index, 3)) (hf : jFp M.1.cls index ci k fin (.object C)) (hfi : fin = false ∨ M.1.name = "<init>") (hg : jpf ci h a k (.ref y) = some h1) (kk : jJ G X h1 kc ks (pc + 3) L st) : jJ G X h kc ks pc L (.ref y :: .ref a :: st) := jr_put K hd hf hfi rfl rfl hg kk
theorem jr_putA (K : jOK G l M dep X) {index ci y : Nat} {fin : Bool} {C : FieldType} (hd : decode M.2.1 pc = .ok (.putfield index, 3)) (hf : jFp M.1.cls index ci k fin (.array C)) (hfi : fin = false ∨ M.1.name = "<init>") (hg : jpf ci h a k (.ref y) = some h1) (kk : jJ G X h1 kc ks (pc + 3) L st) : jJ G X h kc ks pc L (.ref y :: .ref a :: st) := jr_put K hd hf hfi rfl rfl hg kk
theorem jr_iald (K : jOK G l M dep X) (hd : decode M.2.1 pc = .ok (.iaload, 1)) (hg : jal 0 h a i = some x) (kk : jJ G X h kc ks (pc + 1) L (.int x :: st)) : jJ G X h kc ks pc L (.int i :: .ref a :: st) := by
  obtain ⟨p, l9, e, R, s, m, args, below, meth, c, mc, ms, Q⟩ := X
  obtain ⟨hx, hb, hml, hr, hown, hts, hlk, hin, hE, hbs, hd1, hd2, hd3, hd4, rfl, hxt⟩ := K
  intro H locs cells slots ls hR hS hc1 hc2 hc hl
  obtain ⟨n, f, g1, g2, rfl⟩ := jal_o hg
  exact va_iald hx hb hE.1 (hR.at g1) 0 0 rfl rfl g2 hd (kk H locs cells slots ls hR hS hc1 hc2 hc hl)
theorem jr_bald (K : jOK G l M dep X) (hd : decode M.2.1 pc = .ok (.baload, 1)) (hg : jal 1 h a i = some x) (kk : jJ G X h kc ks (pc + 1) L (.int x :: st)) : jJ G X h kc ks pc L (.int i :: .ref a :: st) := by
  obtain ⟨p, l9, e, R, s, m, args, below, meth, c, mc, ms, Q⟩ := X
  obtain ⟨hx, hb, hml, hr, hown, hts, hlk, hin, hE, hbs, hd1, hd2, hd3, hd4, rfl, hxt⟩ := K
  intro H locs cells slots ls hR hS hc1 hc2 hc hl
  obtain ⟨n, f, g1, g2, rfl⟩ := jal_o hg
  exact va_bald hx hb hE.1 (hR.at g1) 0 1 rfl rfl g2 hd (kk H locs cells slots ls hR hS hc1 hc2 hc hl)
theorem jr_zald (K : jOK G l M dep X) (hd : decode M.2.1 pc = .ok (.baload, 1)) (hg : jal 2 h a i = some x) (kk : jJ G X h kc ks (pc + 1) L (.int x :: st)) : jJ G X h kc ks pc L (.int i :: .ref a :: st) := by
  obtain ⟨p, l9, e, R, s, m, args, below, meth, c, mc, ms, Q⟩ := X
  obtain ⟨hx, hb, hml, hr, hown, hts, hlk, hin, hE, hbs, hd1, hd2, hd3, hd4, rfl, hxt⟩ := K
  intro H locs cells slots ls hR hS hc1 hc2 hc hl
  obtain ⟨n, f, g1, g2, rfl⟩ := jal_o hg
  exact va_zald hx hb hE.1 (hR.at g1) 0 2 rfl rfl g2 hd (kk H locs cells slots ls hR hS hc1 hc2 hc hl)
theorem jr_lald (K : jOK G l M dep X) {v : Int64} (hd : decode M.2.1 pc = .ok (.laload, 1)) (hg : jall_ h a i = some v) (kk : jJ G X h kc ks (pc + 1) L (.long v :: st)) : jJ G X h kc ks pc L (.int i :: .ref a :: st) := by
  obtain ⟨p, l9, e, R, s, m, args, below, meth, c, mc, ms, Q⟩ := X
  obtain ⟨hx, hb, hml, hr, hown, hts, hlk, hin, hE, hbs, hd1, hd2, hd3, hd4, rfl, hxt⟩ := K
  intro H locs cells slots ls hR hS hc1 hc2 hc hl
  obtain ⟨n, f, g1, g2, rfl⟩ := jall_o hg
  exact va_lald hx hb hE.1 (hR.at g1) 0 3 rfl rfl g2 hd (kk H locs cells slots ls hR hS hc1 hc2 hc hl)
theorem jr_aald (K : jOK G l M dep X) {y : Option Nat} (hd : decode M.2.1 pc = .ok (.aaload, 1)) (hg : jalq h a i = some y) (kk : jJ G X h kc ks (pc + 1) L (va_rf y :: st)) : jJ G X h kc ks pc L (.int i :: .ref a :: st) := by
  obtain ⟨p, l9, e, R, s, m, args, below, meth, c, mc, ms, Q⟩ := X
  obtain ⟨hx, hb, hml, hr, hown, hts, hlk, hin, hE, hbs, hd1, hd2, hd3, hd4, rfl, hxt⟩ := K
  intro H locs cells slots ls hR hS hc1 hc2 hc hl
  obtain ⟨n, f, g1, g2, rfl⟩ := jalq_o hg
  exact va_aldq hx hb hE.1 (hR.at g1) 0 4 rfl rfl g2 hd (kk H locs cells slots ls hR hS hc1 hc2 hc hl)
theorem jr_alen (K : jOK G l M dep X) (hd : decode M.2.1 pc = .ok (.arraylength, 1)) (hg : jlen h a = some x) (kk : jJ G X h kc ks (pc + 1) L (.int x :: st)) : jJ G X h kc ks pc L (.ref a :: st) := by
  obtain ⟨p, l9, e, R, s, m, args, below, meth, c, mc, ms, Q⟩ := X
  obtain ⟨hx, hb, hml, hr, hown, hts, hlk, hin, hE, hbs, hd1, hd2, hd3, hd4, rfl, hxt⟩ := K
  intro H locs cells slots ls hR hS hc1 hc2 hc hl
  obtain ⟨t, n, f, g1, g2, rfl⟩ := jlen_o hg
  have k0 := kk H locs cells slots ls hR hS hc1 hc2 hc hl
  match t, g2, g1 with
  | 0, _, g1 => exact va_alen hx hb hE.1 (hR.at g1) 0 0 rfl rfl rfl hd k0
  | 1, _, g1 => exact va_alen hx hb hE.1 (hR.at g1) 0 1 rfl rfl rfl hd k0
  | 2, _, g1 => exact va_alen hx hb hE.1 (hR.at g1) 0 2 rfl rfl rfl hd k0
theorem jr_iast (K : jOK G l M dep X) (hd : decode M.2.1 pc = .ok (.iastore, 1)) (hg : jas 0 h a i x = some h1) (kk : jJ G X h1 kc ks (pc + 1) L st) : jJ G X h kc ks pc L (.int x :: .int i :: .ref a :: st) := by
  obtain ⟨p, l9, e, R, s, m, args, below, meth, c, mc, ms, Q⟩ := X
  obtain ⟨hx, hb, hml, hr, hown, hts, hlk, hin, hE, hbs, hd1, hd2, hd3, hd4, rfl, hxt⟩ := K
  intro H locs cells slots ls hR hS hc1 hc2 hc hl
  obtain ⟨n, f, g1, g2, -, rfl⟩ := jas_o hg
  refine W.iast hx hb (hR.2 a _ g1).2 ((hE.1.2 0 _ rfl).1 n (fun j => .int (f j))) (fun q => by cases q) (by show ¬ (i < 0 ∨ (arrV _ _ _).slots.size ≤ _); rw [arrV_size]; exact g2) rfl rfl hd fun H1 e z oq => ?_
  refine kk H1 _ cells slots ls (hR.put g1 ?_ z oq) (hS.put z oq (hR.2 a _ g1).1) hc1 hc2 hc hl
  show H1[a]? = some (vp_cell _ _)
  rw [e]
  show some (_ : Cell) = some (vp_cell (G.2.1 0) (n, Sum.inl (upd f i.toNatClampNeg (jnar 0 x))))
  rw [show (jtr G.2.1 (.inr (.inl (0, n, f)))) = .inl (G.2.1 0, n, .inl f) from rfl] at *
  rw [vp_cell_i, vp_cell_i, arrV_store]
  congr 2
  funext q
  by_cases hq : q = i.toNatClampNeg
  · subst hq
    simp [updV, upd, jnar]
  · simp [updV, upd, hq]
end JH
end
section
/-! more rows over pure heaps: stores of bytes, booleans, longs, references; what is made; static rows; Math; arraycopy; ends; calls; throws -/
section JC
variable {G : jG} {l : Launch} {M : jM} {dep : Nat} {X : jX} {h h1 : jH} {kc ks pc : Nat} {L : List (Option Value)} {st : List Value} {a k i0 : Nat} {x i : Int32}
theorem jr_bast (K : jOK G l M dep X) (hd : decode M.2.1 pc = .ok (.bastore, 1)) (hg : jas 1 h a i x = some h1) (kk : jJ G X h1 kc ks (pc + 1) L st) : jJ G X h kc ks pc L (.int x :: .int i :: .ref a :: st) := by
  obtain ⟨p, l9, e, R, s, m, args, below, meth, c, mc, ms, Q⟩ := X
  obtain ⟨hx, hb, hml, hr, hown, hts, hlk, hin, hE, hbs, hd1, hd2, hd3, hd4, rfl, hxt⟩ := K
  intro H locs cells slots ls hR hS hc1 hc2 hc hl
  obtain ⟨n, f, g1, g2, -, rfl⟩ := jas_o hg
  have g3 : H[a]? = some (vp_cell (G.2.1 1) (n, .inl f)) := (hR.2 a _ g1).2
  refine W.bast hx hb g3 ((hE.1.2 1 _ rfl).1 n (fun j => .int (f j))) (fun q => by cases q) (by show ¬ (i < 0 ∨ (arrV _ _ _).slots.size ≤ _); rw [arrV_size]; exact g2) rfl rfl hd fun H1 e z oq => ?_
  refine kk H1 _ cells slots ls (hR.put g1 ?_ z oq) (hS.put z oq (hR.2 a _ g1).1) hc1 hc2 hc hl
  show H1[a]? = some (vp_cell (G.2.1 1) (n, .inl (upd f i.toNatClampNeg (jnar 1 x))))
  rw [e]
  rw [vp_cell_i, vp_cell_i, arrV_store]
  congr 2
  funext q
  by_cases hq : q = i.toNatClampNeg
  · subst hq
    simp [updV, upd, jnar]
    try rfl
  · simp [updV, upd, hq]
theorem jr_zast (K : jOK G l M dep X) (hd : decode M.2.1 pc = .ok (.bastore, 1)) (hg : jas 2 h a i x = some h1) (kk : jJ G X h1 kc ks (pc + 1) L st) : jJ G X h kc ks pc L (.int x :: .int i :: .ref a :: st) := by
  obtain ⟨p, l9, e, R, s, m, args, below, meth, c, mc, ms, Q⟩ := X
  obtain ⟨hx, hb, hml, hr, hown, hts, hlk, hin, hE, hbs, hd1, hd2, hd3, hd4, rfl, hxt⟩ := K
  intro H locs cells slots ls hR hS hc1 hc2 hc hl
  obtain ⟨n, f, g1, g2, gz, rfl⟩ := jas_o hg
  have g3 : H[a]? = some (vp_cell (G.2.1 2) (n, .inl f)) := (hR.2 a _ g1).2
  refine W.zast hx hb g3 ((hE.1.2 2 _ rfl).1 n (fun j => .int (f j))) (fun q => by cases q) (by show ¬ (i < 0 ∨ (arrV _ _ _).slots.size ≤ _); rw [arrV_size]; exact g2) rfl rfl hd fun H1 e z oq => ?_
  refine kk H1 _ cells slots ls (hR.put g1 ?_ z oq) (hS.put z oq (hR.2 a _ g1).1) hc1 hc2 hc hl
  show H1[a]? = some (vp_cell (G.2.1 2) (n, .inl (upd f i.toNatClampNeg (jnar 2 x))))
  rw [e]
  rw [vp_cell_i, vp_cell_i, arrV_store]
  congr 2
  funext q
  have hnz : narrow .boolean (.int x) = .int x := by rcases gz rfl with rfl | rfl <;> rfl
  by_cases hq : q = i.toNatClampNeg
  · subst hq
    simp [updV, upd, jnar, hnz]
  · simp [updV, upd, hq]
theorem jr_last (K : jOK G l M dep X) {v : Int64} (hd : decode M.2.1 pc = .ok (.lastore, 1)) (hg : jasl h a i v = some h1) (kk : jJ G X h1 kc ks (pc + 1) L st) : jJ G X h kc ks pc L (.long v :: .int i :: .ref a :: st) := by
  obtain ⟨p, l9, e, R, s, m, args, below, meth, c, mc, ms, Q⟩ := X
  obtain ⟨hx, hb, hml, hr, hown, hts, hlk, hin, hE, hbs, hd1, hd2, hd3, hd4, rfl, hxt⟩ := K
  intro H locs cells slots ls hR hS hc1 hc2 hc hl
  obtain ⟨n, f, g1, g2, rfl⟩ := jasl_o hg
  have g3 : H[a]? = some (vp_cell (G.2.1 3) (n, .inr (.inl f))) := (hR.2 a _ g1).2
  refine W.last hx hb g3 ((hE.1.2 3 _ rfl).1 n (fun j => .long (f j))) (fun q => by cases q) (by show ¬ (i < 0 ∨ (arrV _ _ _).slots.size ≤ _); rw [arrV_size]; exact g2) rfl rfl hd fun H1 e z oq => ?_
  refine kk H1 _ cells slots ls (hR.put g1 ?_ z oq) (hS.put z oq (hR.2 a _ g1).1) hc1 hc2 hc hl
  show H1[a]? = some (vp_cell (G.2.1 3) (n, .inr (.inl (vp_updL f i.toNatClampNeg v))))
  rw [e]
  rw [vp_cell_l, vp_cell_l, arrV_store]
  congr 2
  funext q
  by_cases hq : q = i.toNatClampNeg
  · subst hq
    simp [updV, vp_updL]
  · simp [updV, vp_updL, hq]
theorem jr_aast (K : jOK G l M dep X) {v : Nat} (hd : decode M.2.1 pc = .ok (.aastore, 1)) (hg : jasq 6 h a i v = some h1) (kk : jJ G X h1 kc ks (pc + 1) L st) : jJ G X h kc ks pc L (.ref v :: .int i :: .ref a :: st) := by
  obtain ⟨p, l9, e, R, s, m, args, below, meth, c, mc, ms, Q⟩ := X
  obtain ⟨hx, hb, hml, hr, hown, hts, hlk, hin, hE, hbs, hd1, hd2, hd3, hd4, rfl, hxt⟩ := K
  intro H locs cells slots ls hR hS hc1 hc2 hc hl
  obtain ⟨n, f, fs, g1, gv, g2, rfl⟩ := jasq_o hg
  have g3 : H[a]? = some (vp_cell (G.2.1 4) (n, .inr (.inr (.inr (.inr f))))) := (hR.2 a _ g1).2
  have hlt : i.toNatClampNeg < n := Nat.not_le.mp fun q => g2 (Or.inr q)
  have h0 : ¬ i < 0 := fun q => g2 (Or.inl q)
  obtain ⟨r', hr', cellV, q1, q2, q3, -⟩ := (hR.2 v _ gv).2
  have hcr : r' = (RX8, TX8, 18) := (Option.some.inj hr').symm
  subst hcr
  have hcls := (hE.1.1 6 _ rfl).2
  obtain ⟨kA, comp, k1, k2, k3, -⟩ := (hE.1.2 4 _ rfl).2
  have hcomp : comp = G.1.1 6 := Option.some.inj (k3.symm.trans hcls.1)
  subst hcomp
  obtain ⟨kC, hkC, -⟩ := hcls.2
  refine W.aast hx hb g3 (fun q h => by cases h) (fun h => by cases h) k1 k2 rfl hkC ⟨h0, by show _ < (arrV _ _ _).slots.size; rw [arrV_size]; exact hlt⟩ q1 (fun q h => by rw [q3] at h; cases h) (by rw [q2]; exact hkC) (by rw [q2]; exact va_assign hcls) rfl rfl hd fun H1 e z oq => ?_
  refine kk H1 _ cells slots ls (hR.put g1 ?_ z oq) (hS.put z oq (hR.2 a _ g1).1) hc1 hc2 hc hl
  show H1[a]? = some (vp_cell (G.2.1 4) (n, .inr (.inr (.inr (.inr (va_up f i.toNatClampNeg (some v)))))))
  rw [e]
  rw [vp_cell_q, vp_cell_q, arrV_store]
  congr 2
  funext q
  by_cases hq : q = i.toNatClampNeg
  · subst hq
    simp [updV, va_up, va_rf]
  · simp [updV, va_up, hq]
theorem va_S.push9 {A : Nat → Prop} {H0 H H1 : Heap} {locs : List Loc} (h : va_S A H0 H locs) (z : H1.size = H.size + 1) (oq : ∀ q : Nat, q < H.size → H1[q]? = H[q]?) : va_S A H0 H1 locs :=
  ⟨Nat.le_trans h.1 (by omega), fun q h1 h2 => (oq q (Nat.lt_of_lt_of_le h1 h.1)).trans (h.2.1 q h1 h2), h.2.2⟩
/-- new C: the cell of the next number -/
theorem jr_new (K : jOK G l M dep X) {index ci N : Nat} {fs : List Value} (hd : decode M.2.1 pc = .ok (.new index, 3)) (hf : jFn M.1.cls index ci N fs) (kk : jJ G X (jnew h (.inl (ci, fs))) kc ks (pc + 3) L (.ref h.1 :: st)) : jJ G X h (kc + 1) (ks + N) pc L st := by
  obtain ⟨p, l9, e, R, s, m, args, below, meth, c, mc, ms, Q⟩ := X
  obtain ⟨hx, hb, hml, hr, hown, hts, hlk, hin, hE, hbs, hd1, hd2, hd3, hd4, rfl, hxt⟩ := K
  intro H locs cells slots ls hR hS hc1 hc2 hc hl
  obtain ⟨C, T, ty0, f1, f2, f3, f4, f5, f6, f7⟩ := hf
  have hKn := hE.1.1 ci _ f1
  refine W.newcK hx hb hown (hts _ f4) (hts _ f5) (hts _ f6) rfl hd (by omega) (by omega) hKn.2.1 rfl fun H1 kC hkC e1 z1 o1 => ?_
  have key := kk H1 locs (cells + 1) (slots + N) ls (hR.mk (Nat.le_trans hbs hS.1) ⟨_, f1, (u_born ty0 hts (u_ws_all f2) hKn hkC e1 f3).to f7⟩ z1 o1) (hS.push9 z1 o1) (by omega) (by omega) hc hl
  rw [hR.1]
  exact key
/-- new int[n], byte[n], boolean[n], long[n] -/
theorem jr_newI (K : jOK G l M dep X) {N : Nat} {n : Int32} (hd : decode M.2.1 pc = .ok (.newarray .int, 2)) (hw : Cond.arrayClass .int ∈ jall) (hn : ¬ n < 0) (hN : n.toNatClampNeg = N) (hN2 : N * 4 ≤ 536870912) (kk : jJ G X (jnew h (.inr (.inl (0, N, fun _ => 0)))) kc ks (pc + 2) L (.ref h.1 :: st)) : jJ G X h (kc + 1) (ks + N) pc L (.int n :: st) := by
  obtain ⟨p, l9, e, R, s, m, args, below, meth, c, mc, ms, Q⟩ := X
  obtain ⟨hx, hb, hml, hr, hown, hts, hlk, hin, hE, hbs, hd1, hd2, hd3, hd4, rfl, hxt⟩ := K
  intro H locs cells slots ls hR hS hc1 hc2 hc hl
  refine va_newaK (atype := .int) hx hb (hts _ hw) rfl hd rfl hn hN hN2 (by omega) (by omega) rfl fun H1 cA e1 z1 o1 hAr hNm => ?_
  have hcA : cA = G.2.1 0 := Option.some.inj (hNm.symm.trans (hE.1.2 0 _ rfl).2)
  subst hcA
  have key := kk H1 locs (cells + 1) (slots + N) ls (hR.mk (Nat.le_trans hbs hS.1) (by show H1[H.size]? = some (vp_cell _ _); rw [vp_cell_i]; exact e1) z1 o1) (hS.push9 z1 o1) (by omega) (by omega) hc hl
  rw [hR.1]
  exact key
theorem jr_newB (K : jOK G l M dep X) {N : Nat} {n : Int32} (hd : decode M.2.1 pc = .ok (.newarray .byte, 2)) (hw : Cond.arrayClass .byte ∈ jall) (hn : ¬ n < 0) (hN : n.toNatClampNeg = N) (hN2 : N * 1 ≤ 536870912) (kk : jJ G X (jnew h (.inr (.inl (1, N, fun _ => 0)))) kc ks (pc + 2) L (.ref h.1 :: st)) : jJ G X h (kc + 1) (ks + N) pc L (.int n :: st) := by
  obtain ⟨p, l9, e, R, s, m, args, below, meth, c, mc, ms, Q⟩ := X
  obtain ⟨hx, hb, hml, hr, hown, hts, hlk, hin, hE, hbs, hd1, hd2, hd3, hd4, rfl, hxt⟩ := K
  intro H locs cells slots ls hR hS hc1 hc2 hc hl
  refine va_newaK (atype := .byte) hx hb (hts _ hw) rfl hd rfl hn hN hN2 (by omega) (by omega) rfl fun H1 cA e1 z1 o1 hAr hNm => ?_
  have hcA : cA = G.2.1 1 := Option.some.inj (hNm.symm.trans (hE.1.2 1 _ rfl).2)
  subst hcA
  have key := kk H1 locs (cells + 1) (slots + N) ls (hR.mk (Nat.le_trans hbs hS.1) (by show H1[H.size]? = some (vp_cell _ _); rw [vp_cell_i]; exact e1) z1 o1) (hS.push9 z1 o1) (by omega) (by omega) hc hl
  rw [hR.1]
  exact key
theorem jr_newZ (K : jOK G l M dep X) {N : Nat} {n : Int32} (hd : decode M.2.1 pc = .ok (.newarray .boolean, 2)) (hw : Cond.arrayClass .boolean ∈ jall) (hn : ¬ n < 0) (hN : n.toNatClampNeg = N) (hN2 : N * 1 ≤ 536870912) (kk : jJ G X (jnew h (.inr (.inl (2, N, fun _ => 0)))) kc ks (pc + 2) L (.ref h.1 :: st)) : jJ G X h (kc + 1) (ks + N) pc L (.int n :: st) := by
  obtain ⟨p, l9, e, R, s, m, args, below, meth, c, mc, ms, Q⟩ := X
  obtain ⟨hx, hb, hml, hr, hown, hts, hlk, hin, hE, hbs, hd1, hd2, hd3, hd4, rfl, hxt⟩ := K
  intro H locs cells slots ls hR hS hc1 hc2 hc hl
  refine va_newaK (atype := .boolean) hx hb (hts _ hw) rfl hd rfl hn hN hN2 (by omega) (by omega) rfl fun H1 cA e1 z1 o1 hAr hNm => ?_
  have hcA : cA = G.2.1 2 := Option.some.inj (hNm.symm.trans (hE.1.2 2 _ rfl).2)
  subst hcA
  have key := kk H1 locs (cells + 1) (slots + N) ls (hR.mk (Nat.le_trans hbs hS.1) (by show H1[H.size]? = some (vp_cell _ _); rw [vp_cell_i]; exact e1) z1 o1) (hS.push9 z1 o1) (by omega) (by omega) hc hl
  rw [hR.1]
  exact key
theorem jr_newL (K : jOK G l M dep X) {N : Nat} {n : Int32} (hd : decode M.2.1 pc = .ok (.newarray .long, 2)) (hw : Cond.arrayClass .long ∈ jall) (hn : ¬ n < 0) (hN : n.toNatClampNeg = N) (hN2 : N * 8 ≤ 536870912) (kk : jJ G X (jnew h (.inr (.inr (.inr (N, fun _ => 0))))) kc ks (pc + 2) L (.ref h.1 :: st)) : jJ G X h (kc + 1) (ks + N) pc L (.int n :: st) := by
  obtain ⟨p, l9, e, R, s, m, args, below, meth, c, mc, ms, Q⟩ := X
  obtain ⟨hx, hb, hml, hr, hown, hts, hlk, hin, hE, hbs, hd1, hd2, hd3, hd4, rfl, hxt⟩ := K
  intro H locs cells slots ls hR hS hc1 hc2 hc hl
  refine va_newaK (atype := .long) hx hb (hts _ hw) rfl hd rfl hn hN hN2 (by omega) (by omega) rfl fun H1 cA e1 z1 o1 hAr hNm => ?_
  have hcA : cA = G.2.1 3 := Option.some.inj (hNm.symm.trans (hE.1.2 3 _ rfl).2)
  subst hcA
  have key := kk H1 locs (cells + 1) (slots + N) ls (hR.mk (Nat.le_trans hbs hS.1) (by show H1[H.size]? = some (vp_cell _ _); rw [vp_cell_l]; exact e1) z1 o1) (hS.push9 z1 o1) (by omega) (by omega) hc hl
  rw [hR.1]
  exact key
/-- new Rod[n] -/
theorem jr_newQ (K : jOK G l M dep X) {N index : Nat} {n : Int32} (hd : decode M.2.1 pc = .ok (.anewarray index, 3)) (hw : Cond.classLink M.1.cls index "RodRings$Rod" ∈ jall) (hn : ¬ n < 0) (hN : n.toNatClampNeg = N) (hN2 : N * 4 ≤ 536870912) (kk : jJ G X (jnew h (.inr (.inr (.inl (N, fun _ => none))))) kc ks (pc + 3) L (.ref h.1 :: st)) : jJ G X h (kc + 1) (ks + N) pc L (.int n :: st) := by
  obtain ⟨p, l9, e, R, s, m, args, below, meth, c, mc, ms, Q⟩ := X
  obtain ⟨hx, hb, hml, hr, hown, hts, hlk, hin, hE, hbs, hd1, hd2, hd3, hd4, rfl, hxt⟩ := K
  intro H locs cells slots ls hR hS hc1 hc2 hc hl
  subst hN
  refine W.anew hx hb hown (hts _ hw) (va_AO.use hE.2.2.2.2.2.2.2.2.2.1.1) rfl hd rfl hn hN2 (by omega) (by omega) fun cA kA comp f1 f2 f3 f4 => ?_
  have hcA : cA = G.2.1 4 := by
    obtain ⟨kA9, comp9, _, _, _, j4⟩ := (hE.1.2 4 _ rfl).2
    exact Option.some.inj (f1.symm.trans j4)
  subst hcA
  generalize hH1 : H.push ({ cls := G.2.1 4, slots := Array.replicate n.toNatClampNeg .null, vm := .none } : Cell) = H1
  have z1 : H1.size = H.size + 1 := by rw [← hH1, Array.size_push]
  have e1 : H1[H.size]? = some (arrV (G.2.1 4) n.toNatClampNeg (fun _ => .null)) := by rw [← hH1, Array.getElem?_push_size, ← arrV_new]
  have o1 : ∀ q : Nat, q < H.size → H1[q]? = H[q]? := fun q hq => by rw [← hH1, Array.getElem?_push, if_neg (Nat.ne_of_lt hq)]
  have key := kk H1 locs (cells + 1) (slots + n.toNatClampNeg) ls (hR.mk (Nat.le_trans hbs hS.1) (by show H1[H.size]? = some (vp_cell _ _); rw [vp_cell_q]; exact e1) z1 o1) (hS.push9 z1 o1) (by omega) (by omega) hc hl
  rw [hR.1]
  exact key
/-- Log's two static rows: the reference, and a place read -/
theorem jr_shf (K : jOK G l M dep X) {index : Nat} (hd : decode M.2.1 pc = .ok (.getstatic index, 3)) (hw : Cond.fieldLink M.1.cls index "RodRings$Log" "SHIFTS" "[I" ∈ jall) (kk : jJ G X h kc ks (pc + 3) L (.ref (G.2.2.2 0) :: st)) : jJ G X h kc ks pc L st := by
  obtain ⟨p, l9, e, R, s, m, args, below, meth, c, mc, ms, Q⟩ := X
  obtain ⟨hx, hb, hml, hr, hown, hts, hlk, hin, hE, hbs, hd1, hd2, hd3, hd4, rfl, hxt⟩ := K
  intro H locs cells slots ls hR hS hc1 hc2 hc hl
  exact va_gets hx hb hE.2.2.2.1 hS hown (hts _ hw) (fun _ q => q) hd (kk H locs cells slots ls hR hS hc1 hc2 hc hl)
theorem jr_msk (K : jOK G l M dep X) {index : Nat} (hd : decode M.2.1 pc = .ok (.getstatic index, 3)) (hw : Cond.fieldLink M.1.cls index "RodRings$Log" "MASKS" "[I" ∈ jall) (kk : jJ G X h kc ks (pc + 3) L (.ref (G.2.2.2 1) :: st)) : jJ G X h kc ks pc L st := by
  obtain ⟨p, l9, e, R, s, m, args, below, meth, c, mc, ms, Q⟩ := X
  obtain ⟨hx, hb, hml, hr, hown, hts, hlk, hin, hE, hbs, hd1, hd2, hd3, hd4, rfl, hxt⟩ := K
  intro H locs cells slots ls hR hS hc1 hc2 hc hl
  exact va_gets hx hb hE.2.2.2.2.2.1 hS hown (hts _ hw) (fun _ q => q) hd (kk H locs cells slots ls hR hS hc1 hc2 hc hl)
theorem jr_stald {f : Nat → Int32} {t n : Nat} (K : jOK G l M dep X) (hT : ∀ U H, jSt G U H → va_T .int t n (fun j => .int (f j)) (jA G) U H) (hd : decode M.2.1 pc = .ok (.iaload, 1)) (hi : ¬ (i < 0 ∨ n ≤ i.toNatClampNeg)) (kk : jJ G X h kc ks (pc + 1) L (.int (f i.toNatClampNeg) :: st)) : jJ G X h kc ks pc L (.int i :: .ref t :: st) := by
  obtain ⟨p, l9, e, R, s, m, args, below, meth, c, mc, ms, Q⟩ := X
  obtain ⟨hx, hb, hml, hr, hown, hts, hlk, hin, hE, hbs, hd1, hd2, hd3, hd4, rfl, hxt⟩ := K
  intro H locs cells slots ls hR hS hc1 hc2 hc hl
  obtain ⟨cell, q1, q2, q3, q4, q5, q6, q7⟩ := hT s s.heap hE.2
  have hlt : i.toNatClampNeg < n := Nat.not_le.mp fun q => hi (Or.inr q)
  exact W.iald (v := .int (f i.toNatClampNeg)) hx hb (by rw [hS.2.1 t (Array.getElem?_eq_some_iff.mp q1).1 q7]; exact q1) q2 q3 (fun q => q.elim (fun q => hi (Or.inl q)) (fun q => by omega)) (q6 _ hlt) rfl rfl hd (kk H locs cells slots ls hR hS hc1 hc2 hc hl)
theorem jT_shf : ∀ U H, jSt G U H → va_T .int (G.2.2.2 0) 6 (fun j => .int (jshf.getD j 0)) (jA G) U H := fun _ _ q => q.2.2.2.1
theorem jT_msk : ∀ U H, jSt G U H → va_T .int (G.2.2.2 1) 6 (fun j => .int (jmsk.getD j 0)) (jA G) U H := fun _ _ q => q.2.2.2.2.2.1
/-- a text -/
theorem jr_ldcS (K : jOK G l M dep X) {index i : Nat} {tx : String} {bs : List Int32} (hd : decode M.2.1 pc = .ok (.ldc index, 2)) (hx9 : jtxt[i]? = some (M.1.cls, index, tx, bs)) (kk : jJ G X h kc ks (pc + 2) L (.ref (G.2.2.2 (10 + 2 * i)) :: st)) : jJ G X h kc ks pc L st := by
  obtain ⟨p, l9, e, R, s, m, args, below, meth, c, mc, ms, Q⟩ := X
  obtain ⟨hx, hb, hml, hr, hown, hts, hlk, hin, hE, hbs, hd1, hd2, hd3, hd4, rfl, hxt⟩ := K
  intro H locs cells slots ls hR hS hc1 hc2 hc hl
  exact va_ldcS hx hb hown (hE.2.2.2.2.2.2.2.2.2.2 i _ hx9).1 hd (kk H locs cells slots ls hR hS hc1 hc2 hc hl)
theorem jr_min (K : jOK G l M (dep + 1) X) {index : Nat} {x y : Int32} (hd : decode M.2.1 pc = .ok (.invokestatic index, 3)) (hw : Cond.methodLink M.1.cls index Lib.Math.min.name ∈ jall ∧ Cond.static Lib.Math.min.name ∈ jall ∧ Cond.initialized "java/lang/Math" ∈ jall ∧ Cond.code Lib.Math.min.name Lib.Math.min.code 2 (some .int) ∈ jall) (hrm : (st.map fun v => v.category).sum ≤ 8) (kk : jJ G X h kc ks (pc + 3) L (.int (if y < x then y else x) :: st)) : jJ G X h kc ks pc L (.int y :: .int x :: st) := by
  obtain ⟨p, l9, e, R, s, m, args, below, meth, c, mc, ms, Q⟩ := X
  obtain ⟨hx, hb, hml, hr, hown, hts, hlk, hin, hE, hbs, hd1, hd2, hd3, hd4, rfl, hxt⟩ := K
  intro H locs cells slots ls hR hS hc1 hc2 hc hl
  exact va_mmin hx hb hl.1.symm hown (hts _ hw.1) (hts _ hw.2.1) (hts _ hw.2.2.1) (hts _ hw.2.2.2) (by omega) (by omega) (by omega) (by omega) hd (kk H locs cells slots ls hR hS hc1 hc2 hc hl)
theorem jr_max (K : jOK G l M (dep + 1) X) {index : Nat} {x y : Int32} (hd : decode M.2.1 pc = .ok (.invokestatic index, 3)) (hw : Cond.methodLink M.1.cls index Lib.Math.max.name ∈ jall ∧ Cond.static Lib.Math.max.name ∈ jall ∧ Cond.initialized "java/lang/Math" ∈ jall ∧ Cond.code Lib.Math.max.name Lib.Math.max.code 2 (some .int) ∈ jall) (hrm : (st.map fun v => v.category).sum ≤ 8) (kk : jJ G X h kc ks (pc + 3) L (.int (if x < y then y else x) :: st)) : jJ G X h kc ks pc L (.int y :: .int x :: st) := by
  obtain ⟨p, l9, e, R, s, m, args, below, meth, c, mc, ms, Q⟩ := X
  obtain ⟨hx, hb, hml, hr, hown, hts, hlk, hin, hE, hbs, hd1, hd2, hd3, hd4, rfl, hxt⟩ := K
  intro H locs cells slots ls hR hS hc1 hc2 hc hl
  exact va_mmax hx hb hl.1.symm hown (hts _ hw.1) (hts _ hw.2.1) (hts _ hw.2.2.1) (hts _ hw.2.2.2) (by omega) (by omega) (by omega) (by omega) hd (kk H locs cells slots ls hR hS hc1 hc2 hc hl)
theorem jr_abs (K : jOK G l M (dep + 1) X) {index : Nat} {x : Int32} (hd : decode M.2.1 pc = .ok (.invokestatic index, 3)) (hw : Cond.methodLink M.1.cls index Lib.Math.abs.name ∈ jall ∧ Cond.static Lib.Math.abs.name ∈ jall ∧ Cond.initialized "java/lang/Math" ∈ jall ∧ Cond.code Lib.Math.abs.name Lib.Math.abs.code 1 (some .int) ∈ jall) (hrm : (st.map fun v => v.category).sum ≤ 8) (kk : jJ G X h kc ks (pc + 3) L (.int (if 0 ≤ x then x else 0 - x) :: st)) : jJ G X h kc ks pc L (.int x :: st) := by
  obtain ⟨p, l9, e, R, s, m, args, below, meth, c, mc, ms, Q⟩ := X
  obtain ⟨hx, hb, hml, hr, hown, hts, hlk, hin, hE, hbs, hd1, hd2, hd3, hd4, rfl, hxt⟩ := K
  intro H locs cells slots ls hR hS hc1 hc2 hc hl
  exact va_mabs hx hb hl.1.symm hown (hts _ hw.1) (hts _ hw.2.1) (hts _ hw.2.2.1) (hts _ hw.2.2.2) (by omega) (by omega) (by omega) (by omega) hd (kk H locs cells slots ls hR hS hc1 hc2 hc hl)
theorem jr_objInit (K : jOK G l M (dep + 1) X) {index : Nat} {a : Nat} (hd : decode M.2.1 pc = .ok (.invokespecial index, 3)) (hw : Cond.methodLink M.1.cls index Lib.objectInit ∈ jall ∧ Cond.instanceMethod Lib.objectInit ∈ jall ∧ Cond.code Lib.objectInit ⟨#[0xb1]⟩ 1 none ∈ jall) (hrm : (st.map fun v => v.category).sum ≤ 8) (kk : jJ G X h kc ks (pc + 3) L st) : jJ G X h kc ks pc L (.ref a :: st) := by
  obtain ⟨p, l9, e, R, s, m, args, below, meth, c, mc, ms, Q⟩ := X
  obtain ⟨hx, hb, hml, hr, hown, hts, hlk, hin, hE, hbs, hd1, hd2, hd3, hd4, rfl, hxt⟩ := K
  intro H locs cells slots ls hR hS hc1 hc2 hc hl
  exact W.objInit hx hb hown (hts _ hw.1) (hts _ hw.2.1) (hts _ hw.2.2) rfl hl.1 rfl hd (by omega) (by show 2 * 0 + _ + 12 ≤ _; omega) (kk H locs cells slots ls hR hS hc1 hc2 hc hl)
end JC
end
section
/-! arraycopy, ends, contracts, calls, throws -/
section JD
variable {G : jG} {l : Launch} {M : jM} {dep : Nat} {X : jX} {h h1 : jH} {kc ks pc : Nat} {L : List (Option Value)} {st : List Value} {a k i0 : Nat} {x i : Int32}
theorem jr_copy (K : jOK G l M (dep + 1) X) {index a0 : Nat} {sp dp n : Int32} (hd : decode M.2.1 pc = .ok (.invokestatic index, 3)) (hw : Cond.methodLink M.1.cls index arraycopyName ∈ jall ∧ Cond.native arraycopyName ∈ jall ∧ Cond.static arraycopyName ∈ jall ∧ Cond.initialized "java/lang/System" ∈ jall) (hrm : (st.map fun v => v.category).sum ≤ 8) (hg : jcp h a0 sp a dp n = some h1) (kk : jJ G X h1 kc ks (pc + 3) L st) : jJ G X h kc ks pc L (.int n :: .int dp :: .ref a :: .int sp :: .ref a0 :: st) := by
  obtain ⟨p, l9, e, R, s, m, args, below, meth, c, mc, ms, Q⟩ := X
  obtain ⟨hx, hb, hml, hr, hown, hts, hlk, hin, hE, hbs, hd1, hd2, hd3, hd4, rfl, hxt⟩ := K
  intro H locs cells slots ls hR hS hc1 hc2 hc hl
  obtain ⟨n0, f, n1, g, g0, g1, q1, q2, q3, q4, q5, rfl⟩ := jcp_o hg
  have nn : ∀ z : Int32, ¬ z < 0 → z.toInt = (z.toNatClampNeg : Int) := by
    intro z hz
    have hz0 : (0 : Int) ≤ z.toInt := by
      have := Int32.not_lt.mp hz
      simpa using Int32.le_iff_toInt_le.mp this
    show z.toInt = ((z.toInt.toNat : Nat) : Int)
    omega
  intro T hT X
  have hc0 : H[a0]? = some (vp_cell (G.2.1 0) (n0, .inl f)) := (hR.2 a0 _ g0).2
  have hcc1 : H[a]? = some (vp_cell (G.2.1 0) (n1, .inl g)) := (hR.2 a _ g1).2
  obtain ⟨-, k0, hk0, cm0, hkk0⟩ := (hE.1.2 0 _ rfl).1 n0 (fun j => .int (f j))
  obtain ⟨-, k1, hk1, cm1, hkk1⟩ := (hE.1.2 0 _ rfl).1 n1 (fun j => .int (g j))
  obtain ⟨vm', X', step⟩ := X.arraycopy hx hown (hts _ hw.1) (hts _ hw.2.1) (hts _ hw.2.2.1) (hts _ hw.2.2.2) (src := a0) (dst := a) (cs := vp_cell (G.2.1 0) (n0, .inl f)) (cd := vp_cell (G.2.1 0) (n1, .inl g)) (srcPos := sp) (destPos := dp) (n := n) (by rw [hT]; exact hc0) (by rw [hT]; exact hcc1)
    (fun _ h => by cases h) (fun _ h => by cases h) (fun h => by cases h) (fun h => by cases h) hk0 hk1 hkk0 hkk1 (by simp) q1 q2 q3
    (by rw [nn sp q1, nn n q3]; show ¬ _ > ((arrV (G.2.1 0) n0 (fun j => .int (f j))).slots.size : Int); rw [arrV_size]; omega)
    (by rw [nn dp q2, nn n q3]; show ¬ _ > ((arrV (G.2.1 0) n1 (fun j => .int (g j))).slots.size : Int); rw [arrV_size]; omega)
    (fun vm₁ _ i hi => by
      have e : (vp_cell (G.2.1 0) (n0, .inl f)).slots.getD (sp.toNatClampNeg + i) .null = .int (f (sp.toNatClampNeg + i)) := by
        show (arrV (G.2.1 0) n0 (fun j => .int (f j))).slots.getD _ _ = _
        rw [Array.getD_eq_getD_getElem?, arrV_read _ _ (by omega)]
        rfl
      refine ⟨?_, ?_⟩
      · rw [e]; rfl
      · rw [e]; exact trivial)
    (g := F0 m pc ls (.int n :: .int dp :: .ref a :: .int sp :: .ref a0 :: st)) rfl hl.1 (rest := st) rfl (by rw [hb]; exact hd) (by omega) (by
      have hnw : nativeFrameWords "java/lang/System" "arraycopy" 5 + 11 ≤ 70 := by decide
      show 2 * 0 + _ + _ ≤ _; omega)
  have e1 : copied (vp_cell (G.2.1 0) (n0, .inl f)) (vp_cell (G.2.1 0) (n1, .inl g)) sp dp n = vp_cell (G.2.1 0) (n1, .inl (va_cpy f g sp.toNatClampNeg dp.toNatClampNeg n.toNatClampNeg)) := va_copied (fun z => .int z) (G.2.1 0) (G.2.1 0) f g q4
  rw [e1] at X' step
  have hlt : a < H.size := (Array.getElem?_eq_some_iff.mp hcc1).1
  have hheap : ((T.setVm vm').setCell a (vp_cell (G.2.1 0) (n1, .inl (va_cpy f g sp.toNatClampNeg dp.toNatClampNeg n.toNatClampNeg)))).heap = H.setIfInBounds a (vp_cell (G.2.1 0) (n1, .inl (va_cpy f g sp.toNatClampNeg dp.toNatClampNeg n.toNatClampNeg))) := by rw [← hT]; rfl
  have oq : ∀ q : Nat, q ≠ a → (H.setIfInBounds a (vp_cell (G.2.1 0) (n1, .inl (va_cpy f g sp.toNatClampNeg dp.toNatClampNeg n.toNatClampNeg))))[q]? = H[q]? := fun q hq => by simp [Array.getElem?_setIfInBounds, Ne.symm hq]
  have hA : jA G a := (hR.2 a _ g1).1
  obtain ⟨t, a1, b1⟩ := kk _ _ cells slots ls (hR.put (e := .inr (.inl (0, n1, va_cpy f g sp.toNatClampNeg dp.toNatClampNeg n.toNatClampNeg))) g1 (show (H.setIfInBounds a _)[a]? = some _ by simp [Array.getElem?_setIfInBounds, hlt, jtr]) (by simp) oq) ⟨by simp; exact hS.1, fun q j1 j2 => by
      rw [oq q (fun e => j2 (by rw [e]; exact hA))]
      exact hS.2.1 q j1 j2, fun q hq => by
      rcases List.mem_append.mp hq with h | h
      · exact hS.2.2 q h
      · obtain ⟨z, -, hz⟩ := List.mem_map.mp h
        rw [← hz]
        exact hA⟩ hc1 hc2 hc hl _ hheap X'
  exact ⟨t, step t a1, b1⟩
/-- the end that a contract asks -/
def jEnd (G : jG) (M : jM) (P : jR → jH → Prop) : jX → Prop
  | (_, _, _, _, s, _, args, below, _, _, mc, ms, Q) => Q = vx_MQ below (jQc G M.2.2.2.1 P) (jXC G P) args s mc ms (jA G)
theorem va_S.F9 {A : Nat → Prop} {H : Heap} {locs : List Loc} {s t : State} (h : va_S A s.heap H locs) (ht : t.heap = H) : va_F A s t := by
  rw [va_F, ht]
  exact ⟨h.1, h.2.1⟩
theorem jr_iret (K : jOK G l M dep X) {P : jR → jH → Prop} (E : jEnd G M P X) (hd : decode M.2.1 pc = .ok (.ireturn, 1)) (ht : M.2.2.2.1 = some .int) (hP : P (.inl x) h) : jJ G X h kc ks pc L [.int x] := by
  obtain ⟨p, l9, e, R, s, m, args, below, meth, c, mc, ms, Q⟩ := X
  obtain ⟨hx, hb, hml, hr, hown, hts, hlk, hin, hE, hbs, hd1, hd2, hd3, hd4, rfl, hxt⟩ := K
  subst E
  intro H locs cells slots ls hR hS hc1 hc2 hc hl
  refine W.widen (k := mc) (n := ms) (by omega) (by omega) (vx_ret ?_)
  refine W.iret hx hb (hr.trans ht) (fun t ht9 hW => ⟨⟨x, h, by rw [ht]; rfl, hP, by rw [ht9]; exact hR⟩, hS.F9 ht9⟩) hS.2.2 hd (hlocks := hlk)
theorem jr_zret (K : jOK G l M dep X) {P : jR → jH → Prop} (E : jEnd G M P X) (hd : decode M.2.1 pc = .ok (.ireturn, 1)) (ht : M.2.2.2.1 = some .boolean) (hz : x = 0 ∨ x = 1) (hP : P (.inl x) h) : jJ G X h kc ks pc L [.int x] := by
  obtain ⟨p, l9, e, R, s, m, args, below, meth, c, mc, ms, Q⟩ := X
  obtain ⟨hx, hb, hml, hr, hown, hts, hlk, hin, hE, hbs, hd1, hd2, hd3, hd4, rfl, hxt⟩ := K
  subst E
  intro H locs cells slots ls hR hS hc1 hc2 hc hl
  refine W.widen (k := mc) (n := ms) (by omega) (by omega) (vx_ret ?_)
  refine W.zret (ty := .boolean) hx hb (hr.trans ht) (by rcases hz with rfl | rfl <;> rfl) (fun t ht9 hW => ⟨⟨x, h, by rw [ht]; rfl, hP, by rw [ht9]; exact hR⟩, hS.F9 ht9⟩) hS.2.2 hd (hlocks := hlk)
theorem jr_cret (K : jOK G l M dep X) {P : jR → jH → Prop} {ty : FieldType} (E : jEnd G M P X) (hd : decode M.2.1 pc = .ok (.ireturn, 1)) (ht : M.2.2.2.1 = some ty) (hz : narrow ty (.int x) = .int x) (hP : P (.inl x) h) : jJ G X h kc ks pc L [.int x] := by
  obtain ⟨p, l9, e, R, s, m, args, below, meth, c, mc, ms, Q⟩ := X
  obtain ⟨hx, hb, hml, hr, hown, hts, hlk, hin, hE, hbs, hd1, hd2, hd3, hd4, rfl, hxt⟩ := K
  subst E
  intro H locs cells slots ls hR hS hc1 hc2 hc hl
  refine W.widen (k := mc) (n := ms) (by omega) (by omega) (vx_ret ?_)
  refine W.zret (ty := ty) hx hb (hr.trans ht) hz (fun t ht9 hW => ⟨⟨x, h, by rw [ht]; rfl, hP, by rw [ht9]; exact hR⟩, hS.F9 ht9⟩) hS.2.2 hd (hlocks := hlk)
theorem jr_vret (K : jOK G l M dep X) {P : jR → jH → Prop} (E : jEnd G M P X) (hd : decode M.2.1 pc = .ok (.return_, 1)) (ht : M.2.2.2.1 = none) (hP : P (.inl 0) h) : jJ G X h kc ks pc L [] := by
  obtain ⟨p, l9, e, R, s, m, args, below, meth, c, mc, ms, Q⟩ := X
  obtain ⟨hx, hb, hml, hr, hown, hts, hlk, hin, hE, hbs, hd1, hd2, hd3, hd4, rfl, hxt⟩ := K
  subst E
  intro H locs cells slots ls hR hS hc1 hc2 hc hl
  refine W.widen (k := mc) (n := ms) (by omega) (by omega) (vx_ret ?_)
  refine W.vret hx hb (hr.trans ht) (fun t ht9 hW => ⟨⟨0, h, by rw [ht]; rfl, hP, by rw [ht9]; exact hR⟩, hS.F9 ht9⟩) hS.2.2 hd (hlocks := hlk)
/-- the first locals: what is passed -/
def jL0 (n : Nat) (av : List Value) : List (Option Value) := av.map some ++ List.replicate (n - av.length) none
theorem jlv_app : ∀ (av : List Value) (k m : Nat), (∀ v ∈ av, v.category = 1) → jlv k (av.map some ++ List.replicate m none) = lv_args k av := by
  intro av
  induction av with
  | nil =>
    intro k m _
    have : ∀ (m k : Nat), jlv k (List.replicate m (none : Option Value)) = [] := by
      intro m
      induction m with
      | zero => intro k; rfl
      | succ m ih => intro k; rw [List.replicate_succ]; exact ih (k + 1)
    simp [this, lv_args]
  | cons v av ih =>
    intro k m hv
    have h1 : v.category = 1 := hv v List.mem_cons_self
    show (k, v) :: jlv (k + 1) (av.map some ++ List.replicate m none) = (k, v) :: lv_args (if v.category = 2 then k + 2 else k + 1) av
    rw [ih (k + 1) m (fun w hw => hv w (List.mem_cons_of_mem _ hw)), h1]
    rfl
theorem lg_sl1 : ∀ (av : List Value), (∀ v ∈ av, v.category = 1) → (lg_sl av).length = av.length := by
  intro av
  induction av with
  | nil => intro _; rfl
  | cons v av ih =>
    intro hv
    have h1 : v.category = 1 := hv v List.mem_cons_self
    have h2 := ih (fun w hw => hv w (List.mem_cons_of_mem _ hw))
    simp only [lg_sl, List.flatMap_cons, List.length_append, List.length_cons] at h2 ⊢
    rw [h2, h1]
    simp
    omega
theorem jcat_L0 {n : Nat} {av : List Value} (hv : ∀ v ∈ av, v.category = 1) : jcat (jL0 n av) := by
  intro i v h
  unfold jL0 at h
  rcases List.mem_append.mp (List.mem_of_getElem? h) with h | h
  · obtain ⟨w, hw, e⟩ := List.mem_map.mp h
    cases e
    exact hv _ hw
  · have := List.eq_of_mem_replicate h
    cases this
/-- A CONTRACT out of a run from the entry: any machine, any caller -/
theorem jC.of {mc ms : Nat} {av : List Value} {P : jR → jH → Prop} (hy : plainName M.1.cls = true) (hcat : ∀ v ∈ av, v.category = 1) (hlen : av.length ≤ M.2.2.1)
    (body : ∀ X : jX, jOK G l M dep X → jEnd G M P X → jJ G X h mc ms 0 (jL0 M.2.2.1 av) []) : jC G l M dep mc ms av h P := by
  obtain ⟨y, cc, nL, ret, hh⟩ := M
  have key : ∀ (p : Program) (e : Env) (s : State) (m : MethodId) (args : Array Value) (below : List Frame) (meth : Method) (c : Code) (s₁ : State), BodyLoose p l y (headSpec (jws (y, cc, nL, ret, hh)) (jrm dep mc ms)) cc nL ret e s m args below meth c s₁ → c.maxLocals = nL → c.exceptionTable.toList = tableOf hh → va_Pc av (fun U => jRep G h U.heap ∧ jEF G U U.heap ∧ G.2.2.1 ≤ U.heap.size) args s →
      W p l e (jrm dep mc ms) s m args below meth c s.heap [] 0 0 (vx_MQ below (jQc G ret P) (jXC G P) args s mc ms (jA G)) (entryFrame m args nL) := by
    intro p e s m args below meth c s₁ B hml hxt hv
    obtain ⟨rfl, hR, hE, hbase⟩ := hv
    have hws := atoms_spec (ws := jws (y, cc, nL, ret, hh)) B.pre
    rw [lg_entry_eq]
    have hl := lv_entry av (n := nL) (by rw [lg_sl1 av hcat]; exact hlen)
    generalize (lg_sl av ++ List.replicate (nL - (lg_sl av).length) Slot.unset).toArray = ls at hl ⊢
    rw [← jlv_app av 0 (nL - av.length) hcat] at hl
    exact body (p, l, e, jrm dep mc ms, s, m, av.toArray, below, meth, c, mc, ms, _) ⟨B.exec, B.bytes, hml, B.returns, findClass_of_methodNamed B.named, fun w hw => hws w (List.mem_cons_of_mem _ hw), B.notSynchronized, (name_of_methodNamed B.named B.method).1, hE, hbase, Nat.le_refl _, Nat.le_refl _, Nat.le_refl _, Nat.le_refl _, rfl, hxt⟩ rfl
      s.heap [] 0 0 ls hR va_S.rf (by omega) (by omega) (jcat_L0 hcat) (by rw [hml]; exact hl)
  cases hh with
  | nil =>
    refine vx_ofW (cc := cc) (maxL := nL) (ret := ret) (ws' := jall) hy rfl ?_
    intro p e s m args below meth c s₁ B hml ht hv
    refine key p e s m args below meth c s₁ B hml ?_ hv
    cases hq : c.exceptionTable.toList with
    | nil => rfl
    | cons z zs => exact (ht z (by rw [hq]; exact List.mem_cons_self)).elim
  | cons q hh =>
    refine vx_ofWH (cc := cc) (maxL := nL) (ret := ret) (hh := q :: hh) (ws' := jall) hy rfl ?_
    intro p e s m args below meth c s₁ B hml hv
    refine key p e s m args below meth c s₁ B hml ?_ hv
    exact vx_table (x := y) B (atoms_spec (ws := jws (y, cc, nL, ret, q :: hh)) B.pre _ List.mem_cons_self)
theorem jC.weaken {mc ms : Nat} {av : List Value} {P P2 : jR → jH → Prop} (hC : jC G l M dep mc ms av h P) (hPP : ∀ r h1, P r h1 → P2 r h1) : jC G l M dep mc ms av h P2 := by
  intro p e ha hc hk s m args below hf happ hpre hK
  obtain ⟨n, o, h1, h2, h3, h4⟩ := hC p e ha hc hk s m args below hf happ hpre hK
  refine ⟨n, o, h1, h2, h3, ?_⟩
  rcases h4 with ⟨⟨⟨r, h9, q1, q2, q3⟩, q4⟩, q5⟩ | ⟨q, q1, E, ce, L, ⟨⟨k, z, h9, q2, q3, q4, q5⟩, q6⟩, q7⟩
  · exact Or.inl ⟨⟨⟨r, h9, q1, hPP _ _ q2, q3⟩, q4⟩, q5⟩
  · exact Or.inr ⟨q, q1, E, ce, L, ⟨⟨k, z, h9, q2, q3, hPP _ _ q4, q5⟩, q6⟩, q7⟩
theorem jC.met {mc ms : Nat} {av : List Value} {P : jR → jH → Prop} (hC : jC G l M dep mc ms av h P) (hnt : ∀ k h1, ¬ P (.inr k) h1) : Met l M.1 (jws M) (jrm dep mc ms) (va_Pc av (fun U => jRep G h U.heap ∧ jEF G U U.heap ∧ G.2.2.1 ≤ U.heap.size)) (jQc G M.2.2.2.1 P) mc ms (jA G) := by
  intro p e ha hc hk s m args below hf happ hpre hK
  obtain ⟨n, o, h1, h2, h3, h4⟩ := hC p e ha hc hk s m args below hf happ hpre hK
  refine ⟨n, o, h1, h2, h3, ?_⟩
  rcases h4 with h4 | ⟨q, q1, E, ce, L, ⟨⟨k, z, h9, q2, q3, q4, q5⟩, q6⟩, q7⟩
  · exact h4
  · exact (hnt _ _ q4).elim
theorem jPc_blind {av : List Value} : FrameBlind (va_Pc av (fun U => jRep G h U.heap ∧ jEF G U U.heap ∧ G.2.2.1 ≤ U.heap.size)) := fun _ U g mk q => ⟨q.1, q.2.1, jEF.same (s := U) (U := U.calling g mk _) (H := U.heap) rfl q.2.2.1, q.2.2.2⟩
theorem jPc_at {av : List Value} {H : Heap} {s U : State} {locs : List Loc} (hR : jRep G h H) (hS : va_S (jA G) s.heap H locs) (hE : jEF G s s.heap) (hbs : G.2.2.1 ≤ s.heap.size) (hU : U.heap = H) (hW : s.WarmedH U.vm) : va_Pc av (fun U => jRep G h U.heap ∧ jEF G U U.heap ∧ G.2.2.1 ≤ U.heap.size) av.toArray U := by
  refine ⟨rfl, by rw [hU]; exact hR, ?_, by rw [hU]; exact Nat.le_trans hbs hS.1⟩
  rw [hU]
  exact (hE.kept hS.2.1).warm hW
theorem jws_good {Y : jM} (hY : jcode Y ∈ jall) : GoodIn jall (jws Y) := jall_good fun w hw => (List.mem_cons.mp hw).elim (fun e => by rw [e]; exact hY) id
end JD
end
section
/-! calls -/
/-- something was thrown over the frame: the k-th class of jexn -/
def jJx (G : jG) : jX → jH → Nat → Nat → Nat → List (Option Value) → Nat → Prop
  | (p, l, e, R, s, m, args, below, meth, c, mc, ms, Q), h, kc, ks, pc, L, k =>
    ∀ (H : Heap) (locs : List Loc) (cells slots : Nat) (ls : Array Slot) (st : List Value) (q : Addr) (ce : Cell) (E : String), jRep G h H → va_S (jA G) s.heap H locs → cells + kc ≤ mc → slots + ks ≤ ms → jcat L → lv_has ls c.maxLocals (jlv 0 L) → jexn[k]? = some E → H[q]? = some ce → ce.vm = .none → s.vm.findClass E = some ce.cls →
      vx_W p l e R s m args below meth c H locs cells slots Q (F0 m pc ls st) q
/-- what a call's place must link: of an object's own method, of a static one, of a constructor -/
abbrev jSY (Y : jM) (n : Nat) : Prop := jcode Y ∈ jall ∧ Cond.initialized Y.1.cls ∈ jall ∧ (Y.1.cls ≠ "java/lang/invoke/MethodHandle" ∧ Y.1.cls ≠ "java/lang/invoke/VarHandle" ∧ (parseMethodDescriptor Y.1.desc).map (fun d => d.parameters.length) = some n) ∧ 19 + Y.2.2.1 ≤ 80
def jSv (own : String) (idx : Nat) (Y : jM) (n : Nat) : Prop := Cond.methodLink own idx Y.1 ∈ jall ∧ Cond.instanceMethod Y.1 ∈ jall ∧ Cond.selects Y.1.cls Y.1 Y.1 ∈ jall ∧ jSY Y n
def jSs (own : String) (idx : Nat) (Y : jM) (n : Nat) : Prop := Cond.methodLink own idx Y.1 ∈ jall ∧ Cond.static Y.1 ∈ jall ∧ jSY Y n
def jSi (own : String) (idx : Nat) (Y : jM) (n : Nat) : Prop := Cond.methodLink own idx Y.1 ∈ jall ∧ Cond.instanceMethod Y.1 ∈ jall ∧ Y.1.name = "<init>" ∧ jSY Y n
/-- the same of a nest mate's private ones -/
def jSsN (own : String) (idx : Nat) (Y : jM) (n : Nat) : Prop := Cond.methodLinkNest own idx Y.1 "RodRings" ∈ jnest ∧ Cond.static Y.1 ∈ jall ∧ jSY Y n
def jSiN (own : String) (idx : Nat) (Y : jM) (n : Nat) : Prop := Cond.methodLinkNest own idx Y.1 "RodRings" ∈ jnest ∧ Cond.instanceMethod Y.1 ∈ jall ∧ Y.1.name = "<init>" ∧ jSY Y n
/-- a method named x, inherited or abstract there, that is Y in the class C -/
def jSu (own : String) (idx : Nat) (C owner : String) (x : MethodName) (Y : jM) (n : Nat) : Prop := Cond.methodLink own idx x ∈ jall ∧ Cond.sameMethod x.cls owner x.name x.desc ∈ jall ∧ Cond.selects C x Y.1 ∈ jall ∧ Cond.instanceMethod Y.1 ∈ jall ∧ Cond.declares ⟨owner, x.name, x.desc⟩ ∈ jnest ∧ (owner ≠ "java/lang/invoke/MethodHandle" ∧ owner ≠ "java/lang/invoke/VarHandle" ∧ (parseMethodDescriptor x.desc).map (fun d => d.parameters.length) = some n) ∧ jSY Y n
section JE0
variable {p : Program} {l : Launch} {e : Env} {R : Room} {s : State} {m : MethodId} {args : Array Value} {below : List Frame} {meth : Method} {c : Code} {H : Heap} {locs : List Loc} {cells slots : Nat} {Q : State → Prop}
variable {G : jG} {P : jR → jH → Prop} {ret : Option FieldType} {mc ms pc : Nat} {a : Array Value} {ls : Array Slot} {st0 rest : List Value}
theorem jr_backX (hr : vx_Run p l e R s m args below meth c H locs cells slots mc ms (F0 m pc ls st0) rest (jQc G ret P a) (jXC G P) (jA G)) (hS : va_S (jA G) s.heap H locs)
    (kx : ∀ (E : String) (k z : Nat) (h1 : jH) (ce : Cell) (q9 : Addr) (H1 : Heap) (locs1 : List Loc), jexn[k]? = some E → h1.1 ≤ z → P (.inr k) h1 → jRep G (z, h1.2) H1 → va_S (jA G) s.heap H1 locs1 → H1[q9]? = some ce → ce.vm = .none → s.vm.findClass E = some ce.cls → vx_W p l e R s m args below meth c H1 locs1 (cells + mc) (slots + ms) Q (F0 m pc ls rest) q9)
    (kk : ∀ (r : Int32) (h1 : jH) (H1 : Heap) (locs1 : List Loc), P (.inl r) h1 → jRep G h1 H1 → va_S (jA G) s.heap H1 locs1 → W p l e R s m args below meth c H1 locs1 (cells + mc) (slots + ms) Q (F0 m (pc + 3) ls ((jval ret r).toList ++ rest))) : W p l e R s m args below meth c H locs cells slots Q (F0 m pc ls st0) := by
  intro T hT X
  rcases hr T hT X with ⟨v, st₀, t, T', L, h0, X', hL, e1, e2, ⟨⟨r, h1, hv, hp, hb⟩, hF⟩, st⟩ | ⟨q, st₀, t, T', L, E, ce, h0, X', hL, e1, e2, ⟨⟨k, z, h1, hk, hz, hp, hb⟩, hF⟩, hce, hcv, hcl, st⟩
  · cases hv
    obtain ⟨k1, k2, k3⟩ := vx_keep h0 e1 hS (fun _ _ q => q) (fun _ q => q) hL hF
    obtain ⟨t2, a1, b1⟩ := kk r h1 T'.heap (locs ++ L) hp (by rw [e1]; exact hb) k3 T' rfl X'
    exact ⟨t2, st t2 a1, b1⟩
  · obtain ⟨k1, k2, k3⟩ := vx_keep h0 e1 hS (fun _ _ q => q) (fun _ q => q) hL hF
    obtain ⟨t2, a1, b1⟩ := kx E k z h1 ce q T'.heap (locs ++ L) hk hz hp (by rw [e1]; exact hb) k3 (by rw [e1]; exact hce) hcv hcl T' rfl X'
    exact ⟨t2, st.trans a1, b1⟩
theorem jr_backM (hr : va_Run p l e R s m args below meth c H locs cells slots mc ms (F0 m pc ls st0) rest (jQc G ret P a) (jA G)) (hS : va_S (jA G) s.heap H locs)
    (kk : ∀ (r : Int32) (h1 : jH) (H1 : Heap) (locs1 : List Loc), P (.inl r) h1 → jRep G h1 H1 → va_S (jA G) s.heap H1 locs1 → W p l e R s m args below meth c H1 locs1 (cells + mc) (slots + ms) Q (F0 m (pc + 3) ls ((jval ret r).toList ++ rest))) : W p l e R s m args below meth c H locs cells slots Q (F0 m pc ls st0) := by
  intro T hT X
  obtain ⟨v, st₀, t, T', L, h0, X', hL, e1, e2, ⟨⟨r, h1, hv, hp, hb⟩, hF⟩, st⟩ := hr T hT X
  cases hv
  obtain ⟨k1, k2, k3⟩ := vx_keep h0 e1 hS (fun _ _ q => q) (fun _ q => q) hL hF
  obtain ⟨t2, a1, b1⟩ := kk r h1 T'.heap (locs ++ L) hp (by rw [e1]; exact hb) k3 T' rfl X'
  exact ⟨t2, st t2 a1, b1⟩
end JE0
section JE
variable {G : jG} {l : Launch} {M : jM} {dep : Nat} {X : jX} {h : jH} {kc ks pc : Nat} {L : List (Option Value)} {st stk : List Value} {P : jR → jH → Prop} {index n mc2 ms2 b : Nat} {As : List Value} {y : MethodName} {cc : ByteArray} {nL : Nat} {ret : Option FieldType} {kc2 ks2 : Nat}
theorem jrecv {H : Heap} {s : State} {ci : Nat} {fs : List Value} {C : String} {T : u_T} {N : Nat} (hK : va_K G.1 vwCl (jtys G) s) (hR : jRep G h H) (he : h.2 b = some (.inl (ci, fs))) (hc : vwCl[ci]? = some (C, T, N)) : ∃ cell : Cell, H[b]? = some cell ∧ cell.vm.isStatics = false ∧ s.vm.findClass C = some cell.cls :=
  va_recv hK (hR.at he) hc (q0 := 0) rfl
/-- an object's own method; kx: where it throws -/
theorem jr_callVx (K : jOK G l M (dep + 1) X) (hC : jC G l (y, cc, nL, ret, []) dep mc2 ms2 (.ref b :: As) h P) (hd : decode M.2.1 pc = .ok (.invokevirtual index, 3)) (hs : jSv M.1.cls index (y, cc, nL, ret, []) n) {ci : Nat} {T : u_T} {N : Nat} (hci : vwCl[ci]? = some (y.cls, T, N)) (hrc : ∃ fs, h.2 b = some (.inl (ci, fs))) (hn : As.length = n) (hstk : stk = As.reverse ++ .ref b :: st) (hrm : (st.map fun v => v.category).sum ≤ 8) (hk1 : kc2 + mc2 = kc) (hk2 : ks2 + ms2 = ks)
    (kx : ∀ k z h1, P (.inr k) h1 → h1.1 ≤ z → jJx G X (z, h1.2) kc2 ks2 pc L k) (kk : ∀ r h1, P (.inl r) h1 → jJ G X h1 kc2 ks2 (pc + 3) L ((jval ret r).toList ++ st)) : jJ G X h kc ks pc L stk := by
  obtain ⟨p, l9, e, R, s, m, args, below, meth, c, mc, ms, Q⟩ := X
  obtain ⟨hx, hb, hml, hr, hown, hts, hlk, hin, hE, hbs, hd1, hd2, hd3, hd4, rfl, hxt⟩ := K
  subst hstk
  subst hk1 hk2
  intro H locs cells slots ls hR hS hc1 hc2 hc hl
  obtain ⟨s1, s2, s3, s4, s5, s6, s7⟩ := hs
  obtain ⟨fs, hfs⟩ := hrc
  have cb := callB_of (own := M.1.cls) (index := index) (y := y) (bytes := cc) (maxL := nL) (ret := ret) (ws := jws (y, cc, nL, ret, [])) (ws' := jall) (rm := jrm dep mc2 ms2) (mc := mc2) (ms := ms2) (R := R) (s := s) (args := args) n hts (jws_good s4) rfl rfl rfl (hts _ s5) (hts _ s1) s6 ⟨by show dep + 1 ≤ R.frames; omega, by show 8 + (nL + 11) + 80 * dep ≤ R.locals; have s8 : 19 + nL ≤ 80 := s7; omega⟩
  refine jr_backX (vx_runV (As := As) (rest := st) (C := y.cls) ⟨hx, hb, rfl, hown, hts⟩ hC ⟨cb, hts _ s2, hts _ s3⟩ ⟨jPc_blind, jrecv hE.1 hR hfs hci, fun U hU hW => jPc_at hR hS hE hbs hU hW⟩ rfl hn hl.1 rfl (lv_room hrm) hd ⟨by omega, by omega⟩) hS (fun E k z h1 ce q9 H1 locs1 g1 g2 g3 g4 g5 g6 g7 g8 => ?_) (fun r h1 H1 locs1 g1 g2 g3 => ?_)
  · exact kx k z h1 g3 g2 H1 locs1 (cells + mc2) (slots + ms2) ls st q9 ce E g4 g5 (by omega) (by omega) hc hl g1 g6 g7 g8
  · exact kk r h1 g1 H1 locs1 (cells + mc2) (slots + ms2) ls g2 g3 (by omega) (by omega) hc hl
theorem jr_callV (K : jOK G l M (dep + 1) X) (hC : jC G l (y, cc, nL, ret, []) dep mc2 ms2 (.ref b :: As) h P) (hd : decode M.2.1 pc = .ok (.invokevirtual index, 3)) (hs : jSv M.1.cls index (y, cc, nL, ret, []) n) {ci : Nat} {T : u_T} {N : Nat} (hci : vwCl[ci]? = some (y.cls, T, N)) (hrc : ∃ fs, h.2 b = some (.inl (ci, fs))) (hn : As.length = n) (hstk : stk = As.reverse ++ .ref b :: st) (hrm : (st.map fun v => v.category).sum ≤ 8) (hk1 : kc2 + mc2 = kc) (hk2 : ks2 + ms2 = ks)
    (hnt : ∀ k h1, ¬ P (.inr k) h1) (kk : ∀ r h1, P (.inl r) h1 → jJ G X h1 kc2 ks2 (pc + 3) L ((jval ret r).toList ++ st)) : jJ G X h kc ks pc L stk :=
  jr_callVx K hC hd hs hci hrc hn hstk hrm hk1 hk2 (fun k z h1 q => (hnt k h1 q).elim) kk
theorem jr_callSx (K : jOK G l M (dep + 1) X) (hC : jC G l (y, cc, nL, ret, []) dep mc2 ms2 As h P) (hd : decode M.2.1 pc = .ok (.invokestatic index, 3)) (hs : jSs M.1.cls index (y, cc, nL, ret, []) n) (hn : As.length = n) (hstk : stk = As.reverse ++ st) (hrm : (st.map fun v => v.category).sum ≤ 8) (hk1 : kc2 + mc2 = kc) (hk2 : ks2 + ms2 = ks)
    (kx : ∀ k z h1, P (.inr k) h1 → h1.1 ≤ z → jJx G X (z, h1.2) kc2 ks2 pc L k) (kk : ∀ r h1, P (.inl r) h1 → jJ G X h1 kc2 ks2 (pc + 3) L ((jval ret r).toList ++ st)) : jJ G X h kc ks pc L stk := by
  obtain ⟨p, l9, e, R, s, m, args, below, meth, c, mc, ms, Q⟩ := X
  obtain ⟨hx, hb, hml, hr, hown, hts, hlk, hin, hE, hbs, hd1, hd2, hd3, hd4, rfl, hxt⟩ := K
  subst hstk
  subst hk1 hk2
  intro H locs cells slots ls hR hS hc1 hc2 hc hl
  obtain ⟨s1, s2, s4, s5, s6, s7⟩ := hs
  have cb := callB_of (own := M.1.cls) (index := index) (y := y) (bytes := cc) (maxL := nL) (ret := ret) (ws := jws (y, cc, nL, ret, [])) (ws' := jall) (rm := jrm dep mc2 ms2) (mc := mc2) (ms := ms2) (R := R) (s := s) (args := args) n hts (jws_good s4) rfl rfl rfl (hts _ s5) (hts _ s1) s6 ⟨by show dep + 1 ≤ R.frames; omega, by show 8 + (nL + 11) + 80 * dep ≤ R.locals; have s8 : 19 + nL ≤ 80 := s7; omega⟩
  refine jr_backX (vx_runS (As := As) (rest := st) ⟨hx, hb, rfl, hown, hts⟩ hC ⟨cb, hts _ s2⟩ ⟨jPc_blind, fun U hU hW => jPc_at hR hS hE hbs hU hW⟩ rfl hn hl.1 rfl (lv_room hrm) hd ⟨by omega, by omega⟩) hS (fun E k z h1 ce q9 H1 locs1 g1 g2 g3 g4 g5 g6 g7 g8 => ?_) (fun r h1 H1 locs1 g1 g2 g3 => ?_)
  · exact kx k z h1 g3 g2 H1 locs1 (cells + mc2) (slots + ms2) ls st q9 ce E g4 g5 (by omega) (by omega) hc hl g1 g6 g7 g8
  · exact kk r h1 g1 H1 locs1 (cells + mc2) (slots + ms2) ls g2 g3 (by omega) (by omega) hc hl
theorem jr_callS (K : jOK G l M (dep + 1) X) (hC : jC G l (y, cc, nL, ret, []) dep mc2 ms2 As h P) (hd : decode M.2.1 pc = .ok (.invokestatic index, 3)) (hs : jSs M.1.cls index (y, cc, nL, ret, []) n) (hn : As.length = n) (hstk : stk = As.reverse ++ st) (hrm : (st.map fun v => v.category).sum ≤ 8) (hk1 : kc2 + mc2 = kc) (hk2 : ks2 + ms2 = ks)
    (hnt : ∀ k h1, ¬ P (.inr k) h1) (kk : ∀ r h1, P (.inl r) h1 → jJ G X h1 kc2 ks2 (pc + 3) L ((jval ret r).toList ++ st)) : jJ G X h kc ks pc L stk :=
  jr_callSx K hC hd hs hn hstk hrm hk1 hk2 (fun k z h1 q => (hnt k h1 q).elim) kk
/-- a static method with a table of its own (the law's) -/
theorem jr_callSW {q : Nat × Nat × Nat × Nat} {hh : List (Nat × Nat × Nat × Nat)} (K : jOK G l M (dep + 1) X) (hC : jC G l (y, cc, nL, ret, q :: hh) dep mc2 ms2 As h P) (hd : decode M.2.1 pc = .ok (.invokestatic index, 3)) (hs : jSs M.1.cls index (y, cc, nL, ret, q :: hh) n) (hn : As.length = n) (hstk : stk = As.reverse ++ st) (hrm : (st.map fun v => v.category).sum ≤ 8) (hk1 : kc2 + mc2 = kc) (hk2 : ks2 + ms2 = ks)
    (hnt : ∀ k h1, ¬ P (.inr k) h1) (kk : ∀ r h1, P (.inl r) h1 → jJ G X h1 kc2 ks2 (pc + 3) L ((jval ret r).toList ++ st)) : jJ G X h kc ks pc L stk := by
  obtain ⟨p, l9, e, R, s, m, args, below, meth, c, mc, ms, Q⟩ := X
  obtain ⟨hx, hb, hml, hr, hown, hts, hlk, hin, hE, hbs, hd1, hd2, hd3, hd4, rfl, hxt⟩ := K
  subst hstk
  subst hk1 hk2
  intro H locs cells slots ls hR hS hc1 hc2 hc hl
  obtain ⟨s1, s2, s4, s5, s6, s7⟩ := hs
  have hG := jws_good s4
  have hcw : Cond.codeWith y cc nL ret (q :: hh) ∈ jws (y, cc, nL, ret, q :: hh) := List.mem_cons_self
  have cb : vx_CSW R s args M.1.cls index y cc nL ret (q :: hh) (jws (y, cc, nL, ret, q :: hh)) (jrm dep mc2 ms2) mc2 ms2 n := by
    refine ⟨⟨rfl, rfl, by show dep + 1 ≤ R.frames; omega, by show 8 + (nL + 11) + 80 * dep ≤ R.locals; have s8 : 19 + nL ≤ 80 := s7; omega, pay_in hts hG, hcw⟩, hts _ (hG _ hcw).1, hts _ s5, ⟨s6.1, s6.2.1⟩, fun sig h9 => ?_, hts _ s1, hts _ s2⟩
    have h2 := s6.2.2
    rw [h9] at h2
    exact (Option.some.inj h2).symm
  refine jr_backX (vx_runSX (As := As) (rest := st) ⟨hx, hb, rfl, hown, hts⟩ hC cb ⟨jPc_blind, fun U hU hW => jPc_at hR hS hE hbs hU hW⟩ rfl hn hl.1 rfl (lv_room hrm) hd ⟨by omega, by omega⟩) hS (fun E k z h1 ce q9 H1 locs1 g1 g2 g3 g4 g5 g6 g7 g8 => ?_) (fun r h1 H1 locs1 g1 g2 g3 => ?_)
  · exact (hnt k h1 g3).elim
  · exact kk r h1 g1 H1 locs1 (cells + mc2) (slots + ms2) ls g2 g3 (by omega) (by omega) hc hl
/-- a nest mate's private static method -/
theorem jr_callSN (K : jOK G l M (dep + 1) X) (hC : jC G l (y, cc, nL, ret, []) dep mc2 ms2 As h P) (hd : decode M.2.1 pc = .ok (.invokestatic index, 3)) (hs : jSsN M.1.cls index (y, cc, nL, ret, []) n) (hn : As.length = n) (hstk : stk = As.reverse ++ st) (hrm : (st.map fun v => v.category).sum ≤ 8) (hk1 : kc2 + mc2 = kc) (hk2 : ks2 + ms2 = ks)
    (hnt : ∀ k h1, ¬ P (.inr k) h1) (kk : ∀ r h1, P (.inl r) h1 → jJ G X h1 kc2 ks2 (pc + 3) L ((jval ret r).toList ++ st)) : jJ G X h kc ks pc L stk := by
  obtain ⟨p, l9, e, R, s, m, args, below, meth, c, mc, ms, Q⟩ := X
  obtain ⟨hx, hb, hml, hr, hown, hts, hlk, hin, hE, hbs, hd1, hd2, hd3, hd4, rfl, hxt⟩ := K
  subst hstk
  subst hk1 hk2
  intro H locs cells slots ls hR hS hc1 hc2 hc hl
  obtain ⟨s1, s2, s4, s5, s6, s7⟩ := hs
  have hnw := hE.2.2.2.2.2.2.2.2.2.1.2.1
  have cb := va_cnB (own := M.1.cls) (host := "RodRings") (index := index) (y := y) (bytes := cc) (maxL := nL) (ret := ret) (ws := jws (y, cc, nL, ret, [])) (ws' := jall) (rm := jrm dep mc2 ms2) (mc := mc2) (ms := ms2) (R := R) (s := s) (args := args) n hts (jws_good s4) rfl rfl rfl (hnw _ s1) (hts _ s5) s6 ⟨by show dep + 1 ≤ R.frames; omega, by show 8 + (nL + 11) + 80 * dep ≤ R.locals; have s8 : 19 + nL ≤ 80 := s7; omega⟩
  exact jr_backM (va_runSN (As := As) (rest := st) ⟨hx, hb, rfl, hown, hts⟩ (hC.met hnt) ⟨cb, hts _ s2, trivial⟩ ⟨jPc_blind, fun U hU hW => jPc_at hR hS hE hbs hU hW⟩ rfl hn hl.1 rfl (lv_room hrm) hd ⟨by omega, by omega⟩) hS (fun r h1 H1 locs1 g1 g2 g3 => kk r h1 g1 H1 locs1 (cells + mc2) (slots + ms2) ls g2 g3 (by omega) (by omega) hc hl)
/-- constructors: of a class of the same package, or a nest mate's private one -/
theorem jr_callI (K : jOK G l M (dep + 1) X) (hC : jC G l (y, cc, nL, none, []) dep mc2 ms2 (.ref b :: As) h P) (hd : decode M.2.1 pc = .ok (.invokespecial index, 3)) (hs : jSi M.1.cls index (y, cc, nL, none, []) n) (hn : As.length = n) (hstk : stk = As.reverse ++ .ref b :: st) (hrm : (st.map fun v => v.category).sum ≤ 8) (hk1 : kc2 + mc2 = kc) (hk2 : ks2 + ms2 = ks)
    (hnt : ∀ k h1, ¬ P (.inr k) h1) (kk : ∀ r h1, P (.inl r) h1 → jJ G X h1 kc2 ks2 (pc + 3) L st) : jJ G X h kc ks pc L stk := by
  obtain ⟨p, l9, e, R, s, m, args, below, meth, c, mc, ms, Q⟩ := X
  obtain ⟨hx, hb, hml, hr, hown, hts, hlk, hin, hE, hbs, hd1, hd2, hd3, hd4, rfl, hxt⟩ := K
  subst hstk
  subst hk1 hk2
  intro H locs cells slots ls hR hS hc1 hc2 hc hl
  obtain ⟨s1, s2, s3, s4, s5, s6, s7⟩ := hs
  have cb := callB_of (own := M.1.cls) (index := index) (y := y) (bytes := cc) (maxL := nL) (ret := none) (ws := jws (y, cc, nL, none, [])) (ws' := jall) (rm := jrm dep mc2 ms2) (mc := mc2) (ms := ms2) (R := R) (s := s) (args := args) n hts (jws_good s4) rfl rfl rfl (hts _ s5) (hts _ s1) s6 ⟨by show dep + 1 ≤ R.frames; omega, by show 8 + (nL + 11) + 80 * dep ≤ R.locals; have s8 : 19 + nL ≤ 80 := s7; omega⟩
  exact jr_backM (ret := none) (va_runI (As := As) (rest := st) ⟨hx, hb, rfl, hown, hts⟩ (hC.met hnt) ⟨cb, s3, hts _ s2⟩ ⟨jPc_blind, fun U hU hW => jPc_at hR hS hE hbs hU hW⟩ rfl hn hl.1 rfl (lv_room hrm) hd ⟨by omega, by omega⟩) hS (fun r h1 H1 locs1 g1 g2 g3 => kk r h1 g1 H1 locs1 (cells + mc2) (slots + ms2) ls g2 g3 (by omega) (by omega) hc hl)
theorem jr_callIN (K : jOK G l M (dep + 1) X) (hC : jC G l (y, cc, nL, none, []) dep mc2 ms2 (.ref b :: As) h P) (hd : decode M.2.1 pc = .ok (.invokespecial index, 3)) (hs : jSiN M.1.cls index (y, cc, nL, none, []) n) (hn : As.length = n) (hstk : stk = As.reverse ++ .ref b :: st) (hrm : (st.map fun v => v.category).sum ≤ 8) (hk1 : kc2 + mc2 = kc) (hk2 : ks2 + ms2 = ks)
    (hnt : ∀ k h1, ¬ P (.inr k) h1) (kk : ∀ r h1, P (.inl r) h1 → jJ G X h1 kc2 ks2 (pc + 3) L st) : jJ G X h kc ks pc L stk := by
  obtain ⟨p, l9, e, R, s, m, args, below, meth, c, mc, ms, Q⟩ := X
  obtain ⟨hx, hb, hml, hr, hown, hts, hlk, hin, hE, hbs, hd1, hd2, hd3, hd4, rfl, hxt⟩ := K
  subst hstk
  subst hk1 hk2
  intro H locs cells slots ls hR hS hc1 hc2 hc hl
  obtain ⟨s1, s2, s3, s4, s5, s6, s7⟩ := hs
  have hnw := hE.2.2.2.2.2.2.2.2.2.1.2.1
  have cb := va_cnB (own := M.1.cls) (host := "RodRings") (index := index) (y := y) (bytes := cc) (maxL := nL) (ret := none) (ws := jws (y, cc, nL, none, [])) (ws' := jall) (rm := jrm dep mc2 ms2) (mc := mc2) (ms := ms2) (R := R) (s := s) (args := args) n hts (jws_good s4) rfl rfl rfl (hnw _ s1) (hts _ s5) s6 ⟨by show dep + 1 ≤ R.frames; omega, by show 8 + (nL + 11) + 80 * dep ≤ R.locals; have s8 : 19 + nL ≤ 80 := s7; omega⟩
  exact jr_backM (ret := none) (va_runIN (As := As) (rest := st) ⟨hx, hb, rfl, hown, hts⟩ (hC.met hnt) ⟨cb, s3, hts _ s2⟩ ⟨jPc_blind, fun U hU hW => jPc_at hR hS hE hbs hU hW⟩ rfl hn hl.1 rfl (lv_room hrm) hd ⟨by omega, by omega⟩) hS (fun r h1 H1 locs1 g1 g2 g3 => kk r h1 g1 H1 locs1 (cells + mc2) (slots + ms2) ls g2 g3 (by omega) (by omega) hc hl)
/-- an inherited method, or one that is abstract where it is named -/
theorem jr_callU {x : MethodName} {owner C : String} (K : jOK G l M (dep + 1) X) (hC : jC G l (y, cc, nL, ret, []) dep mc2 ms2 (.ref b :: As) h P) (hd : decode M.2.1 pc = .ok (.invokevirtual index, 3)) (hs : jSu M.1.cls index C owner x (y, cc, nL, ret, []) n) {ci : Nat} {T : u_T} {N : Nat} (hci : vwCl[ci]? = some (C, T, N)) (hrc : ∃ fs, h.2 b = some (.inl (ci, fs))) (hn : As.length = n) (hstk : stk = As.reverse ++ .ref b :: st) (hrm : (st.map fun v => v.category).sum ≤ 8) (hk1 : kc2 + mc2 = kc) (hk2 : ks2 + ms2 = ks)
    (hnt : ∀ k h1, ¬ P (.inr k) h1) (kk : ∀ r h1, P (.inl r) h1 → jJ G X h1 kc2 ks2 (pc + 3) L ((jval ret r).toList ++ st)) : jJ G X h kc ks pc L stk := by
  obtain ⟨p, l9, e, R, s, m, args, below, meth, c, mc, ms, Q⟩ := X
  obtain ⟨hx, hb, hml, hr, hown, hts, hlk, hin, hE, hbs, hd1, hd2, hd3, hd4, rfl, hxt⟩ := K
  subst hstk
  subst hk1 hk2
  intro H locs cells slots ls hR hS hc1 hc2 hc hl
  obtain ⟨u1, u2, u3, u4, u5, u6, s4, s5, s6, s7⟩ := hs
  obtain ⟨fs, hfs⟩ := hrc
  have hnw := hE.2.2.2.2.2.2.2.2.2.1.2.1
  have hG : GoodIn jall (va_wsU M.1.cls index C owner x y (jws (y, cc, nL, ret, []))) := by
    refine jall_good fun w hw => ?_
    unfold va_wsU at hw
    rcases List.mem_append.mp hw with hw | hw
    · simp only [List.mem_cons, List.not_mem_nil, or_false] at hw
      rcases hw with rfl | rfl | rfl | rfl | rfl
      · exact u1
      · exact u2
      · exact u3
      · exact u4
      · exact s5
    · exact (List.mem_cons.mp hw).elim (fun e => by rw [e]; exact s4) id
  have cb := va_cwA (own := M.1.cls) (C := C) (owner := owner) (index := index) (x := x) (y := y) (bytes := cc) (maxL := nL) (ret := ret) (ws := jws (y, cc, nL, ret, [])) (ws' := jall) (rm := jrm dep mc2 ms2) (mc := mc2) (ms := ms2) (R := R) (s := s) (args := args) n hts hG rfl rfl rfl (hnw _ u5) u6 ⟨by show dep + 1 ≤ R.frames; omega, by show 8 + (nL + 11) + 80 * dep ≤ R.locals; have s8 : 19 + nL ≤ 80 := s7; omega⟩
  exact jr_backM (va_runU (As := As) (rest := st) ⟨hx, hb, rfl, hown, hts⟩ (hC.met hnt) cb ⟨jPc_blind, jrecv hE.1 hR hfs hci, fun U hU hW => jPc_at hR hS hE hbs hU hW⟩ rfl hn hl.1 rfl (lv_room hrm) hd ⟨by omega, by omega⟩) hS (fun r h1 H1 locs1 g1 g2 g3 => kk r h1 g1 H1 locs1 (cells + mc2) (slots + ms2) ls g2 g3 (by omega) (by omega) hc hl)
/-- thrown on: no handlers here -/
theorem jr_out {P : jR → jH → Prop} {k z : Nat} {h1 : jH} (K : jOK G l M dep X) (E : jEnd G M P X) (hh : M.2.2.2.2 = []) (hz : h1.1 ≤ z) (hP : P (.inr k) h1) : jJx G X (z, h1.2) kc ks pc L k := by
  obtain ⟨p, l9, e, R, s, m, args, below, meth, c, mc, ms, Q⟩ := X
  obtain ⟨hx, hb, hml, hr, hown, hts, hlk, hin, hE, hbs, hd1, hd2, hd3, hd4, rfl, hxt⟩ := K
  subst E
  intro H locs cells slots ls st q ce E hR hS hc1 hc2 hc hl hk g6 g7 g8
  refine vx_out (fun x hx9 => ?_) hlk g6 g7 g8 (fun t ht hv => ⟨⟨k, z, h1, hk, hz, hP, by rw [ht]; exact hR⟩, hS.F9 ht⟩) hS.2.2 (by omega) (by omega)
  rw [hxt, hh] at hx9
  cases hx9
theorem jr_mask {L2 : List (Option Value)} (hm : L2.length = L.length ∧ ∀ (i : Nat) (v : Value), L2[i]? = some (some v) → L[i]? = some (some v)) (k : jJ G X h kc ks pc L2 st) : jJ G X h kc ks pc L st := by
  obtain ⟨p, l, e, R, s, m, args, below, meth, c, mc, ms, Q⟩ := X
  intro H locs cells slots ls hR hS hc1 hc2 hc hl
  exact k H locs cells slots ls hR hS hc1 hc2 (fun i v q => hc i v (hm.2 i v q)) (jlv_sub hl fun q hq => by
    obtain ⟨i, h1, h2⟩ := (jlv_mem _ _ _).mp hq
    exact (jlv_mem _ _ _).mpr ⟨i, h1, hm.2 i q.2 h2⟩)
/-- which locals are still spoken of -/
def jmask : List Bool → List (Option Value) → List (Option Value)
  | [], l => l
  | _, [] => []
  | true :: bs, x :: l => x :: jmask bs l
  | false :: bs, _ :: l => none :: jmask bs l
theorem jmask_ok : ∀ (bs : List Bool) (L : List (Option Value)), (jmask bs L).length = L.length ∧ ∀ (i : Nat) (v : Value), (jmask bs L)[i]? = some (some v) → L[i]? = some (some v)
  | [], L => by cases L <;> exact ⟨rfl, fun _ _ h => h⟩
  | b :: bs, [] => by cases b <;> exact ⟨rfl, fun _ _ h => h⟩
  | true :: bs, x :: L => by
    obtain ⟨h1, h2⟩ := jmask_ok bs L
    refine ⟨by show _ + 1 = _ + 1; rw [h1], fun i v h => ?_⟩
    cases i with
    | zero => exact h
    | succ i => exact h2 i v (by simpa [jmask] using h)
  | false :: bs, x :: L => by
    obtain ⟨h1, h2⟩ := jmask_ok bs L
    refine ⟨by show _ + 1 = _ + 1; rw [h1], fun i v h => ?_⟩
    cases i with
    | zero => simp [jmask] at h
    | succ i => exact h2 i v (by simpa [jmask] using h)
theorem jr_keep (bs : List Bool) (k : jJ G X h kc ks pc (jmask bs L) st) : jJ G X h kc ks pc L st := jr_mask (jmask_ok bs L) k
end JE
theorem jbind {α β : Type} {a : Option α} {f : α → Option β} {r : β} (h : a.bind f = some r) : ∃ x, a = some x ∧ f x = some r := Option.bind_eq_some_iff.mp h
/-- a call of an object's own method: the object must be one -/
def jcv {α : Type} (ci : Nat) (h : jH) (b : Nat) (e : Option α) : Option α := match h.2 b with
  | some (.inl o) => if o.1 = ci then e else none
  | _ => none
theorem jcv_o {α : Type} {ci : Nat} {h : jH} {b : Nat} {e : Option α} {r : α} (q : jcv ci h b e = some r) : (∃ fs, h.2 b = some (.inl (ci, fs))) ∧ e = some r := by
  unfold jcv at q
  split at q
  · rename_i o ho
    split at q
    · rename_i hc
      exact ⟨⟨o.2, by rw [ho, ← hc]⟩, q⟩
    · cases q
  · cases q
/-- go on behind a call that may throw -/
def jthen (q : jR × jH) (k : Int32 → jH → Option (jR × jH)) : Option (jR × jH) := match q.1 with
  | .inl r => k r q.2
  | .inr e => some (.inr e, q.2)
theorem D_at {b : ByteArray} {T : List (Nat × Instr × Nat)} (D : ∀ q ∈ T, decode b q.1 = .ok q.2) (k : Nat) {pc n : Nat} {i : Instr} (h : T[k]? = some (pc, i, n)) : decode b pc = .ok (i, n) := D (pc, i, n) (List.mem_of_getElem? h)
theorem jw_at {ws : List (Nat × Cond)} (h : ∀ q ∈ ws, lw_tbl[q.1]? = some q.2) (j : Nat) {i : Nat} {w : Cond} (hj : ws[j]? = some (i, w)) (g : goodWord w = true) : w ∈ jall := jall_of (h (i, w) (List.mem_of_getElem? hj)) g
theorem jn_at {ws : List (Nat × Cond)} (h : ∀ q ∈ ws, lw_tbl[q.1]? = some q.2) (j : Nat) {i : Nat} {w : Cond} (hj : ws[j]? = some (i, w)) (g : jnk w = true) : w ∈ jnest := jnest_of (h (i, w) (List.mem_of_getElem? hj)) g
end
section
/-! throws and catches -/
def jnms : List String := ["java/lang/RuntimeException", "java/lang/Exception"]
def jTh (own : String) (ik ic : Nat) (E : String) : Prop := Cond.classLink own ik E ∈ jall ∧ Cond.initialized E ∈ jall ∧ (∀ w ∈ vx_atS own ic E jnms, w ∈ jall ∨ w ∈ jnest) ∧ (∀ w ∈ Cond.classLink own ik E :: Cond.initialized E :: vx_atS own ic E jnms, vx_ot w = true) ∧ Bundle.fit E = true
section JF
variable {G : jG} {l : Launch} {M : jM} {dep : Nat} {X : jX} {h : jH} {kc ks pc : Nat} {L : List (Option Value)} {st : List Value} {P : jR → jH → Prop}
theorem jtab {G : jG} {s : State} {args : Array Value} {w : Cond} (hts : ∀ w ∈ jall, w.before args s = true) (hE : jEF G s s.heap) (h : w ∈ jall ∨ w ∈ jnest) : w.before args s = true := by
  rcases h with h | h
  · exact hts w h
  · exact va_Nw.use (jnest_on h) (hE.2.2.2.2.2.2.2.2.2.1.2.1 w h)
theorem jthrown {G : jG} {P : jR → jH → Prop} {s : State} {H : Heap} {locs : List Loc} {h : jH} {k : Nat} {E : String} (hR : jRep G h H) (hS : va_S (jA G) s.heap H locs) (hk : jexn[k]? = some E) (hP : P (.inr k) h) : ∀ t : State, s.vm.Alike t.vm → H.size ≤ t.heap.size → (∀ q : Nat, q < H.size → t.heap[q]? = H[q]?) → jXC G P E s t := by
  intro t _ hz hq
  refine ⟨⟨k, t.heap.size, h, hk, by rw [← hR.1]; exact hz, hP, rfl, fun a e he => ⟨(hR.2 a e he).1, (hR.2 a e he).2.kept (hq a (hR.2 a e he).2.lt)⟩⟩, Nat.le_trans hS.1 hz, fun q h1 h2 => (hq q (Nat.lt_of_lt_of_le h1 hS.1)).trans (hS.2.1 q h1 h2)⟩
/-- throw new E("text") -/
theorem jr_throw (hst : l.stackTraces = false) (K : jOK G l M (dep + 6) X) (En : jEnd G M P X) {ik is ic i k : Nat} {E tx : String} {bs : List Int32} (d0 : decode M.2.1 pc = .ok (.new ik, 3)) (d3 : decode M.2.1 (pc + 3) = .ok (.dup, 1)) (d4 : decode M.2.1 (pc + 4) = .ok (.ldc is, 2)) (d6 : decode M.2.1 (pc + 6) = .ok (.invokespecial ic, 3)) (d9 : decode M.2.1 (pc + 9) = .ok (.athrow, 1))
    (hT : jTh M.1.cls ik ic E) (hx9 : jtxt[i]? = some (M.1.cls, is, tx, bs)) (hh : M.2.2.2.2 = []) (hk : jexn[k]? = some E) (hrm : (st.map fun v => v.category).sum ≤ 8) (hkc : 1 ≤ kc) (hks : 6 ≤ ks) (hP : P (.inr k) h) : jJ G X h kc ks pc L st := by
  obtain ⟨p, l9, e, R, s, m, args, below, meth, c, mc, ms, Q⟩ := X
  obtain ⟨hx, hb, hml, hr, hown, hts, hlk, hin, hE, hbs, hd1, hd2, hd3, hd4, rfl, hxt⟩ := K
  subst En
  intro H locs cells slots ls hR hS hc1 hc2 hc hl
  obtain ⟨t1, t2, t3, t4, t5⟩ := hT
  have hn2 : jnms.length = 2 := rfl
  exact vx_throwS (names := jnms) (A := jA G) hx hb hst hown t5 (by decide) (hts _ t1) (hts _ t2) (hE.2.2.2.2.2.2.2.2.2.2 i _ hx9).1 (fun w hw => jtab hts hE (t3 w hw)) t4 hE.2.1 hE.2.2.1 hS hl.1 d0 d3 d4 d6 d9 (by rw [hxt, hh]; intro x hx; cases hx) (by rw [hn2]; omega) (by rw [hn2]; omega) (by omega) (by omega) hlk (jthrown hR hS hk hP) hS.2.2 (by omega) (by omega)
theorem jr_throwW (hst : l.stackTraces = false) (K : jOK G l M (dep + 6) X) (En : jEnd G M P X) {ik is ic i k : Nat} {E tx : String} {bs : List Int32} (d0 : decode M.2.1 pc = .ok (.new ik, 3)) (d3 : decode M.2.1 (pc + 3) = .ok (.dup, 1)) (d4 : decode M.2.1 (pc + 4) = .ok (.ldc_w is, 3)) (d6 : decode M.2.1 (pc + 7) = .ok (.invokespecial ic, 3)) (d9 : decode M.2.1 (pc + 10) = .ok (.athrow, 1))
    (hT : jTh M.1.cls ik ic E) (hx9 : jtxt[i]? = some (M.1.cls, is, tx, bs)) (hh : M.2.2.2.2 = []) (hk : jexn[k]? = some E) (hrm : (st.map fun v => v.category).sum ≤ 8) (hkc : 1 ≤ kc) (hks : 6 ≤ ks) (hP : P (.inr k) h) : jJ G X h kc ks pc L st := by
  obtain ⟨p, l9, e, R, s, m, args, below, meth, c, mc, ms, Q⟩ := X
  obtain ⟨hx, hb, hml, hr, hown, hts, hlk, hin, hE, hbs, hd1, hd2, hd3, hd4, rfl, hxt⟩ := K
  subst En
  intro H locs cells slots ls hR hS hc1 hc2 hc hl
  obtain ⟨t1, t2, t3, t4, t5⟩ := hT
  have hn2 : jnms.length = 2 := rfl
  exact vx_throwSW (names := jnms) (A := jA G) hx hb hst hown t5 (by decide) (hts _ t1) (hts _ t2) (hE.2.2.2.2.2.2.2.2.2.2 i _ hx9).1 (fun w hw => jtab hts hE (t3 w hw)) t4 hE.2.1 hE.2.2.1 hS hl.1 d0 d3 d4 d6 d9 (by rw [hxt, hh]; intro x hx; cases hx) (by rw [hn2]; omega) (by rw [hn2]; omega) (by omega) (by omega) hlk (jthrown hR hS hk hP) hS.2.2 (by omega) (by omega)
/-- caught by the row x of this method's table; the rows ahead don't take it -/
theorem jr_catch (K : jOK G l M dep X) {k : Nat} {E nm : String} (pre : List ExceptionTableEntry) (x : ExceptionTableEntry) (suf : List ExceptionTableEntry) (hsplit : tableOf M.2.2.2.2 = pre ++ x :: suf) (hpass : ∀ z ∈ pre, covers z pc = false ∨ (z.catchType ≠ 0 ∧ ∃ nm : String, Cond.classLink M.1.cls z.catchType nm ∈ jall ∧ (E, nm) ∈ jncs)) (hx : covers x pc = true) (h0 : x.catchType ≠ 0) (hlink : Cond.classLink M.1.cls x.catchType nm ∈ jall) (hcast : Cond.castable E nm ∈ jnest) (hk : jexn[k]? = some E) (kk : ∀ q : Nat, jJ G X h kc ks x.handlerPc L [.ref q]) : jJx G X h kc ks pc L k := by
  obtain ⟨p, l9, e, R, s, m, args, below, meth, c, mc, ms, Q⟩ := X
  obtain ⟨hx9, hb, hml, hr, hown, hts, hlk, hin, hE, hbs, hd1, hd2, hd3, hd4, rfl, hxt⟩ := K
  intro H locs cells slots ls st q ce E9 hR hS hc1 hc2 hc hl hk9 g6 g7 g8
  cases Option.some.inj (hk.symm.trans hk9)
  refine vx_catch (name := nm) hown pre x suf (hxt.trans hsplit) (fun z hz => ?_) hx h0 (hts _ hlink) (jtab hts hE (Or.inr hcast)) g6 g7 g8 (kk q H locs cells slots ls hR hS hc1 hc2 hc hl)
  rcases hpass z hz with g | ⟨g1, nm9, g2, g3⟩
  · exact Or.inl g
  · exact Or.inr ⟨g1, nm9, hts _ g2, hE.2.2.2.2.2.2.2.2.2.1.2.2 _ g3⟩
end JF
end
section
theorem jin_1 {w : Cond} (h : w ∈ tables_1_1) : w ∈ lw_tbl := List.mem_append_right _ (List.mem_append_left _ h)
theorem jw_1 {w : Cond} (j : Nat) (hj : tables_1_1[j]? = some w) (g : goodWord w = true) : w ∈ jall := jall_in (jin_1 (List.mem_of_getElem? hj)) g
theorem jn_1 {w : Cond} (j : Nat) (hj : tables_1_1[j]? = some w) (g : jnk w = true) : w ∈ jnest := List.mem_filter.mpr ⟨jin_1 (List.mem_of_getElem? hj), g⟩
theorem jin_2 {w : Cond} (h : w ∈ tables_1_2) : w ∈ lw_tbl := List.mem_append_right _ (List.mem_append_right _ (List.mem_append_left _ h))
theorem jw_2 {w : Cond} (j : Nat) (hj : tables_1_2[j]? = some w) (g : goodWord w = true) : w ∈ jall := jall_in (jin_2 (List.mem_of_getElem? hj)) g
theorem jn_2 {w : Cond} (j : Nat) (hj : tables_1_2[j]? = some w) (g : jnk w = true) : w ∈ jnest := List.mem_filter.mpr ⟨jin_2 (List.mem_of_getElem? hj), g⟩
theorem jin_3 {w : Cond} (h : w ∈ tables_1_3) : w ∈ lw_tbl := List.mem_append_right _ (List.mem_append_right _ (List.mem_append_right _ (List.mem_append_left _ h)))
theorem jw_3 {w : Cond} (j : Nat) (hj : tables_1_3[j]? = some w) (g : goodWord w = true) : w ∈ jall := jall_in (jin_3 (List.mem_of_getElem? hj)) g
theorem jn_3 {w : Cond} (j : Nat) (hj : tables_1_3[j]? = some w) (g : jnk w = true) : w ∈ jnest := List.mem_filter.mpr ⟨jin_3 (List.mem_of_getElem? hj), g⟩
theorem jin_4 {w : Cond} (h : w ∈ tables_1_4) : w ∈ lw_tbl := List.mem_append_right _ (List.mem_append_right _ (List.mem_append_right _ (List.mem_append_right _ (List.mem_append_left _ h))))
theorem jw_4 {w : Cond} (j : Nat) (hj : tables_1_4[j]? = some w) (g : goodWord w = true) : w ∈ jall := jall_in (jin_4 (List.mem_of_getElem? hj)) g
theorem jn_4 {w : Cond} (j : Nat) (hj : tables_1_4[j]? = some w) (g : jnk w = true) : w ∈ jnest := List.mem_filter.mpr ⟨jin_4 (List.mem_of_getElem? hj), g⟩
theorem jin_5 {w : Cond} (h : w ∈ tables_1_5) : w ∈ lw_tbl := List.mem_append_right _ (List.mem_append_right _ (List.mem_append_right _ (List.mem_append_right _ (List.mem_append_right _ (List.mem_append_left _ h)))))
theorem jw_5 {w : Cond} (j : Nat) (hj : tables_1_5[j]? = some w) (g : goodWord w = true) : w ∈ jall := jall_in (jin_5 (List.mem_of_getElem? hj)) g
theorem jn_5 {w : Cond} (j : Nat) (hj : tables_1_5[j]? = some w) (g : jnk w = true) : w ∈ jnest := List.mem_filter.mpr ⟨jin_5 (List.mem_of_getElem? hj), g⟩
theorem jin_6 {w : Cond} (h : w ∈ tables_1_6) : w ∈ lw_tbl := List.mem_append_right _ (List.mem_append_right _ (List.mem_append_right _ (List.mem_append_right _ (List.mem_append_right _ (List.mem_append_right _ (List.mem_append_left _ h))))))
theorem jw_6 {w : Cond} (j : Nat) (hj : tables_1_6[j]? = some w) (g : goodWord w = true) : w ∈ jall := jall_in (jin_6 (List.mem_of_getElem? hj)) g
theorem jn_6 {w : Cond} (j : Nat) (hj : tables_1_6[j]? = some w) (g : jnk w = true) : w ∈ jnest := List.mem_filter.mpr ⟨jin_6 (List.mem_of_getElem? hj), g⟩
theorem jin_7 {w : Cond} (h : w ∈ tables_1_7) : w ∈ lw_tbl := List.mem_append_right _ (List.mem_append_right _ (List.mem_append_right _ (List.mem_append_right _ (List.mem_append_right _ (List.mem_append_right _ (List.mem_append_right _ (List.mem_append_left _ h)))))))
theorem jw_7 {w : Cond} (j : Nat) (hj : tables_1_7[j]? = some w) (g : goodWord w = true) : w ∈ jall := jall_in (jin_7 (List.mem_of_getElem? hj)) g
theorem jn_7 {w : Cond} (j : Nat) (hj : tables_1_7[j]? = some w) (g : jnk w = true) : w ∈ jnest := List.mem_filter.mpr ⟨jin_7 (List.mem_of_getElem? hj), g⟩
theorem jin_8 {w : Cond} (h : w ∈ tables_1_8) : w ∈ lw_tbl := List.mem_append_right _ (List.mem_append_right _ (List.mem_append_right _ (List.mem_append_right _ (List.mem_append_right _ (List.mem_append_right _ (List.mem_append_right _ (List.mem_append_right _ (List.mem_append_left _ h))))))))
theorem jw_8 {w : Cond} (j : Nat) (hj : tables_1_8[j]? = some w) (g : goodWord w = true) : w ∈ jall := jall_in (jin_8 (List.mem_of_getElem? hj)) g
theorem jn_8 {w : Cond} (j : Nat) (hj : tables_1_8[j]? = some w) (g : jnk w = true) : w ∈ jnest := List.mem_filter.mpr ⟨jin_8 (List.mem_of_getElem? hj), g⟩
theorem jin_9 {w : Cond} (h : w ∈ tables_1_9) : w ∈ lw_tbl := List.mem_append_right _ (List.mem_append_right _ (List.mem_append_right _ (List.mem_append_right _ (List.mem_append_right _ (List.mem_append_right _ (List.mem_append_right _ (List.mem_append_right _ (List.mem_append_right _ (h)))))))))
theorem jw_9 {w : Cond} (j : Nat) (hj : tables_1_9[j]? = some w) (g : goodWord w = true) : w ∈ jall := jall_in (jin_9 (List.mem_of_getElem? hj)) g
theorem jn_9 {w : Cond} (j : Nat) (hj : tables_1_9[j]? = some w) (g : jnk w = true) : w ∈ jnest := List.mem_filter.mpr ⟨jin_9 (List.mem_of_getElem? hj), g⟩
theorem js_1 {q : MethodName × Nat} (j : Nat) (hj : lw_privs_1[j]? = some q) : Cond.selects q.1.cls q.1 q.1 ∈ jall := by
  have h := List.mem_of_getElem? hj
  have h2 : q ∈ lw_privs := List.mem_append_left _ h
  exact jall_in (List.mem_append_left _ (List.mem_map.mpr ⟨q, h2, rfl⟩)) rfl
theorem js_2 {q : MethodName × Nat} (j : Nat) (hj : lw_privs_2[j]? = some q) : Cond.selects q.1.cls q.1 q.1 ∈ jall := by
  have h := List.mem_of_getElem? hj
  have h2 : q ∈ lw_privs := List.mem_append_right _ (List.mem_append_left _ h)
  exact jall_in (List.mem_append_left _ (List.mem_map.mpr ⟨q, h2, rfl⟩)) rfl
theorem js_3 {q : MethodName × Nat} (j : Nat) (hj : lw_privs_3[j]? = some q) : Cond.selects q.1.cls q.1 q.1 ∈ jall := by
  have h := List.mem_of_getElem? hj
  have h2 : q ∈ lw_privs := List.mem_append_right _ (List.mem_append_right _ (List.mem_append_left _ h))
  exact jall_in (List.mem_append_left _ (List.mem_map.mpr ⟨q, h2, rfl⟩)) rfl
theorem js_4 {q : MethodName × Nat} (j : Nat) (hj : lw_privs_4[j]? = some q) : Cond.selects q.1.cls q.1 q.1 ∈ jall := by
  have h := List.mem_of_getElem? hj
  have h2 : q ∈ lw_privs := List.mem_append_right _ (List.mem_append_right _ (List.mem_append_right _ (List.mem_append_left _ h)))
  exact jall_in (List.mem_append_left _ (List.mem_map.mpr ⟨q, h2, rfl⟩)) rfl
theorem js_5 {q : MethodName × Nat} (j : Nat) (hj : lw_privs_5[j]? = some q) : Cond.selects q.1.cls q.1 q.1 ∈ jall := by
  have h := List.mem_of_getElem? hj
  have h2 : q ∈ lw_privs := List.mem_append_right _ (List.mem_append_right _ (List.mem_append_right _ (List.mem_append_right _ (List.mem_append_left _ h))))
  exact jall_in (List.mem_append_left _ (List.mem_map.mpr ⟨q, h2, rfl⟩)) rfl
theorem js_6 {q : MethodName × Nat} (j : Nat) (hj : lw_privs_6[j]? = some q) : Cond.selects q.1.cls q.1 q.1 ∈ jall := by
  have h := List.mem_of_getElem? hj
  have h2 : q ∈ lw_privs := List.mem_append_right _ (List.mem_append_right _ (List.mem_append_right _ (List.mem_append_right _ (List.mem_append_right _ (List.mem_append_left _ h)))))
  exact jall_in (List.mem_append_left _ (List.mem_map.mpr ⟨q, h2, rfl⟩)) rfl
theorem js_7 {q : MethodName × Nat} (j : Nat) (hj : lw_privs_7[j]? = some q) : Cond.selects q.1.cls q.1 q.1 ∈ jall := by
  have h := List.mem_of_getElem? hj
  have h2 : q ∈ lw_privs := List.mem_append_right _ (List.mem_append_right _ (List.mem_append_right _ (List.mem_append_right _ (List.mem_append_right _ (List.mem_append_right _ (h))))))
  exact jall_in (List.mem_append_left _ (List.mem_map.mpr ⟨q, h2, rfl⟩)) rfl
def jtabs : Nat → List Cond
  | 1 => tables_1_1
  | 2 => tables_1_2
  | 3 => tables_1_3
  | 4 => tables_1_4
  | 5 => tables_1_5
  | 6 => tables_1_6
  | 7 => tables_1_7
  | 8 => tables_1_8
  | _ => tables_1_9
def jtw (q : Nat × Nat) : Option Cond := (jtabs q.1)[q.2]?
theorem jtw_in {js : List (Nat × Nat)} : ∀ w ∈ js.filterMap jtw, w ∈ lw_tbl := by
  intro w hw
  obtain ⟨q, -, hq⟩ := List.mem_filterMap.mp hw
  have h := List.mem_of_getElem? hq
  unfold jtabs at h
  split at h
  · exact jin_1 h
  · exact jin_2 h
  · exact jin_3 h
  · exact jin_4 h
  · exact jin_5 h
  · exact jin_6 h
  · exact jin_7 h
  · exact jin_8 h
  · exact jin_9 h
/-! what the printed functions and proofs stand on -/
theorem jcats {av : List Value} (h : av.all (fun v => v.category == 1) = true) : ∀ v ∈ av, v.category = 1 := fun v hv => by
  have := List.all_eq_true.mp h v hv
  simpa using this
theorem jno {α : Type} {P : Prop} {r : α} (h : (none : Option α) = some r) : P := by cases h
def jPR (h : jH) (v : Int32) : jR → jH → Prop := fun r h1 => r = .inl v ∧ h1 = h
def jPW (q : Int32 × jH) : jR → jH → Prop := fun r h1 => r = .inl q.1 ∧ h1 = q.2
def jPV (q : jH) : jR → jH → Prop := fun r h1 => r = .inl 0 ∧ h1 = q
def jPX (q : jR × jH) : jR → jH → Prop := fun r h1 => r = q.1 ∧ h1 = q.2
theorem jthen_r {q : jR × jH} {k : Int32 → jH → Option (jR × jH)} {e : Nat} (h : q.1 = .inr e) : jthen q k = some (.inr e, q.2) := by unfold jthen; rw [h]
theorem jthen_l {q : jR × jH} {k : Int32 → jH → Option (jR × jH)} {r : Int32} (h : q.1 = .inl r) : jthen q k = k r q.2 := by unfold jthen; rw [h]
theorem jinc {x a b : Int32} (h : a = b) : x + a = x + b := by rw [h]
def jushr (x y : Int32) : Int32 := (x.toUInt32 >>> (y.toUInt32 &&& Int32.toUInt32 31)).toInt32
def jnw (h : jH) (e : jE) : Option jH := some (jnew h e)
theorem jC_le {G : jG} {l : Launch} {M : jM} {D k mc ms : Nat} {av : List Value} {h : jH} {P : jR → jH → Prop} (hk : k ≤ D) (f : ∀ d, jC G l M (d + k) mc ms av h P) : jC G l M D mc ms av h P := by
  have := f (D - k)
  rwa [Nat.sub_add_cancel hk] at this
theorem jTh_of {own E : String} {ik ic : Nat} {js : List (Nat × Nat)} (h1 : vx_atS own ic E jnms = js.filterMap jtw) (h2 : Cond.classLink own ik E ∈ jall) (h3 : Cond.initialized E ∈ jall) (h4 : (vx_atS own ic E jnms).all (fun w => goodWord w || jnk w) = true ∧ (Cond.classLink own ik E :: Cond.initialized E :: vx_atS own ic E jnms).all vx_ot = true) (h5 : Bundle.fit E = true) : jTh own ik ic E := by
  refine ⟨h2, h3, fun w hw => ?_, List.all_eq_true.mp h4.2, h5⟩
  have h := List.all_eq_true.mp h4.1 w hw
  rw [h1] at hw
  rcases Bool.or_eq_true_iff.mp h with g | g
  · exact Or.inl (jall_in (jtw_in w hw) g)
  · exact Or.inr (List.mem_filter.mpr ⟨jtw_in w hw, g⟩)
/-- NoSuchElementException's own constructor names Throwable's chain by another entry -/
def jnsi : ByteArray := ⟨#[0x2a, 0x2b, 0xb7, 0x00, 0x0d, 0xb1]⟩
def jatN0 (own : String) (ic : Nat) (E : String) : List Cond :=
  Bundle.throwableAtoms ++ Bundle.throwableSAtoms ++ (Bundle.passSAtoms E "java/lang/RuntimeException" 13 jnsi ++ Bundle.chainSAtoms "java/lang/RuntimeException" ["java/lang/Exception"]) ++
  [.methodLink own ic (Bundle.initS E), .instantiable E 6, .castable E E, .selects E Bundle.tFill0 Bundle.tFill0, .selects E Bundle.tFill Bundle.tFill,
   .lays E Bundle.tN "cause" "Ljava/lang/Throwable;", .lays E Bundle.tN "stackTrace" Bundle.steD, .lays E Bundle.tN "suppressedExceptions" Bundle.listD, .lays E Bundle.tN "detailMessage" "Ljava/lang/String;",
   .isRef (.static Bundle.tN "UNASSIGNED_STACK" Bundle.steD), .isRef (.static Bundle.tN "SUPPRESSED_SENTINEL" Bundle.listD),
   .fieldLink Bundle.tN 198 Bundle.tN "backtrace" "Ljava/lang/Object;", .lays Bundle.tN Bundle.tN "backtrace" "Ljava/lang/Object;", .lays E Bundle.tN "backtrace" "Ljava/lang/Object;"]
def jatN (own : String) (ic : Nat) (E : String) : List Cond := (jatN0 own ic E).filter vx_no
def jThN (own : String) (ik ic : Nat) (E : String) : Prop := Cond.classLink own ik E ∈ jall ∧ Cond.initialized E ∈ jall ∧ (∀ w ∈ jatN own ic E, w ∈ jall ∨ w ∈ jnest) ∧ (∀ w ∈ Cond.classLink own ik E :: Cond.initialized E :: jatN own ic E, vx_ot w = true) ∧ Bundle.fit E = true
theorem jThN_of {own E : String} {ik ic : Nat} {js : List (Nat × Nat)} (h1 : jatN own ic E = js.filterMap jtw) (h2 : Cond.classLink own ik E ∈ jall) (h3 : Cond.initialized E ∈ jall) (h4 : (jatN own ic E).all (fun w => goodWord w || jnk w) = true ∧ (Cond.classLink own ik E :: Cond.initialized E :: jatN own ic E).all vx_ot = true) (h5 : Bundle.fit E = true) : jThN own ik ic E := by
  refine ⟨h2, h3, fun w hw => ?_, List.all_eq_true.mp h4.2, h5⟩
  have h := List.all_eq_true.mp h4.1 w hw
  rw [h1] at hw
  rcases Bool.or_eq_true_iff.mp h with g | g
  · exact Or.inl (jall_in (jtw_in w hw) g)
  · exact Or.inr (List.mem_filter.mpr ⟨jtw_in w hw, g⟩)
/-! texts: length() and charAt -/
def jtb (t : Nat) : List Int32 := (jtxt.getD t ("", 0, "", [])).2.2.2
def jtl (t : Nat) : Option Int32 := if t < 36 then some (nI (jtb t).length) else none
def jtc (t : Nat) (i : Int32) : Option Int32 := if i < 0 ∨ (jtb t).length ≤ i.toNatClampNeg then none else some ((jtb t).getD i.toNatClampNeg 0)
section JG
variable {G : jG} {l : Launch} {M : jM} {dep : Nat} {X : jX} {h h1 : jH} {kc ks pc : Nat} {L : List (Option Value)} {st : List Value}
theorem jr_newE (K : jOK G l M dep X) {index ci N : Nat} {fs : List Value} (hd : decode M.2.1 pc = .ok (.new index, 3)) (hf : jFn M.1.cls index ci N fs) (e : jnw h (.inl (ci, fs)) = some h1) (kk : jJ G X h1 kc ks (pc + 3) L (.ref h.1 :: st)) : jJ G X h (kc + 1) (ks + N) pc L st := by
  cases e
  exact jr_new K hd hf kk
theorem jr_newIE (K : jOK G l M dep X) {N : Nat} {n : Int32} (hd : decode M.2.1 pc = .ok (.newarray .int, 2)) (hw : Cond.arrayClass .int ∈ jall) (hn : ¬ n < 0) (hN : n.toNatClampNeg = N) (hN2 : N * 4 ≤ 536870912) (e : jnw h (.inr (.inl (0, N, fun _ => 0))) = some h1) (kk : jJ G X h1 kc ks (pc + 2) L (.ref h.1 :: st)) : jJ G X h (kc + 1) (ks + N) pc L (.int n :: st) := by
  cases e
  exact jr_newI K hd hw hn hN hN2 kk
theorem jr_newBE (K : jOK G l M dep X) {N : Nat} {n : Int32} (hd : decode M.2.1 pc = .ok (.newarray .byte, 2)) (hw : Cond.arrayClass .byte ∈ jall) (hn : ¬ n < 0) (hN : n.toNatClampNeg = N) (hN2 : N * 1 ≤ 536870912) (e : jnw h (.inr (.inl (1, N, fun _ => 0))) = some h1) (kk : jJ G X h1 kc ks (pc + 2) L (.ref h.1 :: st)) : jJ G X h (kc + 1) (ks + N) pc L (.int n :: st) := by
  cases e
  exact jr_newB K hd hw hn hN hN2 kk
theorem jr_newZE (K : jOK G l M dep X) {N : Nat} {n : Int32} (hd : decode M.2.1 pc = .ok (.newarray .boolean, 2)) (hw : Cond.arrayClass .boolean ∈ jall) (hn : ¬ n < 0) (hN : n.toNatClampNeg = N) (hN2 : N * 1 ≤ 536870912) (e : jnw h (.inr (.inl (2, N, fun _ => 0))) = some h1) (kk : jJ G X h1 kc ks (pc + 2) L (.ref h.1 :: st)) : jJ G X h (kc + 1) (ks + N) pc L (.int n :: st) := by
  cases e
  exact jr_newZ K hd hw hn hN hN2 kk
theorem jr_newQE (K : jOK G l M dep X) {N index : Nat} {n : Int32} (hd : decode M.2.1 pc = .ok (.anewarray index, 3)) (hw : Cond.classLink M.1.cls index "RodRings$Rod" ∈ jall) (hn : ¬ n < 0) (hN : n.toNatClampNeg = N) (hN2 : N * 4 ≤ 536870912) (e : jnw h (.inr (.inr (.inl (N, fun _ => none)))) = some h1) (kk : jJ G X h1 kc ks (pc + 3) L (.ref h.1 :: st)) : jJ G X h (kc + 1) (ks + N) pc L (.int n :: st) := by
  cases e
  exact jr_newQ K hd hw hn hN hN2 kk
end JG
end
