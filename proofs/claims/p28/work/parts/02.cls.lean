def RX0 : String := "RodRings$Acts"
def TX0 : u_T := fun k => match k with
  | 0 => ("RodRings$Acts", "before", "[LRodRings$Rod;", true)
  | 1 => ("RodRings$Acts", "next", "I", false)
  | _ => ("RodRings$Acts", "size", "I", false)
def tyX0 : Nat → FieldType := fun k => match k with
  | 0 => .array (.object "RodRings$Rod")
  | 1 => .int
  | _ => .int
abbrev wsX00 : List Cond := u_ws RX0 TX0 3
theorem nmX0 : ∀ a, a < 3 → ∀ b, b < 3 → a ≠ b → (TX0 a).2.1 ≠ (TX0 b).2.1 := by decide +kernel
theorem tyX0_ok : ∀ k, k < 3 → parseFieldDescriptor (TX0 k).2.2.1 = some (tyX0 k) := by decide +kernel
abbrev cX0_init : ByteArray := prog_2_method_1_code
def yX0_init : MethodName := ⟨RX0, "<init>", "()V"⟩
abbrev cX0_remember : ByteArray := prog_2_method_2_code
def yX0_remember : MethodName := ⟨RX0, "remember", "(LRodRings$Rod;)V"⟩
abbrev cX0_takeBack : ByteArray := prog_2_method_3_code
def yX0_takeBack : MethodName := ⟨RX0, "takeBack", "(LRodRings$Rod;)Z"⟩
abbrev cX0_forget : ByteArray := prog_2_method_4_code
def yX0_forget : MethodName := ⟨RX0, "forget", "()V"⟩
def RX1 : String := "RodRings$Clock"
def TX1 : u_T := fun k => match k with
  | 0 => ("RodRings$Clock", "law", "LRodRings$Law;", true)
  | _ => ("RodRings$Clock", "draft", "LRodRings$Rod;", true)
def tyX1 : Nat → FieldType := fun k => match k with
  | 0 => .object "RodRings$Law"
  | _ => .object "RodRings$Rod"
abbrev wsX10 : List Cond := u_ws RX1 TX1 2
theorem nmX1 : ∀ a, a < 2 → ∀ b, b < 2 → a ≠ b → (TX1 a).2.1 ≠ (TX1 b).2.1 := by decide +kernel
theorem tyX1_ok : ∀ k, k < 2 → parseFieldDescriptor (TX1 k).2.2.1 = some (tyX1 k) := by decide +kernel
abbrev cX1_init : ByteArray := prog_3_method_1_code
def yX1_init : MethodName := ⟨RX1, "<init>", "(LRodRings$Law;LRodRings$Rod;)V"⟩
abbrev cX1_run : ByteArray := prog_3_method_2_code
def yX1_run : MethodName := ⟨RX1, "run", "(LRodRings$Rod;I)I"⟩
abbrev cX1_tryHours : ByteArray := prog_3_method_3_code
def yX1_tryHours : MethodName := ⟨RX1, "tryHours", "(LRodRings$Rod;II)V"⟩
abbrev cX1_goAhead : ByteArray := prog_3_method_4_code
def yX1_goAhead : MethodName := ⟨RX1, "goAhead", "(LRodRings$Rod;I)V"⟩
abbrev cX1_firstPale : ByteArray := prog_3_method_5_code
def yX1_firstPale : MethodName := ⟨RX1, "firstPale", "(LRodRings$Rod;)I"⟩
abbrev cX1_oddsToStay : ByteArray := prog_3_method_6_code
def yX1_oddsToStay : MethodName := ⟨RX1, "oddsToStay", "(LRodRings$Rod;II)I"⟩
abbrev cX1_isSomePale : ByteArray := prog_3_method_7_code
def yX1_isSomePale : MethodName := ⟨RX1, "isSomePale", "(LRodRings$Rod;)Z"⟩
abbrev cX1_fadeAll : ByteArray := prog_3_method_8_code
def yX1_fadeAll : MethodName := ⟨RX1, "fadeAll", "(LRodRings$Rod;)V"⟩
abbrev cX1_catchSome : ByteArray := prog_3_method_9_code
def yX1_catchSome : MethodName := ⟨RX1, "catchSome", "(LRodRings$Rod;)I"⟩
abbrev cX1_dropSome : ByteArray := prog_3_method_10_code
def yX1_dropSome : MethodName := ⟨RX1, "dropSome", "(LRodRings$Rod;)I"⟩
abbrev cX1_draw : ByteArray := prog_3_method_11_code
def yX1_draw : MethodName := ⟨RX1, "draw", "(LRodRings$Rod;)I"⟩
abbrev cX1_turn : ByteArray := prog_3_method_12_code
def yX1_turn : MethodName := ⟨RX1, "turn", "(LRodRings$Rod;)V"⟩
def RX2 : String := "RodRings$Law"
def TX2 : u_T := fun k => match k with
  | 0 => ("RodRings$Law", "kinds", "[I", true)
  | 1 => ("RodRings$Law", "amounts", "[I", true)
  | 2 => ("RodRings$Law", "stops", "[I", true)
  | 3 => ("RodRings$Law", "codes", "[I", true)
  | 4 => ("RodRings$Law", "stack", "[I", true)
  | 5 => ("RodRings$Law", "depth", "I", false)
  | 6 => ("RodRings$Law", "size", "I", false)
  | 7 => ("RodRings$Law", "told", "Z", false)
  | _ => ("RodRings$Law", "lines", "I", false)
def tyX2 : Nat → FieldType := fun k => match k with
  | 0 => .array .int
  | 1 => .array .int
  | 2 => .array .int
  | 3 => .array .int
  | 4 => .array .int
  | 5 => .int
  | 6 => .int
  | 7 => .boolean
  | _ => .int
abbrev wsX20 : List Cond := u_ws RX2 TX2 9
theorem nmX2 : ∀ a, a < 9 → ∀ b, b < 9 → a ≠ b → (TX2 a).2.1 ≠ (TX2 b).2.1 := by decide +kernel
theorem tyX2_ok : ∀ k, k < 9 → parseFieldDescriptor (TX2 k).2.2.1 = some (tyX2 k) := by decide +kernel
abbrev cX2_init : ByteArray := prog_4_method_1_code
def yX2_init : MethodName := ⟨RX2, "<init>", "()V"⟩
abbrev cX2_begin : ByteArray := prog_4_method_2_code
def yX2_begin : MethodName := ⟨RX2, "begin", "()V"⟩
abbrev cX2_copyFrom : ByteArray := prog_4_method_3_code
def yX2_copyFrom : MethodName := ⟨RX2, "copyFrom", "(LRodRings$Law;)V"⟩
abbrev cX2_addLine : ByteArray := prog_4_method_4_code
def yX2_addLine : MethodName := ⟨RX2, "addLine", "(II)V"⟩
abbrev cX2_addCode : ByteArray := prog_4_method_5_code
def yX2_addCode : MethodName := ⟨RX2, "addCode", "(I)V"⟩
abbrev cX2_amount : ByteArray := prog_4_method_6_code
def yX2_amount : MethodName := ⟨RX2, "amount", "(ILRodRings$Rod;I)I"⟩
abbrev cX2_untoldAmount : ByteArray := prog_4_method_7_code
def yX2_untoldAmount : MethodName := ⟨RX2, "untoldAmount", "(ILRodRings$Rod;I)I"⟩
abbrev cX2_holds : ByteArray := prog_4_method_8_code
def yX2_holds : MethodName := ⟨RX2, "holds", "(ILRodRings$Rod;I)Z"⟩
abbrev cX2_isValue : ByteArray := prog_4_method_9_code
def yX2_isValue : MethodName := ⟨RX2, "isValue", "(I)Z"⟩
abbrev cX2_push : ByteArray := prog_4_method_10_code
def yX2_push : MethodName := ⟨RX2, "push", "(I)V"⟩
abbrev cX2_pop : ByteArray := prog_4_method_11_code
def yX2_pop : MethodName := ⟨RX2, "pop", "()I"⟩
abbrev cX2_value : ByteArray := prog_4_method_12_code
def yX2_value : MethodName := ⟨RX2, "value", "(ILRodRings$Rod;I)I"⟩
abbrev cX2_joined : ByteArray := prog_4_method_13_code
def yX2_joined : MethodName := ⟨RX2, "joined", "(III)I"⟩
def RX3 : String := "RodRings$LawReader"
def TX3 : u_T := fun k => match k with
  | 0 => ("RodRings$LineReader", "tape", "LRodRings$Tape;", true)
  | 1 => ("RodRings$LineReader", "mostLines", "I", true)
  | _ => ("RodRings$LawReader", "draft", "LRodRings$Law;", true)
def tyX3 : Nat → FieldType := fun k => match k with
  | 0 => .object "RodRings$Tape"
  | 1 => .int
  | _ => .object "RodRings$Law"
abbrev wsX30 : List Cond := u_ws RX3 TX3 3
theorem nmX3 : ∀ a, a < 3 → ∀ b, b < 3 → a ≠ b → (TX3 a).2.1 ≠ (TX3 b).2.1 := by decide +kernel
theorem tyX3_ok : ∀ k, k < 3 → parseFieldDescriptor (TX3 k).2.2.1 = some (tyX3 k) := by decide +kernel
abbrev cX3_init : ByteArray := prog_5_method_1_code
def yX3_init : MethodName := ⟨RX3, "<init>", "(LRodRings$Tape;LRodRings$Law;)V"⟩
abbrev cX3_readLine : ByteArray := prog_5_method_2_code
def yX3_readLine : MethodName := ⟨RX3, "readLine", "()Z"⟩
abbrev cX3_readCondition : ByteArray := prog_5_method_3_code
def yX3_readCondition : MethodName := ⟨RX3, "readCondition", "(I)Z"⟩
abbrev cX3_readAtom : ByteArray := prog_5_method_4_code
def yX3_readAtom : MethodName := ⟨RX3, "readAtom", "(I)Z"⟩
abbrev cX3_readComparison : ByteArray := prog_5_method_5_code
def yX3_readComparison : MethodName := ⟨RX3, "readComparison", "()Z"⟩
abbrev cX3_readSum : ByteArray := prog_5_method_6_code
def yX3_readSum : MethodName := ⟨RX3, "readSum", "()Z"⟩
def RX4 : String := "RodRings$LineReader"
def TX4 : u_T := fun k => match k with
  | _ => ("", "", "", false)
def tyX4 : Nat → FieldType := fun k => match k with
  | _ => .int
abbrev wsX40 : List Cond := u_ws RX4 TX4 0
theorem nmX4 : ∀ a, a < 0 → ∀ b, b < 0 → a ≠ b → (TX4 a).2.1 ≠ (TX4 b).2.1 := by decide +kernel
theorem tyX4_ok : ∀ k, k < 0 → parseFieldDescriptor (TX4 k).2.2.1 = some (tyX4 k) := by decide +kernel
abbrev cX4_init : ByteArray := prog_6_method_1_code
def yX4_init : MethodName := ⟨RX4, "<init>", "(LRodRings$Tape;I)V"⟩
abbrev cX4_read : ByteArray := prog_6_method_3_code
def yX4_read : MethodName := ⟨RX4, "read", "()I"⟩
def RX5 : String := "RodRings$Log"
def TX5 : u_T := fun k => match k with
  | 0 => ("RodRings$Log", "rows", "[I", true)
  | 1 => ("RodRings$Log", "size", "I", false)
  | _ => ("RodRings$Log", "next", "I", false)
def tyX5 : Nat → FieldType := fun k => match k with
  | 0 => .array .int
  | 1 => .int
  | _ => .int
abbrev wsX50 : List Cond := u_ws RX5 TX5 3
theorem nmX5 : ∀ a, a < 3 → ∀ b, b < 3 → a ≠ b → (TX5 a).2.1 ≠ (TX5 b).2.1 := by decide +kernel
theorem tyX5_ok : ∀ k, k < 3 → parseFieldDescriptor (TX5 k).2.2.1 = some (tyX5 k) := by decide +kernel
abbrev cX5_init : ByteArray := prog_7_method_1_code
def yX5_init : MethodName := ⟨RX5, "<init>", "()V"⟩
abbrev cX5_copyFrom : ByteArray := prog_7_method_2_code
def yX5_copyFrom : MethodName := ⟨RX5, "copyFrom", "(LRodRings$Log;)V"⟩
abbrev cX5_add : ByteArray := prog_7_method_3_code
def yX5_add : MethodName := ⟨RX5, "add", "(LRodRings$Rod;III)V"⟩
abbrev cX5_read : ByteArray := prog_7_method_4_code
def yX5_read : MethodName := ⟨RX5, "read", "(II)I"⟩
abbrev cX5_rowsOf : ByteArray := prog_7_method_5_code
def yX5_rowsOf : MethodName := ⟨RX5, "rowsOf", "(I)I"⟩
abbrev cX5_latestPlace : ByteArray := prog_7_method_6_code
def yX5_latestPlace : MethodName := ⟨RX5, "latestPlace", "(I)I"⟩
def RX6 : String := "RodRings$Looks"
def TX6 : u_T := fun k => match k with
  | _ => ("", "", "", false)
def tyX6 : Nat → FieldType := fun k => match k with
  | _ => .int
abbrev wsX60 : List Cond := u_ws RX6 TX6 0
theorem nmX6 : ∀ a, a < 0 → ∀ b, b < 0 → a ≠ b → (TX6 a).2.1 ≠ (TX6 b).2.1 := by decide +kernel
theorem tyX6_ok : ∀ k, k < 0 → parseFieldDescriptor (TX6 k).2.2.1 = some (tyX6 k) := by decide +kernel
abbrev cX6_hangsBy : ByteArray := prog_8_method_2_code
def yX6_hangsBy : MethodName := ⟨RX6, "hangsBy", "(LRodRings$Rod;I)I"⟩
abbrev cX6_share : ByteArray := prog_8_method_3_code
def yX6_share : MethodName := ⟨RX6, "share", "(LRodRings$Rod;I)I"⟩
abbrev cX6_outOfOrder : ByteArray := prog_8_method_4_code
def yX6_outOfOrder : MethodName := ⟨RX6, "outOfOrder", "(LRodRings$Rod;)I"⟩
abbrev cX6_isInOrder : ByteArray := prog_8_method_5_code
def yX6_isInOrder : MethodName := ⟨RX6, "isInOrder", "(LRodRings$Rod;I)Z"⟩
abbrev cX6_tightest : ByteArray := prog_8_method_6_code
def yX6_tightest : MethodName := ⟨RX6, "tightest", "(LRodRings$Rod;I)I"⟩
abbrev cX6_spareCloth : ByteArray := prog_8_method_7_code
def yX6_spareCloth : MethodName := ⟨RX6, "spareCloth", "(LRodRings$Rod;)I"⟩
abbrev cX6_tautRings : ByteArray := prog_8_method_8_code
def yX6_tautRings : MethodName := ⟨RX6, "tautRings", "(LRodRings$Rod;)I"⟩
abbrev cX6_litRings : ByteArray := prog_8_method_9_code
def yX6_litRings : MethodName := ⟨RX6, "litRings", "(LRodRings$Rod;I)I"⟩
abbrev cX6_sunniest : ByteArray := prog_8_method_10_code
def yX6_sunniest : MethodName := ⟨RX6, "sunniest", "(LRodRings$Rod;)I"⟩
abbrev cX6_litHours : ByteArray := prog_8_method_11_code
def yX6_litHours : MethodName := ⟨RX6, "litHours", "(LRodRings$Rod;I)I"⟩
abbrev cX6_evenLength : ByteArray := prog_8_method_12_code
def yX6_evenLength : MethodName := ⟨RX6, "evenLength", "(LRodRings$Rod;II)I"⟩
abbrev cX6_enviousPairs : ByteArray := prog_8_method_13_code
def yX6_enviousPairs : MethodName := ⟨RX6, "enviousPairs", "(LRodRings$Rod;)I"⟩
abbrev cX6_restingChoices : ByteArray := prog_8_method_14_code
def yX6_restingChoices : MethodName := ⟨RX6, "restingChoices", "(LRodRings$Rod;I)I"⟩
abbrev cX6_gain : ByteArray := prog_8_method_15_code
def yX6_gain : MethodName := ⟨RX6, "gain", "(LRodRings$Rod;II)I"⟩
abbrev cX6_largestBunch : ByteArray := prog_8_method_16_code
def yX6_largestBunch : MethodName := ⟨RX6, "largestBunch", "(LRodRings$Rod;)I"⟩
abbrev cX6_thickBeyondJoin : ByteArray := prog_8_method_17_code
def yX6_thickBeyondJoin : MethodName := ⟨RX6, "thickBeyondJoin", "(LRodRings$Rod;)I"⟩
abbrev cX6_likePairs : ByteArray := prog_8_method_18_code
def yX6_likePairs : MethodName := ⟨RX6, "likePairs", "(LRodRings$Rod;)I"⟩
def RX7 : String := "RodRings$Pulls"
def TX7 : u_T := fun k => match k with
  | 0 => ("RodRings$Pulls", "tape", "LRodRings$Tape;", true)
  | 1 => ("RodRings$Pulls", "draft", "LRodRings$Rod;", true)
  | 2 => ("RodRings$Pulls", "fitting", "[I", true)
  | 3 => ("RodRings$Pulls", "parts", "[I", true)
  | 4 => ("RodRings$Pulls", "fits", "I", false)
  | 5 => ("RodRings$Pulls", "steps", "I", false)
  | _ => ("RodRings$Pulls", "mover", "I", false)
def tyX7 : Nat → FieldType := fun k => match k with
  | 0 => .object "RodRings$Tape"
  | 1 => .object "RodRings$Rod"
  | 2 => .array .int
  | 3 => .array .int
  | 4 => .int
  | 5 => .int
  | _ => .int
abbrev wsX70 : List Cond := u_ws RX7 TX7 7
theorem nmX7 : ∀ a, a < 7 → ∀ b, b < 7 → a ≠ b → (TX7 a).2.1 ≠ (TX7 b).2.1 := by decide +kernel
theorem tyX7_ok : ∀ k, k < 7 → parseFieldDescriptor (TX7 k).2.2.1 = some (tyX7 k) := by decide +kernel
abbrev cX7_init : ByteArray := prog_9_method_1_code
def yX7_init : MethodName := ⟨RX7, "<init>", "(LRodRings$Tape;LRodRings$Rod;)V"⟩
abbrev cX7_shadiest : ByteArray := prog_9_method_2_code
def yX7_shadiest : MethodName := ⟨RX7, "shadiest", "(LRodRings$Rod;)I"⟩
abbrev cX7_seekShade : ByteArray := prog_9_method_3_code
def yX7_seekShade : MethodName := ⟨RX7, "seekShade", "(LRodRings$Rod;I)V"⟩
abbrev cX7_stepsToShade : ByteArray := prog_9_method_4_code
def yX7_stepsToShade : MethodName := ⟨RX7, "stepsToShade", "(LRodRings$Rod;II)I"⟩
abbrev cX7_fewestFreed : ByteArray := prog_9_method_5_code
def yX7_fewestFreed : MethodName := ⟨RX7, "fewestFreed", "(LRodRings$Rod;IZI)I"⟩
abbrev cX7_farWith : ByteArray := prog_9_method_6_code
def yX7_farWith : MethodName := ⟨RX7, "farWith", "(LRodRings$Rod;IIZI)I"⟩
abbrev cX7_areRows : ByteArray := prog_9_method_7_code
def yX7_areRows : MethodName := ⟨RX7, "areRows", "(I)Z"⟩
abbrev cX7_seekSnags : ByteArray := prog_9_method_8_code
def yX7_seekSnags : MethodName := ⟨RX7, "seekSnags", "(LRodRings$Rod;)V"⟩
abbrev cX7_isFitting : ByteArray := prog_9_method_9_code
def yX7_isFitting : MethodName := ⟨RX7, "isFitting", "(LRodRings$Rod;I)Z"⟩
abbrev cX7_inAllFitting : ByteArray := prog_9_method_10_code
def yX7_inAllFitting : MethodName := ⟨RX7, "inAllFitting", "()I"⟩
abbrev cX7_partingPull : ByteArray := prog_9_method_11_code
def yX7_partingPull : MethodName := ⟨RX7, "partingPull", "(LRodRings$Rod;)I"⟩
abbrev cX7_greatestPart : ByteArray := prog_9_method_12_code
def yX7_greatestPart : MethodName := ⟨RX7, "greatestPart", "(LRodRings$Rod;I)I"⟩
def RX8 : String := "RodRings$Rod"
def TX8 : u_T := fun k => match k with
  | 0 => ("RodRings$Rod", "place", "[I", true)
  | 1 => ("RodRings$Rod", "cloth", "[I", true)
  | 2 => ("RodRings$Rod", "fade", "[I", true)
  | 3 => ("RodRings$Rod", "length", "[I", true)
  | 4 => ("RodRings$Rod", "log", "LRodRings$Log;", true)
  | 5 => ("RodRings$Rod", "count", "I", false)
  | 6 => ("RodRings$Rod", "thick", "I", false)
  | 7 => ("RodRings$Rod", "wood", "I", false)
  | 8 => ("RodRings$Rod", "hooked", "I", false)
  | 9 => ("RodRings$Rod", "snagged", "I", false)
  | 10 => ("RodRings$Rod", "chairs", "I", false)
  | 11 => ("RodRings$Rod", "join", "I", false)
  | 12 => ("RodRings$Rod", "wide", "I", false)
  | 13 => ("RodRings$Rod", "hour", "I", false)
  | 14 => ("RodRings$Rod", "day", "I", false)
  | 15 => ("RodRings$Rod", "noise", "I", false)
  | 16 => ("RodRings$Rod", "seed", "I", false)
  | _ => ("RodRings$Rod", "texts", "I", false)
def tyX8 : Nat → FieldType := fun k => match k with
  | 0 => .array .int
  | 1 => .array .int
  | 2 => .array .int
  | 3 => .array .int
  | 4 => .object "RodRings$Log"
  | 5 => .int
  | 6 => .int
  | 7 => .int
  | 8 => .int
  | 9 => .int
  | 10 => .int
  | 11 => .int
  | 12 => .int
  | 13 => .int
  | 14 => .int
  | 15 => .int
  | 16 => .int
  | _ => .int
abbrev wsX80 : List Cond := u_ws RX8 TX8 18
theorem nmX8 : ∀ a, a < 18 → ∀ b, b < 18 → a ≠ b → (TX8 a).2.1 ≠ (TX8 b).2.1 := by decide +kernel
theorem tyX8_ok : ∀ k, k < 18 → parseFieldDescriptor (TX8 k).2.2.1 = some (tyX8 k) := by decide +kernel
abbrev cX8_init : ByteArray := prog_10_method_1_code
def yX8_init : MethodName := ⟨RX8, "<init>", "()V"⟩
abbrev cX8_copyFrom : ByteArray := prog_10_method_2_code
def yX8_copyFrom : MethodName := ⟨RX8, "copyFrom", "(LRodRings$Rod;)V"⟩
abbrev cX8_hangAs : ByteArray := prog_10_method_3_code
def yX8_hangAs : MethodName := ⟨RX8, "hangAs", "(LRodRings$Rod;)V"⟩
abbrev cX8_nearestNew : ByteArray := prog_10_method_4_code
def yX8_nearestNew : MethodName := ⟨RX8, "nearestNew", "()I"⟩
abbrev cX8_farthestNew : ByteArray := prog_10_method_5_code
def yX8_farthestNew : MethodName := ⟨RX8, "farthestNew", "()I"⟩
abbrev cX8_add : ByteArray := prog_10_method_6_code
def yX8_add : MethodName := ⟨RX8, "add", "(II)V"⟩
abbrev cX8_gap : ByteArray := prog_10_method_7_code
def yX8_gap : MethodName := ⟨RX8, "gap", "(II)I"⟩
abbrev cX8_isLit : ByteArray := prog_10_method_8_code
def yX8_isLit : MethodName := ⟨RX8, "isLit", "(II)Z"⟩
abbrev cX8_unhooked : ByteArray := prog_10_method_9_code
def yX8_unhooked : MethodName := ⟨RX8, "unhooked", "()I"⟩
abbrev cX8_allFades : ByteArray := prog_10_method_10_code
def yX8_allFades : MethodName := ⟨RX8, "allFades", "()I"⟩
abbrev cX8_shadow : ByteArray := prog_10_method_11_code
def yX8_shadow : MethodName := ⟨RX8, "shadow", "()I"⟩
abbrev cX8_shadedChairs : ByteArray := prog_10_method_12_code
def yX8_shadedChairs : MethodName := ⟨RX8, "shadedChairs", "()I"⟩
abbrev cX8_goers : ByteArray := prog_10_method_13_code
def yX8_goers : MethodName := ⟨RX8, "goers", "(IZ)I"⟩
abbrev cX8_goTogether : ByteArray := prog_10_method_14_code
def yX8_goTogether : MethodName := ⟨RX8, "goTogether", "(IZ)Z"⟩
abbrev cX8_isStopped : ByteArray := prog_10_method_15_code
def yX8_isStopped : MethodName := ⟨RX8, "isStopped", "(IZ)Z"⟩
abbrev cX8_move : ByteArray := prog_10_method_16_code
def yX8_move : MethodName := ⟨RX8, "move", "(IZI)I"⟩
def RX9 : String := "RodRings$RodReader"
def TX9 : u_T := fun k => match k with
  | 0 => ("RodRings$LineReader", "tape", "LRodRings$Tape;", true)
  | 1 => ("RodRings$LineReader", "mostLines", "I", true)
  | _ => ("RodRings$RodReader", "draft", "LRodRings$Rod;", true)
def tyX9 : Nat → FieldType := fun k => match k with
  | 0 => .object "RodRings$Tape"
  | 1 => .int
  | _ => .object "RodRings$Rod"
abbrev wsX90 : List Cond := u_ws RX9 TX9 3
theorem nmX9 : ∀ a, a < 3 → ∀ b, b < 3 → a ≠ b → (TX9 a).2.1 ≠ (TX9 b).2.1 := by decide +kernel
theorem tyX9_ok : ∀ k, k < 3 → parseFieldDescriptor (TX9 k).2.2.1 = some (tyX9 k) := by decide +kernel
abbrev cX9_init : ByteArray := prog_11_method_1_code
def yX9_init : MethodName := ⟨RX9, "<init>", "(LRodRings$Tape;LRodRings$Rod;)V"⟩
abbrev cX9_readLine : ByteArray := prog_11_method_2_code
def yX9_readLine : MethodName := ⟨RX9, "readLine", "()Z"⟩
abbrev cX9_beginsLine : ByteArray := prog_11_method_3_code
def yX9_beginsLine : MethodName := ⟨RX9, "beginsLine", "(I)Z"⟩
abbrev cX9_readNumber : ByteArray := prog_11_method_4_code
def yX9_readNumber : MethodName := ⟨RX9, "readNumber", "(I)I"⟩
abbrev cX9_keepNumber : ByteArray := prog_11_method_5_code
def yX9_keepNumber : MethodName := ⟨RX9, "keepNumber", "(II)V"⟩
abbrev cX9_readRing : ByteArray := prog_11_method_6_code
def yX9_readRing : MethodName := ⟨RX9, "readRing", "()Z"⟩
abbrev cX9_readMore : ByteArray := prog_11_method_7_code
def yX9_readMore : MethodName := ⟨RX9, "readMore", "(I[III)Z"⟩
def RX10 : String := "RodRings$Tape"
def TX10 : u_T := fun k => match k with
  | 0 => ("RodRings$Tape", "bytes", "[B", true)
  | 1 => ("RodRings$Tape", "kinds", "[I", true)
  | 2 => ("RodRings$Tape", "starts", "[I", true)
  | 3 => ("RodRings$Tape", "numbers", "[I", true)
  | 4 => ("RodRings$Tape", "things", "I", false)
  | 5 => ("RodRings$Tape", "next", "I", false)
  | _ => ("RodRings$Tape", "length", "I", false)
def tyX10 : Nat → FieldType := fun k => match k with
  | 0 => .array .byte
  | 1 => .array .int
  | 2 => .array .int
  | 3 => .array .int
  | 4 => .int
  | 5 => .int
  | _ => .int
abbrev wsX100 : List Cond := u_ws RX10 TX10 7
theorem nmX10 : ∀ a, a < 7 → ∀ b, b < 7 → a ≠ b → (TX10 a).2.1 ≠ (TX10 b).2.1 := by decide +kernel
theorem tyX10_ok : ∀ k, k < 7 → parseFieldDescriptor (TX10 k).2.2.1 = some (tyX10 k) := by decide +kernel
abbrev cX10_init : ByteArray := prog_12_method_1_code
def yX10_init : MethodName := ⟨RX10, "<init>", "()V"⟩
abbrev cX10_hasRoom : ByteArray := prog_12_method_2_code
def yX10_hasRoom : MethodName := ⟨RX10, "hasRoom", "()Z"⟩
abbrev cX10_put : ByteArray := prog_12_method_3_code
def yX10_put : MethodName := ⟨RX10, "put", "(I)V"⟩
abbrev cX10_at : ByteArray := prog_12_method_4_code
def yX10_at : MethodName := ⟨RX10, "at", "(I)I"⟩
abbrev cX10_scan : ByteArray := prog_12_method_5_code
def yX10_scan : MethodName := ⟨RX10, "scan", "()V"⟩
abbrev cX10_scanThing : ByteArray := prog_12_method_6_code
def yX10_scanThing : MethodName := ⟨RX10, "scanThing", "(I)I"⟩
abbrev cX10_endOfRow : ByteArray := prog_12_method_7_code
def yX10_endOfRow : MethodName := ⟨RX10, "endOfRow", "(III)I"⟩
abbrev cX10_numberBetween : ByteArray := prog_12_method_8_code
def yX10_numberBetween : MethodName := ⟨RX10, "numberBetween", "(II)I"⟩
abbrev cX10_wordBetween : ByteArray := prog_12_method_9_code
def yX10_wordBetween : MethodName := ⟨RX10, "wordBetween", "(II)I"⟩
abbrev cX10_standsAt : ByteArray := prog_12_method_10_code
def yX10_standsAt : MethodName := ⟨RX10, "standsAt", "(III)Z"⟩
abbrev cX10_kind : ByteArray := prog_12_method_11_code
def yX10_kind : MethodName := ⟨RX10, "kind", "()I"⟩
abbrev cX10_start : ByteArray := prog_12_method_12_code
def yX10_start : MethodName := ⟨RX10, "start", "()I"⟩
abbrev cX10_skip : ByteArray := prog_12_method_13_code
def yX10_skip : MethodName := ⟨RX10, "skip", "()V"⟩
abbrev cX10_take : ByteArray := prog_12_method_14_code
def yX10_take : MethodName := ⟨RX10, "take", "(I)Z"⟩
abbrev cX10_takeNumber : ByteArray := prog_12_method_15_code
def yX10_takeNumber : MethodName := ⟨RX10, "takeNumber", "(II)I"⟩
def RX11 : String := "RodRings"
def TX11 : u_T := fun k => match k with
  | 0 => ("RodRings", "tape", "LRodRings$Tape;", true)
  | 1 => ("RodRings", "rod", "LRodRings$Rod;", true)
  | 2 => ("RodRings", "law", "LRodRings$Law;", true)
  | 3 => ("RodRings", "acts", "LRodRings$Acts;", true)
  | 4 => ("RodRings", "draft", "LRodRings$Rod;", true)
  | 5 => ("RodRings", "draftLaw", "LRodRings$Law;", true)
  | 6 => ("RodRings", "rodReader", "LRodRings$RodReader;", true)
  | 7 => ("RodRings", "lawReader", "LRodRings$LawReader;", true)
  | 8 => ("RodRings", "clock", "LRodRings$Clock;", true)
  | 9 => ("RodRings", "pulls", "LRodRings$Pulls;", true)
  | 10 => ("RodRings", "keptRod", "LRodRings$Rod;", false)
  | 11 => ("RodRings", "keptLaw", "LRodRings$Law;", false)
  | _ => ("RodRings", "wrongByte", "I", false)
def tyX11 : Nat → FieldType := fun k => match k with
  | 0 => .object "RodRings$Tape"
  | 1 => .object "RodRings$Rod"
  | 2 => .object "RodRings$Law"
  | 3 => .object "RodRings$Acts"
  | 4 => .object "RodRings$Rod"
  | 5 => .object "RodRings$Law"
  | 6 => .object "RodRings$RodReader"
  | 7 => .object "RodRings$LawReader"
  | 8 => .object "RodRings$Clock"
  | 9 => .object "RodRings$Pulls"
  | 10 => .object "RodRings$Rod"
  | 11 => .object "RodRings$Law"
  | _ => .int
abbrev wsX110 : List Cond := u_ws RX11 TX11 13
theorem nmX11 : ∀ a, a < 13 → ∀ b, b < 13 → a ≠ b → (TX11 a).2.1 ≠ (TX11 b).2.1 := by decide +kernel
theorem tyX11_ok : ∀ k, k < 13 → parseFieldDescriptor (TX11 k).2.2.1 = some (tyX11 k) := by decide +kernel
abbrev cX11_init : ByteArray := prog_1_method_1_code
def yX11_init : MethodName := ⟨RX11, "<init>", "()V"⟩
abbrev cX11_feed : ByteArray := prog_1_method_2_code
def yX11_feed : MethodName := ⟨RX11, "feed", "(IIIII)I"⟩
abbrev cX11_end : ByteArray := prog_1_method_3_code
def yX11_end : MethodName := ⟨RX11, "end", "(I)Z"⟩
abbrev cX11_pole : ByteArray := prog_1_method_4_code
def yX11_pole : MethodName := ⟨RX11, "pole", "()I"⟩
abbrev cX11_law : ByteArray := prog_1_method_5_code
def yX11_law : MethodName := ⟨RX11, "law", "()I"⟩
abbrev cX11_fault : ByteArray := prog_1_method_6_code
def yX11_fault : MethodName := ⟨RX11, "fault", "()I"⟩
abbrev cX11_ring : ByteArray := prog_1_method_7_code
def yX11_ring : MethodName := ⟨RX11, "ring", "(II)I"⟩
abbrev cX11_pull : ByteArray := prog_1_method_8_code
def yX11_pull : MethodName := ⟨RX11, "pull", "(IZI)I"⟩
abbrev cX11_free : ByteArray := prog_1_method_9_code
def yX11_free : MethodName := ⟨RX11, "free", "(I)I"⟩
abbrev cX11_snag : ByteArray := prog_1_method_10_code
def yX11_snag : MethodName := ⟨RX11, "snag", "(I)I"⟩
abbrev cX11_hook : ByteArray := prog_1_method_11_code
def yX11_hook : MethodName := ⟨RX11, "hook", "(IZ)Z"⟩
abbrev cX11_sew : ByteArray := prog_1_method_12_code
def yX11_sew : MethodName := ⟨RX11, "sew", "(II)I"⟩
abbrev cX11_let : ByteArray := prog_1_method_13_code
def yX11_let : MethodName := ⟨RX11, "let", "(II)I"⟩
abbrev cX11_chair : ByteArray := prog_1_method_14_code
def yX11_chair : MethodName := ⟨RX11, "chair", "(IZ)Z"⟩
abbrev cX11_hours : ByteArray := prog_1_method_15_code
def yX11_hours : MethodName := ⟨RX11, "hours", "(I)I"⟩
abbrev cX11_shade : ByteArray := prog_1_method_16_code
def yX11_shade : MethodName := ⟨RX11, "shade", "()I"⟩
abbrev cX11_dark : ByteArray := prog_1_method_17_code
def yX11_dark : MethodName := ⟨RX11, "dark", "()I"⟩
abbrev cX11_bare : ByteArray := prog_1_method_18_code
def yX11_bare : MethodName := ⟨RX11, "bare", "()I"⟩
abbrev cX11_goes : ByteArray := prog_1_method_19_code
def yX11_goes : MethodName := ⟨RX11, "goes", "(IZ)I"⟩
abbrev cX11_with : ByteArray := prog_1_method_20_code
def yX11_with : MethodName := ⟨RX11, "with", "(IZ)I"⟩
abbrev cX11_would : ByteArray := prog_1_method_21_code
def yX11_would : MethodName := ⟨RX11, "would", "(IZIZ)I"⟩
abbrev cX11_best : ByteArray := prog_1_method_22_code
def yX11_best : MethodName := ⟨RX11, "best", "()I"⟩
abbrev cX11_fewest : ByteArray := prog_1_method_23_code
def yX11_fewest : MethodName := ⟨RX11, "fewest", "(I)I"⟩
abbrev cX11_first : ByteArray := prog_1_method_24_code
def yX11_first : MethodName := ⟨RX11, "first", "(I)I"⟩
abbrev cX11_snags : ByteArray := prog_1_method_25_code
def yX11_snags : MethodName := ⟨RX11, "snags", "(Z)I"⟩
abbrev cX11_tries : ByteArray := prog_1_method_26_code
def yX11_tries : MethodName := ⟨RX11, "tries", "()I"⟩
abbrev cX11_loosen : ByteArray := prog_1_method_27_code
def yX11_loosen : MethodName := ⟨RX11, "loosen", "(IZI)I"⟩
abbrev cX11_order : ByteArray := prog_1_method_28_code
def yX11_order : MethodName := ⟨RX11, "order", "()I"⟩
abbrev cX11_tight : ByteArray := prog_1_method_29_code
def yX11_tight : MethodName := ⟨RX11, "tight", "(I)I"⟩
abbrev cX11_slack : ByteArray := prog_1_method_30_code
def yX11_slack : MethodName := ⟨RX11, "slack", "()I"⟩
abbrev cX11_taut : ByteArray := prog_1_method_31_code
def yX11_taut : MethodName := ⟨RX11, "taut", "()I"⟩
abbrev cX11_lit : ByteArray := prog_1_method_32_code
def yX11_lit : MethodName := ⟨RX11, "lit", "(I)I"⟩
abbrev cX11_sunny : ByteArray := prog_1_method_33_code
def yX11_sunny : MethodName := ⟨RX11, "sunny", "()I"⟩
abbrev cX11_faded : ByteArray := prog_1_method_34_code
def yX11_faded : MethodName := ⟨RX11, "faded", "(I)I"⟩
abbrev cX11_pale : ByteArray := prog_1_method_35_code
def yX11_pale : MethodName := ⟨RX11, "pale", "()I"⟩
abbrev cX11_lets : ByteArray := prog_1_method_36_code
def yX11_lets : MethodName := ⟨RX11, "lets", "(II)I"⟩
abbrev cX11_envy : ByteArray := prog_1_method_37_code
def yX11_envy : MethodName := ⟨RX11, "envy", "()I"⟩
abbrev cX11_rests : ByteArray := prog_1_method_38_code
def yX11_rests : MethodName := ⟨RX11, "rests", "(I)I"⟩
abbrev cX11_bunch : ByteArray := prog_1_method_39_code
def yX11_bunch : MethodName := ⟨RX11, "bunch", "()I"⟩
abbrev cX11_wooden : ByteArray := prog_1_method_40_code
def yX11_wooden : MethodName := ⟨RX11, "wooden", "()I"⟩
abbrev cX11_caught : ByteArray := prog_1_method_41_code
def yX11_caught : MethodName := ⟨RX11, "caught", "()I"⟩
abbrev cX11_loose : ByteArray := prog_1_method_42_code
def yX11_loose : MethodName := ⟨RX11, "loose", "()I"⟩
abbrev cX11_beyond : ByteArray := prog_1_method_43_code
def yX11_beyond : MethodName := ⟨RX11, "beyond", "()I"⟩
abbrev cX11_odds : ByteArray := prog_1_method_44_code
def yX11_odds : MethodName := ⟨RX11, "odds", "(II)I"⟩
abbrev cX11_twins : ByteArray := prog_1_method_45_code
def yX11_twins : MethodName := ⟨RX11, "twins", "()I"⟩
abbrev cX11_ahead : ByteArray := prog_1_method_46_code
def yX11_ahead : MethodName := ⟨RX11, "ahead", "(II)I"⟩
abbrev cX11_trial : ByteArray := prog_1_method_47_code
def yX11_trial : MethodName := ⟨RX11, "trial", "(IZ)I"⟩
abbrev cX11_span : ByteArray := prog_1_method_48_code
def yX11_span : MethodName := ⟨RX11, "span", "(IZ)I"⟩
abbrev cX11_led : ByteArray := prog_1_method_49_code
def yX11_led : MethodName := ⟨RX11, "led", "(IZ)I"⟩
abbrev cX11_log : ByteArray := prog_1_method_50_code
def yX11_log : MethodName := ⟨RX11, "log", "(II)I"⟩
abbrev cX11_seed : ByteArray := prog_1_method_51_code
def yX11_seed : MethodName := ⟨RX11, "seed", "(I)I"⟩
abbrev cX11_undo : ByteArray := prog_1_method_52_code
def yX11_undo : MethodName := ⟨RX11, "undo", "()Z"⟩
abbrev cX11_image : ByteArray := prog_1_method_53_code
def yX11_image : MethodName := ⟨RX11, "image", "()V"⟩
abbrev cX11_back : ByteArray := prog_1_method_54_code
def yX11_back : MethodName := ⟨RX11, "back", "()Z"⟩
abbrev cX11_count : ByteArray := prog_1_method_55_code
def yX11_count : MethodName := ⟨RX11, "count", "(I)I"⟩
abbrev cX11_requireRing : ByteArray := prog_1_method_56_code
def yX11_requireRing : MethodName := ⟨RX11, "requireRing", "(I)V"⟩
abbrev cX11_requirePlace : ByteArray := prog_1_method_57_code
def yX11_requirePlace : MethodName := ⟨RX11, "requirePlace", "(I)V"⟩
abbrev cX11_requireNumber : ByteArray := prog_1_method_58_code
def yX11_requireNumber : MethodName := ⟨RX11, "requireNumber", "(III)V"⟩
abbrev cX11_readSnags : ByteArray := prog_1_method_59_code
def yX11_readSnags : MethodName := ⟨RX11, "readSnags", "()V"⟩
abbrev cX11_bit : ByteArray := prog_1_method_60_code
def yX11_bit : MethodName := ⟨RX11, "bit", "(II)I"⟩
abbrev cX11_withBit : ByteArray := prog_1_method_61_code
def yX11_withBit : MethodName := ⟨RX11, "withBit", "(IIZ)I"⟩
def RX12 : String := "RodRingsModel"
def TX12 : u_T := fun k => match k with
  | 0 => ("RodRingsModel", "thrown", "I", false)
  | 1 => ("RodRingsModel", "world", "[I", true)
  | 2 => ("RodRingsModel", "image", "[I", true)
  | 3 => ("RodRingsModel", "earlier", "[I", true)
  | 4 => ("RodRingsModel", "trial", "[I", true)
  | 5 => ("RodRingsModel", "acts", "[I", true)
  | 6 => ("RodRingsModel", "hasImage", "Z", false)
  | 7 => ("RodRingsModel", "remembered", "I", false)
  | 8 => ("RodRingsModel", "tape", "[B", true)
  | 9 => ("RodRingsModel", "taped", "I", false)
  | 10 => ("RodRingsModel", "point", "I", false)
  | 11 => ("RodRingsModel", "end", "I", false)
  | 12 => ("RodRingsModel", "begin", "I", false)
  | 13 => ("RodRingsModel", "deep", "I", false)
  | 14 => ("RodRingsModel", "faultAt", "I", false)
  | 15 => ("RodRingsModel", "five", "[I", true)
  | 16 => ("RodRingsModel", "steps", "I", false)
  | 17 => ("RodRingsModel", "value", "[I", true)
  | 18 => ("RodRingsModel", "sound", "I", false)
  | 19 => ("RodRingsModel", "fitting", "[Z", true)
  | 20 => ("RodRingsModel", "parts", "[I", true)
  | _ => ("RodRingsModel", "stays", "[I", true)
def tyX12 : Nat → FieldType := fun k => match k with
  | 0 => .int
  | 1 => .array .int
  | 2 => .array .int
  | 3 => .array .int
  | 4 => .array .int
  | 5 => .array .int
  | 6 => .boolean
  | 7 => .int
  | 8 => .array .byte
  | 9 => .int
  | 10 => .int
  | 11 => .int
  | 12 => .int
  | 13 => .int
  | 14 => .int
  | 15 => .array .int
  | 16 => .int
  | 17 => .array .int
  | 18 => .int
  | 19 => .array .boolean
  | 20 => .array .int
  | _ => .array .int
abbrev wsX120 : List Cond := u_ws RX12 TX12 22
theorem nmX12 : ∀ a, a < 22 → ∀ b, b < 22 → a ≠ b → (TX12 a).2.1 ≠ (TX12 b).2.1 := by decide +kernel
theorem tyX12_ok : ∀ k, k < 22 → parseFieldDescriptor (TX12 k).2.2.1 = some (tyX12 k) := by decide +kernel
abbrev cX12_throwsIf : ByteArray := prog_14_method_2_code
def yX12_throwsIf : MethodName := ⟨RX12, "throwsIf", "(ZI)Z"⟩
abbrev cX12_in : ByteArray := prog_14_method_3_code
def yX12_in : MethodName := ⟨RX12, "in", "(III)Z"⟩
abbrev cX12_has : ByteArray := prog_14_method_4_code
def yX12_has : MethodName := ⟨RX12, "has", "(II)Z"⟩
abbrev cX12_init : ByteArray := prog_14_method_5_code
def yX12_init : MethodName := ⟨RX12, "<init>", "()V"⟩
abbrev cX12_image : ByteArray := prog_14_method_6_code
def yX12_image : MethodName := ⟨RX12, "image", "()V"⟩
abbrev cX12_back : ByteArray := prog_14_method_7_code
def yX12_back : MethodName := ⟨RX12, "back", "()Z"⟩
abbrev cX12_remembers : ByteArray := prog_14_method_8_code
def yX12_remembers : MethodName := ⟨RX12, "remembers", "()V"⟩
abbrev cX12_undo : ByteArray := prog_14_method_9_code
def yX12_undo : MethodName := ⟨RX12, "undo", "()Z"⟩
abbrev cX12_rings : ByteArray := prog_14_method_10_code
def yX12_rings : MethodName := ⟨RX12, "rings", "()I"⟩
abbrev cX12_lastRing : ByteArray := prog_14_method_11_code
def yX12_lastRing : MethodName := ⟨RX12, "lastRing", "()I"⟩
abbrev cX12_at : ByteArray := prog_14_method_12_code
def yX12_at : MethodName := ⟨RX12, "at", "(II)I"⟩
abbrev cX12_of : ByteArray := prog_14_method_13_code
def yX12_of : MethodName := ⟨RX12, "of", "(II)I"⟩
abbrev cX12_is : ByteArray := prog_14_method_14_code
def yX12_is : MethodName := ⟨RX12, "is", "(II)Z"⟩
abbrev cX12_gapOf : ByteArray := prog_14_method_15_code
def yX12_gapOf : MethodName := ⟨RX12, "gapOf", "(I)I"⟩
abbrev cX12_ringsThat : ByteArray := prog_14_method_16_code
def yX12_ringsThat : MethodName := ⟨RX12, "ringsThat", "(I)I"⟩
abbrev cX12_noRing : ByteArray := prog_14_method_17_code
def yX12_noRing : MethodName := ⟨RX12, "noRing", "(I)Z"⟩
abbrev cX12_noPlace : ByteArray := prog_14_method_18_code
def yX12_noPlace : MethodName := ⟨RX12, "noPlace", "(I)Z"⟩
abbrev cX12_noSteps : ByteArray := prog_14_method_19_code
def yX12_noSteps : MethodName := ⟨RX12, "noSteps", "(I)Z"⟩
abbrev cX12_drawn : ByteArray := prog_14_method_20_code
def yX12_drawn : MethodName := ⟨RX12, "drawn", "(I)I"⟩
abbrev cX12_feed : ByteArray := prog_14_method_21_code
def yX12_feed : MethodName := ⟨RX12, "feed", "(IIIII)I"⟩
abbrev cX12_end : ByteArray := prog_14_method_22_code
def yX12_end : MethodName := ⟨RX12, "end", "(I)Z"⟩
abbrev cX12_isAt : ByteArray := prog_14_method_23_code
def yX12_isAt : MethodName := ⟨RX12, "isAt", "(II)Z"⟩
abbrev cX12_blanks : ByteArray := prog_14_method_24_code
def yX12_blanks : MethodName := ⟨RX12, "blanks", "()V"⟩
abbrev cX12_letters : ByteArray := prog_14_method_25_code
def yX12_letters : MethodName := ⟨RX12, "letters", "()V"⟩
abbrev cX12_isWord : ByteArray := prog_14_method_26_code
def yX12_isWord : MethodName := ⟨RX12, "isWord", "(Ljava/lang/String;)Z"⟩
abbrev cX12_passes : ByteArray := prog_14_method_27_code
def yX12_passes : MethodName := ⟨RX12, "passes", "(Ljava/lang/String;)Z"⟩
abbrev cX12_sign : ByteArray := prog_14_method_28_code
def yX12_sign : MethodName := ⟨RX12, "sign", "(I)Z"⟩
abbrev cX12_number : ByteArray := prog_14_method_29_code
def yX12_number : MethodName := ⟨RX12, "number", "(II)I"⟩
abbrev cX12_after : ByteArray := prog_14_method_30_code
def yX12_after : MethodName := ⟨RX12, "after", "(Ljava/lang/String;II)I"⟩
abbrev cX12_fault : ByteArray := prog_14_method_31_code
def yX12_fault : MethodName := ⟨RX12, "fault", "()I"⟩
abbrev cX12_uses : ByteArray := prog_14_method_32_code
def yX12_uses : MethodName := ⟨RX12, "uses", "()V"⟩
abbrev cX12_readNumber : ByteArray := prog_14_method_33_code
def yX12_readNumber : MethodName := ⟨RX12, "readNumber", "(III)Z"⟩
abbrev cX12_leastPlace : ByteArray := prog_14_method_34_code
def yX12_leastPlace : MethodName := ⟨RX12, "leastPlace", "()I"⟩
abbrev cX12_mostPlace : ByteArray := prog_14_method_35_code
def yX12_mostPlace : MethodName := ⟨RX12, "mostPlace", "()I"⟩
abbrev cX12_hangs : ByteArray := prog_14_method_36_code
def yX12_hangs : MethodName := ⟨RX12, "hangs", "(II)V"⟩
abbrev cX12_readRing : ByteArray := prog_14_method_37_code
def yX12_readRing : MethodName := ⟨RX12, "readRing", "()Z"⟩
abbrev cX12_readCaught : ByteArray := prog_14_method_38_code
def yX12_readCaught : MethodName := ⟨RX12, "readCaught", "()Z"⟩
abbrev cX12_readChair : ByteArray := prog_14_method_39_code
def yX12_readChair : MethodName := ⟨RX12, "readChair", "()Z"⟩
abbrev cX12_readPoleLine : ByteArray := prog_14_method_40_code
def yX12_readPoleLine : MethodName := ⟨RX12, "readPoleLine", "()Z"⟩
abbrev cX12_emits : ByteArray := prog_14_method_41_code
def yX12_emits : MethodName := ⟨RX12, "emits", "(II)V"⟩
abbrev cX12_wordOfPart : ByteArray := prog_14_method_42_code
def yX12_wordOfPart : MethodName := ⟨RX12, "wordOfPart", "()I"⟩
abbrev cX12_readPart : ByteArray := prog_14_method_43_code
def yX12_readPart : MethodName := ⟨RX12, "readPart", "()Z"⟩
abbrev cX12_readSum : ByteArray := prog_14_method_44_code
def yX12_readSum : MethodName := ⟨RX12, "readSum", "()Z"⟩
abbrev cX12_readTag : ByteArray := prog_14_method_45_code
def yX12_readTag : MethodName := ⟨RX12, "readTag", "()Z"⟩
abbrev cX12_readAtom : ByteArray := prog_14_method_46_code
def yX12_readAtom : MethodName := ⟨RX12, "readAtom", "()Z"⟩
abbrev cX12_readAllOf : ByteArray := prog_14_method_47_code
def yX12_readAllOf : MethodName := ⟨RX12, "readAllOf", "()Z"⟩
abbrev cX12_readCond : ByteArray := prog_14_method_48_code
def yX12_readCond : MethodName := ⟨RX12, "readCond", "()Z"⟩
abbrev cX12_readLawLine : ByteArray := prog_14_method_49_code
def yX12_readLawLine : MethodName := ⟨RX12, "readLawLine", "(I)Z"⟩
abbrev cX12_readLine : ByteArray := prog_14_method_50_code
def yX12_readLine : MethodName := ⟨RX12, "readLine", "(ZI)Z"⟩
abbrev cX12_readAll : ByteArray := prog_14_method_51_code
def yX12_readAll : MethodName := ⟨RX12, "readAll", "(Z)I"⟩
abbrev cX12_pole : ByteArray := prog_14_method_52_code
def yX12_pole : MethodName := ⟨RX12, "pole", "()I"⟩
abbrev cX12_law : ByteArray := prog_14_method_53_code
def yX12_law : MethodName := ⟨RX12, "law", "()I"⟩
abbrev cX12_isLit : ByteArray := prog_14_method_54_code
def yX12_isLit : MethodName := ⟨RX12, "isLit", "(II)Z"⟩
abbrev cX12_factOf : ByteArray := prog_14_method_55_code
def yX12_factOf : MethodName := ⟨RX12, "factOf", "(III)I"⟩
abbrev cX12_holdsLine : ByteArray := prog_14_method_56_code
def yX12_holdsLine : MethodName := ⟨RX12, "holdsLine", "(II)Z"⟩
abbrev cX12_sumOf : ByteArray := prog_14_method_57_code
def yX12_sumOf : MethodName := ⟨RX12, "sumOf", "(II)I"⟩
abbrev cX12_byLaw : ByteArray := prog_14_method_58_code
def yX12_byLaw : MethodName := ⟨RX12, "byLaw", "(II)I"⟩
abbrev cX12_fadesOfAll : ByteArray := prog_14_method_59_code
def yX12_fadesOfAll : MethodName := ⟨RX12, "fadesOfAll", "()I"⟩
abbrev cX12_shareOf : ByteArray := prog_14_method_60_code
def yX12_shareOf : MethodName := ⟨RX12, "shareOf", "(I)I"⟩
abbrev cX12_hangsOn : ByteArray := prog_14_method_61_code
def yX12_hangsOn : MethodName := ⟨RX12, "hangsOn", "(I)I"⟩
abbrev cX12_ring : ByteArray := prog_14_method_62_code
def yX12_ring : MethodName := ⟨RX12, "ring", "(II)I"⟩
abbrev cX12_takesAlong : ByteArray := prog_14_method_63_code
def yX12_takesAlong : MethodName := ⟨RX12, "takesAlong", "(IIZ)Z"⟩
abbrev cX12_allWith : ByteArray := prog_14_method_64_code
def yX12_allWith : MethodName := ⟨RX12, "allWith", "(IZ)I"⟩
abbrev cX12_mayGo : ByteArray := prog_14_method_65_code
def yX12_mayGo : MethodName := ⟨RX12, "mayGo", "(IZ)Z"⟩
abbrev cX12_goingBy : ByteArray := prog_14_method_66_code
def yX12_goingBy : MethodName := ⟨RX12, "goingBy", "(IZ)I"⟩
abbrev cX12_goesOne : ByteArray := prog_14_method_67_code
def yX12_goesOne : MethodName := ⟨RX12, "goesOne", "(IZ)Z"⟩
abbrev cX12_pulls : ByteArray := prog_14_method_68_code
def yX12_pulls : MethodName := ⟨RX12, "pulls", "(IZI)I"⟩
abbrev cX12_tells : ByteArray := prog_14_method_69_code
def yX12_tells : MethodName := ⟨RX12, "tells", "(III)V"⟩
abbrev cX12_pull : ByteArray := prog_14_method_70_code
def yX12_pull : MethodName := ⟨RX12, "pull", "(IZI)I"⟩
abbrev cX12_free : ByteArray := prog_14_method_71_code
def yX12_free : MethodName := ⟨RX12, "free", "(I)I"⟩
abbrev cX12_snag : ByteArray := prog_14_method_72_code
def yX12_snag : MethodName := ⟨RX12, "snag", "(I)I"⟩
abbrev cX12_hook : ByteArray := prog_14_method_73_code
def yX12_hook : MethodName := ⟨RX12, "hook", "(IZ)Z"⟩
abbrev cX12_sew : ByteArray := prog_14_method_74_code
def yX12_sew : MethodName := ⟨RX12, "sew", "(II)I"⟩
abbrev cX12_let : ByteArray := prog_14_method_75_code
def yX12_let : MethodName := ⟨RX12, "let", "(II)I"⟩
abbrev cX12_chair : ByteArray := prog_14_method_76_code
def yX12_chair : MethodName := ⟨RX12, "chair", "(IZ)Z"⟩
abbrev cX12_catches : ByteArray := prog_14_method_77_code
def yX12_catches : MethodName := ⟨RX12, "catches", "()I"⟩
abbrev cX12_falls : ByteArray := prog_14_method_78_code
def yX12_falls : MethodName := ⟨RX12, "falls", "()I"⟩
abbrev cX12_oneHour : ByteArray := prog_14_method_79_code
def yX12_oneHour : MethodName := ⟨RX12, "oneHour", "(Z)I"⟩
abbrev cX12_goesOn : ByteArray := prog_14_method_80_code
def yX12_goesOn : MethodName := ⟨RX12, "goesOn", "(IZ)I"⟩
abbrev cX12_keepsAll : ByteArray := prog_14_method_81_code
def yX12_keepsAll : MethodName := ⟨RX12, "keepsAll", "()V"⟩
abbrev cX12_bringsBack : ByteArray := prog_14_method_82_code
def yX12_bringsBack : MethodName := ⟨RX12, "bringsBack", "()V"⟩
abbrev cX12_hours : ByteArray := prog_14_method_83_code
def yX12_hours : MethodName := ⟨RX12, "hours", "(I)I"⟩
abbrev cX12_noAhead : ByteArray := prog_14_method_84_code
def yX12_noAhead : MethodName := ⟨RX12, "noAhead", "(I)Z"⟩
abbrev cX12_ahead : ByteArray := prog_14_method_85_code
def yX12_ahead : MethodName := ⟨RX12, "ahead", "(II)I"⟩
abbrev cX12_faded : ByteArray := prog_14_method_86_code
def yX12_faded : MethodName := ⟨RX12, "faded", "(I)I"⟩
abbrev cX12_somePale : ByteArray := prog_14_method_87_code
def yX12_somePale : MethodName := ⟨RX12, "somePale", "()Z"⟩
abbrev cX12_pale : ByteArray := prog_14_method_88_code
def yX12_pale : MethodName := ⟨RX12, "pale", "()I"⟩
abbrev cX12_shadeNow : ByteArray := prog_14_method_89_code
def yX12_shadeNow : MethodName := ⟨RX12, "shadeNow", "()I"⟩
abbrev cX12_darkNow : ByteArray := prog_14_method_90_code
def yX12_darkNow : MethodName := ⟨RX12, "darkNow", "()I"⟩
abbrev cX12_shade : ByteArray := prog_14_method_91_code
def yX12_shade : MethodName := ⟨RX12, "shade", "()I"⟩
abbrev cX12_dark : ByteArray := prog_14_method_92_code
def yX12_dark : MethodName := ⟨RX12, "dark", "()I"⟩
abbrev cX12_bare : ByteArray := prog_14_method_93_code
def yX12_bare : MethodName := ⟨RX12, "bare", "()I"⟩
abbrev cX12_goes : ByteArray := prog_14_method_94_code
def yX12_goes : MethodName := ⟨RX12, "goes", "(IZ)I"⟩
abbrev cX12_with : ByteArray := prog_14_method_95_code
def yX12_with : MethodName := ⟨RX12, "with", "(IZ)I"⟩
abbrev cX12_would : ByteArray := prog_14_method_96_code
def yX12_would : MethodName := ⟨RX12, "would", "(IZIZ)I"⟩
abbrev cX12_best : ByteArray := prog_14_method_97_code
def yX12_best : MethodName := ⟨RX12, "best", "()I"⟩
abbrev cX12_shadesAll : ByteArray := prog_14_method_98_code
def yX12_shadesAll : MethodName := ⟨RX12, "shadesAll", "(I)Z"⟩
abbrev cX12_stepsTo : ByteArray := prog_14_method_99_code
def yX12_stepsTo : MethodName := ⟨RX12, "stepsTo", "(IIZ)I"⟩
abbrev cX12_fewestTo : ByteArray := prog_14_method_100_code
def yX12_fewestTo : MethodName := ⟨RX12, "fewestTo", "(IZ)I"⟩
abbrev cX12_fewest : ByteArray := prog_14_method_101_code
def yX12_fewest : MethodName := ⟨RX12, "fewest", "(I)I"⟩
abbrev cX12_first : ByteArray := prog_14_method_102_code
def yX12_first : MethodName := ⟨RX12, "first", "(I)I"⟩
abbrev cX12_isTold : ByteArray := prog_14_method_103_code
def yX12_isTold : MethodName := ⟨RX12, "isTold", "()Z"⟩
abbrev cX12_thatCanCatch : ByteArray := prog_14_method_104_code
def yX12_thatCanCatch : MethodName := ⟨RX12, "thatCanCatch", "()I"⟩
abbrev cX12_areCaught : ByteArray := prog_14_method_105_code
def yX12_areCaught : MethodName := ⟨RX12, "areCaught", "(I)V"⟩
abbrev cX12_wentWith : ByteArray := prog_14_method_106_code
def yX12_wentWith : MethodName := ⟨RX12, "wentWith", "(IIZI)I"⟩
abbrev cX12_fits : ByteArray := prog_14_method_107_code
def yX12_fits : MethodName := ⟨RX12, "fits", "(I)Z"⟩
abbrev cX12_snags : ByteArray := prog_14_method_108_code
def yX12_snags : MethodName := ⟨RX12, "snags", "(Z)I"⟩
abbrev cX12_partBy : ByteArray := prog_14_method_109_code
def yX12_partBy : MethodName := ⟨RX12, "partBy", "(IZ)I"⟩
abbrev cX12_tries : ByteArray := prog_14_method_110_code
def yX12_tries : MethodName := ⟨RX12, "tries", "()I"⟩
abbrev cX12_loosen : ByteArray := prog_14_method_111_code
def yX12_loosen : MethodName := ⟨RX12, "loosen", "(IZI)I"⟩
abbrev cX12_order : ByteArray := prog_14_method_112_code
def yX12_order : MethodName := ⟨RX12, "order", "()I"⟩
abbrev cX12_tight : ByteArray := prog_14_method_113_code
def yX12_tight : MethodName := ⟨RX12, "tight", "(I)I"⟩
abbrev cX12_slack : ByteArray := prog_14_method_114_code
def yX12_slack : MethodName := ⟨RX12, "slack", "()I"⟩
abbrev cX12_taut : ByteArray := prog_14_method_115_code
def yX12_taut : MethodName := ⟨RX12, "taut", "()I"⟩
abbrev cX12_bunch : ByteArray := prog_14_method_116_code
def yX12_bunch : MethodName := ⟨RX12, "bunch", "()I"⟩
abbrev cX12_litIn : ByteArray := prog_14_method_117_code
def yX12_litIn : MethodName := ⟨RX12, "litIn", "(I)I"⟩
abbrev cX12_lit : ByteArray := prog_14_method_118_code
def yX12_lit : MethodName := ⟨RX12, "lit", "(I)I"⟩
abbrev cX12_sunny : ByteArray := prog_14_method_119_code
def yX12_sunny : MethodName := ⟨RX12, "sunny", "()I"⟩
abbrev cX12_lets : ByteArray := prog_14_method_120_code
def yX12_lets : MethodName := ⟨RX12, "lets", "(II)I"⟩
abbrev cX12_envy : ByteArray := prog_14_method_121_code
def yX12_envy : MethodName := ⟨RX12, "envy", "()I"⟩
abbrev cX12_eachHas : ByteArray := prog_14_method_122_code
def yX12_eachHas : MethodName := ⟨RX12, "eachHas", "(III)I"⟩
abbrev cX12_rests : ByteArray := prog_14_method_123_code
def yX12_rests : MethodName := ⟨RX12, "rests", "(I)I"⟩
abbrev cX12_wooden : ByteArray := prog_14_method_124_code
def yX12_wooden : MethodName := ⟨RX12, "wooden", "()I"⟩
abbrev cX12_caught : ByteArray := prog_14_method_125_code
def yX12_caught : MethodName := ⟨RX12, "caught", "()I"⟩
abbrev cX12_looseOnes : ByteArray := prog_14_method_126_code
def yX12_looseOnes : MethodName := ⟨RX12, "looseOnes", "()I"⟩
abbrev cX12_loose : ByteArray := prog_14_method_127_code
def yX12_loose : MethodName := ⟨RX12, "loose", "()I"⟩
abbrev cX12_beyond : ByteArray := prog_14_method_128_code
def yX12_beyond : MethodName := ⟨RX12, "beyond", "()I"⟩
abbrev cX12_odds : ByteArray := prog_14_method_129_code
def yX12_odds : MethodName := ⟨RX12, "odds", "(II)I"⟩
abbrev cX12_likens : ByteArray := prog_14_method_130_code
def yX12_likens : MethodName := ⟨RX12, "likens", "(II)Z"⟩
abbrev cX12_twins : ByteArray := prog_14_method_131_code
def yX12_twins : MethodName := ⟨RX12, "twins", "()I"⟩
abbrev cX12_trial : ByteArray := prog_14_method_132_code
def yX12_trial : MethodName := ⟨RX12, "trial", "(IZ)I"⟩
abbrev cX12_span : ByteArray := prog_14_method_133_code
def yX12_span : MethodName := ⟨RX12, "span", "(IZ)I"⟩
abbrev cX12_ofLog : ByteArray := prog_14_method_134_code
def yX12_ofLog : MethodName := ⟨RX12, "ofLog", "(II)I"⟩
abbrev cX12_led : ByteArray := prog_14_method_135_code
def yX12_led : MethodName := ⟨RX12, "led", "(IZ)I"⟩
abbrev cX12_log : ByteArray := prog_14_method_136_code
def yX12_log : MethodName := ⟨RX12, "log", "(II)I"⟩
abbrev cX12_seed : ByteArray := prog_14_method_137_code
def yX12_seed : MethodName := ⟨RX12, "seed", "(I)I"⟩
abbrev cX12_count : ByteArray := prog_14_method_138_code
def yX12_count : MethodName := ⟨RX12, "count", "(I)I"⟩
def RJx145de : String := "java/io/Serializable"
def TJx145de : u_T := fun k => match k with
  | _ => ("", "", "", false)
def tyJx145de : Nat → FieldType := fun k => match k with
  | _ => .int
abbrev wsJx145de0 : List Cond := u_ws RJx145de TJx145de 0
theorem nmJx145de : ∀ a, a < 0 → ∀ b, b < 0 → a ≠ b → (TJx145de a).2.1 ≠ (TJx145de b).2.1 := by decide +kernel
theorem tyJx145de_ok : ∀ k, k < 0 → parseFieldDescriptor (TJx145de k).2.2.1 = some (tyJx145de k) := by decide +kernel
def RJx9f9b0 : String := "java/lang/CharSequence"
def TJx9f9b0 : u_T := fun k => match k with
  | _ => ("", "", "", false)
def tyJx9f9b0 : Nat → FieldType := fun k => match k with
  | _ => .int
abbrev wsJx9f9b00 : List Cond := u_ws RJx9f9b0 TJx9f9b0 0
theorem nmJx9f9b0 : ∀ a, a < 0 → ∀ b, b < 0 → a ≠ b → (TJx9f9b0 a).2.1 ≠ (TJx9f9b0 b).2.1 := by decide +kernel
theorem tyJx9f9b0_ok : ∀ k, k < 0 → parseFieldDescriptor (TJx9f9b0 k).2.2.1 = some (tyJx9f9b0 k) := by decide +kernel
def RJxb160c : String := "java/lang/Comparable"
def TJxb160c : u_T := fun k => match k with
  | _ => ("", "", "", false)
def tyJxb160c : Nat → FieldType := fun k => match k with
  | _ => .int
abbrev wsJxb160c0 : List Cond := u_ws RJxb160c TJxb160c 0
theorem nmJxb160c : ∀ a, a < 0 → ∀ b, b < 0 → a ≠ b → (TJxb160c a).2.1 ≠ (TJxb160c b).2.1 := by decide +kernel
theorem tyJxb160c_ok : ∀ k, k < 0 → parseFieldDescriptor (TJxb160c k).2.2.1 = some (tyJxb160c k) := by decide +kernel
def RJ6 : String := "java/lang/Integer"
def TJ6 : u_T := fun k => match k with
  | _ => ("", "", "", false)
def tyJ6 : Nat → FieldType := fun k => match k with
  | _ => .int
abbrev wsJ60 : List Cond := u_ws RJ6 TJ6 0
theorem nmJ6 : ∀ a, a < 0 → ∀ b, b < 0 → a ≠ b → (TJ6 a).2.1 ≠ (TJ6 b).2.1 := by decide +kernel
theorem tyJ6_ok : ∀ k, k < 0 → parseFieldDescriptor (TJ6 k).2.2.1 = some (tyJ6 k) := by decide +kernel
abbrev cJ6_bitCount_0f7a4 : ByteArray := prog_22_method_49_code
def yJ6_bitCount_0f7a4 : MethodName := ⟨RJ6, "bitCount", "(I)I"⟩
def RJ9 : String := "java/lang/Math"
def TJ9 : u_T := fun k => match k with
  | _ => ("", "", "", false)
def tyJ9 : Nat → FieldType := fun k => match k with
  | _ => .int
abbrev wsJ90 : List Cond := u_ws RJ9 TJ9 0
theorem nmJ9 : ∀ a, a < 0 → ∀ b, b < 0 → a ≠ b → (TJ9 a).2.1 ≠ (TJ9 b).2.1 := by decide +kernel
theorem tyJ9_ok : ∀ k, k < 0 → parseFieldDescriptor (TJ9 k).2.2.1 = some (tyJ9 k) := by decide +kernel
abbrev cJ9_floorMod_7cf53 : ByteArray := prog_23_method_50_code
def yJ9_floorMod_7cf53 : MethodName := ⟨RJ9, "floorMod", "(II)I"⟩
abbrev cJ9_abs_0f7a4 : ByteArray := prog_23_method_59_code
def yJ9_abs_0f7a4 : MethodName := ⟨RJ9, "abs", "(I)I"⟩
abbrev cJ9_max_7cf53 : ByteArray := prog_23_method_65_code
def yJ9_max_7cf53 : MethodName := ⟨RJ9, "max", "(II)I"⟩
abbrev cJ9_min_7cf53 : ByteArray := prog_23_method_69_code
def yJ9_min_7cf53 : MethodName := ⟨RJ9, "min", "(II)I"⟩
def RJ0 : String := "java/lang/String"
def TJ0 : u_T := fun k => match k with
  | _ => ("", "", "", false)
def tyJ0 : Nat → FieldType := fun k => match k with
  | _ => .int
abbrev wsJ00 : List Cond := u_ws RJ0 TJ0 0
theorem nmJ0 : ∀ a, a < 0 → ∀ b, b < 0 → a ≠ b → (TJ0 a).2.1 ≠ (TJ0 b).2.1 := by decide +kernel
theorem tyJ0_ok : ∀ k, k < 0 → parseFieldDescriptor (TJ0 k).2.2.1 = some (tyJ0 k) := by decide +kernel
abbrev cJ0_length_8abf5 : ByteArray := prog_25_method_54_code
def yJ0_length_8abf5 : MethodName := ⟨RJ0, "length", "()I"⟩
abbrev cJ0_charAt_5068e : ByteArray := prog_25_method_56_code
def yJ0_charAt_5068e : MethodName := ⟨RJ0, "charAt", "(I)C"⟩
abbrev cJ0_coder_7d493 : ByteArray := prog_25_method_152_code
def yJ0_coder_7d493 : MethodName := ⟨RJ0, "coder", "()B"⟩
abbrev cJ0_isLatin1_aae02 : ByteArray := prog_25_method_154_code
def yJ0_isLatin1_aae02 : MethodName := ⟨RJ0, "isLatin1", "()Z"⟩
abbrev cJ0_checkIndex_df160 : ByteArray := prog_25_method_155_code
def yJ0_checkIndex_df160 : MethodName := ⟨RJ0, "checkIndex", "(II)V"⟩
def RJ1 : String := "java/lang/StringLatin1"
def TJ1 : u_T := fun k => match k with
  | _ => ("", "", "", false)
def tyJ1 : Nat → FieldType := fun k => match k with
  | _ => .int
abbrev wsJ10 : List Cond := u_ws RJ1 TJ1 0
theorem nmJ1 : ∀ a, a < 0 → ∀ b, b < 0 → a ≠ b → (TJ1 a).2.1 ≠ (TJ1 b).2.1 := by decide +kernel
theorem tyJ1_ok : ∀ k, k < 0 → parseFieldDescriptor (TJ1 k).2.2.1 = some (tyJ1 k) := by decide +kernel
abbrev cJ1_charAt_3b067 : ByteArray := prog_26_method_2_code
def yJ1_charAt_3b067 : MethodName := ⟨RJ1, "charAt", "([BI)C"⟩
def RJ2 : String := "java/lang/StringUTF16"
def TJ2 : u_T := fun k => match k with
  | _ => ("", "", "", false)
def tyJ2 : Nat → FieldType := fun k => match k with
  | _ => .int
abbrev wsJ20 : List Cond := u_ws RJ2 TJ2 0
theorem nmJ2 : ∀ a, a < 0 → ∀ b, b < 0 → a ≠ b → (TJ2 a).2.1 ≠ (TJ2 b).2.1 := by decide +kernel
theorem tyJ2_ok : ∀ k, k < 0 → parseFieldDescriptor (TJ2 k).2.2.1 = some (tyJ2 k) := by decide +kernel
abbrev cJ2_getChar_3b067 : ByteArray := prog_27_method_5_code
def yJ2_getChar_3b067 : MethodName := ⟨RJ2, "getChar", "([BI)C"⟩
abbrev cJ2_length_9d52b : ByteArray := prog_27_method_6_code
def yJ2_length_9d52b : MethodName := ⟨RJ2, "length", "([B)I"⟩
abbrev cJ2_charAt_3b067 : ByteArray := prog_27_method_83_code
def yJ2_charAt_3b067 : MethodName := ⟨RJ2, "charAt", "([BI)C"⟩
abbrev cJ2_checkIndex_2214a : ByteArray := prog_27_method_91_code
def yJ2_checkIndex_2214a : MethodName := ⟨RJ2, "checkIndex", "(I[B)V"⟩
def RJ10 : String := "java/lang/System"
def TJ10 : u_T := fun k => match k with
  | _ => ("", "", "", false)
def tyJ10 : Nat → FieldType := fun k => match k with
  | _ => .int
abbrev wsJ100 : List Cond := u_ws RJ10 TJ10 0
theorem nmJ10 : ∀ a, a < 0 → ∀ b, b < 0 → a ≠ b → (TJ10 a).2.1 ≠ (TJ10 b).2.1 := by decide +kernel
theorem tyJ10_ok : ∀ k, k < 0 → parseFieldDescriptor (TJ10 k).2.2.1 = some (tyJ10 k) := by decide +kernel
def RJxfd54e : String := "java/lang/constant/Constable"
def TJxfd54e : u_T := fun k => match k with
  | _ => ("", "", "", false)
def tyJxfd54e : Nat → FieldType := fun k => match k with
  | _ => .int
abbrev wsJxfd54e0 : List Cond := u_ws RJxfd54e TJxfd54e 0
theorem nmJxfd54e : ∀ a, a < 0 → ∀ b, b < 0 → a ≠ b → (TJxfd54e a).2.1 ≠ (TJxfd54e b).2.1 := by decide +kernel
theorem tyJxfd54e_ok : ∀ k, k < 0 → parseFieldDescriptor (TJxfd54e k).2.2.1 = some (tyJxfd54e k) := by decide +kernel
def RJx3cf43 : String := "java/lang/constant/ConstantDesc"
def TJx3cf43 : u_T := fun k => match k with
  | _ => ("", "", "", false)
def tyJx3cf43 : Nat → FieldType := fun k => match k with
  | _ => .int
abbrev wsJx3cf430 : List Cond := u_ws RJx3cf43 TJx3cf43 0
theorem nmJx3cf43 : ∀ a, a < 0 → ∀ b, b < 0 → a ≠ b → (TJx3cf43 a).2.1 ≠ (TJx3cf43 b).2.1 := by decide +kernel
theorem tyJx3cf43_ok : ∀ k, k < 0 → parseFieldDescriptor (TJx3cf43 k).2.2.1 = some (tyJx3cf43 k) := by decide +kernel
def RJ3 : String := "jdk/internal/util/Preconditions"
def TJ3 : u_T := fun k => match k with
  | _ => ("", "", "", false)
def tyJ3 : Nat → FieldType := fun k => match k with
  | _ => .int
abbrev wsJ30 : List Cond := u_ws RJ3 TJ3 0
theorem nmJ3 : ∀ a, a < 0 → ∀ b, b < 0 → a ≠ b → (TJ3 a).2.1 ≠ (TJ3 b).2.1 := by decide +kernel
theorem tyJ3_ok : ∀ k, k < 0 → parseFieldDescriptor (TJ3 k).2.2.1 = some (tyJ3 k) := by decide +kernel
abbrev cJ3_checkIndex_8e157 : ByteArray := prog_34_method_11_code
def yJ3_checkIndex_8e157 : MethodName := ⟨RJ3, "checkIndex", "(IILjava/util/function/BiFunction;)I"⟩
def RL : String := "RodRingsLaw"
abbrev cL_pole : ByteArray := method_3_code
def yL_pole : MethodName := ⟨RL, "pole", "(LRodRings;[J)I"⟩
abbrev cL_law : ByteArray := method_4_code
def yL_law : MethodName := ⟨RL, "law", "(LRodRings;[J)I"⟩
abbrev cL_ring : ByteArray := method_5_code
def yL_ring : MethodName := ⟨RL, "ring", "(LRodRings;II[J)I"⟩
abbrev cL_pull : ByteArray := method_6_code
def yL_pull : MethodName := ⟨RL, "pull", "(LRodRings;IZI[J)I"⟩
abbrev cL_free : ByteArray := method_7_code
def yL_free : MethodName := ⟨RL, "free", "(LRodRings;I[J)I"⟩
abbrev cL_snag : ByteArray := method_8_code
def yL_snag : MethodName := ⟨RL, "snag", "(LRodRings;I[J)I"⟩
abbrev cL_hook : ByteArray := method_9_code
def yL_hook : MethodName := ⟨RL, "hook", "(LRodRings;IZ[J)I"⟩
abbrev cL_sew : ByteArray := method_10_code
def yL_sew : MethodName := ⟨RL, "sew", "(LRodRings;II[J)I"⟩
abbrev cL_let : ByteArray := method_11_code
def yL_let : MethodName := ⟨RL, "let", "(LRodRings;II[J)I"⟩
abbrev cL_chair : ByteArray := method_12_code
def yL_chair : MethodName := ⟨RL, "chair", "(LRodRings;IZ[J)I"⟩
abbrev cL_hours : ByteArray := method_13_code
def yL_hours : MethodName := ⟨RL, "hours", "(LRodRings;I[J)I"⟩
abbrev cL_goes : ByteArray := method_14_code
def yL_goes : MethodName := ⟨RL, "goes", "(LRodRings;IZ[J)I"⟩
abbrev cL_with : ByteArray := method_15_code
def yL_with : MethodName := ⟨RL, "with", "(LRodRings;IZ[J)I"⟩
abbrev cL_would : ByteArray := method_16_code
def yL_would : MethodName := ⟨RL, "would", "(LRodRings;IZIZ[J)I"⟩
abbrev cL_snags : ByteArray := method_17_code
def yL_snags : MethodName := ⟨RL, "snags", "(LRodRings;Z[J)I"⟩
abbrev cL_tries : ByteArray := method_18_code
def yL_tries : MethodName := ⟨RL, "tries", "(LRodRings;[J)I"⟩
abbrev cL_loosen : ByteArray := method_19_code
def yL_loosen : MethodName := ⟨RL, "loosen", "(LRodRings;IZI[J)I"⟩
abbrev cL_tight : ByteArray := method_20_code
def yL_tight : MethodName := ⟨RL, "tight", "(LRodRings;I[J)I"⟩
abbrev cL_lit : ByteArray := method_21_code
def yL_lit : MethodName := ⟨RL, "lit", "(LRodRings;I[J)I"⟩
abbrev cL_faded : ByteArray := method_22_code
def yL_faded : MethodName := ⟨RL, "faded", "(LRodRings;I[J)I"⟩
abbrev cL_lets : ByteArray := method_23_code
def yL_lets : MethodName := ⟨RL, "lets", "(LRodRings;II[J)I"⟩
abbrev cL_rests : ByteArray := method_24_code
def yL_rests : MethodName := ⟨RL, "rests", "(LRodRings;I[J)I"⟩
abbrev cL_odds : ByteArray := method_25_code
def yL_odds : MethodName := ⟨RL, "odds", "(LRodRings;II[J)I"⟩
abbrev cL_ahead : ByteArray := method_26_code
def yL_ahead : MethodName := ⟨RL, "ahead", "(LRodRings;II[J)I"⟩
abbrev cL_trial : ByteArray := method_27_code
def yL_trial : MethodName := ⟨RL, "trial", "(LRodRings;IZ[J)I"⟩
abbrev cL_span : ByteArray := method_28_code
def yL_span : MethodName := ⟨RL, "span", "(LRodRings;IZ[J)I"⟩
abbrev cL_led : ByteArray := method_29_code
def yL_led : MethodName := ⟨RL, "led", "(LRodRings;IZ[J)I"⟩
abbrev cL_log : ByteArray := method_30_code
def yL_log : MethodName := ⟨RL, "log", "(LRodRings;II[J)I"⟩
abbrev cL_law_ : ByteArray := code
def yL_law_ : MethodName := ⟨RL, "law", "([I)Z"⟩
abbrev vwCl : List vw_C := [(RX0, TX0, 3), (RX1, TX1, 2), (RX2, TX2, 9), (RX3, TX3, 3), (RX5, TX5, 3), (RX7, TX7, 7), (RX8, TX8, 18), (RX9, TX9, 3), (RX10, TX10, 7), (RX11, TX11, 13), (RX12, TX12, 22)]
theorem wlX00_0 : u_lay RX0 TX0 0 ∈ lw_tbl := List.mem_append_right _ (tm_2 (tE_2_0 (List.mem_of_getElem? (i := 14) rfl)))
theorem wlX00_1 : u_lay RX0 TX0 1 ∈ lw_tbl := List.mem_append_right _ (tm_2 (tE_2_1 (List.mem_of_getElem? (i := 0) rfl)))
theorem wlX00_2 : u_lay RX0 TX0 2 ∈ lw_tbl := List.mem_append_right _ (tm_2 (tE_2_1 (List.mem_of_getElem? (i := 2) rfl)))
theorem wsX00_tb : ∀ w ∈ wsX00, w ∈ lw_tbl := fun w hw => by
  obtain ⟨k, hk, rfl⟩ := List.mem_map.mp hw
  have hk := List.mem_range.mp hk
  match k, hk with
  | 0, _ => exact wlX00_0
  | 1, _ => exact wlX00_1
  | 2, _ => exact wlX00_2
  | k + 3, hk => exact absurd hk (by omega)
theorem wlX10_0 : u_lay RX1 TX1 0 ∈ lw_tbl := List.mem_append_right _ (tm_2 (tE_2_4 (List.mem_of_getElem? (i := 0) rfl)))
theorem wlX10_1 : u_lay RX1 TX1 1 ∈ lw_tbl := List.mem_append_right _ (tm_2 (tE_2_4 (List.mem_of_getElem? (i := 2) rfl)))
theorem wsX10_tb : ∀ w ∈ wsX10, w ∈ lw_tbl := fun w hw => by
  obtain ⟨k, hk, rfl⟩ := List.mem_map.mp hw
  have hk := List.mem_range.mp hk
  match k, hk with
  | 0, _ => exact wlX10_0
  | 1, _ => exact wlX10_1
  | k + 2, hk => exact absurd hk (by omega)
theorem wlX20_0 : u_lay RX2 TX2 0 ∈ lw_tbl := List.mem_append_right _ (tm_1 (tE_1_13 (List.mem_of_getElem? (i := 15) rfl)))
theorem wlX20_1 : u_lay RX2 TX2 1 ∈ lw_tbl := List.mem_append_right _ (tm_1 (tE_1_14 (List.mem_of_getElem? (i := 1) rfl)))
theorem wlX20_2 : u_lay RX2 TX2 2 ∈ lw_tbl := List.mem_append_right _ (tm_1 (tE_1_14 (List.mem_of_getElem? (i := 3) rfl)))
theorem wlX20_3 : u_lay RX2 TX2 3 ∈ lw_tbl := List.mem_append_right _ (tm_1 (tE_1_14 (List.mem_of_getElem? (i := 5) rfl)))
theorem wlX20_4 : u_lay RX2 TX2 4 ∈ lw_tbl := List.mem_append_right _ (tm_1 (tE_1_14 (List.mem_of_getElem? (i := 7) rfl)))
theorem wlX20_5 : u_lay RX2 TX2 5 ∈ lw_tbl := List.mem_append_right _ (tm_1 (tE_1_14 (List.mem_of_getElem? (i := 9) rfl)))
theorem wlX20_6 : u_lay RX2 TX2 6 ∈ lw_tbl := List.mem_append_right _ (tm_1 (tE_1_14 (List.mem_of_getElem? (i := 11) rfl)))
theorem wlX20_7 : u_lay RX2 TX2 7 ∈ lw_tbl := List.mem_append_right _ (tm_1 (tE_1_14 (List.mem_of_getElem? (i := 13) rfl)))
theorem wlX20_8 : u_lay RX2 TX2 8 ∈ lw_tbl := List.mem_append_right _ (tm_1 (tE_1_14 (List.mem_of_getElem? (i := 15) rfl)))
theorem wsX20_tb : ∀ w ∈ wsX20, w ∈ lw_tbl := fun w hw => by
  obtain ⟨k, hk, rfl⟩ := List.mem_map.mp hw
  have hk := List.mem_range.mp hk
  match k, hk with
  | 0, _ => exact wlX20_0
  | 1, _ => exact wlX20_1
  | 2, _ => exact wlX20_2
  | 3, _ => exact wlX20_3
  | 4, _ => exact wlX20_4
  | 5, _ => exact wlX20_5
  | 6, _ => exact wlX20_6
  | 7, _ => exact wlX20_7
  | 8, _ => exact wlX20_8
  | k + 9, hk => exact absurd hk (by omega)
theorem wlX30_0 : u_lay RX3 TX3 0 ∈ lw_tbl := List.mem_append_right _ (tm_2 (tE_2_3 (List.mem_of_getElem? (i := 5) rfl)))
theorem wlX30_1 : u_lay RX3 TX3 1 ∈ lw_tbl := List.mem_append_right _ (tm_2 (tE_2_3 (List.mem_of_getElem? (i := 6) rfl)))
theorem wlX30_2 : u_lay RX3 TX3 2 ∈ lw_tbl := List.mem_append_right _ (tm_2 (tE_2_3 (List.mem_of_getElem? (i := 3) rfl)))
theorem wsX30_tb : ∀ w ∈ wsX30, w ∈ lw_tbl := fun w hw => by
  obtain ⟨k, hk, rfl⟩ := List.mem_map.mp hw
  have hk := List.mem_range.mp hk
  match k, hk with
  | 0, _ => exact wlX30_0
  | 1, _ => exact wlX30_1
  | 2, _ => exact wlX30_2
  | k + 3, hk => exact absurd hk (by omega)
theorem wlX50_0 : u_lay RX5 TX5 0 ∈ lw_tbl := List.mem_append_right _ (tm_1 (tE_1_5 (List.mem_of_getElem? (i := 5) rfl)))
theorem wlX50_1 : u_lay RX5 TX5 1 ∈ lw_tbl := List.mem_append_right _ (tm_1 (tE_1_5 (List.mem_of_getElem? (i := 7) rfl)))
theorem wlX50_2 : u_lay RX5 TX5 2 ∈ lw_tbl := List.mem_append_right _ (tm_1 (tE_1_5 (List.mem_of_getElem? (i := 9) rfl)))
theorem wsX50_tb : ∀ w ∈ wsX50, w ∈ lw_tbl := fun w hw => by
  obtain ⟨k, hk, rfl⟩ := List.mem_map.mp hw
  have hk := List.mem_range.mp hk
  match k, hk with
  | 0, _ => exact wlX50_0
  | 1, _ => exact wlX50_1
  | 2, _ => exact wlX50_2
  | k + 3, hk => exact absurd hk (by omega)
theorem wlX70_0 : u_lay RX7 TX7 0 ∈ lw_tbl := List.mem_append_right _ (tm_2 (tE_2_5 (List.mem_of_getElem? (i := 5) rfl)))
theorem wlX70_1 : u_lay RX7 TX7 1 ∈ lw_tbl := List.mem_append_right _ (tm_2 (tE_2_5 (List.mem_of_getElem? (i := 7) rfl)))
theorem wlX70_2 : u_lay RX7 TX7 2 ∈ lw_tbl := List.mem_append_right _ (tm_2 (tE_2_5 (List.mem_of_getElem? (i := 9) rfl)))
theorem wlX70_3 : u_lay RX7 TX7 3 ∈ lw_tbl := List.mem_append_right _ (tm_2 (tE_2_5 (List.mem_of_getElem? (i := 11) rfl)))
theorem wlX70_4 : u_lay RX7 TX7 4 ∈ lw_tbl := List.mem_append_right _ (tm_2 (tE_2_5 (List.mem_of_getElem? (i := 13) rfl)))
theorem wlX70_5 : u_lay RX7 TX7 5 ∈ lw_tbl := List.mem_append_right _ (tm_2 (tE_2_5 (List.mem_of_getElem? (i := 15) rfl)))
theorem wlX70_6 : u_lay RX7 TX7 6 ∈ lw_tbl := List.mem_append_right _ (tm_2 (tE_2_6 (List.mem_of_getElem? (i := 1) rfl)))
theorem wsX70_tb : ∀ w ∈ wsX70, w ∈ lw_tbl := fun w hw => by
  obtain ⟨k, hk, rfl⟩ := List.mem_map.mp hw
  have hk := List.mem_range.mp hk
  match k, hk with
  | 0, _ => exact wlX70_0
  | 1, _ => exact wlX70_1
  | 2, _ => exact wlX70_2
  | 3, _ => exact wlX70_3
  | 4, _ => exact wlX70_4
  | 5, _ => exact wlX70_5
  | 6, _ => exact wlX70_6
  | k + 7, hk => exact absurd hk (by omega)
theorem wlX80_0 : u_lay RX8 TX8 0 ∈ lw_tbl := List.mem_append_right _ (tm_1 (tE_1_10 (List.mem_of_getElem? (i := 9) rfl)))
theorem wlX80_1 : u_lay RX8 TX8 1 ∈ lw_tbl := List.mem_append_right _ (tm_1 (tE_1_10 (List.mem_of_getElem? (i := 11) rfl)))
theorem wlX80_2 : u_lay RX8 TX8 2 ∈ lw_tbl := List.mem_append_right _ (tm_1 (tE_1_10 (List.mem_of_getElem? (i := 13) rfl)))
theorem wlX80_3 : u_lay RX8 TX8 3 ∈ lw_tbl := List.mem_append_right _ (tm_1 (tE_1_10 (List.mem_of_getElem? (i := 15) rfl)))
theorem wlX80_4 : u_lay RX8 TX8 4 ∈ lw_tbl := List.mem_append_right _ (tm_1 (tE_1_11 (List.mem_of_getElem? (i := 1) rfl)))
theorem wlX80_5 : u_lay RX8 TX8 5 ∈ lw_tbl := List.mem_append_right _ (tm_1 (tE_1_11 (List.mem_of_getElem? (i := 3) rfl)))
theorem wlX80_6 : u_lay RX8 TX8 6 ∈ lw_tbl := List.mem_append_right _ (tm_1 (tE_1_11 (List.mem_of_getElem? (i := 5) rfl)))
theorem wlX80_7 : u_lay RX8 TX8 7 ∈ lw_tbl := List.mem_append_right _ (tm_1 (tE_1_11 (List.mem_of_getElem? (i := 7) rfl)))
theorem wlX80_8 : u_lay RX8 TX8 8 ∈ lw_tbl := List.mem_append_right _ (tm_1 (tE_1_11 (List.mem_of_getElem? (i := 9) rfl)))
theorem wlX80_9 : u_lay RX8 TX8 9 ∈ lw_tbl := List.mem_append_right _ (tm_1 (tE_1_11 (List.mem_of_getElem? (i := 11) rfl)))
theorem wlX80_10 : u_lay RX8 TX8 10 ∈ lw_tbl := List.mem_append_right _ (tm_1 (tE_1_11 (List.mem_of_getElem? (i := 13) rfl)))
theorem wlX80_11 : u_lay RX8 TX8 11 ∈ lw_tbl := List.mem_append_right _ (tm_1 (tE_1_11 (List.mem_of_getElem? (i := 15) rfl)))
theorem wlX80_12 : u_lay RX8 TX8 12 ∈ lw_tbl := List.mem_append_right _ (tm_1 (tE_1_12 (List.mem_of_getElem? (i := 1) rfl)))
theorem wlX80_13 : u_lay RX8 TX8 13 ∈ lw_tbl := List.mem_append_right _ (tm_1 (tE_1_12 (List.mem_of_getElem? (i := 3) rfl)))
theorem wlX80_14 : u_lay RX8 TX8 14 ∈ lw_tbl := List.mem_append_right _ (tm_1 (tE_1_12 (List.mem_of_getElem? (i := 5) rfl)))
theorem wlX80_15 : u_lay RX8 TX8 15 ∈ lw_tbl := List.mem_append_right _ (tm_1 (tE_1_12 (List.mem_of_getElem? (i := 7) rfl)))
theorem wlX80_16 : u_lay RX8 TX8 16 ∈ lw_tbl := List.mem_append_right _ (tm_1 (tE_1_12 (List.mem_of_getElem? (i := 9) rfl)))
theorem wlX80_17 : u_lay RX8 TX8 17 ∈ lw_tbl := List.mem_append_right _ (tm_1 (tE_1_12 (List.mem_of_getElem? (i := 11) rfl)))
theorem wsX80_tb : ∀ w ∈ wsX80, w ∈ lw_tbl := fun w hw => by
  obtain ⟨k, hk, rfl⟩ := List.mem_map.mp hw
  have hk := List.mem_range.mp hk
  match k, hk with
  | 0, _ => exact wlX80_0
  | 1, _ => exact wlX80_1
  | 2, _ => exact wlX80_2
  | 3, _ => exact wlX80_3
  | 4, _ => exact wlX80_4
  | 5, _ => exact wlX80_5
  | 6, _ => exact wlX80_6
  | 7, _ => exact wlX80_7
  | 8, _ => exact wlX80_8
  | 9, _ => exact wlX80_9
  | 10, _ => exact wlX80_10
  | 11, _ => exact wlX80_11
  | 12, _ => exact wlX80_12
  | 13, _ => exact wlX80_13
  | 14, _ => exact wlX80_14
  | 15, _ => exact wlX80_15
  | 16, _ => exact wlX80_16
  | 17, _ => exact wlX80_17
  | k + 18, hk => exact absurd hk (by omega)
theorem wlX90_0 : u_lay RX9 TX9 0 ∈ lw_tbl := List.mem_append_right _ (tm_2 (tE_2_2 (List.mem_of_getElem? (i := 7) rfl)))
theorem wlX90_1 : u_lay RX9 TX9 1 ∈ lw_tbl := List.mem_append_right _ (tm_2 (tE_2_2 (List.mem_of_getElem? (i := 9) rfl)))
theorem wlX90_2 : u_lay RX9 TX9 2 ∈ lw_tbl := List.mem_append_right _ (tm_2 (tE_2_2 (List.mem_of_getElem? (i := 5) rfl)))
theorem wsX90_tb : ∀ w ∈ wsX90, w ∈ lw_tbl := fun w hw => by
  obtain ⟨k, hk, rfl⟩ := List.mem_map.mp hw
  have hk := List.mem_range.mp hk
  match k, hk with
  | 0, _ => exact wlX90_0
  | 1, _ => exact wlX90_1
  | 2, _ => exact wlX90_2
  | k + 3, hk => exact absurd hk (by omega)
theorem wlX100_0 : u_lay RX10 TX10 0 ∈ lw_tbl := List.mem_append_right _ (tm_1 (tE_1_3 (List.mem_of_getElem? (i := 4) rfl)))
theorem wlX100_1 : u_lay RX10 TX10 1 ∈ lw_tbl := List.mem_append_right _ (tm_1 (tE_1_3 (List.mem_of_getElem? (i := 6) rfl)))
theorem wlX100_2 : u_lay RX10 TX10 2 ∈ lw_tbl := List.mem_append_right _ (tm_1 (tE_1_3 (List.mem_of_getElem? (i := 8) rfl)))
theorem wlX100_3 : u_lay RX10 TX10 3 ∈ lw_tbl := List.mem_append_right _ (tm_1 (tE_1_3 (List.mem_of_getElem? (i := 10) rfl)))
theorem wlX100_4 : u_lay RX10 TX10 4 ∈ lw_tbl := List.mem_append_right _ (tm_1 (tE_1_3 (List.mem_of_getElem? (i := 12) rfl)))
theorem wlX100_5 : u_lay RX10 TX10 5 ∈ lw_tbl := List.mem_append_right _ (tm_1 (tE_1_3 (List.mem_of_getElem? (i := 14) rfl)))
theorem wlX100_6 : u_lay RX10 TX10 6 ∈ lw_tbl := List.mem_append_right _ (tm_1 (tE_1_4 (List.mem_of_getElem? (i := 0) rfl)))
theorem wsX100_tb : ∀ w ∈ wsX100, w ∈ lw_tbl := fun w hw => by
  obtain ⟨k, hk, rfl⟩ := List.mem_map.mp hw
  have hk := List.mem_range.mp hk
  match k, hk with
  | 0, _ => exact wlX100_0
  | 1, _ => exact wlX100_1
  | 2, _ => exact wlX100_2
  | 3, _ => exact wlX100_3
  | 4, _ => exact wlX100_4
  | 5, _ => exact wlX100_5
  | 6, _ => exact wlX100_6
  | k + 7, hk => exact absurd hk (by omega)
theorem wlX110_0 : u_lay RX11 TX11 0 ∈ lw_tbl := List.mem_append_right _ (tm_2 (tE_2_7 (List.mem_of_getElem? (i := 1) rfl)))
theorem wlX110_1 : u_lay RX11 TX11 1 ∈ lw_tbl := List.mem_append_right _ (tm_2 (tE_2_7 (List.mem_of_getElem? (i := 3) rfl)))
theorem wlX110_2 : u_lay RX11 TX11 2 ∈ lw_tbl := List.mem_append_right _ (tm_2 (tE_2_7 (List.mem_of_getElem? (i := 5) rfl)))
theorem wlX110_3 : u_lay RX11 TX11 3 ∈ lw_tbl := List.mem_append_right _ (tm_2 (tE_2_7 (List.mem_of_getElem? (i := 7) rfl)))
theorem wlX110_4 : u_lay RX11 TX11 4 ∈ lw_tbl := List.mem_append_right _ (tm_2 (tE_2_7 (List.mem_of_getElem? (i := 9) rfl)))
theorem wlX110_5 : u_lay RX11 TX11 5 ∈ lw_tbl := List.mem_append_right _ (tm_2 (tE_2_7 (List.mem_of_getElem? (i := 11) rfl)))
theorem wlX110_6 : u_lay RX11 TX11 6 ∈ lw_tbl := List.mem_append_right _ (tm_2 (tE_2_7 (List.mem_of_getElem? (i := 13) rfl)))
theorem wlX110_7 : u_lay RX11 TX11 7 ∈ lw_tbl := List.mem_append_right _ (tm_2 (tE_2_7 (List.mem_of_getElem? (i := 15) rfl)))
theorem wlX110_8 : u_lay RX11 TX11 8 ∈ lw_tbl := List.mem_append_right _ (tm_2 (tE_2_8 (List.mem_of_getElem? (i := 1) rfl)))
theorem wlX110_9 : u_lay RX11 TX11 9 ∈ lw_tbl := List.mem_append_right _ (tm_2 (tE_2_8 (List.mem_of_getElem? (i := 3) rfl)))
theorem wlX110_10 : u_lay RX11 TX11 10 ∈ lw_tbl := List.mem_append_right _ (tm_2 (tE_2_8 (List.mem_of_getElem? (i := 5) rfl)))
theorem wlX110_11 : u_lay RX11 TX11 11 ∈ lw_tbl := List.mem_append_right _ (tm_2 (tE_2_8 (List.mem_of_getElem? (i := 7) rfl)))
theorem wlX110_12 : u_lay RX11 TX11 12 ∈ lw_tbl := List.mem_append_right _ (tm_2 (tE_2_8 (List.mem_of_getElem? (i := 9) rfl)))
theorem wsX110_tb : ∀ w ∈ wsX110, w ∈ lw_tbl := fun w hw => by
  obtain ⟨k, hk, rfl⟩ := List.mem_map.mp hw
  have hk := List.mem_range.mp hk
  match k, hk with
  | 0, _ => exact wlX110_0
  | 1, _ => exact wlX110_1
  | 2, _ => exact wlX110_2
  | 3, _ => exact wlX110_3
  | 4, _ => exact wlX110_4
  | 5, _ => exact wlX110_5
  | 6, _ => exact wlX110_6
  | 7, _ => exact wlX110_7
  | 8, _ => exact wlX110_8
  | 9, _ => exact wlX110_9
  | 10, _ => exact wlX110_10
  | 11, _ => exact wlX110_11
  | 12, _ => exact wlX110_12
  | k + 13, hk => exact absurd hk (by omega)
theorem wlX120_0 : u_lay RX12 TX12 0 ∈ lw_tbl := List.mem_append_right _ (tm_6 (tE_6_11 (List.mem_of_getElem? (i := 1) rfl)))
theorem wlX120_1 : u_lay RX12 TX12 1 ∈ lw_tbl := List.mem_append_right _ (tm_6 (tE_6_11 (List.mem_of_getElem? (i := 3) rfl)))
theorem wlX120_2 : u_lay RX12 TX12 2 ∈ lw_tbl := List.mem_append_right _ (tm_6 (tE_6_11 (List.mem_of_getElem? (i := 5) rfl)))
theorem wlX120_3 : u_lay RX12 TX12 3 ∈ lw_tbl := List.mem_append_right _ (tm_6 (tE_6_11 (List.mem_of_getElem? (i := 7) rfl)))
theorem wlX120_4 : u_lay RX12 TX12 4 ∈ lw_tbl := List.mem_append_right _ (tm_6 (tE_6_11 (List.mem_of_getElem? (i := 9) rfl)))
theorem wlX120_5 : u_lay RX12 TX12 5 ∈ lw_tbl := List.mem_append_right _ (tm_6 (tE_6_11 (List.mem_of_getElem? (i := 11) rfl)))
theorem wlX120_6 : u_lay RX12 TX12 6 ∈ lw_tbl := List.mem_append_right _ (tm_6 (tE_6_11 (List.mem_of_getElem? (i := 13) rfl)))
theorem wlX120_7 : u_lay RX12 TX12 7 ∈ lw_tbl := List.mem_append_right _ (tm_6 (tE_6_11 (List.mem_of_getElem? (i := 15) rfl)))
theorem wlX120_8 : u_lay RX12 TX12 8 ∈ lw_tbl := List.mem_append_right _ (tm_6 (tE_6_12 (List.mem_of_getElem? (i := 1) rfl)))
theorem wlX120_9 : u_lay RX12 TX12 9 ∈ lw_tbl := List.mem_append_right _ (tm_6 (tE_6_12 (List.mem_of_getElem? (i := 3) rfl)))
theorem wlX120_10 : u_lay RX12 TX12 10 ∈ lw_tbl := List.mem_append_right _ (tm_6 (tE_6_12 (List.mem_of_getElem? (i := 5) rfl)))
theorem wlX120_11 : u_lay RX12 TX12 11 ∈ lw_tbl := List.mem_append_right _ (tm_6 (tE_6_12 (List.mem_of_getElem? (i := 7) rfl)))
theorem wlX120_12 : u_lay RX12 TX12 12 ∈ lw_tbl := List.mem_append_right _ (tm_6 (tE_6_12 (List.mem_of_getElem? (i := 9) rfl)))
theorem wlX120_13 : u_lay RX12 TX12 13 ∈ lw_tbl := List.mem_append_right _ (tm_6 (tE_6_12 (List.mem_of_getElem? (i := 11) rfl)))
theorem wlX120_14 : u_lay RX12 TX12 14 ∈ lw_tbl := List.mem_append_right _ (tm_6 (tE_6_12 (List.mem_of_getElem? (i := 13) rfl)))
theorem wlX120_15 : u_lay RX12 TX12 15 ∈ lw_tbl := List.mem_append_right _ (tm_6 (tE_6_12 (List.mem_of_getElem? (i := 15) rfl)))
theorem wlX120_16 : u_lay RX12 TX12 16 ∈ lw_tbl := List.mem_append_right _ (tm_6 (tE_6_13 (List.mem_of_getElem? (i := 1) rfl)))
theorem wlX120_17 : u_lay RX12 TX12 17 ∈ lw_tbl := List.mem_append_right _ (tm_6 (tE_6_13 (List.mem_of_getElem? (i := 3) rfl)))
theorem wlX120_18 : u_lay RX12 TX12 18 ∈ lw_tbl := List.mem_append_right _ (tm_6 (tE_6_13 (List.mem_of_getElem? (i := 5) rfl)))
theorem wlX120_19 : u_lay RX12 TX12 19 ∈ lw_tbl := List.mem_append_right _ (tm_6 (tE_6_13 (List.mem_of_getElem? (i := 7) rfl)))
theorem wlX120_20 : u_lay RX12 TX12 20 ∈ lw_tbl := List.mem_append_right _ (tm_6 (tE_6_13 (List.mem_of_getElem? (i := 9) rfl)))
theorem wlX120_21 : u_lay RX12 TX12 21 ∈ lw_tbl := List.mem_append_right _ (tm_6 (tE_6_13 (List.mem_of_getElem? (i := 11) rfl)))
theorem wsX120_tb : ∀ w ∈ wsX120, w ∈ lw_tbl := fun w hw => by
  obtain ⟨k, hk, rfl⟩ := List.mem_map.mp hw
  have hk := List.mem_range.mp hk
  match k, hk with
  | 0, _ => exact wlX120_0
  | 1, _ => exact wlX120_1
  | 2, _ => exact wlX120_2
  | 3, _ => exact wlX120_3
  | 4, _ => exact wlX120_4
  | 5, _ => exact wlX120_5
  | 6, _ => exact wlX120_6
  | 7, _ => exact wlX120_7
  | 8, _ => exact wlX120_8
  | 9, _ => exact wlX120_9
  | 10, _ => exact wlX120_10
  | 11, _ => exact wlX120_11
  | 12, _ => exact wlX120_12
  | 13, _ => exact wlX120_13
  | 14, _ => exact wlX120_14
  | 15, _ => exact wlX120_15
  | 16, _ => exact wlX120_16
  | 17, _ => exact wlX120_17
  | 18, _ => exact wlX120_18
  | 19, _ => exact wlX120_19
  | 20, _ => exact wlX120_20
  | 21, _ => exact wlX120_21
  | k + 22, hk => exact absurd hk (by omega)
