def RX0 : String := "PenOffice$Clerks"
def TX0 : u_T := fun k => match k with
  | 0 => ("PenOffice$Clerks", "count", "I", false)
  | 1 => ("PenOffice$Clerks", "names", "[[B", true)
  | _ => ("PenOffice$Clerks", "nameLengths", "[I", true)
def tyX0 : Nat → FieldType := fun k => match k with
  | 0 => .int
  | 1 => .array (.array .byte)
  | _ => .array .int
abbrev wsX00 : List Cond := u_ws RX0 TX0 3
theorem nmX0 : ∀ a, a < 3 → ∀ b, b < 3 → a ≠ b → (TX0 a).2.1 ≠ (TX0 b).2.1 := by decide +kernel
theorem tyX0_ok : ∀ k, k < 3 → parseFieldDescriptor (TX0 k).2.2.1 = some (tyX0 k) := by decide +kernel
abbrev cX0_init : ByteArray := prog_2_method_1_code
def yX0_init : MethodName := ⟨RX0, "<init>", "()V"⟩
abbrev cX0_copyFrom : ByteArray := prog_2_method_2_code
def yX0_copyFrom : MethodName := ⟨RX0, "copyFrom", "(LPenOffice$Clerks;)V"⟩
abbrev cX0_add : ByteArray := prog_2_method_3_code
def yX0_add : MethodName := ⟨RX0, "add", "([BII)V"⟩
abbrev cX0_find : ByteArray := prog_2_method_4_code
def yX0_find : MethodName := ⟨RX0, "find", "([BII)I"⟩
abbrev cX0_isNamed : ByteArray := prog_2_method_5_code
def yX0_isNamed : MethodName := ⟨RX0, "isNamed", "(I[BII)Z"⟩
def RX1 : String := "PenOffice$Command"
def TX1 : u_T := fun k => match k with
  | 0 => ("PenOffice$Command", "kind", "I", false)
  | 1 => ("PenOffice$Command", "clerk", "I", false)
  | _ => ("PenOffice$Command", "numbers", "[I", true)
def tyX1 : Nat → FieldType := fun k => match k with
  | 0 => .int
  | 1 => .int
  | _ => .array .int
abbrev wsX10 : List Cond := u_ws RX1 TX1 3
theorem nmX1 : ∀ a, a < 3 → ∀ b, b < 3 → a ≠ b → (TX1 a).2.1 ≠ (TX1 b).2.1 := by decide +kernel
theorem tyX1_ok : ∀ k, k < 3 → parseFieldDescriptor (TX1 k).2.2.1 = some (tyX1 k) := by decide +kernel
abbrev cX1_init : ByteArray := prog_3_method_1_code
def yX1_init : MethodName := ⟨RX1, "<init>", "()V"⟩
def RX2 : String := "PenOffice$Fault"
def TX2 : u_T := fun k => match k with
  | _ => ("", "", "", false)
def tyX2 : Nat → FieldType := fun k => match k with
  | _ => .int
abbrev wsX20 : List Cond := u_ws RX2 TX2 0
theorem nmX2 : ∀ a, a < 0 → ∀ b, b < 0 → a ≠ b → (TX2 a).2.1 ≠ (TX2 b).2.1 := by decide +kernel
theorem tyX2_ok : ∀ k, k < 0 → parseFieldDescriptor (TX2 k).2.2.1 = some (tyX2 k) := by decide +kernel
def RX3 : String := "PenOffice$History"
def TX3 : u_T := fun k => match k with
  | 0 => ("PenOffice$History", "states", "[LPenOffice$State;", true)
  | 1 => ("PenOffice$History", "count", "I", false)
  | _ => ("PenOffice$History", "newest", "I", false)
def tyX3 : Nat → FieldType := fun k => match k with
  | 0 => .array (.object "PenOffice$State")
  | 1 => .int
  | _ => .int
abbrev wsX30 : List Cond := u_ws RX3 TX3 3
theorem nmX3 : ∀ a, a < 3 → ∀ b, b < 3 → a ≠ b → (TX3 a).2.1 ≠ (TX3 b).2.1 := by decide +kernel
theorem tyX3_ok : ∀ k, k < 3 → parseFieldDescriptor (TX3 k).2.2.1 = some (tyX3 k) := by decide +kernel
abbrev cX3_init : ByteArray := prog_5_method_1_code
def yX3_init : MethodName := ⟨RX3, "<init>", "()V"⟩
abbrev cX3_keep : ByteArray := prog_5_method_2_code
def yX3_keep : MethodName := ⟨RX3, "keep", "(LPenOffice$State;)V"⟩
def RX4 : String := "PenOffice$Input"
def TX4 : u_T := fun k => match k with
  | 0 => ("PenOffice$Input", "bytes", "[B", true)
  | 1 => ("PenOffice$Input", "length", "I", false)
  | 2 => ("PenOffice$Input", "kind", "I", false)
  | 3 => ("PenOffice$Input", "start", "I", false)
  | 4 => ("PenOffice$Input", "after", "I", false)
  | 5 => ("PenOffice$Input", "numbers", "[I", true)
  | 6 => ("PenOffice$Input", "errorCode", "I", false)
  | _ => ("PenOffice$Input", "errorPosition", "I", false)
def tyX4 : Nat → FieldType := fun k => match k with
  | 0 => .array .byte
  | 1 => .int
  | 2 => .int
  | 3 => .int
  | 4 => .int
  | 5 => .array .int
  | 6 => .int
  | _ => .int
abbrev wsX40 : List Cond := u_ws RX4 TX4 8
theorem nmX4 : ∀ a, a < 8 → ∀ b, b < 8 → a ≠ b → (TX4 a).2.1 ≠ (TX4 b).2.1 := by decide +kernel
theorem tyX4_ok : ∀ k, k < 8 → parseFieldDescriptor (TX4 k).2.2.1 = some (tyX4 k) := by decide +kernel
abbrev cX4_init : ByteArray := prog_6_method_1_code
def yX4_init : MethodName := ⟨RX4, "<init>", "()V"⟩
abbrev cX4_putText : ByteArray := prog_6_method_2_code
def yX4_putText : MethodName := ⟨RX4, "putText", "(Ljava/lang/String;)V"⟩
abbrev cX4_putFour : ByteArray := prog_6_method_3_code
def yX4_putFour : MethodName := ⟨RX4, "putFour", "(I)V"⟩
abbrev cX4_putByte : ByteArray := prog_6_method_4_code
def yX4_putByte : MethodName := ⟨RX4, "putByte", "(I)V"⟩
abbrev cX4_begin : ByteArray := prog_6_method_5_code
def yX4_begin : MethodName := ⟨RX4, "begin", "()V"⟩
abbrev cX4_advance : ByteArray := prog_6_method_6_code
def yX4_advance : MethodName := ⟨RX4, "advance", "()V"⟩
abbrev cX4_endRun : ByteArray := prog_6_method_7_code
def yX4_endRun : MethodName := ⟨RX4, "endRun", "(II)V"⟩
abbrev cX4_fail : ByteArray := prog_6_method_8_code
def yX4_fail : MethodName := ⟨RX4, "fail", "(I)Z"⟩
abbrev cX4_isAtWord : ByteArray := prog_6_method_9_code
def yX4_isAtWord : MethodName := ⟨RX4, "isAtWord", "(Ljava/lang/String;)Z"⟩
abbrev cX4_takeKeyword : ByteArray := prog_6_method_10_code
def yX4_takeKeyword : MethodName := ⟨RX4, "takeKeyword", "(Ljava/lang/String;)Z"⟩
abbrev cX4_takeSemicolon : ByteArray := prog_6_method_11_code
def yX4_takeSemicolon : MethodName := ⟨RX4, "takeSemicolon", "()Z"⟩
abbrev cX4_isAtName : ByteArray := prog_6_method_12_code
def yX4_isAtName : MethodName := ⟨RX4, "isAtName", "()Z"⟩
abbrev cX4_takeClerk : ByteArray := prog_6_method_13_code
def yX4_takeClerk : MethodName := ⟨RX4, "takeClerk", "(LPenOffice$Clerks;)I"⟩
abbrev cX4_takeNumbers : ByteArray := prog_6_method_14_code
def yX4_takeNumbers : MethodName := ⟨RX4, "takeNumbers", "([I[I)Z"⟩
abbrev cX4_takeNumber : ByteArray := prog_6_method_16_code
def yX4_takeNumber : MethodName := ⟨RX4, "takeNumber", "(I)Z"⟩
def RX5 : String := "PenOffice$Letter"
def TX5 : u_T := fun k => match k with
  | 0 => ("PenOffice$Letter", "clerk", "I", false)
  | 1 => ("PenOffice$Letter", "length", "I", false)
  | 2 => ("PenOffice$Letter", "arrival", "I", false)
  | 3 => ("PenOffice$Letter", "deadline", "I", false)
  | 4 => ("PenOffice$Letter", "priority", "I", false)
  | 5 => ("PenOffice$Letter", "remaining", "I", false)
  | 6 => ("PenOffice$Letter", "finish", "I", false)
  | _ => ("PenOffice$Letter", "written", "I", false)
def tyX5 : Nat → FieldType := fun k => match k with
  | 0 => .int
  | 1 => .int
  | 2 => .int
  | 3 => .int
  | 4 => .int
  | 5 => .int
  | 6 => .int
  | _ => .int
abbrev wsX50 : List Cond := u_ws RX5 TX5 8
theorem nmX5 : ∀ a, a < 8 → ∀ b, b < 8 → a ≠ b → (TX5 a).2.1 ≠ (TX5 b).2.1 := by decide +kernel
theorem tyX5_ok : ∀ k, k < 8 → parseFieldDescriptor (TX5 k).2.2.1 = some (tyX5 k) := by decide +kernel
abbrev cX5_init : ByteArray := prog_7_method_1_code
def yX5_init : MethodName := ⟨RX5, "<init>", "()V"⟩
abbrev cX5_copyFrom : ByteArray := prog_7_method_2_code
def yX5_copyFrom : MethodName := ⟨RX5, "copyFrom", "(LPenOffice$Letter;)V"⟩
abbrev cX5_isReadyAt : ByteArray := prog_7_method_3_code
def yX5_isReadyAt : MethodName := ⟨RX5, "isReadyAt", "(I)Z"⟩
abbrev cX5_waitedAt : ByteArray := prog_7_method_5_code
def yX5_waitedAt : MethodName := ⟨RX5, "waitedAt", "(I)I"⟩
def RX6 : String := "PenOffice$Output"
def TX6 : u_T := fun k => match k with
  | 0 => ("PenOffice$Output", "bytes", "[B", true)
  | _ => ("PenOffice$Output", "length", "I", false)
def tyX6 : Nat → FieldType := fun k => match k with
  | 0 => .array .byte
  | _ => .int
abbrev wsX60 : List Cond := u_ws RX6 TX6 2
theorem nmX6 : ∀ a, a < 2 → ∀ b, b < 2 → a ≠ b → (TX6 a).2.1 ≠ (TX6 b).2.1 := by decide +kernel
theorem tyX6_ok : ∀ k, k < 2 → parseFieldDescriptor (TX6 k).2.2.1 = some (tyX6 k) := by decide +kernel
abbrev cX6_init : ByteArray := prog_8_method_1_code
def yX6_init : MethodName := ⟨RX6, "<init>", "()V"⟩
def RX7 : String := "PenOffice$Script"
def TX7 : u_T := fun k => match k with
  | 0 => ("PenOffice$Script", "commands", "[LPenOffice$Command;", true)
  | _ => ("PenOffice$Script", "count", "I", false)
def tyX7 : Nat → FieldType := fun k => match k with
  | 0 => .array (.object "PenOffice$Command")
  | _ => .int
abbrev wsX70 : List Cond := u_ws RX7 TX7 2
theorem nmX7 : ∀ a, a < 2 → ∀ b, b < 2 → a ≠ b → (TX7 a).2.1 ≠ (TX7 b).2.1 := by decide +kernel
theorem tyX7_ok : ∀ k, k < 2 → parseFieldDescriptor (TX7 k).2.2.1 = some (tyX7 k) := by decide +kernel
abbrev cX7_init : ByteArray := prog_9_method_1_code
def yX7_init : MethodName := ⟨RX7, "<init>", "()V"⟩
def RX8 : String := "PenOffice$Settings"
def TX8 : u_T := fun k => match k with
  | 0 => ("PenOffice$Settings", "handOverTime", "I", false)
  | 1 => ("PenOffice$Settings", "inkCapacity", "I", false)
  | 2 => ("PenOffice$Settings", "refillTime", "I", false)
  | 3 => ("PenOffice$Settings", "quantum", "I", false)
  | 4 => ("PenOffice$Settings", "agingTime", "I", false)
  | _ => ("PenOffice$Settings", "blot", "I", false)
def tyX8 : Nat → FieldType := fun k => match k with
  | 0 => .int
  | 1 => .int
  | 2 => .int
  | 3 => .int
  | 4 => .int
  | _ => .int
abbrev wsX80 : List Cond := u_ws RX8 TX8 6
theorem nmX8 : ∀ a, a < 6 → ∀ b, b < 6 → a ≠ b → (TX8 a).2.1 ≠ (TX8 b).2.1 := by decide +kernel
theorem tyX8_ok : ∀ k, k < 6 → parseFieldDescriptor (TX8 k).2.2.1 = some (tyX8 k) := by decide +kernel
abbrev cX8_init : ByteArray := prog_10_method_1_code
def yX8_init : MethodName := ⟨RX8, "<init>", "()V"⟩
abbrev cX8_copyFrom : ByteArray := prog_10_method_2_code
def yX8_copyFrom : MethodName := ⟨RX8, "copyFrom", "(LPenOffice$Settings;)V"⟩
abbrev cX8_effective : ByteArray := prog_10_method_3_code
def yX8_effective : MethodName := ⟨RX8, "effective", "(II)I"⟩
def RX9 : String := "PenOffice$State"
def TX9 : u_T := fun k => match k with
  | 0 => ("PenOffice$State", "settings", "LPenOffice$Settings;", true)
  | 1 => ("PenOffice$State", "clerks", "LPenOffice$Clerks;", true)
  | 2 => ("PenOffice$State", "letters", "[LPenOffice$Letter;", true)
  | 3 => ("PenOffice$State", "letterCount", "I", false)
  | 4 => ("PenOffice$State", "minute", "I", false)
  | 5 => ("PenOffice$State", "policy", "I", false)
  | 6 => ("PenOffice$State", "holder", "I", false)
  | 7 => ("PenOffice$State", "current", "I", false)
  | 8 => ("PenOffice$State", "last", "I", false)
  | 9 => ("PenOffice$State", "run", "I", false)
  | 10 => ("PenOffice$State", "ink", "I", false)
  | 11 => ("PenOffice$State", "refillLeft", "I", false)
  | 12 => ("PenOffice$State", "handOverLeft", "I", false)
  | 13 => ("PenOffice$State", "blots", "I", false)
  | 14 => ("PenOffice$State", "handOvers", "I", false)
  | 15 => ("PenOffice$State", "writtenMinutes", "I", false)
  | 16 => ("PenOffice$State", "idleMinutes", "I", false)
  | 17 => ("PenOffice$State", "refillMinutes", "I", false)
  | _ => ("PenOffice$State", "handOverMinutes", "I", false)
def tyX9 : Nat → FieldType := fun k => match k with
  | 0 => .object "PenOffice$Settings"
  | 1 => .object "PenOffice$Clerks"
  | 2 => .array (.object "PenOffice$Letter")
  | 3 => .int
  | 4 => .int
  | 5 => .int
  | 6 => .int
  | 7 => .int
  | 8 => .int
  | 9 => .int
  | 10 => .int
  | 11 => .int
  | 12 => .int
  | 13 => .int
  | 14 => .int
  | 15 => .int
  | 16 => .int
  | 17 => .int
  | _ => .int
abbrev wsX90 : List Cond := u_ws RX9 TX9 19
theorem nmX9 : ∀ a, a < 19 → ∀ b, b < 19 → a ≠ b → (TX9 a).2.1 ≠ (TX9 b).2.1 := by decide +kernel
theorem tyX9_ok : ∀ k, k < 19 → parseFieldDescriptor (TX9 k).2.2.1 = some (tyX9 k) := by decide +kernel
abbrev cX9_init : ByteArray := prog_11_method_1_code
def yX9_init : MethodName := ⟨RX9, "<init>", "()V"⟩
abbrev cX9_begin : ByteArray := prog_11_method_2_code
def yX9_begin : MethodName := ⟨RX9, "begin", "()V"⟩
abbrev cX9_copyFrom : ByteArray := prog_11_method_3_code
def yX9_copyFrom : MethodName := ⟨RX9, "copyFrom", "(LPenOffice$State;)V"⟩
abbrev cX9_hasClerk : ByteArray := prog_11_method_4_code
def yX9_hasClerk : MethodName := ⟨RX9, "hasClerk", "(I)Z"⟩
abbrev cX9_hasLetter : ByteArray := prog_11_method_5_code
def yX9_hasLetter : MethodName := ⟨RX9, "hasLetter", "(I)Z"⟩
abbrev cX9_putLetter : ByteArray := prog_11_method_6_code
def yX9_putLetter : MethodName := ⟨RX9, "putLetter", "(IIIII)I"⟩
abbrev cX9_dropLetter : ByteArray := prog_11_method_7_code
def yX9_dropLetter : MethodName := ⟨RX9, "dropLetter", "(I)I"⟩
abbrev cX9_countReady : ByteArray := prog_11_method_8_code
def yX9_countReady : MethodName := ⟨RX9, "countReady", "()I"⟩
abbrev cX9_countOpen : ByteArray := prog_11_method_9_code
def yX9_countOpen : MethodName := ⟨RX9, "countOpen", "()I"⟩
abbrev cX9_selectBy : ByteArray := prog_11_method_16_code
def yX9_selectBy : MethodName := ⟨RX9, "selectBy", "(I)I"⟩
abbrev cX9_rankBy : ByteArray := prog_11_method_17_code
def yX9_rankBy : MethodName := ⟨RX9, "rankBy", "(ILPenOffice$Letter;)I"⟩
abbrev cX9_selectInTurn : ByteArray := prog_11_method_18_code
def yX9_selectInTurn : MethodName := ⟨RX9, "selectInTurn", "()I"⟩
abbrev cX9_runMinutes : ByteArray := prog_11_method_21_code
def yX9_runMinutes : MethodName := ⟨RX9, "runMinutes", "(I)I"⟩
abbrev cX9_isFinished : ByteArray := prog_11_method_22_code
def yX9_isFinished : MethodName := ⟨RX9, "isFinished", "(I)Z"⟩
abbrev cX9_runMinute : ByteArray := prog_11_method_23_code
def yX9_runMinute : MethodName := ⟨RX9, "runMinute", "()I"⟩
abbrev cX9_refill : ByteArray := prog_11_method_24_code
def yX9_refill : MethodName := ⟨RX9, "refill", "()V"⟩
abbrev cX9_beginsHandOverTo : ByteArray := prog_11_method_25_code
def yX9_beginsHandOverTo : MethodName := ⟨RX9, "beginsHandOverTo", "(I)Z"⟩
abbrev cX9_write : ByteArray := prog_11_method_26_code
def yX9_write : MethodName := ⟨RX9, "write", "(I)V"⟩
abbrev cX9_smear : ByteArray := prog_11_method_27_code
def yX9_smear : MethodName := ⟨RX9, "smear", "(LPenOffice$Letter;)V"⟩
abbrev cX9_useInk : ByteArray := prog_11_method_28_code
def yX9_useInk : MethodName := ⟨RX9, "useInk", "()V"⟩
def RX10 : String := "PenOffice"
def TX10 : u_T := fun k => match k with
  | 0 => ("PenOffice", "state", "LPenOffice$State;", true)
  | 1 => ("PenOffice", "spare", "LPenOffice$State;", true)
  | 2 => ("PenOffice", "input", "LPenOffice$Input;", true)
  | 3 => ("PenOffice", "script", "LPenOffice$Script;", true)
  | 4 => ("PenOffice", "output", "LPenOffice$Output;", true)
  | 5 => ("PenOffice", "history", "LPenOffice$History;", true)
  | 6 => ("PenOffice", "saved", "[LPenOffice$State;", true)
  | _ => ("PenOffice", "isSaved", "[Z", true)
def tyX10 : Nat → FieldType := fun k => match k with
  | 0 => .object "PenOffice$State"
  | 1 => .object "PenOffice$State"
  | 2 => .object "PenOffice$Input"
  | 3 => .object "PenOffice$Script"
  | 4 => .object "PenOffice$Output"
  | 5 => .object "PenOffice$History"
  | 6 => .array (.object "PenOffice$State")
  | _ => .array .boolean
abbrev wsX100 : List Cond := u_ws RX10 TX10 8
theorem nmX10 : ∀ a, a < 8 → ∀ b, b < 8 → a ≠ b → (TX10 a).2.1 ≠ (TX10 b).2.1 := by decide +kernel
theorem tyX10_ok : ∀ k, k < 8 → parseFieldDescriptor (TX10 k).2.2.1 = some (tyX10 k) := by decide +kernel
abbrev cX10_init : ByteArray := prog_1_method_1_code
def yX10_init : MethodName := ⟨RX10, "<init>", "()V"⟩
abbrev cX10_append : ByteArray := prog_1_method_2_code
def yX10_append : MethodName := ⟨RX10, "append", "(IIIII)I"⟩
abbrev cX10_truncate : ByteArray := prog_1_method_3_code
def yX10_truncate : MethodName := ⟨RX10, "truncate", "(I)I"⟩
abbrev cX10_load : ByteArray := prog_1_method_4_code
def yX10_load : MethodName := ⟨RX10, "load", "()I"⟩
abbrev cX10_clerkCount : ByteArray := prog_1_method_7_code
def yX10_clerkCount : MethodName := ⟨RX10, "clerkCount", "()I"⟩
abbrev cX10_letterCount : ByteArray := prog_1_method_8_code
def yX10_letterCount : MethodName := ⟨RX10, "letterCount", "()I"⟩
abbrev cX10_minute : ByteArray := prog_1_method_9_code
def yX10_minute : MethodName := ⟨RX10, "minute", "()I"⟩
abbrev cX10_policy : ByteArray := prog_1_method_10_code
def yX10_policy : MethodName := ⟨RX10, "policy", "()I"⟩
abbrev cX10_holder : ByteArray := prog_1_method_11_code
def yX10_holder : MethodName := ⟨RX10, "holder", "()I"⟩
abbrev cX10_currentLetter : ByteArray := prog_1_method_12_code
def yX10_currentLetter : MethodName := ⟨RX10, "currentLetter", "()I"⟩
abbrev cX10_lastLetter : ByteArray := prog_1_method_13_code
def yX10_lastLetter : MethodName := ⟨RX10, "lastLetter", "()I"⟩
abbrev cX10_runLength : ByteArray := prog_1_method_14_code
def yX10_runLength : MethodName := ⟨RX10, "runLength", "()I"⟩
abbrev cX10_ink : ByteArray := prog_1_method_15_code
def yX10_ink : MethodName := ⟨RX10, "ink", "()I"⟩
abbrev cX10_refillLeft : ByteArray := prog_1_method_16_code
def yX10_refillLeft : MethodName := ⟨RX10, "refillLeft", "()I"⟩
abbrev cX10_handOverLeft : ByteArray := prog_1_method_17_code
def yX10_handOverLeft : MethodName := ⟨RX10, "handOverLeft", "()I"⟩
abbrev cX10_clerkOf : ByteArray := prog_1_method_20_code
def yX10_clerkOf : MethodName := ⟨RX10, "clerkOf", "(I)I"⟩
abbrev cX10_length : ByteArray := prog_1_method_21_code
def yX10_length : MethodName := ⟨RX10, "length", "(I)I"⟩
abbrev cX10_arrival : ByteArray := prog_1_method_22_code
def yX10_arrival : MethodName := ⟨RX10, "arrival", "(I)I"⟩
abbrev cX10_deadline : ByteArray := prog_1_method_23_code
def yX10_deadline : MethodName := ⟨RX10, "deadline", "(I)I"⟩
abbrev cX10_priority : ByteArray := prog_1_method_24_code
def yX10_priority : MethodName := ⟨RX10, "priority", "(I)I"⟩
abbrev cX10_remaining : ByteArray := prog_1_method_25_code
def yX10_remaining : MethodName := ⟨RX10, "remaining", "(I)I"⟩
abbrev cX10_finishMinute : ByteArray := prog_1_method_26_code
def yX10_finishMinute : MethodName := ⟨RX10, "finishMinute", "(I)I"⟩
abbrev cX10_waitingTime : ByteArray := prog_1_method_27_code
def yX10_waitingTime : MethodName := ⟨RX10, "waitingTime", "(I)I"⟩
abbrev cX10_effectivePriority : ByteArray := prog_1_method_28_code
def yX10_effectivePriority : MethodName := ⟨RX10, "effectivePriority", "(I)I"⟩
abbrev cX10_isReady : ByteArray := prog_1_method_29_code
def yX10_isReady : MethodName := ⟨RX10, "isReady", "(I)Z"⟩
abbrev cX10_readyCount : ByteArray := prog_1_method_30_code
def yX10_readyCount : MethodName := ⟨RX10, "readyCount", "()I"⟩
abbrev cX10_selectedLetter : ByteArray := prog_1_method_31_code
def yX10_selectedLetter : MethodName := ⟨RX10, "selectedLetter", "()I"⟩
abbrev cX10_selectedBy : ByteArray := prog_1_method_32_code
def yX10_selectedBy : MethodName := ⟨RX10, "selectedBy", "(I)I"⟩
abbrev cX10_finishedCount : ByteArray := prog_1_method_36_code
def yX10_finishedCount : MethodName := ⟨RX10, "finishedCount", "()I"⟩
abbrev cX10_blots : ByteArray := prog_1_method_39_code
def yX10_blots : MethodName := ⟨RX10, "blots", "()I"⟩
abbrev cX10_handOvers : ByteArray := prog_1_method_40_code
def yX10_handOvers : MethodName := ⟨RX10, "handOvers", "()I"⟩
abbrev cX10_writtenMinutes : ByteArray := prog_1_method_41_code
def yX10_writtenMinutes : MethodName := ⟨RX10, "writtenMinutes", "()I"⟩
abbrev cX10_idleMinutes : ByteArray := prog_1_method_42_code
def yX10_idleMinutes : MethodName := ⟨RX10, "idleMinutes", "()I"⟩
abbrev cX10_inconsistencies : ByteArray := prog_1_method_45_code
def yX10_inconsistencies : MethodName := ⟨RX10, "inconsistencies", "()I"⟩
abbrev cX10_addLetter : ByteArray := prog_1_method_53_code
def yX10_addLetter : MethodName := ⟨RX10, "addLetter", "(IIIII)I"⟩
abbrev cX10_pass : ByteArray := prog_1_method_54_code
def yX10_pass : MethodName := ⟨RX10, "pass", "(I)I"⟩
abbrev cX10_setPolicy : ByteArray := prog_1_method_55_code
def yX10_setPolicy : MethodName := ⟨RX10, "setPolicy", "(I)I"⟩
abbrev cX10_setDeadline : ByteArray := prog_1_method_56_code
def yX10_setDeadline : MethodName := ⟨RX10, "setDeadline", "(II)I"⟩
abbrev cX10_setPriority : ByteArray := prog_1_method_57_code
def yX10_setPriority : MethodName := ⟨RX10, "setPriority", "(II)I"⟩
abbrev cX10_discard : ByteArray := prog_1_method_59_code
def yX10_discard : MethodName := ⟨RX10, "discard", "(I)I"⟩
abbrev cX10_requireLetter : ByteArray := prog_1_method_67_code
def yX10_requireLetter : MethodName := ⟨RX10, "requireLetter", "(I)V"⟩
abbrev cX10_refuse : ByteArray := prog_1_method_69_code
def yX10_refuse : MethodName := ⟨RX10, "refuse", "(LPenOffice$Fault;)V"⟩
abbrev cX10_addFault : ByteArray := prog_1_method_70_code
def yX10_addFault : MethodName := ⟨RX10, "addFault", "(IIIII)LPenOffice$Fault;"⟩
abbrev cX10_passFault : ByteArray := prog_1_method_71_code
def yX10_passFault : MethodName := ⟨RX10, "passFault", "(I)LPenOffice$Fault;"⟩
abbrev cX10_policyFault : ByteArray := prog_1_method_72_code
def yX10_policyFault : MethodName := ⟨RX10, "policyFault", "(I)LPenOffice$Fault;"⟩
abbrev cX10_deadlineFault : ByteArray := prog_1_method_73_code
def yX10_deadlineFault : MethodName := ⟨RX10, "deadlineFault", "(II)LPenOffice$Fault;"⟩
abbrev cX10_priorityFault : ByteArray := prog_1_method_74_code
def yX10_priorityFault : MethodName := ⟨RX10, "priorityFault", "(II)LPenOffice$Fault;"⟩
abbrev cX10_discardFault : ByteArray := prog_1_method_76_code
def yX10_discardFault : MethodName := ⟨RX10, "discardFault", "(I)LPenOffice$Fault;"⟩
abbrev cX10_outside : ByteArray := prog_1_method_77_code
def yX10_outside : MethodName := ⟨RX10, "outside", "(III)Z"⟩
abbrev cX10_readSetup : ByteArray := prog_1_method_81_code
def yX10_readSetup : MethodName := ⟨RX10, "readSetup", "(LPenOffice$Input;LPenOffice$State;)Z"⟩
abbrev cX10_readSettings : ByteArray := prog_1_method_82_code
def yX10_readSettings : MethodName := ⟨RX10, "readSettings", "(LPenOffice$Input;LPenOffice$State;)Z"⟩
abbrev cX10_readClerks : ByteArray := prog_1_method_83_code
def yX10_readClerks : MethodName := ⟨RX10, "readClerks", "(LPenOffice$Input;LPenOffice$Clerks;)Z"⟩
abbrev cX10_readLetters : ByteArray := prog_1_method_84_code
def yX10_readLetters : MethodName := ⟨RX10, "readLetters", "(LPenOffice$Input;LPenOffice$State;)Z"⟩
def RX11 : String := "PenOfficeLaw$Office"
def TX11 : u_T := fun k => match k with
  | 0 => ("PenOfficeLaw$Office", "x", "LPenOffice;", true)
  | 1 => ("PenOfficeLaw$Office", "s", "[I", true)
  | 2 => ("PenOfficeLaw$Office", "rest", "[I", true)
  | 3 => ("PenOfficeLaw$Office", "finish", "[I", true)
  | 4 => ("PenOfficeLaw$Office", "worked", "[I", true)
  | 5 => ("PenOfficeLaw$Office", "many", "I", false)
  | 6 => ("PenOfficeLaw$Office", "minute", "I", false)
  | 7 => ("PenOfficeLaw$Office", "holder", "I", false)
  | 8 => ("PenOfficeLaw$Office", "last", "I", false)
  | 9 => ("PenOfficeLaw$Office", "run", "I", false)
  | 10 => ("PenOfficeLaw$Office", "ink", "I", false)
  | 11 => ("PenOfficeLaw$Office", "refillLeft", "I", false)
  | 12 => ("PenOfficeLaw$Office", "handLeft", "I", false)
  | 13 => ("PenOfficeLaw$Office", "blots", "I", false)
  | 14 => ("PenOfficeLaw$Office", "handOvers", "I", false)
  | 15 => ("PenOfficeLaw$Office", "written", "I", false)
  | _ => ("PenOfficeLaw$Office", "idle", "I", false)
def tyX11 : Nat → FieldType := fun k => match k with
  | 0 => .object "PenOffice"
  | 1 => .array .int
  | 2 => .array .int
  | 3 => .array .int
  | 4 => .array .int
  | 5 => .int
  | 6 => .int
  | 7 => .int
  | 8 => .int
  | 9 => .int
  | 10 => .int
  | 11 => .int
  | 12 => .int
  | 13 => .int
  | 14 => .int
  | 15 => .int
  | _ => .int
abbrev wsX110 : List Cond := u_ws RX11 TX11 17
theorem nmX11 : ∀ a, a < 17 → ∀ b, b < 17 → a ≠ b → (TX11 a).2.1 ≠ (TX11 b).2.1 := by decide +kernel
theorem tyX11_ok : ∀ k, k < 17 → parseFieldDescriptor (TX11 k).2.2.1 = some (tyX11 k) := by decide +kernel
abbrev cX11_init : ByteArray := prog_13_method_1_code
def yX11_init : MethodName := ⟨RX11, "<init>", "(LPenOffice;[I)V"⟩
abbrev cX11_read : ByteArray := prog_13_method_2_code
def yX11_read : MethodName := ⟨RX11, "read", "()V"⟩
abbrev cX11_isReady : ByteArray := prog_13_method_3_code
def yX11_isReady : MethodName := ⟨RX11, "isReady", "(I)Z"⟩
abbrev cX11_current : ByteArray := prog_13_method_4_code
def yX11_current : MethodName := ⟨RX11, "current", "()I"⟩
abbrev cX11_waited : ByteArray := prog_13_method_5_code
def yX11_waited : MethodName := ⟨RX11, "waited", "(I)I"⟩
abbrev cX11_isAhead : ByteArray := prog_13_method_6_code
def yX11_isAhead : MethodName := ⟨RX11, "isAhead", "(III)Z"⟩
abbrev cX11_select : ByteArray := prog_13_method_7_code
def yX11_select : MethodName := ⟨RX11, "select", "(I)I"⟩
abbrev cX11_write : ByteArray := prog_13_method_8_code
def yX11_write : MethodName := ⟨RX11, "write", "(I)V"⟩
abbrev cX11_pass : ByteArray := prog_13_method_9_code
def yX11_pass : MethodName := ⟨RX11, "pass", "()V"⟩
abbrev cX11_agrees : ByteArray := prog_13_method_10_code
def yX11_agrees : MethodName := ⟨RX11, "agrees", "()Z"⟩
def RX12 : String := "PenOfficeModel"
def TX12 : u_T := fun k => match k with
  | _ => ("", "", "", false)
def tyX12 : Nat → FieldType := fun k => match k with
  | _ => .int
abbrev wsX120 : List Cond := u_ws RX12 TX12 0
theorem nmX12 : ∀ a, a < 0 → ∀ b, b < 0 → a ≠ b → (TX12 a).2.1 ≠ (TX12 b).2.1 := by decide +kernel
theorem tyX12_ok : ∀ k, k < 0 → parseFieldDescriptor (TX12 k).2.2.1 = some (tyX12 k) := by decide +kernel
def RJx145de : String := "java/io/Serializable"
def TJx145de : u_T := fun k => match k with
  | _ => ("", "", "", false)
def tyJx145de : Nat → FieldType := fun k => match k with
  | _ => .int
abbrev wsJx145de0 : List Cond := u_ws RJx145de TJx145de 0
theorem nmJx145de : ∀ a, a < 0 → ∀ b, b < 0 → a ≠ b → (TJx145de a).2.1 ≠ (TJx145de b).2.1 := by decide +kernel
theorem tyJx145de_ok : ∀ k, k < 0 → parseFieldDescriptor (TJx145de k).2.2.1 = some (tyJx145de k) := by decide +kernel
def RJ5 : String := "java/lang/AbstractStringBuilder"
def TJ5 : u_T := fun k => match k with
  | _ => ("", "", "", false)
def tyJ5 : Nat → FieldType := fun k => match k with
  | _ => .int
abbrev wsJ50 : List Cond := u_ws RJ5 TJ5 0
theorem nmJ5 : ∀ a, a < 0 → ∀ b, b < 0 → a ≠ b → (TJ5 a).2.1 ≠ (TJ5 b).2.1 := by decide +kernel
theorem tyJ5_ok : ∀ k, k < 0 → parseFieldDescriptor (TJ5 k).2.2.1 = some (tyJ5 k) := by decide +kernel
abbrev cJ5_init_a7421 : ByteArray := prog_15_method_3_code
def yJ5_init_a7421 : MethodName := ⟨RJ5, "<init>", "(Ljava/lang/String;)V"⟩
abbrev cJ5_length_8abf5 : ByteArray := prog_15_method_6_code
def yJ5_length_8abf5 : MethodName := ⟨RJ5, "length", "()I"⟩
abbrev cJ5_ensureCapacityInternal_d00df : ByteArray := prog_15_method_9_code
def yJ5_ensureCapacityInternal_d00df : MethodName := ⟨RJ5, "ensureCapacityInternal", "(I)V"⟩
abbrev cJ5_newCapacity_0f7a4 : ByteArray := prog_15_method_10_code
def yJ5_newCapacity_0f7a4 : MethodName := ⟨RJ5, "newCapacity", "(I)I"⟩
abbrev cJ5_inflate_da8c8 : ByteArray := prog_15_method_11_code
def yJ5_inflate_da8c8 : MethodName := ⟨RJ5, "inflate", "()V"⟩
abbrev cJ5_append_cf1ce : ByteArray := prog_15_method_22_code
def yJ5_append_cf1ce : MethodName := ⟨RJ5, "append", "(Ljava/lang/String;)Ljava/lang/AbstractStringBuilder;"⟩
abbrev cJ5_appendNull_278bc : ByteArray := prog_15_method_26_code
def yJ5_appendNull_278bc : MethodName := ⟨RJ5, "appendNull", "()Ljava/lang/AbstractStringBuilder;"⟩
abbrev cJ5_append_3fe6f : ByteArray := prog_15_method_31_code
def yJ5_append_3fe6f : MethodName := ⟨RJ5, "append", "(C)Ljava/lang/AbstractStringBuilder;"⟩
abbrev cJ5_append_c97b9 : ByteArray := prog_15_method_32_code
def yJ5_append_c97b9 : MethodName := ⟨RJ5, "append", "(I)Ljava/lang/AbstractStringBuilder;"⟩
abbrev cJ5_getValue_6d5f1 : ByteArray := prog_15_method_64_code
def yJ5_getValue_6d5f1 : MethodName := ⟨RJ5, "getValue", "()[B"⟩
abbrev cJ5_isLatin1_aae02 : ByteArray := prog_15_method_68_code
def yJ5_isLatin1_aae02 : MethodName := ⟨RJ5, "isLatin1", "()Z"⟩
abbrev cJ5_inflateIfNeededFor_a7421 : ByteArray := prog_15_method_71_code
def yJ5_inflateIfNeededFor_a7421 : MethodName := ⟨RJ5, "inflateIfNeededFor", "(Ljava/lang/String;)V"⟩
abbrev cJ5_putStringAt_47b60 : ByteArray := prog_15_method_73_code
def yJ5_putStringAt_47b60 : MethodName := ⟨RJ5, "putStringAt", "(ILjava/lang/String;)V"⟩
def RJx2cfe8 : String := "java/lang/Appendable"
def TJx2cfe8 : u_T := fun k => match k with
  | _ => ("", "", "", false)
def tyJx2cfe8 : Nat → FieldType := fun k => match k with
  | _ => .int
abbrev wsJx2cfe80 : List Cond := u_ws RJx2cfe8 TJx2cfe8 0
theorem nmJx2cfe8 : ∀ a, a < 0 → ∀ b, b < 0 → a ≠ b → (TJx2cfe8 a).2.1 ≠ (TJx2cfe8 b).2.1 := by decide +kernel
theorem tyJx2cfe8_ok : ∀ k, k < 0 → parseFieldDescriptor (TJx2cfe8 k).2.2.1 = some (tyJx2cfe8 k) := by decide +kernel
def RJx9f9b0 : String := "java/lang/CharSequence"
def TJx9f9b0 : u_T := fun k => match k with
  | _ => ("", "", "", false)
def tyJx9f9b0 : Nat → FieldType := fun k => match k with
  | _ => .int
abbrev wsJx9f9b00 : List Cond := u_ws RJx9f9b0 TJx9f9b0 0
theorem nmJx9f9b0 : ∀ a, a < 0 → ∀ b, b < 0 → a ≠ b → (TJx9f9b0 a).2.1 ≠ (TJx9f9b0 b).2.1 := by decide +kernel
theorem tyJx9f9b0_ok : ∀ k, k < 0 → parseFieldDescriptor (TJx9f9b0 k).2.2.1 = some (tyJx9f9b0 k) := by decide +kernel
def RJx8e188 : String := "java/lang/Cloneable"
def TJx8e188 : u_T := fun k => match k with
  | _ => ("", "", "", false)
def tyJx8e188 : Nat → FieldType := fun k => match k with
  | _ => .int
abbrev wsJx8e1880 : List Cond := u_ws RJx8e188 TJx8e188 0
theorem nmJx8e188 : ∀ a, a < 0 → ∀ b, b < 0 → a ≠ b → (TJx8e188 a).2.1 ≠ (TJx8e188 b).2.1 := by decide +kernel
theorem tyJx8e188_ok : ∀ k, k < 0 → parseFieldDescriptor (TJx8e188 k).2.2.1 = some (tyJx8e188 k) := by decide +kernel
def RJxb160c : String := "java/lang/Comparable"
def TJxb160c : u_T := fun k => match k with
  | _ => ("", "", "", false)
def tyJxb160c : Nat → FieldType := fun k => match k with
  | _ => .int
abbrev wsJxb160c0 : List Cond := u_ws RJxb160c TJxb160c 0
theorem nmJxb160c : ∀ a, a < 0 → ∀ b, b < 0 → a ≠ b → (TJxb160c a).2.1 ≠ (TJxb160c b).2.1 := by decide +kernel
theorem tyJxb160c_ok : ∀ k, k < 0 → parseFieldDescriptor (TJxb160c k).2.2.1 = some (tyJxb160c k) := by decide +kernel
def RJx29ce0 : String := "java/lang/Enum"
def TJx29ce0 : u_T := fun k => match k with
  | _ => ("", "", "", false)
def tyJx29ce0 : Nat → FieldType := fun k => match k with
  | _ => .int
abbrev wsJx29ce00 : List Cond := u_ws RJx29ce0 TJx29ce0 0
theorem nmJx29ce0 : ∀ a, a < 0 → ∀ b, b < 0 → a ≠ b → (TJx29ce0 a).2.1 ≠ (TJx29ce0 b).2.1 := by decide +kernel
theorem tyJx29ce0_ok : ∀ k, k < 0 → parseFieldDescriptor (TJx29ce0 k).2.2.1 = some (tyJx29ce0 k) := by decide +kernel
def RJ6 : String := "java/lang/Integer"
def TJ6 : u_T := fun k => match k with
  | _ => ("", "", "", false)
def tyJ6 : Nat → FieldType := fun k => match k with
  | _ => .int
abbrev wsJ60 : List Cond := u_ws RJ6 TJ6 0
theorem nmJ6 : ∀ a, a < 0 → ∀ b, b < 0 → a ≠ b → (TJ6 a).2.1 ≠ (TJ6 b).2.1 := by decide +kernel
theorem tyJ6_ok : ∀ k, k < 0 → parseFieldDescriptor (TJ6 k).2.2.1 = some (tyJ6 k) := by decide +kernel
abbrev cJ6_getChars_ba4f3 : ByteArray := prog_22_method_12_code
def yJ6_getChars_ba4f3 : MethodName := ⟨RJ6, "getChars", "(II[B)I"⟩
abbrev cJ6_stringSize_0f7a4 : ByteArray := prog_22_method_13_code
def yJ6_stringSize_0f7a4 : MethodName := ⟨RJ6, "stringSize", "(I)I"⟩
def RJ9 : String := "java/lang/Math"
def TJ9 : u_T := fun k => match k with
  | _ => ("", "", "", false)
def tyJ9 : Nat → FieldType := fun k => match k with
  | _ => .int
abbrev wsJ90 : List Cond := u_ws RJ9 TJ9 0
theorem nmJ9 : ∀ a, a < 0 → ∀ b, b < 0 → a ≠ b → (TJ9 a).2.1 ≠ (TJ9 b).2.1 := by decide +kernel
theorem tyJ9_ok : ∀ k, k < 0 → parseFieldDescriptor (TJ9 k).2.2.1 = some (tyJ9 k) := by decide +kernel
abbrev cJ9_max_7cf53 : ByteArray := prog_23_method_65_code
def yJ9_max_7cf53 : MethodName := ⟨RJ9, "max", "(II)I"⟩
abbrev cJ9_min_7cf53 : ByteArray := prog_23_method_69_code
def yJ9_min_7cf53 : MethodName := ⟨RJ9, "min", "(II)I"⟩
def RJxd2413 : String := "java/lang/Number"
def TJxd2413 : u_T := fun k => match k with
  | _ => ("", "", "", false)
def tyJxd2413 : Nat → FieldType := fun k => match k with
  | _ => .int
abbrev wsJxd24130 : List Cond := u_ws RJxd2413 TJxd2413 0
theorem nmJxd2413 : ∀ a, a < 0 → ∀ b, b < 0 → a ≠ b → (TJxd2413 a).2.1 ≠ (TJxd2413 b).2.1 := by decide +kernel
theorem tyJxd2413_ok : ∀ k, k < 0 → parseFieldDescriptor (TJxd2413 k).2.2.1 = some (tyJxd2413 k) := by decide +kernel
def RJ0 : String := "java/lang/String"
def TJ0 : u_T := fun k => match k with
  | 0 => ("java/lang/String", "value", "[B", true)
  | 1 => ("java/lang/String", "coder", "B", true)
  | 2 => ("java/lang/String", "hash", "I", false)
  | _ => ("java/lang/String", "hashIsZero", "Z", false)
def tyJ0 : Nat → FieldType := fun k => match k with
  | 0 => .array .byte
  | 1 => .byte
  | 2 => .int
  | _ => .boolean
abbrev wsJ00 : List Cond := u_ws RJ0 TJ0 4
theorem nmJ0 : ∀ a, a < 4 → ∀ b, b < 4 → a ≠ b → (TJ0 a).2.1 ≠ (TJ0 b).2.1 := by decide +kernel
theorem tyJ0_ok : ∀ k, k < 4 → parseFieldDescriptor (TJ0 k).2.2.1 = some (tyJ0 k) := by decide +kernel
abbrev cJ0_init_81219 : ByteArray := prog_26_method_53_code
def yJ0_init_81219 : MethodName := ⟨RJ0, "<init>", "(Ljava/lang/StringBuilder;)V"⟩
abbrev cJ0_length_8abf5 : ByteArray := prog_26_method_54_code
def yJ0_length_8abf5 : MethodName := ⟨RJ0, "length", "()I"⟩
abbrev cJ0_charAt_5068e : ByteArray := prog_26_method_56_code
def yJ0_charAt_5068e : MethodName := ⟨RJ0, "charAt", "(I)C"⟩
abbrev cJ0_getBytes_840e7 : ByteArray := prog_26_method_147_code
def yJ0_getBytes_840e7 : MethodName := ⟨RJ0, "getBytes", "([BIB)V"⟩
abbrev cJ0_init_db425 : ByteArray := prog_26_method_150_code
def yJ0_init_db425 : MethodName := ⟨RJ0, "<init>", "(Ljava/lang/AbstractStringBuilder;Ljava/lang/Void;)V"⟩
abbrev cJ0_coder_7d493 : ByteArray := prog_26_method_152_code
def yJ0_coder_7d493 : MethodName := ⟨RJ0, "coder", "()B"⟩
abbrev cJ0_isLatin1_aae02 : ByteArray := prog_26_method_154_code
def yJ0_isLatin1_aae02 : MethodName := ⟨RJ0, "isLatin1", "()Z"⟩
abbrev cJ0_checkIndex_df160 : ByteArray := prog_26_method_155_code
def yJ0_checkIndex_df160 : MethodName := ⟨RJ0, "checkIndex", "(II)V"⟩
abbrev cJ0_checkBoundsOffCount_cabcc : ByteArray := prog_26_method_157_code
def yJ0_checkBoundsOffCount_cabcc : MethodName := ⟨RJ0, "checkBoundsOffCount", "(III)I"⟩
abbrev cJ0_checkBoundsBeginEnd_23922 : ByteArray := prog_26_method_158_code
def yJ0_checkBoundsBeginEnd_23922 : MethodName := ⟨RJ0, "checkBoundsBeginEnd", "(III)V"⟩
def RJ4 : String := "java/lang/StringBuilder"
def TJ4 : u_T := fun k => match k with
  | 0 => ("java/lang/AbstractStringBuilder", "value", "[B", false)
  | 1 => ("java/lang/AbstractStringBuilder", "coder", "B", false)
  | 2 => ("java/lang/AbstractStringBuilder", "maybeLatin1", "Z", false)
  | _ => ("java/lang/AbstractStringBuilder", "count", "I", false)
def tyJ4 : Nat → FieldType := fun k => match k with
  | 0 => .array .byte
  | 1 => .byte
  | 2 => .boolean
  | _ => .int
abbrev wsJ40 : List Cond := u_ws RJ4 TJ4 4
theorem nmJ4 : ∀ a, a < 4 → ∀ b, b < 4 → a ≠ b → (TJ4 a).2.1 ≠ (TJ4 b).2.1 := by decide +kernel
theorem tyJ4_ok : ∀ k, k < 4 → parseFieldDescriptor (TJ4 k).2.2.1 = some (tyJ4 k) := by decide +kernel
abbrev cJ4_init_a7421 : ByteArray := prog_27_method_3_code
def yJ4_init_a7421 : MethodName := ⟨RJ4, "<init>", "(Ljava/lang/String;)V"⟩
abbrev cJ4_append_15ec4 : ByteArray := prog_27_method_7_code
def yJ4_append_15ec4 : MethodName := ⟨RJ4, "append", "(Ljava/lang/String;)Ljava/lang/StringBuilder;"⟩
abbrev cJ4_append_cf468 : ByteArray := prog_27_method_14_code
def yJ4_append_cf468 : MethodName := ⟨RJ4, "append", "(C)Ljava/lang/StringBuilder;"⟩
abbrev cJ4_append_bf812 : ByteArray := prog_27_method_15_code
def yJ4_append_bf812 : MethodName := ⟨RJ4, "append", "(I)Ljava/lang/StringBuilder;"⟩
abbrev cJ4_toString_0e30d : ByteArray := prog_27_method_42_code
def yJ4_toString_0e30d : MethodName := ⟨RJ4, "toString", "()Ljava/lang/String;"⟩
abbrev cJ4_append_cf1ce : ByteArray := prog_27_method_80_code
def yJ4_append_cf1ce : MethodName := ⟨RJ4, "append", "(Ljava/lang/String;)Ljava/lang/AbstractStringBuilder;"⟩
abbrev cJ4_length_8abf5 : ByteArray := prog_27_method_93_code
def yJ4_length_8abf5 : MethodName := ⟨RJ4, "length", "()I"⟩
def RJ1 : String := "java/lang/StringLatin1"
def TJ1 : u_T := fun k => match k with
  | _ => ("", "", "", false)
def tyJ1 : Nat → FieldType := fun k => match k with
  | _ => .int
abbrev wsJ10 : List Cond := u_ws RJ1 TJ1 0
theorem nmJ1 : ∀ a, a < 0 → ∀ b, b < 0 → a ≠ b → (TJ1 a).2.1 ≠ (TJ1 b).2.1 := by decide +kernel
theorem tyJ1_ok : ∀ k, k < 0 → parseFieldDescriptor (TJ1 k).2.2.1 = some (tyJ1 k) := by decide +kernel
abbrev cJ1_charAt_3b067 : ByteArray := prog_28_method_2_code
def yJ1_charAt_3b067 : MethodName := ⟨RJ1, "charAt", "([BI)C"⟩
abbrev cJ1_canEncode_fc78d : ByteArray := prog_28_method_3_code
def yJ1_canEncode_fc78d : MethodName := ⟨RJ1, "canEncode", "(C)Z"⟩
abbrev cJ1_inflate_0e8fd : ByteArray := prog_28_method_50_code
def yJ1_inflate_0e8fd : MethodName := ⟨RJ1, "inflate", "([BI[BII)V"⟩
def RJ2 : String := "java/lang/StringUTF16"
def TJ2 : u_T := fun k => match k with
  | _ => ("", "", "", false)
def tyJ2 : Nat → FieldType := fun k => match k with
  | _ => .int
abbrev wsJ20 : List Cond := u_ws RJ2 TJ2 0
theorem nmJ2 : ∀ a, a < 0 → ∀ b, b < 0 → a ≠ b → (TJ2 a).2.1 ≠ (TJ2 b).2.1 := by decide +kernel
theorem tyJ2_ok : ∀ k, k < 0 → parseFieldDescriptor (TJ2 k).2.2.1 = some (tyJ2 k) := by decide +kernel
abbrev cJ2_newBytesFor_77867 : ByteArray := prog_29_method_2_code
def yJ2_newBytesFor_77867 : MethodName := ⟨RJ2, "newBytesFor", "(I)[B"⟩
abbrev cJ2_newBytesLength_0f7a4 : ByteArray := prog_29_method_3_code
def yJ2_newBytesLength_0f7a4 : MethodName := ⟨RJ2, "newBytesLength", "(I)I"⟩
abbrev cJ2_putChar_b72d1 : ByteArray := prog_29_method_4_code
def yJ2_putChar_b72d1 : MethodName := ⟨RJ2, "putChar", "([BII)V"⟩
abbrev cJ2_getChar_3b067 : ByteArray := prog_29_method_5_code
def yJ2_getChar_3b067 : MethodName := ⟨RJ2, "getChar", "([BI)C"⟩
abbrev cJ2_length_9d52b : ByteArray := prog_29_method_6_code
def yJ2_length_9d52b : MethodName := ⟨RJ2, "length", "([B)I"⟩
abbrev cJ2_coderFromArrayLen_85cad : ByteArray := prog_29_method_15_code
def yJ2_coderFromArrayLen_85cad : MethodName := ⟨RJ2, "coderFromArrayLen", "([BI)B"⟩
abbrev cJ2_compress_39247 : ByteArray := prog_29_method_17_code
def yJ2_compress_39247 : MethodName := ⟨RJ2, "compress", "([BII)[B"⟩
abbrev cJ2_compress_5af95 : ByteArray := prog_29_method_22_code
def yJ2_compress_5af95 : MethodName := ⟨RJ2, "compress", "([BI[BII)I"⟩
abbrev cJ2_putCharSB_b72d1 : ByteArray := prog_29_method_71_code
def yJ2_putCharSB_b72d1 : MethodName := ⟨RJ2, "putCharSB", "([BII)V"⟩
abbrev cJ2_getChars_46870 : ByteArray := prog_29_method_77_code
def yJ2_getChars_46870 : MethodName := ⟨RJ2, "getChars", "(III[B)I"⟩
abbrev cJ2_putCharsAt_cd4e5 : ByteArray := prog_29_method_81_code
def yJ2_putCharsAt_cd4e5 : MethodName := ⟨RJ2, "putCharsAt", "([BICCCC)I"⟩
abbrev cJ2_charAt_3b067 : ByteArray := prog_29_method_83_code
def yJ2_charAt_3b067 : MethodName := ⟨RJ2, "charAt", "([BI)C"⟩
abbrev cJ2_inflate_0e8fd : ByteArray := prog_29_method_86_code
def yJ2_inflate_0e8fd : MethodName := ⟨RJ2, "inflate", "([BI[BII)V"⟩
abbrev cJ2_getChars_ba4f3 : ByteArray := prog_29_method_89_code
def yJ2_getChars_ba4f3 : MethodName := ⟨RJ2, "getChars", "(II[B)I"⟩
abbrev cJ2_checkIndex_2214a : ByteArray := prog_29_method_91_code
def yJ2_checkIndex_2214a : MethodName := ⟨RJ2, "checkIndex", "(I[B)V"⟩
abbrev cJ2_checkBoundsBeginEnd_d044e : ByteArray := prog_29_method_93_code
def yJ2_checkBoundsBeginEnd_d044e : MethodName := ⟨RJ2, "checkBoundsBeginEnd", "(II[B)V"⟩
abbrev cJ2_checkBoundsOffCount_d044e : ByteArray := prog_29_method_94_code
def yJ2_checkBoundsOffCount_d044e : MethodName := ⟨RJ2, "checkBoundsOffCount", "(II[B)V"⟩
def RJ10 : String := "java/lang/System"
def TJ10 : u_T := fun k => match k with
  | _ => ("", "", "", false)
def tyJ10 : Nat → FieldType := fun k => match k with
  | _ => .int
abbrev wsJ100 : List Cond := u_ws RJ10 TJ10 0
theorem nmJ10 : ∀ a, a < 0 → ∀ b, b < 0 → a ≠ b → (TJ10 a).2.1 ≠ (TJ10 b).2.1 := by decide +kernel
theorem tyJ10_ok : ∀ k, k < 0 → parseFieldDescriptor (TJ10 k).2.2.1 = some (tyJ10 k) := by decide +kernel
def RJxfd54e : String := "java/lang/constant/Constable"
def TJxfd54e : u_T := fun k => match k with
  | _ => ("", "", "", false)
def tyJxfd54e : Nat → FieldType := fun k => match k with
  | _ => .int
abbrev wsJxfd54e0 : List Cond := u_ws RJxfd54e TJxfd54e 0
theorem nmJxfd54e : ∀ a, a < 0 → ∀ b, b < 0 → a ≠ b → (TJxfd54e a).2.1 ≠ (TJxfd54e b).2.1 := by decide +kernel
theorem tyJxfd54e_ok : ∀ k, k < 0 → parseFieldDescriptor (TJxfd54e k).2.2.1 = some (tyJxfd54e k) := by decide +kernel
def RJx3cf43 : String := "java/lang/constant/ConstantDesc"
def TJx3cf43 : u_T := fun k => match k with
  | _ => ("", "", "", false)
def tyJx3cf43 : Nat → FieldType := fun k => match k with
  | _ => .int
abbrev wsJx3cf430 : List Cond := u_ws RJx3cf43 TJx3cf43 0
theorem nmJx3cf43 : ∀ a, a < 0 → ∀ b, b < 0 → a ≠ b → (TJx3cf43 a).2.1 ≠ (TJx3cf43 b).2.1 := by decide +kernel
theorem tyJx3cf43_ok : ∀ k, k < 0 → parseFieldDescriptor (TJx3cf43 k).2.2.1 = some (tyJx3cf43 k) := by decide +kernel
def RJ7 : String := "java/util/Arrays"
def TJ7 : u_T := fun k => match k with
  | _ => ("", "", "", false)
def tyJ7 : Nat → FieldType := fun k => match k with
  | _ => .int
abbrev wsJ70 : List Cond := u_ws RJ7 TJ7 0
theorem nmJ7 : ∀ a, a < 0 → ∀ b, b < 0 → a ≠ b → (TJ7 a).2.1 ≠ (TJ7 b).2.1 := by decide +kernel
theorem tyJ7_ok : ∀ k, k < 0 → parseFieldDescriptor (TJ7 k).2.2.1 = some (tyJ7 k) := by decide +kernel
abbrev cJ7_copyOf_9075b : ByteArray := prog_32_method_121_code
def yJ7_copyOf_9075b : MethodName := ⟨RJ7, "copyOf", "([BI)[B"⟩
abbrev cJ7_checkLength_df160 : ByteArray := prog_32_method_131_code
def yJ7_checkLength_df160 : MethodName := ⟨RJ7, "checkLength", "(II)V"⟩
abbrev cJ7_copyOfRange_39247 : ByteArray := prog_32_method_132_code
def yJ7_copyOfRange_39247 : MethodName := ⟨RJ7, "copyOfRange", "([BII)[B"⟩
abbrev cJ7_copyOfRangeByte_39247 : ByteArray := prog_32_method_133_code
def yJ7_copyOfRangeByte_39247 : MethodName := ⟨RJ7, "copyOfRangeByte", "([BII)[B"⟩
def RJ8 : String := "jdk/internal/util/ArraysSupport"
def TJ8 : u_T := fun k => match k with
  | _ => ("", "", "", false)
def tyJ8 : Nat → FieldType := fun k => match k with
  | _ => .int
abbrev wsJ80 : List Cond := u_ws RJ8 TJ8 0
theorem nmJ8 : ∀ a, a < 0 → ∀ b, b < 0 → a ≠ b → (TJ8 a).2.1 ≠ (TJ8 b).2.1 := by decide +kernel
theorem tyJ8_ok : ∀ k, k < 0 → parseFieldDescriptor (TJ8 k).2.2.1 = some (tyJ8 k) := by decide +kernel
abbrev cJ8_newLength_cabcc : ByteArray := prog_33_method_27_code
def yJ8_newLength_cabcc : MethodName := ⟨RJ8, "newLength", "(III)I"⟩
abbrev cJ8_hugeLength_7cf53 : ByteArray := prog_33_method_28_code
def yJ8_hugeLength_7cf53 : MethodName := ⟨RJ8, "hugeLength", "(II)I"⟩
def RJ3 : String := "jdk/internal/util/Preconditions"
def TJ3 : u_T := fun k => match k with
  | _ => ("", "", "", false)
def tyJ3 : Nat → FieldType := fun k => match k with
  | _ => .int
abbrev wsJ30 : List Cond := u_ws RJ3 TJ3 0
theorem nmJ3 : ∀ a, a < 0 → ∀ b, b < 0 → a ≠ b → (TJ3 a).2.1 ≠ (TJ3 b).2.1 := by decide +kernel
theorem tyJ3_ok : ∀ k, k < 0 → parseFieldDescriptor (TJ3 k).2.2.1 = some (tyJ3 k) := by decide +kernel
abbrev cJ3_checkIndex_8e157 : ByteArray := prog_34_method_11_code
def yJ3_checkIndex_8e157 : MethodName := ⟨RJ3, "checkIndex", "(IILjava/util/function/BiFunction;)I"⟩
abbrev cJ3_checkFromToIndex_8c36e : ByteArray := prog_34_method_12_code
def yJ3_checkFromToIndex_8c36e : MethodName := ⟨RJ3, "checkFromToIndex", "(IIILjava/util/function/BiFunction;)I"⟩
abbrev cJ3_checkFromIndexSize_8c36e : ByteArray := prog_34_method_13_code
def yJ3_checkFromIndexSize_8c36e : MethodName := ⟨RJ3, "checkFromIndexSize", "(IIILjava/util/function/BiFunction;)I"⟩
def RL : String := "PenOfficeLaw"
abbrev cL_pick : ByteArray := method_2_code
def yL_pick : MethodName := ⟨RL, "pick", "([III)I"⟩
abbrev cL_word : ByteArray := method_3_code
def yL_word : MethodName := ⟨RL, "word", "(Ljava/lang/String;I)I"⟩
abbrev cL_say : ByteArray := method_4_code
def yL_say : MethodName := ⟨RL, "say", "(LPenOffice;Ljava/lang/String;)Z"⟩
abbrev cL_policy : ByteArray := method_5_code
def yL_policy : MethodName := ⟨RL, "policy", "([I)I"⟩
abbrev cL_handOver : ByteArray := method_6_code
def yL_handOver : MethodName := ⟨RL, "handOver", "([I)I"⟩
abbrev cL_capacity : ByteArray := method_7_code
def yL_capacity : MethodName := ⟨RL, "capacity", "([I)I"⟩
abbrev cL_refill : ByteArray := method_8_code
def yL_refill : MethodName := ⟨RL, "refill", "([I)I"⟩
abbrev cL_quantum : ByteArray := method_9_code
def yL_quantum : MethodName := ⟨RL, "quantum", "([I)I"⟩
abbrev cL_aging : ByteArray := method_10_code
def yL_aging : MethodName := ⟨RL, "aging", "([I)I"⟩
abbrev cL_blot : ByteArray := method_11_code
def yL_blot : MethodName := ⟨RL, "blot", "([I)I"⟩
abbrev cL_setup : ByteArray := method_12_code
def yL_setup : MethodName := ⟨RL, "setup", "([III)Ljava/lang/String;"⟩
abbrev cL_act : ByteArray := method_13_code
def yL_act : MethodName := ⟨RL, "act", "(LPenOffice;I)V"⟩
abbrev cL_law : ByteArray := code
def yL_law : MethodName := ⟨RL, "law", "([I)Z"⟩
abbrev vwCl : List vw_C := [(RX0, TX0, 3), (RX1, TX1, 3), (RX3, TX3, 3), (RX4, TX4, 8), (RX5, TX5, 8), (RX6, TX6, 2), (RX7, TX7, 2), (RX8, TX8, 6), (RX9, TX9, 19), (RX10, TX10, 8), (RX11, TX11, 17), (RJ4, TJ4, 4), (RJ0, TJ0, 4)]
