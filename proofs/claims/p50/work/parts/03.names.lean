/-! ===== BEGIN printed: names, fields, word lists, decode rows ===== -/
def RX0 : String := "CandleConcert$1"
def TX0 : u_T := fun k => match k with
  | _ => ("", "", "", false)
def tyX0 : Nat → FieldType := fun k => match k with
  | _ => .int
abbrev wsX00 : List Cond := u_ws RX0 TX0 0
theorem nmX0 : ∀ a, a < 0 → ∀ b, b < 0 → a ≠ b → (TX0 a).2.1 ≠ (TX0 b).2.1 := by decide +kernel
theorem tyX0_ok : ∀ k, k < 0 → parseFieldDescriptor (TX0 k).2.2.1 = some (tyX0 k) := by decide +kernel
def RX1 : String := "CandleConcert$Candles"
def TX1 : u_T := fun k => match k with
  | 0 => ("CandleConcert$Candles", "voice", "[C", true)
  | 1 => ("CandleConcert$Candles", "wax", "[I", true)
  | 2 => ("CandleConcert$Candles", "rate", "[I", true)
  | 3 => ("CandleConcert$Candles", "lit", "[Z", true)
  | _ => ("CandleConcert$Candles", "count", "I", false)
def tyX1 : Nat → FieldType := fun k => match k with
  | 0 => .array .char
  | 1 => .array .int
  | 2 => .array .int
  | 3 => .array .boolean
  | _ => .int
abbrev wsX10 : List Cond := u_ws RX1 TX1 5
theorem nmX1 : ∀ a, a < 5 → ∀ b, b < 5 → a ≠ b → (TX1 a).2.1 ≠ (TX1 b).2.1 := by decide +kernel
theorem tyX1_ok : ∀ k, k < 5 → parseFieldDescriptor (TX1 k).2.2.1 = some (tyX1 k) := by decide +kernel
abbrev cX1_init : ByteArray := prog_3_method_1_code
def yX1_init : MethodName := ⟨RX1, "<init>", "()V"⟩
abbrev cX1_copyFrom : ByteArray := prog_3_method_2_code
def yX1_copyFrom : MethodName := ⟨RX1, "copyFrom", "(LCandleConcert$Candles;)V"⟩
abbrev cX1_has : ByteArray := prog_3_method_3_code
def yX1_has : MethodName := ⟨RX1, "has", "(I)Z"⟩
abbrev cX1_countLit : ByteArray := prog_3_method_4_code
def yX1_countLit : MethodName := ⟨RX1, "countLit", "()I"⟩
abbrev cX1_countLitOf : ByteArray := prog_3_method_5_code
def yX1_countLitOf : MethodName := ⟨RX1, "countLitOf", "(C)I"⟩
abbrev cX1_loudest : ByteArray := prog_3_method_6_code
def yX1_loudest : MethodName := ⟨RX1, "loudest", "()C"⟩
abbrev cX1_sumOfWax : ByteArray := prog_3_method_7_code
def yX1_sumOfWax : MethodName := ⟨RX1, "sumOfWax", "()I"⟩
abbrev cX1_atRank : ByteArray := prog_3_method_8_code
def yX1_atRank : MethodName := ⟨RX1, "atRank", "(I)I"⟩
abbrev cX1_rankOf : ByteArray := prog_3_method_9_code
def yX1_rankOf : MethodName := ⟨RX1, "rankOf", "(I)I"⟩
def RX2 : String := "CandleConcert$Command"
def TX2 : u_T := fun k => match k with
  | 0 => ("CandleConcert$Command", "kind", "LCandleConcert$Kind;", false)
  | 1 => ("CandleConcert$Command", "candle", "I", false)
  | 2 => ("CandleConcert$Command", "number", "I", false)
  | 3 => ("CandleConcert$Command", "rate", "I", false)
  | 4 => ("CandleConcert$Command", "voice", "C", false)
  | _ => ("CandleConcert$Command", "lighting", "Z", false)
def tyX2 : Nat → FieldType := fun k => match k with
  | 0 => .object "CandleConcert$Kind"
  | 1 => .int
  | 2 => .int
  | 3 => .int
  | 4 => .char
  | _ => .boolean
abbrev wsX20 : List Cond := u_ws RX2 TX2 6
theorem nmX2 : ∀ a, a < 6 → ∀ b, b < 6 → a ≠ b → (TX2 a).2.1 ≠ (TX2 b).2.1 := by decide +kernel
theorem tyX2_ok : ∀ k, k < 6 → parseFieldDescriptor (TX2 k).2.2.1 = some (tyX2 k) := by decide +kernel
abbrev cX2_init : ByteArray := prog_4_method_1_code
def yX2_init : MethodName := ⟨RX2, "<init>", "()V"⟩
def RX3 : String := "CandleConcert$Events"
def TX3 : u_T := fun k => match k with
  | 0 => ("CandleConcert$Events", "minute", "[I", true)
  | 1 => ("CandleConcert$Events", "candle", "[I", true)
  | 2 => ("CandleConcert$Events", "lighting", "[Z", true)
  | _ => ("CandleConcert$Events", "count", "I", false)
def tyX3 : Nat → FieldType := fun k => match k with
  | 0 => .array .int
  | 1 => .array .int
  | 2 => .array .boolean
  | _ => .int
abbrev wsX30 : List Cond := u_ws RX3 TX3 4
theorem nmX3 : ∀ a, a < 4 → ∀ b, b < 4 → a ≠ b → (TX3 a).2.1 ≠ (TX3 b).2.1 := by decide +kernel
theorem tyX3_ok : ∀ k, k < 4 → parseFieldDescriptor (TX3 k).2.2.1 = some (tyX3 k) := by decide +kernel
abbrev cX3_init : ByteArray := prog_5_method_1_code
def yX3_init : MethodName := ⟨RX3, "<init>", "()V"⟩
abbrev cX3_copyFrom : ByteArray := prog_5_method_2_code
def yX3_copyFrom : MethodName := ⟨RX3, "copyFrom", "(LCandleConcert$Events;)V"⟩
abbrev cX3_has : ByteArray := prog_5_method_3_code
def yX3_has : MethodName := ⟨RX3, "has", "(I)Z"⟩
abbrev cX3_isFull : ByteArray := prog_5_method_4_code
def yX3_isFull : MethodName := ⟨RX3, "isFull", "()Z"⟩
abbrev cX3_insert : ByteArray := prog_5_method_5_code
def yX3_insert : MethodName := ⟨RX3, "insert", "(IIZ)I"⟩
abbrev cX3_remove : ByteArray := prog_5_method_6_code
def yX3_remove : MethodName := ⟨RX3, "remove", "(I)V"⟩
abbrev cX3_move : ByteArray := prog_5_method_7_code
def yX3_move : MethodName := ⟨RX3, "move", "(II)V"⟩
def RX4 : String := "CandleConcert$History"
def TX4 : u_T := fun k => match k with
  | 0 => ("CandleConcert$History", "ring", "[LCandleConcert$State;", true)
  | 1 => ("CandleConcert$History", "next", "I", false)
  | _ => ("CandleConcert$History", "count", "I", false)
def tyX4 : Nat → FieldType := fun k => match k with
  | 0 => .array (.object "CandleConcert$State")
  | 1 => .int
  | _ => .int
abbrev wsX40 : List Cond := u_ws RX4 TX4 3
theorem nmX4 : ∀ a, a < 3 → ∀ b, b < 3 → a ≠ b → (TX4 a).2.1 ≠ (TX4 b).2.1 := by decide +kernel
theorem tyX4_ok : ∀ k, k < 3 → parseFieldDescriptor (TX4 k).2.2.1 = some (tyX4 k) := by decide +kernel
abbrev cX4_init : ByteArray := prog_6_method_1_code
def yX4_init : MethodName := ⟨RX4, "<init>", "()V"⟩
abbrev cX4_remember : ByteArray := prog_6_method_2_code
def yX4_remember : MethodName := ⟨RX4, "remember", "(LCandleConcert$State;)V"⟩
abbrev cX4_takeBack : ByteArray := prog_6_method_3_code
def yX4_takeBack : MethodName := ⟨RX4, "takeBack", "(LCandleConcert$State;)V"⟩
abbrev cX4_forget : ByteArray := prog_6_method_4_code
def yX4_forget : MethodName := ⟨RX4, "forget", "()V"⟩
def RX5 : String := "CandleConcert$Kind"
def TX5 : u_T := fun k => match k with
  | _ => ("", "", "", false)
def tyX5 : Nat → FieldType := fun k => match k with
  | _ => .int
abbrev wsX50 : List Cond := u_ws RX5 TX5 0
theorem nmX5 : ∀ a, a < 0 → ∀ b, b < 0 → a ≠ b → (TX5 a).2.1 ≠ (TX5 b).2.1 := by decide +kernel
theorem tyX5_ok : ∀ k, k < 0 → parseFieldDescriptor (TX5 k).2.2.1 = some (tyX5 k) := by decide +kernel
def RX6 : String := "CandleConcert$Program"
def TX6 : u_T := fun k => match k with
  | 0 => ("CandleConcert$Program", "text", "[C", true)
  | 1 => ("CandleConcert$Program", "commands", "[LCandleConcert$Command;", true)
  | 2 => ("CandleConcert$Program", "length", "I", false)
  | 3 => ("CandleConcert$Program", "commandCount", "I", false)
  | _ => ("CandleConcert$Program", "position", "I", false)
def tyX6 : Nat → FieldType := fun k => match k with
  | 0 => .array .char
  | 1 => .array (.object "CandleConcert$Command")
  | 2 => .int
  | 3 => .int
  | _ => .int
abbrev wsX60 : List Cond := u_ws RX6 TX6 5
theorem nmX6 : ∀ a, a < 5 → ∀ b, b < 5 → a ≠ b → (TX6 a).2.1 ≠ (TX6 b).2.1 := by decide +kernel
theorem tyX6_ok : ∀ k, k < 5 → parseFieldDescriptor (TX6 k).2.2.1 = some (tyX6 k) := by decide +kernel
abbrev cX6_init : ByteArray := prog_8_method_1_code
def yX6_init : MethodName := ⟨RX6, "<init>", "()V"⟩
abbrev cX6_isFull : ByteArray := prog_8_method_2_code
def yX6_isFull : MethodName := ⟨RX6, "isFull", "()Z"⟩
abbrev cX6_append : ByteArray := prog_8_method_3_code
def yX6_append : MethodName := ⟨RX6, "append", "(C)I"⟩
abbrev cX6_clear : ByteArray := prog_8_method_4_code
def yX6_clear : MethodName := ⟨RX6, "clear", "()V"⟩
abbrev cX6_parse : ByteArray := prog_8_method_5_code
def yX6_parse : MethodName := ⟨RX6, "parse", "()Z"⟩
abbrev cX6_readCommand : ByteArray := prog_8_method_6_code
def yX6_readCommand : MethodName := ⟨RX6, "readCommand", "(LCandleConcert$Command;)Z"⟩
abbrev cX6_readNewCandle : ByteArray := prog_8_method_7_code
def yX6_readNewCandle : MethodName := ⟨RX6, "readNewCandle", "(LCandleConcert$Command;)Z"⟩
abbrev cX6_readPourOrPlan : ByteArray := prog_8_method_8_code
def yX6_readPourOrPlan : MethodName := ⟨RX6, "readPourOrPlan", "(LCandleConcert$Command;)Z"⟩
abbrev cX6_readDraughtOrDrop : ByteArray := prog_8_method_9_code
def yX6_readDraughtOrDrop : MethodName := ⟨RX6, "readDraughtOrDrop", "(LCandleConcert$Command;)Z"⟩
abbrev cX6_readDuration : ByteArray := prog_8_method_10_code
def yX6_readDuration : MethodName := ⟨RX6, "readDuration", "(LCandleConcert$Command;)Z"⟩
abbrev cX6_readVoice : ByteArray := prog_8_method_11_code
def yX6_readVoice : MethodName := ⟨RX6, "readVoice", "(LCandleConcert$Command;)Z"⟩
abbrev cX6_readLighting : ByteArray := prog_8_method_12_code
def yX6_readLighting : MethodName := ⟨RX6, "readLighting", "(LCandleConcert$Command;)Z"⟩
abbrev cX6_readCandle : ByteArray := prog_8_method_13_code
def yX6_readCandle : MethodName := ⟨RX6, "readCandle", "(LCandleConcert$Command;)Z"⟩
abbrev cX6_readNumber : ByteArray := prog_8_method_14_code
def yX6_readNumber : MethodName := ⟨RX6, "readNumber", "(LCandleConcert$Command;I)Z"⟩
abbrev cX6_readDigits : ByteArray := prog_8_method_15_code
def yX6_readDigits : MethodName := ⟨RX6, "readDigits", "(I)I"⟩
abbrev cX6_acceptAll : ByteArray := prog_8_method_16_code
def yX6_acceptAll : MethodName := ⟨RX6, "acceptAll", "(Ljava/lang/String;)Z"⟩
abbrev cX6_accept : ByteArray := prog_8_method_17_code
def yX6_accept : MethodName := ⟨RX6, "accept", "(C)Z"⟩
def RX7 : String := "CandleConcert$Refusal"
def TX7 : u_T := fun k => match k with
  | _ => ("", "", "", false)
def tyX7 : Nat → FieldType := fun k => match k with
  | _ => .int
abbrev wsX70 : List Cond := u_ws RX7 TX7 0
theorem nmX7 : ∀ a, a < 0 → ∀ b, b < 0 → a ≠ b → (TX7 a).2.1 ≠ (TX7 b).2.1 := by decide +kernel
theorem tyX7_ok : ∀ k, k < 0 → parseFieldDescriptor (TX7 k).2.2.1 = some (tyX7 k) := by decide +kernel
def RX8 : String := "CandleConcert$State"
def TX8 : u_T := fun k => match k with
  | 0 => ("CandleConcert$State", "candles", "LCandleConcert$Candles;", true)
  | 1 => ("CandleConcert$State", "events", "LCandleConcert$Events;", true)
  | 2 => ("CandleConcert$State", "draught", "I", false)
  | 3 => ("CandleConcert$State", "dish", "I", false)
  | 4 => ("CandleConcert$State", "time", "I", false)
  | 5 => ("CandleConcert$State", "burnt", "I", false)
  | 6 => ("CandleConcert$State", "addedWax", "J", false)
  | 7 => ("CandleConcert$State", "failedEvents", "I", false)
  | 8 => ("CandleConcert$State", "failureReason", "C", false)
  | _ => ("CandleConcert$State", "lastCandle", "I", false)
def tyX8 : Nat → FieldType := fun k => match k with
  | 0 => .object "CandleConcert$Candles"
  | 1 => .object "CandleConcert$Events"
  | 2 => .int
  | 3 => .int
  | 4 => .int
  | 5 => .int
  | 6 => .long
  | 7 => .int
  | 8 => .char
  | _ => .int
abbrev wsX80 : List Cond := u_ws RX8 TX8 10
theorem nmX8 : ∀ a, a < 10 → ∀ b, b < 10 → a ≠ b → (TX8 a).2.1 ≠ (TX8 b).2.1 := by decide +kernel
theorem tyX8_ok : ∀ k, k < 10 → parseFieldDescriptor (TX8 k).2.2.1 = some (tyX8 k) := by decide +kernel
abbrev cX8_init : ByteArray := prog_10_method_1_code
def yX8_init : MethodName := ⟨RX8, "<init>", "()V"⟩
abbrev cX8_copyFrom : ByteArray := prog_10_method_2_code
def yX8_copyFrom : MethodName := ⟨RX8, "copyFrom", "(LCandleConcert$State;)V"⟩
abbrev cX8_refusalToAdd : ByteArray := prog_10_method_3_code
def yX8_refusalToAdd : MethodName := ⟨RX8, "refusalToAdd", "(CII)LCandleConcert$Refusal;"⟩
abbrev cX8_addNewCandle : ByteArray := prog_10_method_4_code
def yX8_addNewCandle : MethodName := ⟨RX8, "addNewCandle", "(CII)I"⟩
abbrev cX8_refusalToLight : ByteArray := prog_10_method_5_code
def yX8_refusalToLight : MethodName := ⟨RX8, "refusalToLight", "(I)LCandleConcert$Refusal;"⟩
abbrev cX8_setLit : ByteArray := prog_10_method_6_code
def yX8_setLit : MethodName := ⟨RX8, "setLit", "(I)I"⟩
abbrev cX8_refusalToSnuff : ByteArray := prog_10_method_7_code
def yX8_refusalToSnuff : MethodName := ⟨RX8, "refusalToSnuff", "(I)LCandleConcert$Refusal;"⟩
abbrev cX8_setUnlit : ByteArray := prog_10_method_8_code
def yX8_setUnlit : MethodName := ⟨RX8, "setUnlit", "(I)I"⟩
abbrev cX8_refusalToPour : ByteArray := prog_10_method_9_code
def yX8_refusalToPour : MethodName := ⟨RX8, "refusalToPour", "(II)LCandleConcert$Refusal;"⟩
abbrev cX8_pourFromDish : ByteArray := prog_10_method_10_code
def yX8_pourFromDish : MethodName := ⟨RX8, "pourFromDish", "(II)I"⟩
abbrev cX8_refusalToChangeDraught : ByteArray := prog_10_method_11_code
def yX8_refusalToChangeDraught : MethodName := ⟨RX8, "refusalToChangeDraught", "(I)LCandleConcert$Refusal;"⟩
abbrev cX8_changeDraught : ByteArray := prog_10_method_12_code
def yX8_changeDraught : MethodName := ⟨RX8, "changeDraught", "(I)I"⟩
abbrev cX8_refusalToSchedule : ByteArray := prog_10_method_13_code
def yX8_refusalToSchedule : MethodName := ⟨RX8, "refusalToSchedule", "(II)LCandleConcert$Refusal;"⟩
abbrev cX8_refusalToPass : ByteArray := prog_10_method_14_code
def yX8_refusalToPass : MethodName := ⟨RX8, "refusalToPass", "(I)LCandleConcert$Refusal;"⟩
abbrev cX8_passMinutes : ByteArray := prog_10_method_15_code
def yX8_passMinutes : MethodName := ⟨RX8, "passMinutes", "(I)I"⟩
abbrev cX8_passMinute : ByteArray := prog_10_method_16_code
def yX8_passMinute : MethodName := ⟨RX8, "passMinute", "()I"⟩
abbrev cX8_carryOutDueEvents : ByteArray := prog_10_method_17_code
def yX8_carryOutDueEvents : MethodName := ⟨RX8, "carryOutDueEvents", "()V"⟩
abbrev cX8_carryOut : ByteArray := prog_10_method_18_code
def yX8_carryOut : MethodName := ⟨RX8, "carryOut", "(IZ)V"⟩
abbrev cX8_recordFailure : ByteArray := prog_10_method_19_code
def yX8_recordFailure : MethodName := ⟨RX8, "recordFailure", "(C)V"⟩
abbrev cX8_burn : ByteArray := prog_10_method_20_code
def yX8_burn : MethodName := ⟨RX8, "burn", "(I)I"⟩
abbrev cX8_consumptionOf : ByteArray := prog_10_method_21_code
def yX8_consumptionOf : MethodName := ⟨RX8, "consumptionOf", "(I)I"⟩
abbrev cX8_minutesLeftOf : ByteArray := prog_10_method_22_code
def yX8_minutesLeftOf : MethodName := ⟨RX8, "minutesLeftOf", "(I)I"⟩
abbrev cX8_minutesOfBurning : ByteArray := prog_10_method_23_code
def yX8_minutesOfBurning : MethodName := ⟨RX8, "minutesOfBurning", "(I)I"⟩
abbrev cX8_isDark : ByteArray := prog_10_method_24_code
def yX8_isDark : MethodName := ⟨RX8, "isDark", "()Z"⟩
abbrev cX8_leap : ByteArray := prog_10_method_25_code
def yX8_leap : MethodName := ⟨RX8, "leap", "()V"⟩
abbrev cX8_minutesToNextHappening : ByteArray := prog_10_method_26_code
def yX8_minutesToNextHappening : MethodName := ⟨RX8, "minutesToNextHappening", "()I"⟩
def RX9 : String := "CandleConcert"
def TX9 : u_T := fun k => match k with
  | 0 => ("CandleConcert", "now", "LCandleConcert$State;", true)
  | 1 => ("CandleConcert", "spare", "LCandleConcert$State;", true)
  | 2 => ("CandleConcert", "saved", "LCandleConcert$State;", true)
  | 3 => ("CandleConcert", "history", "LCandleConcert$History;", true)
  | 4 => ("CandleConcert", "program", "LCandleConcert$Program;", true)
  | 5 => ("CandleConcert", "line", "Ljava/lang/StringBuilder;", true)
  | 6 => ("CandleConcert", "hasSaved", "Z", false)
  | 7 => ("CandleConcert", "errorPosition", "I", false)
  | _ => ("CandleConcert", "failedCommand", "I", false)
def tyX9 : Nat → FieldType := fun k => match k with
  | 0 => .object "CandleConcert$State"
  | 1 => .object "CandleConcert$State"
  | 2 => .object "CandleConcert$State"
  | 3 => .object "CandleConcert$History"
  | 4 => .object "CandleConcert$Program"
  | 5 => .object "java/lang/StringBuilder"
  | 6 => .boolean
  | 7 => .int
  | _ => .int
abbrev wsX90 : List Cond := u_ws RX9 TX9 9
theorem nmX9 : ∀ a, a < 9 → ∀ b, b < 9 → a ≠ b → (TX9 a).2.1 ≠ (TX9 b).2.1 := by decide +kernel
theorem tyX9_ok : ∀ k, k < 9 → parseFieldDescriptor (TX9 k).2.2.1 = some (tyX9 k) := by decide +kernel
abbrev cX9_init : ByteArray := prog_1_method_1_code
def yX9_init : MethodName := ⟨RX9, "<init>", "()V"⟩
abbrev cX9_addCandle : ByteArray := prog_1_method_2_code
def yX9_addCandle : MethodName := ⟨RX9, "addCandle", "(CII)I"⟩
abbrev cX9_light : ByteArray := prog_1_method_3_code
def yX9_light : MethodName := ⟨RX9, "light", "(I)I"⟩
abbrev cX9_snuff : ByteArray := prog_1_method_4_code
def yX9_snuff : MethodName := ⟨RX9, "snuff", "(I)I"⟩
abbrev cX9_pour : ByteArray := prog_1_method_5_code
def yX9_pour : MethodName := ⟨RX9, "pour", "(II)I"⟩
abbrev cX9_setDraught : ByteArray := prog_1_method_6_code
def yX9_setDraught : MethodName := ⟨RX9, "setDraught", "(I)I"⟩
abbrev cX9_schedule : ByteArray := prog_1_method_7_code
def yX9_schedule : MethodName := ⟨RX9, "schedule", "(IIZ)I"⟩
abbrev cX9_unschedule : ByteArray := prog_1_method_8_code
def yX9_unschedule : MethodName := ⟨RX9, "unschedule", "(I)I"⟩
abbrev cX9_pass : ByteArray := prog_1_method_9_code
def yX9_pass : MethodName := ⟨RX9, "pass", "(I)I"⟩
abbrev cX9_candles : ByteArray := prog_1_method_10_code
def yX9_candles : MethodName := ⟨RX9, "candles", "()I"⟩
abbrev cX9_voice : ByteArray := prog_1_method_11_code
def yX9_voice : MethodName := ⟨RX9, "voice", "(I)C"⟩
abbrev cX9_wax : ByteArray := prog_1_method_12_code
def yX9_wax : MethodName := ⟨RX9, "wax", "(I)I"⟩
abbrev cX9_consumption : ByteArray := prog_1_method_13_code
def yX9_consumption : MethodName := ⟨RX9, "consumption", "(I)I"⟩
abbrev cX9_isLit : ByteArray := prog_1_method_14_code
def yX9_isLit : MethodName := ⟨RX9, "isLit", "(I)Z"⟩
abbrev cX9_litCandles : ByteArray := prog_1_method_15_code
def yX9_litCandles : MethodName := ⟨RX9, "litCandles", "()I"⟩
abbrev cX9_sounding : ByteArray := prog_1_method_16_code
def yX9_sounding : MethodName := ⟨RX9, "sounding", "(C)I"⟩
abbrev cX9_minutesLeft : ByteArray := prog_1_method_17_code
def yX9_minutesLeft : MethodName := ⟨RX9, "minutesLeft", "(I)I"⟩
abbrev cX9_minutesLeftByBurning : ByteArray := prog_1_method_18_code
def yX9_minutesLeftByBurning : MethodName := ⟨RX9, "minutesLeftByBurning", "(I)I"⟩
abbrev cX9_candleByWax : ByteArray := prog_1_method_19_code
def yX9_candleByWax : MethodName := ⟨RX9, "candleByWax", "(I)I"⟩
abbrev cX9_events : ByteArray := prog_1_method_20_code
def yX9_events : MethodName := ⟨RX9, "events", "()I"⟩
abbrev cX9_eventMinute : ByteArray := prog_1_method_21_code
def yX9_eventMinute : MethodName := ⟨RX9, "eventMinute", "(I)I"⟩
abbrev cX9_eventCandle : ByteArray := prog_1_method_22_code
def yX9_eventCandle : MethodName := ⟨RX9, "eventCandle", "(I)I"⟩
abbrev cX9_isLighting : ByteArray := prog_1_method_23_code
def yX9_isLighting : MethodName := ⟨RX9, "isLighting", "(I)Z"⟩
abbrev cX9_failedEvents : ByteArray := prog_1_method_24_code
def yX9_failedEvents : MethodName := ⟨RX9, "failedEvents", "()I"⟩
abbrev cX9_time : ByteArray := prog_1_method_26_code
def yX9_time : MethodName := ⟨RX9, "time", "()I"⟩
abbrev cX9_draught : ByteArray := prog_1_method_27_code
def yX9_draught : MethodName := ⟨RX9, "draught", "()I"⟩
abbrev cX9_dish : ByteArray := prog_1_method_28_code
def yX9_dish : MethodName := ⟨RX9, "dish", "()I"⟩
abbrev cX9_minutesUntilDark : ByteArray := prog_1_method_29_code
def yX9_minutesUntilDark : MethodName := ⟨RX9, "minutesUntilDark", "()I"⟩
abbrev cX9_minutesUntilDarkByLeaps : ByteArray := prog_1_method_30_code
def yX9_minutesUntilDarkByLeaps : MethodName := ⟨RX9, "minutesUntilDarkByLeaps", "()I"⟩
abbrev cX9_lastCandle : ByteArray := prog_1_method_31_code
def yX9_lastCandle : MethodName := ⟨RX9, "lastCandle", "()I"⟩
abbrev cX9_loudestVoice : ByteArray := prog_1_method_32_code
def yX9_loudestVoice : MethodName := ⟨RX9, "loudestVoice", "()C"⟩
abbrev cX9_addedWax : ByteArray := prog_1_method_33_code
def yX9_addedWax : MethodName := ⟨RX9, "addedWax", "()J"⟩
abbrev cX9_addedWaxByParts : ByteArray := prog_1_method_34_code
def yX9_addedWaxByParts : MethodName := ⟨RX9, "addedWaxByParts", "()J"⟩
abbrev cX9_burnt : ByteArray := prog_1_method_35_code
def yX9_burnt : MethodName := ⟨RX9, "burnt", "()I"⟩
abbrev cX9_isConsistent : ByteArray := prog_1_method_38_code
def yX9_isConsistent : MethodName := ⟨RX9, "isConsistent", "()Z"⟩
abbrev cX9_writeCandle : ByteArray := prog_1_method_39_code
def yX9_writeCandle : MethodName := ⟨RX9, "writeCandle", "(I)I"⟩
abbrev cX9_writeEvents : ByteArray := prog_1_method_40_code
def yX9_writeEvents : MethodName := ⟨RX9, "writeEvents", "()I"⟩
abbrev cX9_type : ByteArray := prog_1_method_42_code
def yX9_type : MethodName := ⟨RX9, "type", "(C)I"⟩
abbrev cX9_run : ByteArray := prog_1_method_43_code
def yX9_run : MethodName := ⟨RX9, "run", "()I"⟩
abbrev cX9_undo : ByteArray := prog_1_method_46_code
def yX9_undo : MethodName := ⟨RX9, "undo", "()I"⟩
abbrev cX9_save : ByteArray := prog_1_method_47_code
def yX9_save : MethodName := ⟨RX9, "save", "()I"⟩
abbrev cX9_restore : ByteArray := prog_1_method_48_code
def yX9_restore : MethodName := ⟨RX9, "restore", "()I"⟩
abbrev cX9_requireCandle : ByteArray := prog_1_method_49_code
def yX9_requireCandle : MethodName := ⟨RX9, "requireCandle", "(I)V"⟩
abbrev cX9_requireEvent : ByteArray := prog_1_method_50_code
def yX9_requireEvent : MethodName := ⟨RX9, "requireEvent", "(I)V"⟩
abbrev cX9_isVoice : ByteArray := prog_1_method_51_code
def yX9_isVoice : MethodName := ⟨RX9, "isVoice", "(C)Z"⟩
abbrev cX9_throwIfRefused : ByteArray := prog_1_method_52_code
def yX9_throwIfRefused : MethodName := ⟨RX9, "throwIfRefused", "(LCandleConcert$Refusal;)V"⟩
abbrev cX9_isAllowed : ByteArray := prog_1_method_53_code
def yX9_isAllowed : MethodName := ⟨RX9, "isAllowed", "(LCandleConcert$Command;)Z"⟩
abbrev cX9_execute : ByteArray := prog_1_method_54_code
def yX9_execute : MethodName := ⟨RX9, "execute", "(LCandleConcert$Command;)V"⟩
def RX10 : String := "CandleConcertModel"
def TX10 : u_T := fun k => match k with
  | _ => ("", "", "", false)
def tyX10 : Nat → FieldType := fun k => match k with
  | _ => .int
abbrev wsX100 : List Cond := u_ws RX10 TX10 0
theorem nmX10 : ∀ a, a < 0 → ∀ b, b < 0 → a ≠ b → (TX10 a).2.1 ≠ (TX10 b).2.1 := by decide +kernel
theorem tyX10_ok : ∀ k, k < 0 → parseFieldDescriptor (TX10 k).2.2.1 = some (tyX10 k) := by decide +kernel
def RJx145de : String := "java/io/Serializable"
def TJx145de : u_T := fun k => match k with
  | _ => ("", "", "", false)
def tyJx145de : Nat → FieldType := fun k => match k with
  | _ => .int
abbrev wsJx145de0 : List Cond := u_ws RJx145de TJx145de 0
theorem nmJx145de : ∀ a, a < 0 → ∀ b, b < 0 → a ≠ b → (TJx145de a).2.1 ≠ (TJx145de b).2.1 := by decide +kernel
theorem tyJx145de_ok : ∀ k, k < 0 → parseFieldDescriptor (TJx145de k).2.2.1 = some (tyJx145de k) := by decide +kernel
def RJ5 : String := "java/lang/AbstractStringBuilder"
def TJ5 : u_T := fun k => match k with
  | _ => ("", "", "", false)
def tyJ5 : Nat → FieldType := fun k => match k with
  | _ => .int
abbrev wsJ50 : List Cond := u_ws RJ5 TJ5 0
theorem nmJ5 : ∀ a, a < 0 → ∀ b, b < 0 → a ≠ b → (TJ5 a).2.1 ≠ (TJ5 b).2.1 := by decide +kernel
theorem tyJ5_ok : ∀ k, k < 0 → parseFieldDescriptor (TJ5 k).2.2.1 = some (tyJ5 k) := by decide +kernel
abbrev cJ5_init_d00df : ByteArray := prog_14_method_2_code
def yJ5_init_d00df : MethodName := ⟨RJ5, "<init>", "(I)V"⟩
abbrev cJ5_length_8abf5 : ByteArray := prog_14_method_6_code
def yJ5_length_8abf5 : MethodName := ⟨RJ5, "length", "()I"⟩
abbrev cJ5_ensureCapacityInternal_d00df : ByteArray := prog_14_method_9_code
def yJ5_ensureCapacityInternal_d00df : MethodName := ⟨RJ5, "ensureCapacityInternal", "(I)V"⟩
abbrev cJ5_newCapacity_0f7a4 : ByteArray := prog_14_method_10_code
def yJ5_newCapacity_0f7a4 : MethodName := ⟨RJ5, "newCapacity", "(I)I"⟩
abbrev cJ5_inflate_da8c8 : ByteArray := prog_14_method_11_code
def yJ5_inflate_da8c8 : MethodName := ⟨RJ5, "inflate", "()V"⟩
abbrev cJ5_setLength_d00df : ByteArray := prog_14_method_13_code
def yJ5_setLength_d00df : MethodName := ⟨RJ5, "setLength", "(I)V"⟩
abbrev cJ5_append_cf1ce : ByteArray := prog_14_method_22_code
def yJ5_append_cf1ce : MethodName := ⟨RJ5, "append", "(Ljava/lang/String;)Ljava/lang/AbstractStringBuilder;"⟩
abbrev cJ5_appendNull_278bc : ByteArray := prog_14_method_26_code
def yJ5_appendNull_278bc : MethodName := ⟨RJ5, "appendNull", "()Ljava/lang/AbstractStringBuilder;"⟩
abbrev cJ5_append_3fe6f : ByteArray := prog_14_method_31_code
def yJ5_append_3fe6f : MethodName := ⟨RJ5, "append", "(C)Ljava/lang/AbstractStringBuilder;"⟩
abbrev cJ5_append_c97b9 : ByteArray := prog_14_method_32_code
def yJ5_append_c97b9 : MethodName := ⟨RJ5, "append", "(I)Ljava/lang/AbstractStringBuilder;"⟩
abbrev cJ5_getValue_6d5f1 : ByteArray := prog_14_method_64_code
def yJ5_getValue_6d5f1 : MethodName := ⟨RJ5, "getValue", "()[B"⟩
abbrev cJ5_isLatin1_aae02 : ByteArray := prog_14_method_68_code
def yJ5_isLatin1_aae02 : MethodName := ⟨RJ5, "isLatin1", "()Z"⟩
abbrev cJ5_inflateIfNeededFor_a7421 : ByteArray := prog_14_method_71_code
def yJ5_inflateIfNeededFor_a7421 : MethodName := ⟨RJ5, "inflateIfNeededFor", "(Ljava/lang/String;)V"⟩
abbrev cJ5_putStringAt_47b60 : ByteArray := prog_14_method_73_code
def yJ5_putStringAt_47b60 : MethodName := ⟨RJ5, "putStringAt", "(ILjava/lang/String;)V"⟩
def RJx2cfe8 : String := "java/lang/Appendable"
def TJx2cfe8 : u_T := fun k => match k with
  | _ => ("", "", "", false)
def tyJx2cfe8 : Nat → FieldType := fun k => match k with
  | _ => .int
abbrev wsJx2cfe80 : List Cond := u_ws RJx2cfe8 TJx2cfe8 0
theorem nmJx2cfe8 : ∀ a, a < 0 → ∀ b, b < 0 → a ≠ b → (TJx2cfe8 a).2.1 ≠ (TJx2cfe8 b).2.1 := by decide +kernel
theorem tyJx2cfe8_ok : ∀ k, k < 0 → parseFieldDescriptor (TJx2cfe8 k).2.2.1 = some (tyJx2cfe8 k) := by decide +kernel
def RJx00060 : String := "java/lang/ArrayIndexOutOfBoundsException"
def TJx00060 : u_T := fun k => match k with
  | 0 => ("java/lang/Throwable", "cause", "Ljava/lang/Throwable;", false)
  | 1 => ("java/lang/Throwable", "stackTrace", "[Ljava/lang/StackTraceElement;", false)
  | 2 => ("java/lang/Throwable", "suppressedExceptions", "Ljava/util/List;", false)
  | 3 => ("java/lang/Throwable", "detailMessage", "Ljava/lang/String;", false)
  | 4 => ("java/lang/Throwable", "backtrace", "Ljava/lang/Object;", false)
  | _ => ("java/lang/Throwable", "depth", "I", false)
def tyJx00060 : Nat → FieldType := fun k => match k with
  | 0 => .object "java/lang/Throwable"
  | 1 => .array (.object "java/lang/StackTraceElement")
  | 2 => .object "java/util/List"
  | 3 => .object "java/lang/String"
  | 4 => .object "java/lang/Object"
  | _ => .int
abbrev wsJx000600 : List Cond := u_ws RJx00060 TJx00060 6
theorem nmJx00060 : ∀ a, a < 6 → ∀ b, b < 6 → a ≠ b → (TJx00060 a).2.1 ≠ (TJx00060 b).2.1 := by decide +kernel
theorem tyJx00060_ok : ∀ k, k < 6 → parseFieldDescriptor (TJx00060 k).2.2.1 = some (tyJx00060 k) := by decide +kernel
abbrev cJx00060_init_a7421 : ByteArray := prog_16_method_2_code
def yJx00060_init_a7421 : MethodName := ⟨RJx00060, "<init>", "(Ljava/lang/String;)V"⟩
abbrev cJx00060_init_d00df : ByteArray := prog_16_method_3_code
def yJx00060_init_d00df : MethodName := ⟨RJx00060, "<init>", "(I)V"⟩
def RJx9f9b0 : String := "java/lang/CharSequence"
def TJx9f9b0 : u_T := fun k => match k with
  | _ => ("", "", "", false)
def tyJx9f9b0 : Nat → FieldType := fun k => match k with
  | _ => .int
abbrev wsJx9f9b00 : List Cond := u_ws RJx9f9b0 TJx9f9b0 0
theorem nmJx9f9b0 : ∀ a, a < 0 → ∀ b, b < 0 → a ≠ b → (TJx9f9b0 a).2.1 ≠ (TJx9f9b0 b).2.1 := by decide +kernel
theorem tyJx9f9b0_ok : ∀ k, k < 0 → parseFieldDescriptor (TJx9f9b0 k).2.2.1 = some (tyJx9f9b0 k) := by decide +kernel
def RJx8e188 : String := "java/lang/Cloneable"
def TJx8e188 : u_T := fun k => match k with
  | _ => ("", "", "", false)
def tyJx8e188 : Nat → FieldType := fun k => match k with
  | _ => .int
abbrev wsJx8e1880 : List Cond := u_ws RJx8e188 TJx8e188 0
theorem nmJx8e188 : ∀ a, a < 0 → ∀ b, b < 0 → a ≠ b → (TJx8e188 a).2.1 ≠ (TJx8e188 b).2.1 := by decide +kernel
theorem tyJx8e188_ok : ∀ k, k < 0 → parseFieldDescriptor (TJx8e188 k).2.2.1 = some (tyJx8e188 k) := by decide +kernel
def RJxb160c : String := "java/lang/Comparable"
def TJxb160c : u_T := fun k => match k with
  | _ => ("", "", "", false)
def tyJxb160c : Nat → FieldType := fun k => match k with
  | _ => .int
abbrev wsJxb160c0 : List Cond := u_ws RJxb160c TJxb160c 0
theorem nmJxb160c : ∀ a, a < 0 → ∀ b, b < 0 → a ≠ b → (TJxb160c a).2.1 ≠ (TJxb160c b).2.1 := by decide +kernel
theorem tyJxb160c_ok : ∀ k, k < 0 → parseFieldDescriptor (TJxb160c k).2.2.1 = some (tyJxb160c k) := by decide +kernel
def RJx29ce0 : String := "java/lang/Enum"
def TJx29ce0 : u_T := fun k => match k with
  | _ => ("", "", "", false)
def tyJx29ce0 : Nat → FieldType := fun k => match k with
  | _ => .int
abbrev wsJx29ce00 : List Cond := u_ws RJx29ce0 TJx29ce0 0
theorem nmJx29ce0 : ∀ a, a < 0 → ∀ b, b < 0 → a ≠ b → (TJx29ce0 a).2.1 ≠ (TJx29ce0 b).2.1 := by decide +kernel
theorem tyJx29ce0_ok : ∀ k, k < 0 → parseFieldDescriptor (TJx29ce0 k).2.2.1 = some (tyJx29ce0 k) := by decide +kernel
abbrev cJx29ce0_ordinal_8abf5 : ByteArray := prog_20_method_2_code
def yJx29ce0_ordinal_8abf5 : MethodName := ⟨RJx29ce0, "ordinal", "()I"⟩
def RJ6 : String := "java/lang/Integer"
def TJ6 : u_T := fun k => match k with
  | _ => ("", "", "", false)
def tyJ6 : Nat → FieldType := fun k => match k with
  | _ => .int
abbrev wsJ60 : List Cond := u_ws RJ6 TJ6 0
theorem nmJ6 : ∀ a, a < 0 → ∀ b, b < 0 → a ≠ b → (TJ6 a).2.1 ≠ (TJ6 b).2.1 := by decide +kernel
theorem tyJ6_ok : ∀ k, k < 0 → parseFieldDescriptor (TJ6 k).2.2.1 = some (tyJ6 k) := by decide +kernel
abbrev cJ6_getChars_ba4f3 : ByteArray := prog_25_method_12_code
def yJ6_getChars_ba4f3 : MethodName := ⟨RJ6, "getChars", "(II[B)I"⟩
abbrev cJ6_stringSize_0f7a4 : ByteArray := prog_25_method_13_code
def yJ6_stringSize_0f7a4 : MethodName := ⟨RJ6, "stringSize", "(I)I"⟩
def RJ9 : String := "java/lang/Math"
def TJ9 : u_T := fun k => match k with
  | _ => ("", "", "", false)
def tyJ9 : Nat → FieldType := fun k => match k with
  | _ => .int
abbrev wsJ90 : List Cond := u_ws RJ9 TJ9 0
theorem nmJ9 : ∀ a, a < 0 → ∀ b, b < 0 → a ≠ b → (TJ9 a).2.1 ≠ (TJ9 b).2.1 := by decide +kernel
theorem tyJ9_ok : ∀ k, k < 0 → parseFieldDescriptor (TJ9 k).2.2.1 = some (tyJ9 k) := by decide +kernel
abbrev cJ9_max_7cf53 : ByteArray := prog_26_method_65_code
def yJ9_max_7cf53 : MethodName := ⟨RJ9, "max", "(II)I"⟩
abbrev cJ9_min_7cf53 : ByteArray := prog_26_method_69_code
def yJ9_min_7cf53 : MethodName := ⟨RJ9, "min", "(II)I"⟩
def RJxd2413 : String := "java/lang/Number"
def TJxd2413 : u_T := fun k => match k with
  | _ => ("", "", "", false)
def tyJxd2413 : Nat → FieldType := fun k => match k with
  | _ => .int
abbrev wsJxd24130 : List Cond := u_ws RJxd2413 TJxd2413 0
theorem nmJxd2413 : ∀ a, a < 0 → ∀ b, b < 0 → a ≠ b → (TJxd2413 a).2.1 ≠ (TJxd2413 b).2.1 := by decide +kernel
theorem tyJxd2413_ok : ∀ k, k < 0 → parseFieldDescriptor (TJxd2413 k).2.2.1 = some (tyJxd2413 k) := by decide +kernel
def RJ0 : String := "java/lang/String"
def TJ0 : u_T := fun k => match k with
  | 0 => ("java/lang/String", "value", "[B", true)
  | 1 => ("java/lang/String", "coder", "B", true)
  | 2 => ("java/lang/String", "hash", "I", false)
  | _ => ("java/lang/String", "hashIsZero", "Z", false)
def tyJ0 : Nat → FieldType := fun k => match k with
  | 0 => .array .byte
  | 1 => .byte
  | 2 => .int
  | _ => .boolean
abbrev wsJ00 : List Cond := u_ws RJ0 TJ0 4
theorem nmJ0 : ∀ a, a < 4 → ∀ b, b < 4 → a ≠ b → (TJ0 a).2.1 ≠ (TJ0 b).2.1 := by decide +kernel
theorem tyJ0_ok : ∀ k, k < 4 → parseFieldDescriptor (TJ0 k).2.2.1 = some (tyJ0 k) := by decide +kernel
abbrev cJ0_init_81219 : ByteArray := prog_29_method_53_code
def yJ0_init_81219 : MethodName := ⟨RJ0, "<init>", "(Ljava/lang/StringBuilder;)V"⟩
abbrev cJ0_length_8abf5 : ByteArray := prog_29_method_54_code
def yJ0_length_8abf5 : MethodName := ⟨RJ0, "length", "()I"⟩
abbrev cJ0_charAt_5068e : ByteArray := prog_29_method_56_code
def yJ0_charAt_5068e : MethodName := ⟨RJ0, "charAt", "(I)C"⟩
abbrev cJ0_getBytes_840e7 : ByteArray := prog_29_method_147_code
def yJ0_getBytes_840e7 : MethodName := ⟨RJ0, "getBytes", "([BIB)V"⟩
abbrev cJ0_init_db425 : ByteArray := prog_29_method_150_code
def yJ0_init_db425 : MethodName := ⟨RJ0, "<init>", "(Ljava/lang/AbstractStringBuilder;Ljava/lang/Void;)V"⟩
abbrev cJ0_coder_7d493 : ByteArray := prog_29_method_152_code
def yJ0_coder_7d493 : MethodName := ⟨RJ0, "coder", "()B"⟩
abbrev cJ0_isLatin1_aae02 : ByteArray := prog_29_method_154_code
def yJ0_isLatin1_aae02 : MethodName := ⟨RJ0, "isLatin1", "()Z"⟩
abbrev cJ0_checkIndex_df160 : ByteArray := prog_29_method_155_code
def yJ0_checkIndex_df160 : MethodName := ⟨RJ0, "checkIndex", "(II)V"⟩
abbrev cJ0_checkBoundsOffCount_cabcc : ByteArray := prog_29_method_157_code
def yJ0_checkBoundsOffCount_cabcc : MethodName := ⟨RJ0, "checkBoundsOffCount", "(III)I"⟩
abbrev cJ0_checkBoundsBeginEnd_23922 : ByteArray := prog_29_method_158_code
def yJ0_checkBoundsBeginEnd_23922 : MethodName := ⟨RJ0, "checkBoundsBeginEnd", "(III)V"⟩
def RJ4 : String := "java/lang/StringBuilder"
def TJ4 : u_T := fun k => match k with
  | 0 => ("java/lang/AbstractStringBuilder", "value", "[B", false)
  | 1 => ("java/lang/AbstractStringBuilder", "coder", "B", false)
  | 2 => ("java/lang/AbstractStringBuilder", "maybeLatin1", "Z", false)
  | _ => ("java/lang/AbstractStringBuilder", "count", "I", false)
def tyJ4 : Nat → FieldType := fun k => match k with
  | 0 => .array .byte
  | 1 => .byte
  | 2 => .boolean
  | _ => .int
abbrev wsJ40 : List Cond := u_ws RJ4 TJ4 4
theorem nmJ4 : ∀ a, a < 4 → ∀ b, b < 4 → a ≠ b → (TJ4 a).2.1 ≠ (TJ4 b).2.1 := by decide +kernel
theorem tyJ4_ok : ∀ k, k < 4 → parseFieldDescriptor (TJ4 k).2.2.1 = some (tyJ4 k) := by decide +kernel
abbrev cJ4_init_da8c8 : ByteArray := prog_30_method_1_code
def yJ4_init_da8c8 : MethodName := ⟨RJ4, "<init>", "()V"⟩
abbrev cJ4_append_15ec4 : ByteArray := prog_30_method_7_code
def yJ4_append_15ec4 : MethodName := ⟨RJ4, "append", "(Ljava/lang/String;)Ljava/lang/StringBuilder;"⟩
abbrev cJ4_append_cf468 : ByteArray := prog_30_method_14_code
def yJ4_append_cf468 : MethodName := ⟨RJ4, "append", "(C)Ljava/lang/StringBuilder;"⟩
abbrev cJ4_append_bf812 : ByteArray := prog_30_method_15_code
def yJ4_append_bf812 : MethodName := ⟨RJ4, "append", "(I)Ljava/lang/StringBuilder;"⟩
abbrev cJ4_toString_0e30d : ByteArray := prog_30_method_42_code
def yJ4_toString_0e30d : MethodName := ⟨RJ4, "toString", "()Ljava/lang/String;"⟩
abbrev cJ4_setLength_d00df : ByteArray := prog_30_method_89_code
def yJ4_setLength_d00df : MethodName := ⟨RJ4, "setLength", "(I)V"⟩
abbrev cJ4_length_8abf5 : ByteArray := prog_30_method_93_code
def yJ4_length_8abf5 : MethodName := ⟨RJ4, "length", "()I"⟩
def RJx7c733 : String := "java/lang/StringIndexOutOfBoundsException"
def TJx7c733 : u_T := fun k => match k with
  | 0 => ("java/lang/Throwable", "backtrace", "Ljava/lang/Object;", false)
  | 1 => ("java/lang/Throwable", "detailMessage", "Ljava/lang/String;", false)
  | 2 => ("java/lang/Throwable", "cause", "Ljava/lang/Throwable;", false)
  | 3 => ("java/lang/Throwable", "stackTrace", "[Ljava/lang/StackTraceElement;", false)
  | 4 => ("java/lang/Throwable", "depth", "I", false)
  | _ => ("java/lang/Throwable", "suppressedExceptions", "Ljava/util/List;", false)
def tyJx7c733 : Nat → FieldType := fun k => match k with
  | 0 => .object "java/lang/Object"
  | 1 => .object "java/lang/String"
  | 2 => .object "java/lang/Throwable"
  | 3 => .array (.object "java/lang/StackTraceElement")
  | 4 => .int
  | _ => .object "java/util/List"
abbrev wsJx7c7330 : List Cond := u_ws RJx7c733 TJx7c733 6
theorem nmJx7c733 : ∀ a, a < 6 → ∀ b, b < 6 → a ≠ b → (TJx7c733 a).2.1 ≠ (TJx7c733 b).2.1 := by decide +kernel
theorem tyJx7c733_ok : ∀ k, k < 6 → parseFieldDescriptor (TJx7c733 k).2.2.1 = some (tyJx7c733 k) := by decide +kernel
abbrev cJx7c733_init_d00df : ByteArray := prog_31_method_3_code
def yJx7c733_init_d00df : MethodName := ⟨RJx7c733, "<init>", "(I)V"⟩
def RJ1 : String := "java/lang/StringLatin1"
def TJ1 : u_T := fun k => match k with
  | _ => ("", "", "", false)
def tyJ1 : Nat → FieldType := fun k => match k with
  | _ => .int
abbrev wsJ10 : List Cond := u_ws RJ1 TJ1 0
theorem nmJ1 : ∀ a, a < 0 → ∀ b, b < 0 → a ≠ b → (TJ1 a).2.1 ≠ (TJ1 b).2.1 := by decide +kernel
theorem tyJ1_ok : ∀ k, k < 0 → parseFieldDescriptor (TJ1 k).2.2.1 = some (tyJ1 k) := by decide +kernel
abbrev cJ1_charAt_3b067 : ByteArray := prog_32_method_2_code
def yJ1_charAt_3b067 : MethodName := ⟨RJ1, "charAt", "([BI)C"⟩
abbrev cJ1_canEncode_fc78d : ByteArray := prog_32_method_3_code
def yJ1_canEncode_fc78d : MethodName := ⟨RJ1, "canEncode", "(C)Z"⟩
abbrev cJ1_fillNull_b72d1 : ByteArray := prog_32_method_48_code
def yJ1_fillNull_b72d1 : MethodName := ⟨RJ1, "fillNull", "([BII)V"⟩
abbrev cJ1_inflate_0e8fd : ByteArray := prog_32_method_50_code
def yJ1_inflate_0e8fd : MethodName := ⟨RJ1, "inflate", "([BI[BII)V"⟩
def RJ2 : String := "java/lang/StringUTF16"
def TJ2 : u_T := fun k => match k with
  | _ => ("", "", "", false)
def tyJ2 : Nat → FieldType := fun k => match k with
  | _ => .int
abbrev wsJ20 : List Cond := u_ws RJ2 TJ2 0
theorem nmJ2 : ∀ a, a < 0 → ∀ b, b < 0 → a ≠ b → (TJ2 a).2.1 ≠ (TJ2 b).2.1 := by decide +kernel
theorem tyJ2_ok : ∀ k, k < 0 → parseFieldDescriptor (TJ2 k).2.2.1 = some (tyJ2 k) := by decide +kernel
abbrev cJ2_newBytesFor_77867 : ByteArray := prog_33_method_2_code
def yJ2_newBytesFor_77867 : MethodName := ⟨RJ2, "newBytesFor", "(I)[B"⟩
abbrev cJ2_newBytesLength_0f7a4 : ByteArray := prog_33_method_3_code
def yJ2_newBytesLength_0f7a4 : MethodName := ⟨RJ2, "newBytesLength", "(I)I"⟩
abbrev cJ2_putChar_b72d1 : ByteArray := prog_33_method_4_code
def yJ2_putChar_b72d1 : MethodName := ⟨RJ2, "putChar", "([BII)V"⟩
abbrev cJ2_getChar_3b067 : ByteArray := prog_33_method_5_code
def yJ2_getChar_3b067 : MethodName := ⟨RJ2, "getChar", "([BI)C"⟩
abbrev cJ2_length_9d52b : ByteArray := prog_33_method_6_code
def yJ2_length_9d52b : MethodName := ⟨RJ2, "length", "([B)I"⟩
abbrev cJ2_coderFromArrayLen_85cad : ByteArray := prog_33_method_15_code
def yJ2_coderFromArrayLen_85cad : MethodName := ⟨RJ2, "coderFromArrayLen", "([BI)B"⟩
abbrev cJ2_compress_39247 : ByteArray := prog_33_method_17_code
def yJ2_compress_39247 : MethodName := ⟨RJ2, "compress", "([BII)[B"⟩
abbrev cJ2_compress_5af95 : ByteArray := prog_33_method_22_code
def yJ2_compress_5af95 : MethodName := ⟨RJ2, "compress", "([BI[BII)I"⟩
abbrev cJ2_fillNull_b72d1 : ByteArray := prog_33_method_70_code
def yJ2_fillNull_b72d1 : MethodName := ⟨RJ2, "fillNull", "([BII)V"⟩
abbrev cJ2_putCharSB_b72d1 : ByteArray := prog_33_method_71_code
def yJ2_putCharSB_b72d1 : MethodName := ⟨RJ2, "putCharSB", "([BII)V"⟩
abbrev cJ2_getChars_46870 : ByteArray := prog_33_method_77_code
def yJ2_getChars_46870 : MethodName := ⟨RJ2, "getChars", "(III[B)I"⟩
abbrev cJ2_putCharsAt_cd4e5 : ByteArray := prog_33_method_81_code
def yJ2_putCharsAt_cd4e5 : MethodName := ⟨RJ2, "putCharsAt", "([BICCCC)I"⟩
abbrev cJ2_charAt_3b067 : ByteArray := prog_33_method_83_code
def yJ2_charAt_3b067 : MethodName := ⟨RJ2, "charAt", "([BI)C"⟩
abbrev cJ2_inflate_0e8fd : ByteArray := prog_33_method_86_code
def yJ2_inflate_0e8fd : MethodName := ⟨RJ2, "inflate", "([BI[BII)V"⟩
abbrev cJ2_getChars_ba4f3 : ByteArray := prog_33_method_89_code
def yJ2_getChars_ba4f3 : MethodName := ⟨RJ2, "getChars", "(II[B)I"⟩
abbrev cJ2_checkIndex_2214a : ByteArray := prog_33_method_91_code
def yJ2_checkIndex_2214a : MethodName := ⟨RJ2, "checkIndex", "(I[B)V"⟩
abbrev cJ2_checkBoundsBeginEnd_d044e : ByteArray := prog_33_method_93_code
def yJ2_checkBoundsBeginEnd_d044e : MethodName := ⟨RJ2, "checkBoundsBeginEnd", "(II[B)V"⟩
abbrev cJ2_checkBoundsOffCount_d044e : ByteArray := prog_33_method_94_code
def yJ2_checkBoundsOffCount_d044e : MethodName := ⟨RJ2, "checkBoundsOffCount", "(II[B)V"⟩
def RJ10 : String := "java/lang/System"
def TJ10 : u_T := fun k => match k with
  | _ => ("", "", "", false)
def tyJ10 : Nat → FieldType := fun k => match k with
  | _ => .int
abbrev wsJ100 : List Cond := u_ws RJ10 TJ10 0
theorem nmJ10 : ∀ a, a < 0 → ∀ b, b < 0 → a ≠ b → (TJ10 a).2.1 ≠ (TJ10 b).2.1 := by decide +kernel
theorem tyJ10_ok : ∀ k, k < 0 → parseFieldDescriptor (TJ10 k).2.2.1 = some (tyJ10 k) := by decide +kernel
def RJxfd54e : String := "java/lang/constant/Constable"
def TJxfd54e : u_T := fun k => match k with
  | _ => ("", "", "", false)
def tyJxfd54e : Nat → FieldType := fun k => match k with
  | _ => .int
abbrev wsJxfd54e0 : List Cond := u_ws RJxfd54e TJxfd54e 0
theorem nmJxfd54e : ∀ a, a < 0 → ∀ b, b < 0 → a ≠ b → (TJxfd54e a).2.1 ≠ (TJxfd54e b).2.1 := by decide +kernel
theorem tyJxfd54e_ok : ∀ k, k < 0 → parseFieldDescriptor (TJxfd54e k).2.2.1 = some (tyJxfd54e k) := by decide +kernel
def RJx3cf43 : String := "java/lang/constant/ConstantDesc"
def TJx3cf43 : u_T := fun k => match k with
  | _ => ("", "", "", false)
def tyJx3cf43 : Nat → FieldType := fun k => match k with
  | _ => .int
abbrev wsJx3cf430 : List Cond := u_ws RJx3cf43 TJx3cf43 0
theorem nmJx3cf43 : ∀ a, a < 0 → ∀ b, b < 0 → a ≠ b → (TJx3cf43 a).2.1 ≠ (TJx3cf43 b).2.1 := by decide +kernel
theorem tyJx3cf43_ok : ∀ k, k < 0 → parseFieldDescriptor (TJx3cf43 k).2.2.1 = some (tyJx3cf43 k) := by decide +kernel
def RJ7 : String := "java/util/Arrays"
def TJ7 : u_T := fun k => match k with
  | _ => ("", "", "", false)
def tyJ7 : Nat → FieldType := fun k => match k with
  | _ => .int
abbrev wsJ70 : List Cond := u_ws RJ7 TJ7 0
theorem nmJ7 : ∀ a, a < 0 → ∀ b, b < 0 → a ≠ b → (TJ7 a).2.1 ≠ (TJ7 b).2.1 := by decide +kernel
theorem tyJ7_ok : ∀ k, k < 0 → parseFieldDescriptor (TJ7 k).2.2.1 = some (tyJ7 k) := by decide +kernel
abbrev cJ7_rangeCheck_23922 : ByteArray := prog_39_method_30_code
def yJ7_rangeCheck_23922 : MethodName := ⟨RJ7, "rangeCheck", "(III)V"⟩
abbrev cJ7_fill_eb02e : ByteArray := prog_39_method_110_code
def yJ7_fill_eb02e : MethodName := ⟨RJ7, "fill", "([BIIB)V"⟩
abbrev cJ7_copyOf_9075b : ByteArray := prog_39_method_121_code
def yJ7_copyOf_9075b : MethodName := ⟨RJ7, "copyOf", "([BI)[B"⟩
abbrev cJ7_checkLength_df160 : ByteArray := prog_39_method_131_code
def yJ7_checkLength_df160 : MethodName := ⟨RJ7, "checkLength", "(II)V"⟩
abbrev cJ7_copyOfRange_39247 : ByteArray := prog_39_method_132_code
def yJ7_copyOfRange_39247 : MethodName := ⟨RJ7, "copyOfRange", "([BII)[B"⟩
abbrev cJ7_copyOfRangeByte_39247 : ByteArray := prog_39_method_133_code
def yJ7_copyOfRangeByte_39247 : MethodName := ⟨RJ7, "copyOfRangeByte", "([BII)[B"⟩
def RJ8 : String := "jdk/internal/util/ArraysSupport"
def TJ8 : u_T := fun k => match k with
  | _ => ("", "", "", false)
def tyJ8 : Nat → FieldType := fun k => match k with
  | _ => .int
abbrev wsJ80 : List Cond := u_ws RJ8 TJ8 0
theorem nmJ8 : ∀ a, a < 0 → ∀ b, b < 0 → a ≠ b → (TJ8 a).2.1 ≠ (TJ8 b).2.1 := by decide +kernel
theorem tyJ8_ok : ∀ k, k < 0 → parseFieldDescriptor (TJ8 k).2.2.1 = some (tyJ8 k) := by decide +kernel
abbrev cJ8_newLength_cabcc : ByteArray := prog_41_method_27_code
def yJ8_newLength_cabcc : MethodName := ⟨RJ8, "newLength", "(III)I"⟩
abbrev cJ8_hugeLength_7cf53 : ByteArray := prog_41_method_28_code
def yJ8_hugeLength_7cf53 : MethodName := ⟨RJ8, "hugeLength", "(II)I"⟩
def RJ3 : String := "jdk/internal/util/Preconditions"
def TJ3 : u_T := fun k => match k with
  | _ => ("", "", "", false)
def tyJ3 : Nat → FieldType := fun k => match k with
  | _ => .int
abbrev wsJ30 : List Cond := u_ws RJ3 TJ3 0
theorem nmJ3 : ∀ a, a < 0 → ∀ b, b < 0 → a ≠ b → (TJ3 a).2.1 ≠ (TJ3 b).2.1 := by decide +kernel
theorem tyJ3_ok : ∀ k, k < 0 → parseFieldDescriptor (TJ3 k).2.2.1 = some (tyJ3 k) := by decide +kernel
abbrev cJ3_checkIndex_8e157 : ByteArray := prog_42_method_11_code
def yJ3_checkIndex_8e157 : MethodName := ⟨RJ3, "checkIndex", "(IILjava/util/function/BiFunction;)I"⟩
abbrev cJ3_checkFromToIndex_8c36e : ByteArray := prog_42_method_12_code
def yJ3_checkFromToIndex_8c36e : MethodName := ⟨RJ3, "checkFromToIndex", "(IIILjava/util/function/BiFunction;)I"⟩
abbrev cJ3_checkFromIndexSize_8c36e : ByteArray := prog_42_method_13_code
def yJ3_checkFromIndexSize_8c36e : MethodName := ⟨RJ3, "checkFromIndexSize", "(IIILjava/util/function/BiFunction;)I"⟩
def RL : String := "CandleConcertLaw"
abbrev cL_cell : ByteArray := method_2_code
def yL_cell : MethodName := ⟨RL, "cell", "([II)I"⟩
abbrev cL_addCandle : ByteArray := method_3_code
def yL_addCandle : MethodName := ⟨RL, "addCandle", "(LCandleConcert;CII)I"⟩
abbrev cL_light : ByteArray := method_4_code
def yL_light : MethodName := ⟨RL, "light", "(LCandleConcert;I)I"⟩
abbrev cL_snuff : ByteArray := method_5_code
def yL_snuff : MethodName := ⟨RL, "snuff", "(LCandleConcert;I)I"⟩
abbrev cL_pour : ByteArray := method_6_code
def yL_pour : MethodName := ⟨RL, "pour", "(LCandleConcert;II)I"⟩
abbrev cL_setDraught : ByteArray := method_7_code
def yL_setDraught : MethodName := ⟨RL, "setDraught", "(LCandleConcert;I)I"⟩
abbrev cL_schedule : ByteArray := method_8_code
def yL_schedule : MethodName := ⟨RL, "schedule", "(LCandleConcert;IIZ)I"⟩
abbrev cL_unschedule : ByteArray := method_9_code
def yL_unschedule : MethodName := ⟨RL, "unschedule", "(LCandleConcert;I)I"⟩
abbrev cL_pass : ByteArray := method_10_code
def yL_pass : MethodName := ⟨RL, "pass", "(LCandleConcert;I)I"⟩
abbrev cL_candleByWax : ByteArray := method_11_code
def yL_candleByWax : MethodName := ⟨RL, "candleByWax", "(LCandleConcert;I)I"⟩
abbrev cL_lastCandle : ByteArray := method_12_code
def yL_lastCandle : MethodName := ⟨RL, "lastCandle", "(LCandleConcert;)I"⟩
abbrev cL_run : ByteArray := method_13_code
def yL_run : MethodName := ⟨RL, "run", "(LCandleConcert;)I"⟩
abbrev cL_undo : ByteArray := method_14_code
def yL_undo : MethodName := ⟨RL, "undo", "(LCandleConcert;)I"⟩
abbrev cL_restore : ByteArray := method_15_code
def yL_restore : MethodName := ⟨RL, "restore", "(LCandleConcert;)I"⟩
abbrev cL_in : ByteArray := method_16_code
def yL_in : MethodName := ⟨RL, "in", "([III)I"⟩
abbrev cL_does : ByteArray := method_17_code
def yL_does : MethodName := ⟨RL, "does", "(LCandleConcert;Ljava/lang/String;)I"⟩
abbrev cL_begun : ByteArray := method_18_code
def yL_begun : MethodName := ⟨RL, "begun", "([I)LCandleConcert;"⟩
abbrev cL_acts : ByteArray := method_19_code
def yL_acts : MethodName := ⟨RL, "acts", "(LCandleConcert;[II)I"⟩
abbrev cL_seen : ByteArray := method_20_code
def yL_seen : MethodName := ⟨RL, "seen", "(LCandleConcert;)[I"⟩
abbrev cL_areAlike : ByteArray := method_21_code
def yL_areAlike : MethodName := ⟨RL, "areAlike", "([I[I)Z"⟩
abbrev cL_isWell : ByteArray := method_22_code
def yL_isWell : MethodName := ⟨RL, "isWell", "(LCandleConcert;)Z"⟩
abbrev cL_law : ByteArray := code
def yL_law : MethodName := ⟨RL, "law", "([I)Z"⟩
abbrev vwCl : List vw_C := [(RJ0, TJ0, 4), (RJ4, TJ4, 4), (RJx00060, TJx00060, 6), (RJx7c733, TJx7c733, 6), (RX1, TX1, 5), (RX2, TX2, 6), (RX3, TX3, 4), (RX4, TX4, 3), (RX6, TX6, 5), (RX8, TX8, 10), (RX9, TX9, 9)]
