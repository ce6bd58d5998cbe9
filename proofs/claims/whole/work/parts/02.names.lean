def RX0 : String := "HedgeNews$1"
def TX0 : u_T := fun k => match k with
  | _ => ("", "", "", false)
def tyX0 : Nat → FieldType := fun k => match k with
  | _ => .int
abbrev wsX00 : List Cond := u_ws RX0 TX0 0
theorem nmX0 : ∀ a, a < 0 → ∀ b, b < 0 → a ≠ b → (TX0 a).2.1 ≠ (TX0 b).2.1 := by decide +kernel
theorem tyX0_ok : ∀ k, k < 0 → parseFieldDescriptor (TX0 k).2.2.1 = some (tyX0 k) := by decide +kernel
def RX1 : String := "HedgeNews$Garden"
def TX1 : u_T := fun k => match k with
  | 0 => ("HedgeNews$Garden", "hedges", "[LHedgeNews$Hedge;", true)
  | 1 => ("HedgeNews$Garden", "roses", "[LHedgeNews$Rose;", true)
  | 2 => ("HedgeNews$Garden", "hedgeCount", "I", false)
  | 3 => ("HedgeNews$Garden", "roseCount", "I", false)
  | 4 => ("HedgeNews$Garden", "day", "I", false)
  | 5 => ("HedgeNews$Garden", "ordersDone", "I", false)
  | 6 => ("HedgeNews$Garden", "whispers", "I", false)
  | 7 => ("HedgeNews$Garden", "cycles", "I", false)
  | _ => ("HedgeNews$Garden", "departures", "I", false)
def tyX1 : Nat → FieldType := fun k => match k with
  | 0 => .array (.object "HedgeNews$Hedge")
  | 1 => .array (.object "HedgeNews$Rose")
  | 2 => .int
  | 3 => .int
  | 4 => .int
  | 5 => .int
  | 6 => .int
  | 7 => .int
  | _ => .int
abbrev wsX10 : List Cond := u_ws RX1 TX1 9
theorem nmX1 : ∀ a, a < 9 → ∀ b, b < 9 → a ≠ b → (TX1 a).2.1 ≠ (TX1 b).2.1 := by decide +kernel
theorem tyX1_ok : ∀ k, k < 9 → parseFieldDescriptor (TX1 k).2.2.1 = some (tyX1 k) := by decide +kernel
abbrev cX1_init : ByteArray := prog_3_method_1_code
def yX1_init : MethodName := ⟨RX1, "<init>", "()V"⟩
abbrev cX1_hedge : ByteArray := prog_3_method_2_code
def yX1_hedge : MethodName := ⟨RX1, "hedge", "(I)LHedgeNews$Hedge;"⟩
abbrev cX1_rose : ByteArray := prog_3_method_3_code
def yX1_rose : MethodName := ⟨RX1, "rose", "(I)LHedgeNews$Rose;"⟩
abbrev cX1_begin : ByteArray := prog_3_method_4_code
def yX1_begin : MethodName := ⟨RX1, "begin", "(LHedgeNews$Plan;)V"⟩
abbrev cX1_copy : ByteArray := prog_3_method_5_code
def yX1_copy : MethodName := ⟨RX1, "copy", "(LHedgeNews$Garden;)V"⟩
abbrev cX1_startListening : ByteArray := prog_3_method_6_code
def yX1_startListening : MethodName := ⟨RX1, "startListening", "(II)Z"⟩
abbrev cX1_stopListening : ByteArray := prog_3_method_7_code
def yX1_stopListening : MethodName := ⟨RX1, "stopListening", "(II)Z"⟩
abbrev cX1_roseHears : ByteArray := prog_3_method_8_code
def yX1_roseHears : MethodName := ⟨RX1, "roseHears", "(III)V"⟩
abbrev cX1_endDay : ByteArray := prog_3_method_9_code
def yX1_endDay : MethodName := ⟨RX1, "endDay", "()V"⟩
abbrev cX1_isInRow : ByteArray := prog_3_method_10_code
def yX1_isInRow : MethodName := ⟨RX1, "isInRow", "(II)Z"⟩
abbrev cX1_rowsWith : ByteArray := prog_3_method_11_code
def yX1_rowsWith : MethodName := ⟨RX1, "rowsWith", "(I)I"⟩
abbrev cX1_fullestRose : ByteArray := prog_3_method_12_code
def yX1_fullestRose : MethodName := ⟨RX1, "fullestRose", "()I"⟩
abbrev cX1_petalsInAll : ByteArray := prog_3_method_13_code
def yX1_petalsInAll : MethodName := ⟨RX1, "petalsInAll", "()J"⟩
abbrev cX1_petalsAt : ByteArray := prog_3_method_14_code
def yX1_petalsAt : MethodName := ⟨RX1, "petalsAt", "(I)I"⟩
abbrev cX1_departuresAt : ByteArray := prog_3_method_15_code
def yX1_departuresAt : MethodName := ⟨RX1, "departuresAt", "(I)I"⟩
abbrev cX1_heardAt : ByteArray := prog_3_method_16_code
def yX1_heardAt : MethodName := ⟨RX1, "heardAt", "(I)I"⟩
abbrev cX1_latestAt : ByteArray := prog_3_method_17_code
def yX1_latestAt : MethodName := ⟨RX1, "latestAt", "(I)I"⟩
def RX2 : String := "HedgeNews$Gardener"
def TX2 : u_T := fun k => match k with
  | 0 => ("HedgeNews$Gardener", "news", "LHedgeNews$News;", true)
  | 1 => ("HedgeNews$Gardener", "pile", "[I", true)
  | _ => ("HedgeNews$Gardener", "height", "I", false)
def tyX2 : Nat → FieldType := fun k => match k with
  | 0 => .object "HedgeNews$News"
  | 1 => .array .int
  | _ => .int
abbrev wsX20 : List Cond := u_ws RX2 TX2 3
theorem nmX2 : ∀ a, a < 3 → ∀ b, b < 3 → a ≠ b → (TX2 a).2.1 ≠ (TX2 b).2.1 := by decide +kernel
theorem tyX2_ok : ∀ k, k < 3 → parseFieldDescriptor (TX2 k).2.2.1 = some (tyX2 k) := by decide +kernel
abbrev cX2_init : ByteArray := prog_4_method_1_code
def yX2_init : MethodName := ⟨RX2, "<init>", "(LHedgeNews$News;)V"⟩
abbrev cX2_letDayPass : ByteArray := prog_4_method_2_code
def yX2_letDayPass : MethodName := ⟨RX2, "letDayPass", "(LHedgeNews$Plan;LHedgeNews$Garden;)V"⟩
abbrev cX2_step : ByteArray := prog_4_method_3_code
def yX2_step : MethodName := ⟨RX2, "step", "(LHedgeNews$Garden;LHedgeNews$Kind;II)V"⟩
abbrev cX2_join : ByteArray := prog_4_method_4_code
def yX2_join : MethodName := ⟨RX2, "join", "(LHedgeNews$Kind;)V"⟩
abbrev cX2_order : ByteArray := prog_4_method_5_code
def yX2_order : MethodName := ⟨RX2, "order", "(LHedgeNews$Garden;LHedgeNews$Kind;II)V"⟩
abbrev cX2_joined : ByteArray := prog_4_method_6_code
def yX2_joined : MethodName := ⟨RX2, "joined", "(LHedgeNews$Kind;II)I"⟩
abbrev cX2_oneIf : ByteArray := prog_4_method_7_code
def yX2_oneIf : MethodName := ⟨RX2, "oneIf", "(Z)I"⟩
abbrev cX2_push : ByteArray := prog_4_method_8_code
def yX2_push : MethodName := ⟨RX2, "push", "(I)V"⟩
abbrev cX2_pop : ByteArray := prog_4_method_9_code
def yX2_pop : MethodName := ⟨RX2, "pop", "()I"⟩
def RX3 : String := "HedgeNews$Hedge"
def TX3 : u_T := fun k => match k with
  | 0 => ("HedgeNews$Hedge", "hush", "I", false)
  | 1 => ("HedgeNews$Hedge", "heard", "I", false)
  | 2 => ("HedgeNews$Hedge", "latest", "I", false)
  | 3 => ("HedgeNews$Hedge", "listeners", "I", false)
  | _ => ("HedgeNews$Hedge", "row", "[I", true)
def tyX3 : Nat → FieldType := fun k => match k with
  | 0 => .int
  | 1 => .int
  | 2 => .int
  | 3 => .int
  | _ => .array .int
abbrev wsX30 : List Cond := u_ws RX3 TX3 5
theorem nmX3 : ∀ a, a < 5 → ∀ b, b < 5 → a ≠ b → (TX3 a).2.1 ≠ (TX3 b).2.1 := by decide +kernel
theorem tyX3_ok : ∀ k, k < 5 → parseFieldDescriptor (TX3 k).2.2.1 = some (tyX3 k) := by decide +kernel
abbrev cX3_init : ByteArray := prog_5_method_1_code
def yX3_init : MethodName := ⟨RX3, "<init>", "()V"⟩
abbrev cX3_begin : ByteArray := prog_5_method_2_code
def yX3_begin : MethodName := ⟨RX3, "begin", "(I)V"⟩
abbrev cX3_copy : ByteArray := prog_5_method_3_code
def yX3_copy : MethodName := ⟨RX3, "copy", "(LHedgeNews$Hedge;)V"⟩
abbrev cX3_listenerAt : ByteArray := prog_5_method_4_code
def yX3_listenerAt : MethodName := ⟨RX3, "listenerAt", "(I)I"⟩
abbrev cX3_placeOf : ByteArray := prog_5_method_5_code
def yX3_placeOf : MethodName := ⟨RX3, "placeOf", "(I)I"⟩
abbrev cX3_add : ByteArray := prog_5_method_6_code
def yX3_add : MethodName := ⟨RX3, "add", "(I)V"⟩
abbrev cX3_removeAt : ByteArray := prog_5_method_7_code
def yX3_removeAt : MethodName := ⟨RX3, "removeAt", "(I)V"⟩
def RX4 : String := "HedgeNews$Kind"
def TX4 : u_T := fun k => match k with
  | _ => ("", "", "", false)
def tyX4 : Nat → FieldType := fun k => match k with
  | _ => .int
abbrev wsX40 : List Cond := u_ws RX4 TX4 0
theorem nmX4 : ∀ a, a < 0 → ∀ b, b < 0 → a ≠ b → (TX4 a).2.1 ≠ (TX4 b).2.1 := by decide +kernel
theorem tyX4_ok : ∀ k, k < 0 → parseFieldDescriptor (TX4 k).2.2.1 = some (tyX4 k) := by decide +kernel
abbrev cX4_longerKey : ByteArray := prog_6_method_5_code
def yX4_longerKey : MethodName := ⟨RX4, "longerKey", "(JI)J"⟩
abbrev cX4_ofWord : ByteArray := prog_6_method_6_code
def yX4_ofWord : MethodName := ⟨RX4, "ofWord", "(J)LHedgeNews$Kind;"⟩
abbrev cX4_isOrder : ByteArray := prog_6_method_7_code
def yX4_isOrder : MethodName := ⟨RX4, "isOrder", "()Z"⟩
abbrev cX4_isComparison : ByteArray := prog_6_method_8_code
def yX4_isComparison : MethodName := ⟨RX4, "isComparison", "()Z"⟩
abbrev cX4_addsUp : ByteArray := prog_6_method_9_code
def yX4_addsUp : MethodName := ⟨RX4, "addsUp", "()Z"⟩
abbrev cX4_multiplies : ByteArray := prog_6_method_10_code
def yX4_multiplies : MethodName := ⟨RX4, "multiplies", "()Z"⟩
def RX5 : String := "HedgeNews$NameCheck"
def TX5 : u_T := fun k => match k with
  | 0 => ("HedgeNews$NameCheck", "keys", "[J", true)
  | 1 => ("HedgeNews$NameCheck", "orders", "I", false)
  | _ => ("HedgeNews$NameCheck", "wrongToken", "I", false)
def tyX5 : Nat → FieldType := fun k => match k with
  | 0 => .array .long
  | 1 => .int
  | _ => .int
abbrev wsX50 : List Cond := u_ws RX5 TX5 3
theorem nmX5 : ∀ a, a < 3 → ∀ b, b < 3 → a ≠ b → (TX5 a).2.1 ≠ (TX5 b).2.1 := by decide +kernel
theorem tyX5_ok : ∀ k, k < 3 → parseFieldDescriptor (TX5 k).2.2.1 = some (tyX5 k) := by decide +kernel
abbrev cX5_init : ByteArray := prog_7_method_1_code
def yX5_init : MethodName := ⟨RX5, "<init>", "()V"⟩
abbrev cX5_check : ByteArray := prog_7_method_2_code
def yX5_check : MethodName := ⟨RX5, "check", "(LHedgeNews$Tokens;LHedgeNews$Plan;)I"⟩
abbrev cX5_errorOf : ByteArray := prog_7_method_3_code
def yX5_errorOf : MethodName := ⟨RX5, "errorOf", "(LHedgeNews$Tokens;ILHedgeNews$Plan;)I"⟩
abbrev cX5_errorOfNumber : ByteArray := prog_7_method_4_code
def yX5_errorOfNumber : MethodName := ⟨RX5, "errorOfNumber", "(ILHedgeNews$Kind;LHedgeNews$Plan;)I"⟩
abbrev cX5_errorOfNewName : ByteArray := prog_7_method_5_code
def yX5_errorOfNewName : MethodName := ⟨RX5, "errorOfNewName", "(JLHedgeNews$Kind;LHedgeNews$Plan;)I"⟩
abbrev cX5_errorOfOldName : ByteArray := prog_7_method_6_code
def yX5_errorOfOldName : MethodName := ⟨RX5, "errorOfOldName", "(LHedgeNews$Tokens;ILHedgeNews$Plan;)I"⟩
abbrev cX5_listenerNamed : ByteArray := prog_7_method_7_code
def yX5_listenerNamed : MethodName := ⟨RX5, "listenerNamed", "(JLHedgeNews$Plan;)I"⟩
def RX6 : String := "HedgeNews$News"
def TX6 : u_T := fun k => match k with
  | 0 => ("HedgeNews$News", "whisperers", "[I", true)
  | 1 => ("HedgeNews$News", "hearers", "[I", true)
  | 2 => ("HedgeNews$News", "loudnesses", "[I", true)
  | 3 => ("HedgeNews$News", "size", "I", false)
  | 4 => ("HedgeNews$News", "firstLoudnesses", "[I", true)
  | _ => ("HedgeNews$News", "cameAgain", "[Z", true)
def tyX6 : Nat → FieldType := fun k => match k with
  | 0 => .array .int
  | 1 => .array .int
  | 2 => .array .int
  | 3 => .int
  | 4 => .array .int
  | _ => .array .boolean
abbrev wsX60 : List Cond := u_ws RX6 TX6 6
theorem nmX6 : ∀ a, a < 6 → ∀ b, b < 6 → a ≠ b → (TX6 a).2.1 ≠ (TX6 b).2.1 := by decide +kernel
theorem tyX6_ok : ∀ k, k < 6 → parseFieldDescriptor (TX6 k).2.2.1 = some (tyX6 k) := by decide +kernel
abbrev cX6_init : ByteArray := prog_8_method_1_code
def yX6_init : MethodName := ⟨RX6, "<init>", "()V"⟩
abbrev cX6_carry : ByteArray := prog_8_method_2_code
def yX6_carry : MethodName := ⟨RX6, "carry", "(LHedgeNews$Garden;II)I"⟩
abbrev cX6_hedgeHears : ByteArray := prog_8_method_3_code
def yX6_hedgeHears : MethodName := ⟨RX6, "hedgeHears", "(LHedgeNews$Garden;II)V"⟩
abbrev cX6_whisper : ByteArray := prog_8_method_4_code
def yX6_whisper : MethodName := ⟨RX6, "whisper", "(III)V"⟩
abbrev cX6_hedgesReached : ByteArray := prog_8_method_5_code
def yX6_hedgesReached : MethodName := ⟨RX6, "hedgesReached", "()I"⟩
abbrev cX6_firstLoudnessAt : ByteArray := prog_8_method_6_code
def yX6_firstLoudnessAt : MethodName := ⟨RX6, "firstLoudnessAt", "(I)I"⟩
abbrev cX6_cameAgainTo : ByteArray := prog_8_method_7_code
def yX6_cameAgainTo : MethodName := ⟨RX6, "cameAgainTo", "(I)Z"⟩
def RX7 : String := "HedgeNews$Parser"
def TX7 : u_T := fun k => match k with
  | 0 => ("HedgeNews$Parser", "tokens", "LHedgeNews$Tokens;", true)
  | 1 => ("HedgeNews$Parser", "plan", "LHedgeNews$Plan;", false)
  | 2 => ("HedgeNews$Parser", "at", "I", false)
  | _ => ("HedgeNews$Parser", "now", "LHedgeNews$Kind;", false)
def tyX7 : Nat → FieldType := fun k => match k with
  | 0 => .object "HedgeNews$Tokens"
  | 1 => .object "HedgeNews$Plan"
  | 2 => .int
  | _ => .object "HedgeNews$Kind"
abbrev wsX70 : List Cond := u_ws RX7 TX7 4
theorem nmX7 : ∀ a, a < 4 → ∀ b, b < 4 → a ≠ b → (TX7 a).2.1 ≠ (TX7 b).2.1 := by decide +kernel
theorem tyX7_ok : ∀ k, k < 4 → parseFieldDescriptor (TX7 k).2.2.1 = some (tyX7 k) := by decide +kernel
abbrev cX7_init : ByteArray := prog_9_method_1_code
def yX7_init : MethodName := ⟨RX7, "<init>", "(LHedgeNews$Tokens;LHedgeNews$Plan;)V"⟩
abbrev cX7_readsInto : ByteArray := prog_9_method_2_code
def yX7_readsInto : MethodName := ⟨RX7, "readsInto", "(LHedgeNews$Plan;)Z"⟩
abbrev cX7_take : ByteArray := prog_9_method_3_code
def yX7_take : MethodName := ⟨RX7, "take", "(LHedgeNews$Kind;)Z"⟩
abbrev cX7_line : ByteArray := prog_9_method_4_code
def yX7_line : MethodName := ⟨RX7, "line", "()Z"⟩
abbrev cX7_order : ByteArray := prog_9_method_5_code
def yX7_order : MethodName := ⟨RX7, "order", "()Z"⟩
abbrev cX7_test : ByteArray := prog_9_method_6_code
def yX7_test : MethodName := ⟨RX7, "test", "(I)Z"⟩
abbrev cX7_single : ByteArray := prog_9_method_7_code
def yX7_single : MethodName := ⟨RX7, "single", "(I)Z"⟩
abbrev cX7_sum : ByteArray := prog_9_method_8_code
def yX7_sum : MethodName := ⟨RX7, "sum", "(I)Z"⟩
abbrev cX7_value : ByteArray := prog_9_method_9_code
def yX7_value : MethodName := ⟨RX7, "value", "(I)Z"⟩
def RX8 : String := "HedgeNews$Plan"
def TX8 : u_T := fun k => match k with
  | 0 => ("HedgeNews$Plan", "hushes", "[I", true)
  | 1 => ("HedgeNews$Plan", "patiences", "[I", true)
  | 2 => ("HedgeNews$Plan", "hedgeCount", "I", false)
  | 3 => ("HedgeNews$Plan", "roseCount", "I", false)
  | 4 => ("HedgeNews$Plan", "acts", "[LHedgeNews$Kind;", true)
  | 5 => ("HedgeNews$Plan", "firsts", "[I", true)
  | 6 => ("HedgeNews$Plan", "seconds", "[I", true)
  | _ => ("HedgeNews$Plan", "size", "I", false)
def tyX8 : Nat → FieldType := fun k => match k with
  | 0 => .array .int
  | 1 => .array .int
  | 2 => .int
  | 3 => .int
  | 4 => .array (.object "HedgeNews$Kind")
  | 5 => .array .int
  | 6 => .array .int
  | _ => .int
abbrev wsX80 : List Cond := u_ws RX8 TX8 8
theorem nmX8 : ∀ a, a < 8 → ∀ b, b < 8 → a ≠ b → (TX8 a).2.1 ≠ (TX8 b).2.1 := by decide +kernel
theorem tyX8_ok : ∀ k, k < 8 → parseFieldDescriptor (TX8 k).2.2.1 = some (tyX8 k) := by decide +kernel
abbrev cX8_init : ByteArray := prog_10_method_1_code
def yX8_init : MethodName := ⟨RX8, "<init>", "()V"⟩
abbrev cX8_clear : ByteArray := prog_10_method_2_code
def yX8_clear : MethodName := ⟨RX8, "clear", "()V"⟩
abbrev cX8_addHedge : ByteArray := prog_10_method_3_code
def yX8_addHedge : MethodName := ⟨RX8, "addHedge", "(I)V"⟩
abbrev cX8_addRose : ByteArray := prog_10_method_4_code
def yX8_addRose : MethodName := ⟨RX8, "addRose", "(I)V"⟩
abbrev cX8_add : ByteArray := prog_10_method_5_code
def yX8_add : MethodName := ⟨RX8, "add", "(LHedgeNews$Kind;II)Z"⟩
abbrev cX8_link : ByteArray := prog_10_method_6_code
def yX8_link : MethodName := ⟨RX8, "link", "(LHedgeNews$Tokens;)V"⟩
def RX9 : String := "HedgeNews$Rose"
def TX9 : u_T := fun k => match k with
  | 0 => ("HedgeNews$Rose", "patience", "I", false)
  | 1 => ("HedgeNews$Rose", "petals", "I", false)
  | 2 => ("HedgeNews$Rose", "count", "I", false)
  | _ => ("HedgeNews$Rose", "departures", "I", false)
def tyX9 : Nat → FieldType := fun k => match k with
  | 0 => .int
  | 1 => .int
  | 2 => .int
  | _ => .int
abbrev wsX90 : List Cond := u_ws RX9 TX9 4
theorem nmX9 : ∀ a, a < 4 → ∀ b, b < 4 → a ≠ b → (TX9 a).2.1 ≠ (TX9 b).2.1 := by decide +kernel
theorem tyX9_ok : ∀ k, k < 4 → parseFieldDescriptor (TX9 k).2.2.1 = some (tyX9 k) := by decide +kernel
abbrev cX9_init : ByteArray := prog_11_method_1_code
def yX9_init : MethodName := ⟨RX9, "<init>", "()V"⟩
abbrev cX9_begin : ByteArray := prog_11_method_2_code
def yX9_begin : MethodName := ⟨RX9, "begin", "(I)V"⟩
abbrev cX9_copy : ByteArray := prog_11_method_3_code
def yX9_copy : MethodName := ⟨RX9, "copy", "(LHedgeNews$Rose;)V"⟩
def RX10 : String := "HedgeNews$Tape"
def TX10 : u_T := fun k => match k with
  | 0 => ("HedgeNews$Tape", "bytes", "[B", true)
  | _ => ("HedgeNews$Tape", "size", "I", false)
def tyX10 : Nat → FieldType := fun k => match k with
  | 0 => .array .byte
  | _ => .int
abbrev wsX100 : List Cond := u_ws RX10 TX10 2
theorem nmX10 : ∀ a, a < 2 → ∀ b, b < 2 → a ≠ b → (TX10 a).2.1 ≠ (TX10 b).2.1 := by decide +kernel
theorem tyX10_ok : ∀ k, k < 2 → parseFieldDescriptor (TX10 k).2.2.1 = some (tyX10 k) := by decide +kernel
abbrev cX10_init : ByteArray := prog_12_method_1_code
def yX10_init : MethodName := ⟨RX10, "<init>", "()V"⟩
abbrev cX10_add : ByteArray := prog_12_method_2_code
def yX10_add : MethodName := ⟨RX10, "add", "(I)V"⟩
abbrev cX10_at : ByteArray := prog_12_method_3_code
def yX10_at : MethodName := ⟨RX10, "at", "(I)I"⟩
def RX11 : String := "HedgeNews$Tokens"
def TX11 : u_T := fun k => match k with
  | 0 => ("HedgeNews$Tokens", "kinds", "[LHedgeNews$Kind;", true)
  | 1 => ("HedgeNews$Tokens", "starts", "[I", true)
  | 2 => ("HedgeNews$Tokens", "keys", "[J", true)
  | 3 => ("HedgeNews$Tokens", "meanings", "[I", true)
  | 4 => ("HedgeNews$Tokens", "last", "I", false)
  | 5 => ("HedgeNews$Tokens", "cursor", "I", false)
  | 6 => ("HedgeNews$Tokens", "readKey", "J", false)
  | _ => ("HedgeNews$Tokens", "readNumber", "I", false)
def tyX11 : Nat → FieldType := fun k => match k with
  | 0 => .array (.object "HedgeNews$Kind")
  | 1 => .array .int
  | 2 => .array .long
  | 3 => .array .int
  | 4 => .int
  | 5 => .int
  | 6 => .long
  | _ => .int
abbrev wsX110 : List Cond := u_ws RX11 TX11 8
theorem nmX11 : ∀ a, a < 8 → ∀ b, b < 8 → a ≠ b → (TX11 a).2.1 ≠ (TX11 b).2.1 := by decide +kernel
theorem tyX11_ok : ∀ k, k < 8 → parseFieldDescriptor (TX11 k).2.2.1 = some (tyX11 k) := by decide +kernel
abbrev cX11_init : ByteArray := prog_13_method_1_code
def yX11_init : MethodName := ⟨RX11, "<init>", "()V"⟩
abbrev cX11_scan : ByteArray := prog_13_method_2_code
def yX11_scan : MethodName := ⟨RX11, "scan", "(LHedgeNews$Tape;)V"⟩
abbrev cX11_skipBlanks : ByteArray := prog_13_method_3_code
def yX11_skipBlanks : MethodName := ⟨RX11, "skipBlanks", "(LHedgeNews$Tape;)V"⟩
abbrev cX11_next : ByteArray := prog_13_method_4_code
def yX11_next : MethodName := ⟨RX11, "next", "(LHedgeNews$Tape;)LHedgeNews$Kind;"⟩
abbrev cX11_word : ByteArray := prog_13_method_5_code
def yX11_word : MethodName := ⟨RX11, "word", "(LHedgeNews$Tape;)LHedgeNews$Kind;"⟩
abbrev cX11_number : ByteArray := prog_13_method_6_code
def yX11_number : MethodName := ⟨RX11, "number", "(LHedgeNews$Tape;)LHedgeNews$Kind;"⟩
abbrev cX11_symbol : ByteArray := prog_13_method_7_code
def yX11_symbol : MethodName := ⟨RX11, "symbol", "(ILHedgeNews$Tape;)LHedgeNews$Kind;"⟩
abbrev cX11_withEqual : ByteArray := prog_13_method_8_code
def yX11_withEqual : MethodName := ⟨RX11, "withEqual", "(LHedgeNews$Tape;)Z"⟩
abbrev cX11_isLetter : ByteArray := prog_13_method_9_code
def yX11_isLetter : MethodName := ⟨RX11, "isLetter", "(I)Z"⟩
abbrev cX11_isDigit : ByteArray := prog_13_method_10_code
def yX11_isDigit : MethodName := ⟨RX11, "isDigit", "(I)Z"⟩
abbrev cX11_isInWord : ByteArray := prog_13_method_11_code
def yX11_isInWord : MethodName := ⟨RX11, "isInWord", "(I)Z"⟩
abbrev cX11_has : ByteArray := prog_13_method_12_code
def yX11_has : MethodName := ⟨RX11, "has", "(I)Z"⟩
abbrev cX11_kind : ByteArray := prog_13_method_13_code
def yX11_kind : MethodName := ⟨RX11, "kind", "(I)LHedgeNews$Kind;"⟩
abbrev cX11_start : ByteArray := prog_13_method_14_code
def yX11_start : MethodName := ⟨RX11, "start", "(I)I"⟩
abbrev cX11_key : ByteArray := prog_13_method_15_code
def yX11_key : MethodName := ⟨RX11, "key", "(I)J"⟩
abbrev cX11_meaning : ByteArray := prog_13_method_16_code
def yX11_meaning : MethodName := ⟨RX11, "meaning", "(I)I"⟩
abbrev cX11_mean : ByteArray := prog_13_method_17_code
def yX11_mean : MethodName := ⟨RX11, "mean", "(II)V"⟩
def RX12 : String := "HedgeNews"
def TX12 : u_T := fun k => match k with
  | 0 => ("HedgeNews", "tape", "LHedgeNews$Tape;", true)
  | 1 => ("HedgeNews", "tokens", "LHedgeNews$Tokens;", true)
  | 2 => ("HedgeNews", "names", "LHedgeNews$NameCheck;", true)
  | 3 => ("HedgeNews", "news", "LHedgeNews$News;", true)
  | 4 => ("HedgeNews", "gardener", "LHedgeNews$Gardener;", true)
  | 5 => ("HedgeNews", "garden", "LHedgeNews$Garden;", true)
  | 6 => ("HedgeNews", "trial", "LHedgeNews$Garden;", true)
  | 7 => ("HedgeNews", "plan", "LHedgeNews$Plan;", false)
  | 8 => ("HedgeNews", "sparePlan", "LHedgeNews$Plan;", false)
  | 9 => ("HedgeNews", "parser", "LHedgeNews$Parser;", true)
  | _ => ("HedgeNews", "errorPosition", "I", false)
def tyX12 : Nat → FieldType := fun k => match k with
  | 0 => .object "HedgeNews$Tape"
  | 1 => .object "HedgeNews$Tokens"
  | 2 => .object "HedgeNews$NameCheck"
  | 3 => .object "HedgeNews$News"
  | 4 => .object "HedgeNews$Gardener"
  | 5 => .object "HedgeNews$Garden"
  | 6 => .object "HedgeNews$Garden"
  | 7 => .object "HedgeNews$Plan"
  | 8 => .object "HedgeNews$Plan"
  | 9 => .object "HedgeNews$Parser"
  | _ => .int
abbrev wsX120 : List Cond := u_ws RX12 TX12 11
theorem nmX12 : ∀ a, a < 11 → ∀ b, b < 11 → a ≠ b → (TX12 a).2.1 ≠ (TX12 b).2.1 := by decide +kernel
theorem tyX12_ok : ∀ k, k < 11 → parseFieldDescriptor (TX12 k).2.2.1 = some (tyX12 k) := by decide +kernel
abbrev cX12_init : ByteArray := prog_1_method_1_code
def yX12_init : MethodName := ⟨RX12, "<init>", "()V"⟩
abbrev cX12_feed : ByteArray := prog_1_method_2_code
def yX12_feed : MethodName := ⟨RX12, "feed", "(IIIII)I"⟩
abbrev cX12_trim : ByteArray := prog_1_method_3_code
def yX12_trim : MethodName := ⟨RX12, "trim", "(I)I"⟩
abbrev cX12_teach : ByteArray := prog_1_method_4_code
def yX12_teach : MethodName := ⟨RX12, "teach", "()I"⟩
abbrev cX12_beginSparePlan : ByteArray := prog_1_method_5_code
def yX12_beginSparePlan : MethodName := ⟨RX12, "beginSparePlan", "()V"⟩
abbrev cX12_errorAt : ByteArray := prog_1_method_6_code
def yX12_errorAt : MethodName := ⟨RX12, "errorAt", "()I"⟩
abbrev cX12_hedges : ByteArray := prog_1_method_7_code
def yX12_hedges : MethodName := ⟨RX12, "hedges", "()I"⟩
abbrev cX12_roses : ByteArray := prog_1_method_8_code
def yX12_roses : MethodName := ⟨RX12, "roses", "()I"⟩
abbrev cX12_day : ByteArray := prog_1_method_9_code
def yX12_day : MethodName := ⟨RX12, "day", "()I"⟩
abbrev cX12_ordersCarriedOut : ByteArray := prog_1_method_10_code
def yX12_ordersCarriedOut : MethodName := ⟨RX12, "ordersCarriedOut", "()I"⟩
abbrev cX12_whispers : ByteArray := prog_1_method_11_code
def yX12_whispers : MethodName := ⟨RX12, "whispers", "()I"⟩
abbrev cX12_cycles : ByteArray := prog_1_method_12_code
def yX12_cycles : MethodName := ⟨RX12, "cycles", "()I"⟩
abbrev cX12_departures : ByteArray := prog_1_method_13_code
def yX12_departures : MethodName := ⟨RX12, "departures", "()I"⟩
abbrev cX12_hushOf : ByteArray := prog_1_method_14_code
def yX12_hushOf : MethodName := ⟨RX12, "hushOf", "(I)I"⟩
abbrev cX12_heardBy : ByteArray := prog_1_method_15_code
def yX12_heardBy : MethodName := ⟨RX12, "heardBy", "(I)I"⟩
abbrev cX12_latestOf : ByteArray := prog_1_method_16_code
def yX12_latestOf : MethodName := ⟨RX12, "latestOf", "(I)I"⟩
abbrev cX12_listenersOf : ByteArray := prog_1_method_17_code
def yX12_listenersOf : MethodName := ⟨RX12, "listenersOf", "(I)I"⟩
abbrev cX12_hedgeInRow : ByteArray := prog_1_method_18_code
def yX12_hedgeInRow : MethodName := ⟨RX12, "hedgeInRow", "(II)I"⟩
abbrev cX12_roseInRow : ByteArray := prog_1_method_19_code
def yX12_roseInRow : MethodName := ⟨RX12, "roseInRow", "(II)I"⟩
abbrev cX12_hedgeNumbered : ByteArray := prog_1_method_20_code
def yX12_hedgeNumbered : MethodName := ⟨RX12, "hedgeNumbered", "(I)LHedgeNews$Hedge;"⟩
abbrev cX12_patienceOf : ByteArray := prog_1_method_21_code
def yX12_patienceOf : MethodName := ⟨RX12, "patienceOf", "(I)I"⟩
abbrev cX12_petalsOf : ByteArray := prog_1_method_22_code
def yX12_petalsOf : MethodName := ⟨RX12, "petalsOf", "(I)I"⟩
abbrev cX12_countOf : ByteArray := prog_1_method_23_code
def yX12_countOf : MethodName := ⟨RX12, "countOf", "(I)I"⟩
abbrev cX12_hedgesOf : ByteArray := prog_1_method_24_code
def yX12_hedgesOf : MethodName := ⟨RX12, "hedgesOf", "(I)I"⟩
abbrev cX12_fullest : ByteArray := prog_1_method_25_code
def yX12_fullest : MethodName := ⟨RX12, "fullest", "()I"⟩
abbrev cX12_roseNumbered : ByteArray := prog_1_method_26_code
def yX12_roseNumbered : MethodName := ⟨RX12, "roseNumbered", "(I)LHedgeNews$Rose;"⟩
abbrev cX12_hedgeListens : ByteArray := prog_1_method_27_code
def yX12_hedgeListens : MethodName := ⟨RX12, "hedgeListens", "(II)I"⟩
abbrev cX12_roseListens : ByteArray := prog_1_method_28_code
def yX12_roseListens : MethodName := ⟨RX12, "roseListens", "(II)I"⟩
abbrev cX12_hedgeLeaves : ByteArray := prog_1_method_29_code
def yX12_hedgeLeaves : MethodName := ⟨RX12, "hedgeLeaves", "(II)I"⟩
abbrev cX12_roseLeaves : ByteArray := prog_1_method_30_code
def yX12_roseLeaves : MethodName := ⟨RX12, "roseLeaves", "(II)I"⟩
abbrev cX12_placeAfterListening : ByteArray := prog_1_method_31_code
def yX12_placeAfterListening : MethodName := ⟨RX12, "placeAfterListening", "(II)I"⟩
abbrev cX12_listenersAfterLeaving : ByteArray := prog_1_method_32_code
def yX12_listenersAfterLeaving : MethodName := ⟨RX12, "listenersAfterLeaving", "(II)I"⟩
abbrev cX12_tell : ByteArray := prog_1_method_33_code
def yX12_tell : MethodName := ⟨RX12, "tell", "(II)I"⟩
abbrev cX12_needLoudness : ByteArray := prog_1_method_34_code
def yX12_needLoudness : MethodName := ⟨RX12, "needLoudness", "(I)V"⟩
abbrev cX12_passDays : ByteArray := prog_1_method_35_code
def yX12_passDays : MethodName := ⟨RX12, "passDays", "(I)I"⟩
abbrev cX12_reach : ByteArray := prog_1_method_36_code
def yX12_reach : MethodName := ⟨RX12, "reach", "(II)I"⟩
abbrev cX12_loudnessAt : ByteArray := prog_1_method_37_code
def yX12_loudnessAt : MethodName := ⟨RX12, "loudnessAt", "(II)I"⟩
abbrev cX12_comesBack : ByteArray := prog_1_method_38_code
def yX12_comesBack : MethodName := ⟨RX12, "comesBack", "(I)Z"⟩
abbrev cX12_petalsAfter : ByteArray := prog_1_method_39_code
def yX12_petalsAfter : MethodName := ⟨RX12, "petalsAfter", "(II)I"⟩
abbrev cX12_daysUntilLeft : ByteArray := prog_1_method_40_code
def yX12_daysUntilLeft : MethodName := ⟨RX12, "daysUntilLeft", "(I)I"⟩
abbrev cX12_bestToTell : ByteArray := prog_1_method_41_code
def yX12_bestToTell : MethodName := ⟨RX12, "bestToTell", "(I)I"⟩
abbrev cX12_meanPetals : ByteArray := prog_1_method_42_code
def yX12_meanPetals : MethodName := ⟨RX12, "meanPetals", "()D"⟩
abbrev cX12_digest : ByteArray := prog_1_method_43_code
def yX12_digest : MethodName := ⟨RX12, "digest", "()J"⟩
abbrev cX12_digestedHedge : ByteArray := prog_1_method_44_code
def yX12_digestedHedge : MethodName := ⟨RX12, "digestedHedge", "(JI)J"⟩
abbrev cX12_digested : ByteArray := prog_1_method_45_code
def yX12_digested : MethodName := ⟨RX12, "digested", "(JI)J"⟩
abbrev cX12_needDays : ByteArray := prog_1_method_46_code
def yX12_needDays : MethodName := ⟨RX12, "needDays", "(I)V"⟩
abbrev cX12_tryTelling : ByteArray := prog_1_method_47_code
def yX12_tryTelling : MethodName := ⟨RX12, "tryTelling", "(II)V"⟩
def RX13 : String := "HedgeNewsModel$Plan"
def TX13 : u_T := fun k => match k with
  | 0 => ("HedgeNewsModel$Plan", "hedges", "I", false)
  | 1 => ("HedgeNewsModel$Plan", "roses", "I", false)
  | 2 => ("HedgeNewsModel$Plan", "hush", "[I", true)
  | 3 => ("HedgeNewsModel$Plan", "patience", "[I", true)
  | 4 => ("HedgeNewsModel$Plan", "orders", "I", false)
  | 5 => ("HedgeNewsModel$Plan", "ordersRead", "I", false)
  | 6 => ("HedgeNewsModel$Plan", "does", "[I", true)
  | 7 => ("HedgeNewsModel$Plan", "who", "[I", true)
  | 8 => ("HedgeNewsModel$Plan", "to", "[I", true)
  | 9 => ("HedgeNewsModel$Plan", "sum", "[I", true)
  | 10 => ("HedgeNewsModel$Plan", "test", "[I", true)
  | 11 => ("HedgeNewsModel$Plan", "testEnd", "[I", true)
  | 12 => ("HedgeNewsModel$Plan", "code", "[I", true)
  | 13 => ("HedgeNewsModel$Plan", "size", "I", false)
  | 14 => ("HedgeNewsModel$Plan", "open", "[I", true)
  | _ => ("HedgeNewsModel$Plan", "opens", "I", false)
def tyX13 : Nat → FieldType := fun k => match k with
  | 0 => .int
  | 1 => .int
  | 2 => .array .int
  | 3 => .array .int
  | 4 => .int
  | 5 => .int
  | 6 => .array .int
  | 7 => .array .int
  | 8 => .array .int
  | 9 => .array .int
  | 10 => .array .int
  | 11 => .array .int
  | 12 => .array .int
  | 13 => .int
  | 14 => .array .int
  | _ => .int
abbrev wsX130 : List Cond := u_ws RX13 TX13 16
theorem nmX13 : ∀ a, a < 16 → ∀ b, b < 16 → a ≠ b → (TX13 a).2.1 ≠ (TX13 b).2.1 := by decide +kernel
theorem tyX13_ok : ∀ k, k < 16 → parseFieldDescriptor (TX13 k).2.2.1 = some (tyX13 k) := by decide +kernel
abbrev cX13_init : ByteArray := prog_16_method_1_code
def yX13_init : MethodName := ⟨RX13, "<init>", "()V"⟩
def RX14 : String := "HedgeNewsModel$State"
def TX14 : u_T := fun k => match k with
  | 0 => ("HedgeNewsModel$State", "day", "I", false)
  | 1 => ("HedgeNewsModel$State", "done", "I", false)
  | 2 => ("HedgeNewsModel$State", "whispers", "I", false)
  | 3 => ("HedgeNewsModel$State", "cycles", "I", false)
  | 4 => ("HedgeNewsModel$State", "row", "[I", true)
  | 5 => ("HedgeNewsModel$State", "listen", "[I", true)
  | 6 => ("HedgeNewsModel$State", "heard", "[I", true)
  | 7 => ("HedgeNewsModel$State", "latest", "[I", true)
  | 8 => ("HedgeNewsModel$State", "petals", "[I", true)
  | 9 => ("HedgeNewsModel$State", "count", "[I", true)
  | 10 => ("HedgeNewsModel$State", "left", "[I", true)
  | _ => ("HedgeNewsModel$State", "this$0", "LHedgeNewsModel;", true)
def tyX14 : Nat → FieldType := fun k => match k with
  | 0 => .int
  | 1 => .int
  | 2 => .int
  | 3 => .int
  | 4 => .array .int
  | 5 => .array .int
  | 6 => .array .int
  | 7 => .array .int
  | 8 => .array .int
  | 9 => .array .int
  | 10 => .array .int
  | _ => .object "HedgeNewsModel"
abbrev wsX140 : List Cond := u_ws RX14 TX14 12
theorem nmX14 : ∀ a, a < 12 → ∀ b, b < 12 → a ≠ b → (TX14 a).2.1 ≠ (TX14 b).2.1 := by decide +kernel
theorem tyX14_ok : ∀ k, k < 12 → parseFieldDescriptor (TX14 k).2.2.1 = some (tyX14 k) := by decide +kernel
abbrev cX14_init : ByteArray := prog_17_method_1_code
def yX14_init : MethodName := ⟨RX14, "<init>", "(LHedgeNewsModel;)V"⟩
abbrev cX14_become : ByteArray := prog_17_method_2_code
def yX14_become : MethodName := ⟨RX14, "become", "(LHedgeNewsModel$State;)LHedgeNewsModel$State;"⟩
abbrev cX14_begin : ByteArray := prog_17_method_3_code
def yX14_begin : MethodName := ⟨RX14, "begin", "()V"⟩
abbrev cX14_at : ByteArray := prog_17_method_4_code
def yX14_at : MethodName := ⟨RX14, "at", "(II)I"⟩
abbrev cX14_placeIn : ByteArray := prog_17_method_5_code
def yX14_placeIn : MethodName := ⟨RX14, "placeIn", "(II)I"⟩
abbrev cX14_canListen : ByteArray := prog_17_method_6_code
def yX14_canListen : MethodName := ⟨RX14, "canListen", "(II)Z"⟩
abbrev cX14_listens : ByteArray := prog_17_method_7_code
def yX14_listens : MethodName := ⟨RX14, "listens", "(II)I"⟩
abbrev cX14_leaves : ByteArray := prog_17_method_8_code
def yX14_leaves : MethodName := ⟨RX14, "leaves", "(II)I"⟩
abbrev cX14_manyOf : ByteArray := prog_17_method_9_code
def yX14_manyOf : MethodName := ⟨RX14, "manyOf", "(I)I"⟩
abbrev cX14_hedgeHears : ByteArray := prog_17_method_10_code
def yX14_hedgeHears : MethodName := ⟨RX14, "hedgeHears", "(II)V"⟩
abbrev cX14_roseHears : ByteArray := prog_17_method_11_code
def yX14_roseHears : MethodName := ⟨RX14, "roseHears", "(III)V"⟩
abbrev cX14_news : ByteArray := prog_17_method_12_code
def yX14_news : MethodName := ⟨RX14, "news", "(II)I"⟩
abbrev cX14_allLeft : ByteArray := prog_17_method_13_code
def yX14_allLeft : MethodName := ⟨RX14, "allLeft", "()I"⟩
abbrev cX14_allPetals : ByteArray := prog_17_method_14_code
def yX14_allPetals : MethodName := ⟨RX14, "allPetals", "()I"⟩
abbrev cX14_full : ByteArray := prog_17_method_15_code
def yX14_full : MethodName := ⟨RX14, "full", "()I"⟩
abbrev cX14_told : ByteArray := prog_17_method_16_code
def yX14_told : MethodName := ⟨RX14, "told", "(II)I"⟩
abbrev cX14_reckon : ByteArray := prog_17_method_17_code
def yX14_reckon : MethodName := ⟨RX14, "reckon", "(II)I"⟩
abbrev cX14_carry : ByteArray := prog_17_method_18_code
def yX14_carry : MethodName := ⟨RX14, "carry", "(I)Z"⟩
abbrev cX14_pass : ByteArray := prog_17_method_19_code
def yX14_pass : MethodName := ⟨RX14, "pass", "(I)LHedgeNewsModel$State;"⟩
abbrev cX14_untilLeft : ByteArray := prog_17_method_20_code
def yX14_untilLeft : MethodName := ⟨RX14, "untilLeft", "(I)I"⟩
def RX15 : String := "HedgeNewsModel"
def TX15 : u_T := fun k => match k with
  | 0 => ("HedgeNewsModel", "thrown", "I", false)
  | 1 => ("HedgeNewsModel", "tape", "[I", true)
  | 2 => ("HedgeNewsModel", "size", "I", false)
  | 3 => ("HedgeNewsModel", "errorAt", "I", false)
  | 4 => ("HedgeNewsModel", "kind", "[I", true)
  | 5 => ("HedgeNewsModel", "from", "[I", true)
  | 6 => ("HedgeNewsModel", "many", "[I", true)
  | 7 => ("HedgeNewsModel", "role", "[I", true)
  | 8 => ("HedgeNewsModel", "meant", "[I", true)
  | 9 => ("HedgeNewsModel", "token", "I", false)
  | 10 => ("HedgeNewsModel", "depth", "I", false)
  | 11 => ("HedgeNewsModel", "plan", "LHedgeNewsModel$Plan;", false)
  | 12 => ("HedgeNewsModel", "reading", "LHedgeNewsModel$Plan;", false)
  | 13 => ("HedgeNewsModel", "stack", "[I", true)
  | 14 => ("HedgeNewsModel", "ear", "[I", true)
  | 15 => ("HedgeNewsModel", "mouth", "[I", true)
  | 16 => ("HedgeNewsModel", "loud", "[I", true)
  | 17 => ("HedgeNewsModel", "first", "[I", true)
  | 18 => ("HedgeNewsModel", "said", "I", false)
  | 19 => ("HedgeNewsModel", "begun", "I", false)
  | 20 => ("HedgeNewsModel", "isBack", "Z", false)
  | 21 => ("HedgeNewsModel", "s", "LHedgeNewsModel$State;", true)
  | _ => ("HedgeNewsModel", "other", "LHedgeNewsModel$State;", true)
def tyX15 : Nat → FieldType := fun k => match k with
  | 0 => .int
  | 1 => .array .int
  | 2 => .int
  | 3 => .int
  | 4 => .array .int
  | 5 => .array .int
  | 6 => .array .int
  | 7 => .array .int
  | 8 => .array .int
  | 9 => .int
  | 10 => .int
  | 11 => .object "HedgeNewsModel$Plan"
  | 12 => .object "HedgeNewsModel$Plan"
  | 13 => .array .int
  | 14 => .array .int
  | 15 => .array .int
  | 16 => .array .int
  | 17 => .array .int
  | 18 => .int
  | 19 => .int
  | 20 => .boolean
  | 21 => .object "HedgeNewsModel$State"
  | _ => .object "HedgeNewsModel$State"
abbrev wsX150 : List Cond := u_ws RX15 TX15 23
theorem nmX15 : ∀ a, a < 23 → ∀ b, b < 23 → a ≠ b → (TX15 a).2.1 ≠ (TX15 b).2.1 := by decide +kernel
theorem tyX15_ok : ∀ k, k < 23 → parseFieldDescriptor (TX15 k).2.2.1 = some (tyX15 k) := by decide +kernel
abbrev cX15_init : ByteArray := prog_15_method_1_code
def yX15_init : MethodName := ⟨RX15, "<init>", "()V"⟩
abbrev cX15_thrown : ByteArray := prog_15_method_2_code
def yX15_thrown : MethodName := ⟨RX15, "thrown", "()I"⟩
abbrev cX15_no : ByteArray := prog_15_method_3_code
def yX15_no : MethodName := ⟨RX15, "no", "(I)I"⟩
abbrev cX15_isNot : ByteArray := prog_15_method_4_code
def yX15_isNot : MethodName := ⟨RX15, "isNot", "(I)Z"⟩
abbrev cX15_ok : ByteArray := prog_15_method_5_code
def yX15_ok : MethodName := ⟨RX15, "ok", "(I)I"⟩
abbrev cX15_isIn : ByteArray := prog_15_method_6_code
def yX15_isIn : MethodName := ⟨RX15, "isIn", "(III)Z"⟩
abbrev cX15_isHedge : ByteArray := prog_15_method_7_code
def yX15_isHedge : MethodName := ⟨RX15, "isHedge", "(I)Z"⟩
abbrev cX15_isRose : ByteArray := prog_15_method_8_code
def yX15_isRose : MethodName := ⟨RX15, "isRose", "(I)Z"⟩
abbrev cX15_ahead : ByteArray := prog_15_method_9_code
def yX15_ahead : MethodName := ⟨RX15, "ahead", "()LHedgeNewsModel$State;"⟩
abbrev cX15_both : ByteArray := prog_15_method_10_code
def yX15_both : MethodName := ⟨RX15, "both", "(III)I"⟩
abbrev cX15_isLetter : ByteArray := prog_15_method_11_code
def yX15_isLetter : MethodName := ⟨RX15, "isLetter", "(I)Z"⟩
abbrev cX15_isDigit : ByteArray := prog_15_method_12_code
def yX15_isDigit : MethodName := ⟨RX15, "isDigit", "(I)Z"⟩
abbrev cX15_byteOf : ByteArray := prog_15_method_13_code
def yX15_byteOf : MethodName := ⟨RX15, "byteOf", "(I)I"⟩
abbrev cX15_kindAt : ByteArray := prog_15_method_14_code
def yX15_kindAt : MethodName := ⟨RX15, "kindAt", "(II)I"⟩
abbrev cX15_word : ByteArray := prog_15_method_15_code
def yX15_word : MethodName := ⟨RX15, "word", "(II)I"⟩
abbrev cX15_cut : ByteArray := prog_15_method_16_code
def yX15_cut : MethodName := ⟨RX15, "cut", "()V"⟩
abbrev cX15_is : ByteArray := prog_15_method_17_code
def yX15_is : MethodName := ⟨RX15, "is", "(I)Z"⟩
abbrev cX15_isSign : ByteArray := prog_15_method_18_code
def yX15_isSign : MethodName := ⟨RX15, "isSign", "(C)Z"⟩
abbrev cX15_eat : ByteArray := prog_15_method_19_code
def yX15_eat : MethodName := ⟨RX15, "eat", "(I)Z"⟩
abbrev cX15_eatSign : ByteArray := prog_15_method_20_code
def yX15_eatSign : MethodName := ⟨RX15, "eatSign", "(C)Z"⟩
abbrev cX15_eatAs : ByteArray := prog_15_method_21_code
def yX15_eatAs : MethodName := ⟨RX15, "eatAs", "(II)Z"⟩
abbrev cX15_put : ByteArray := prog_15_method_22_code
def yX15_put : MethodName := ⟨RX15, "put", "(I)V"⟩
abbrev cX15_isBook : ByteArray := prog_15_method_23_code
def yX15_isBook : MethodName := ⟨RX15, "isBook", "()Z"⟩
abbrev cX15_isLine : ByteArray := prog_15_method_24_code
def yX15_isLine : MethodName := ⟨RX15, "isLine", "()Z"⟩
abbrev cX15_isOrder : ByteArray := prog_15_method_25_code
def yX15_isOrder : MethodName := ⟨RX15, "isOrder", "(I)Z"⟩
abbrev cX15_isTest : ByteArray := prog_15_method_26_code
def yX15_isTest : MethodName := ⟨RX15, "isTest", "()Z"⟩
abbrev cX15_isBoth : ByteArray := prog_15_method_27_code
def yX15_isBoth : MethodName := ⟨RX15, "isBoth", "()Z"⟩
abbrev cX15_isDeeper : ByteArray := prog_15_method_28_code
def yX15_isDeeper : MethodName := ⟨RX15, "isDeeper", "()Z"⟩
abbrev cX15_isName : ByteArray := prog_15_method_29_code
def yX15_isName : MethodName := ⟨RX15, "isName", "(I)Z"⟩
abbrev cX15_isNamed : ByteArray := prog_15_method_30_code
def yX15_isNamed : MethodName := ⟨RX15, "isNamed", "(I)Z"⟩
abbrev cX15_isSingle : ByteArray := prog_15_method_31_code
def yX15_isSingle : MethodName := ⟨RX15, "isSingle", "()Z"⟩
abbrev cX15_isSum : ByteArray := prog_15_method_32_code
def yX15_isSum : MethodName := ⟨RX15, "isSum", "()Z"⟩
abbrev cX15_isProduct : ByteArray := prog_15_method_33_code
def yX15_isProduct : MethodName := ⟨RX15, "isProduct", "()Z"⟩
abbrev cX15_isInside : ByteArray := prog_15_method_34_code
def yX15_isInside : MethodName := ⟨RX15, "isInside", "(IZ)Z"⟩
abbrev cX15_isValue : ByteArray := prog_15_method_35_code
def yX15_isValue : MethodName := ⟨RX15, "isValue", "()Z"⟩
abbrev cX15_numberAt : ByteArray := prog_15_method_36_code
def yX15_numberAt : MethodName := ⟨RX15, "numberAt", "(I)I"⟩
abbrev cX15_isSame : ByteArray := prog_15_method_37_code
def yX15_isSame : MethodName := ⟨RX15, "isSame", "(II)Z"⟩
abbrev cX15_told : ByteArray := prog_15_method_38_code
def yX15_told : MethodName := ⟨RX15, "told", "(II)I"⟩
abbrev cX15_inRange : ByteArray := prog_15_method_39_code
def yX15_inRange : MethodName := ⟨RX15, "inRange", "(III)I"⟩
abbrev cX15_look : ByteArray := prog_15_method_40_code
def yX15_look : MethodName := ⟨RX15, "look", "(IZZ)I"⟩
abbrev cX15_isNew : ByteArray := prog_15_method_41_code
def yX15_isNew : MethodName := ⟨RX15, "isNew", "(III)I"⟩
abbrev cX15_newHedge : ByteArray := prog_15_method_42_code
def yX15_newHedge : MethodName := ⟨RX15, "newHedge", "(I)I"⟩
abbrev cX15_newRose : ByteArray := prog_15_method_43_code
def yX15_newRose : MethodName := ⟨RX15, "newRose", "(I)I"⟩
abbrev cX15_newOrder : ByteArray := prog_15_method_44_code
def yX15_newOrder : MethodName := ⟨RX15, "newOrder", "(I)I"⟩
abbrev cX15_ofOrder : ByteArray := prog_15_method_45_code
def yX15_ofOrder : MethodName := ⟨RX15, "ofOrder", "(IZ)I"⟩
abbrev cX15_errorOf : ByteArray := prog_15_method_46_code
def yX15_errorOf : MethodName := ⟨RX15, "errorOf", "(I)I"⟩
abbrev cX15_read : ByteArray := prog_15_method_47_code
def yX15_read : MethodName := ⟨RX15, "read", "()I"⟩
abbrev cX15_feed : ByteArray := prog_15_method_48_code
def yX15_feed : MethodName := ⟨RX15, "feed", "(IIIII)I"⟩
abbrev cX15_trim : ByteArray := prog_15_method_49_code
def yX15_trim : MethodName := ⟨RX15, "trim", "(I)I"⟩
abbrev cX15_teach : ByteArray := prog_15_method_50_code
def yX15_teach : MethodName := ⟨RX15, "teach", "()I"⟩
abbrev cX15_errorAt : ByteArray := prog_15_method_51_code
def yX15_errorAt : MethodName := ⟨RX15, "errorAt", "()I"⟩
abbrev cX15_hedges : ByteArray := prog_15_method_52_code
def yX15_hedges : MethodName := ⟨RX15, "hedges", "()I"⟩
abbrev cX15_roses : ByteArray := prog_15_method_53_code
def yX15_roses : MethodName := ⟨RX15, "roses", "()I"⟩
abbrev cX15_day : ByteArray := prog_15_method_54_code
def yX15_day : MethodName := ⟨RX15, "day", "()I"⟩
abbrev cX15_ordersCarriedOut : ByteArray := prog_15_method_55_code
def yX15_ordersCarriedOut : MethodName := ⟨RX15, "ordersCarriedOut", "()I"⟩
abbrev cX15_whispers : ByteArray := prog_15_method_56_code
def yX15_whispers : MethodName := ⟨RX15, "whispers", "()I"⟩
abbrev cX15_cycles : ByteArray := prog_15_method_57_code
def yX15_cycles : MethodName := ⟨RX15, "cycles", "()I"⟩
abbrev cX15_departures : ByteArray := prog_15_method_58_code
def yX15_departures : MethodName := ⟨RX15, "departures", "()I"⟩
abbrev cX15_isKnown : ByteArray := prog_15_method_59_code
def yX15_isKnown : MethodName := ⟨RX15, "isKnown", "(Z)Z"⟩
abbrev cX15_hushOf : ByteArray := prog_15_method_60_code
def yX15_hushOf : MethodName := ⟨RX15, "hushOf", "(I)I"⟩
abbrev cX15_heardBy : ByteArray := prog_15_method_61_code
def yX15_heardBy : MethodName := ⟨RX15, "heardBy", "(I)I"⟩
abbrev cX15_latestOf : ByteArray := prog_15_method_62_code
def yX15_latestOf : MethodName := ⟨RX15, "latestOf", "(I)I"⟩
abbrev cX15_listenersOf : ByteArray := prog_15_method_63_code
def yX15_listenersOf : MethodName := ⟨RX15, "listenersOf", "(I)I"⟩
abbrev cX15_hedgeInRow : ByteArray := prog_15_method_64_code
def yX15_hedgeInRow : MethodName := ⟨RX15, "hedgeInRow", "(II)I"⟩
abbrev cX15_roseInRow : ByteArray := prog_15_method_65_code
def yX15_roseInRow : MethodName := ⟨RX15, "roseInRow", "(II)I"⟩
abbrev cX15_patienceOf : ByteArray := prog_15_method_66_code
def yX15_patienceOf : MethodName := ⟨RX15, "patienceOf", "(I)I"⟩
abbrev cX15_petalsOf : ByteArray := prog_15_method_67_code
def yX15_petalsOf : MethodName := ⟨RX15, "petalsOf", "(I)I"⟩
abbrev cX15_countOf : ByteArray := prog_15_method_68_code
def yX15_countOf : MethodName := ⟨RX15, "countOf", "(I)I"⟩
abbrev cX15_hedgesOf : ByteArray := prog_15_method_69_code
def yX15_hedgesOf : MethodName := ⟨RX15, "hedgesOf", "(I)I"⟩
abbrev cX15_fullest : ByteArray := prog_15_method_70_code
def yX15_fullest : MethodName := ⟨RX15, "fullest", "()I"⟩
abbrev cX15_listens : ByteArray := prog_15_method_71_code
def yX15_listens : MethodName := ⟨RX15, "listens", "(II)I"⟩
abbrev cX15_leaves : ByteArray := prog_15_method_72_code
def yX15_leaves : MethodName := ⟨RX15, "leaves", "(II)I"⟩
abbrev cX15_hedgeListens : ByteArray := prog_15_method_73_code
def yX15_hedgeListens : MethodName := ⟨RX15, "hedgeListens", "(II)I"⟩
abbrev cX15_roseListens : ByteArray := prog_15_method_74_code
def yX15_roseListens : MethodName := ⟨RX15, "roseListens", "(II)I"⟩
abbrev cX15_hedgeLeaves : ByteArray := prog_15_method_75_code
def yX15_hedgeLeaves : MethodName := ⟨RX15, "hedgeLeaves", "(II)I"⟩
abbrev cX15_roseLeaves : ByteArray := prog_15_method_76_code
def yX15_roseLeaves : MethodName := ⟨RX15, "roseLeaves", "(II)I"⟩
abbrev cX15_isNews : ByteArray := prog_15_method_77_code
def yX15_isNews : MethodName := ⟨RX15, "isNews", "(II)Z"⟩
abbrev cX15_tell : ByteArray := prog_15_method_78_code
def yX15_tell : MethodName := ⟨RX15, "tell", "(II)I"⟩
abbrev cX15_passDays : ByteArray := prog_15_method_79_code
def yX15_passDays : MethodName := ⟨RX15, "passDays", "(I)I"⟩
abbrev cX15_reach : ByteArray := prog_15_method_80_code
def yX15_reach : MethodName := ⟨RX15, "reach", "(II)I"⟩
abbrev cX15_loudnessAt : ByteArray := prog_15_method_81_code
def yX15_loudnessAt : MethodName := ⟨RX15, "loudnessAt", "(II)I"⟩
abbrev cX15_comesBack : ByteArray := prog_15_method_82_code
def yX15_comesBack : MethodName := ⟨RX15, "comesBack", "(I)Z"⟩
abbrev cX15_petalsAfter : ByteArray := prog_15_method_83_code
def yX15_petalsAfter : MethodName := ⟨RX15, "petalsAfter", "(II)I"⟩
abbrev cX15_daysUntilLeft : ByteArray := prog_15_method_84_code
def yX15_daysUntilLeft : MethodName := ⟨RX15, "daysUntilLeft", "(I)I"⟩
abbrev cX15_best : ByteArray := prog_15_method_85_code
def yX15_best : MethodName := ⟨RX15, "best", "(I)I"⟩
abbrev cX15_bestToTell : ByteArray := prog_15_method_86_code
def yX15_bestToTell : MethodName := ⟨RX15, "bestToTell", "(I)I"⟩
abbrev cX15_meanPetals : ByteArray := prog_15_method_87_code
def yX15_meanPetals : MethodName := ⟨RX15, "meanPetals", "()D"⟩
abbrev cX15_digest : ByteArray := prog_15_method_88_code
def yX15_digest : MethodName := ⟨RX15, "digest", "()J"⟩
def RJ11 : String := "java/lang/Character"
def TJ11 : u_T := fun k => match k with
  | _ => ("", "", "", false)
def tyJ11 : Nat → FieldType := fun k => match k with
  | _ => .int
theorem tyJ11_ok : ∀ k, k < 0 → parseFieldDescriptor (TJ11 k).2.2.1 = some (tyJ11 k) := by decide +kernel
abbrev cJ11_isValidCodePoint_9a6ad : ByteArray := prog_18_method_11_code
def yJ11_isValidCodePoint_9a6ad : MethodName := ⟨RJ11, "isValidCodePoint", "(I)Z"⟩
abbrev cJ11_highSurrogate_5068e : ByteArray := prog_18_method_28_code
def yJ11_highSurrogate_5068e : MethodName := ⟨RJ11, "highSurrogate", "(I)C"⟩
abbrev cJ11_lowSurrogate_5068e : ByteArray := prog_18_method_29_code
def yJ11_lowSurrogate_5068e : MethodName := ⟨RJ11, "lowSurrogate", "(I)C"⟩
def RJx29ce0 : String := "java/lang/Enum"
def TJx29ce0 : u_T := fun k => match k with
  | _ => ("", "", "", false)
def tyJx29ce0 : Nat → FieldType := fun k => match k with
  | _ => .int
theorem tyJx29ce0_ok : ∀ k, k < 0 → parseFieldDescriptor (TJx29ce0 k).2.2.1 = some (tyJx29ce0 k) := by decide +kernel
abbrev cJx29ce0_ordinal_8abf5 : ByteArray := prog_19_method_2_code
def yJx29ce0_ordinal_8abf5 : MethodName := ⟨RJx29ce0, "ordinal", "()I"⟩
def RJ9 : String := "java/lang/Math"
def TJ9 : u_T := fun k => match k with
  | _ => ("", "", "", false)
def tyJ9 : Nat → FieldType := fun k => match k with
  | _ => .int
theorem tyJ9_ok : ∀ k, k < 0 → parseFieldDescriptor (TJ9 k).2.2.1 = some (tyJ9 k) := by decide +kernel
abbrev cJ9_max_7cf53 : ByteArray := prog_24_method_65_code
def yJ9_max_7cf53 : MethodName := ⟨RJ9, "max", "(II)I"⟩
abbrev cJ9_min_7cf53 : ByteArray := prog_24_method_69_code
def yJ9_min_7cf53 : MethodName := ⟨RJ9, "min", "(II)I"⟩
def RJ0 : String := "java/lang/String"
def TJ0 : u_T := fun k => match k with
  | _ => ("", "", "", false)
def tyJ0 : Nat → FieldType := fun k => match k with
  | _ => .int
theorem tyJ0_ok : ∀ k, k < 0 → parseFieldDescriptor (TJ0 k).2.2.1 = some (tyJ0 k) := by decide +kernel
abbrev cJ0_length_8abf5 : ByteArray := prog_26_method_54_code
def yJ0_length_8abf5 : MethodName := ⟨RJ0, "length", "()I"⟩
abbrev cJ0_charAt_5068e : ByteArray := prog_26_method_56_code
def yJ0_charAt_5068e : MethodName := ⟨RJ0, "charAt", "(I)C"⟩
abbrev cJ0_indexOf_0f7a4 : ByteArray := prog_26_method_79_code
def yJ0_indexOf_0f7a4 : MethodName := ⟨RJ0, "indexOf", "(I)I"⟩
abbrev cJ0_indexOf_7cf53 : ByteArray := prog_26_method_80_code
def yJ0_indexOf_7cf53 : MethodName := ⟨RJ0, "indexOf", "(II)I"⟩
abbrev cJ0_coder_7d493 : ByteArray := prog_26_method_152_code
def yJ0_coder_7d493 : MethodName := ⟨RJ0, "coder", "()B"⟩
abbrev cJ0_isLatin1_aae02 : ByteArray := prog_26_method_154_code
def yJ0_isLatin1_aae02 : MethodName := ⟨RJ0, "isLatin1", "()Z"⟩
abbrev cJ0_checkIndex_df160 : ByteArray := prog_26_method_155_code
def yJ0_checkIndex_df160 : MethodName := ⟨RJ0, "checkIndex", "(II)V"⟩
abbrev cJ0_checkBoundsBeginEnd_23922 : ByteArray := prog_26_method_158_code
def yJ0_checkBoundsBeginEnd_23922 : MethodName := ⟨RJ0, "checkBoundsBeginEnd", "(III)V"⟩
def RJ1 : String := "java/lang/StringLatin1"
def TJ1 : u_T := fun k => match k with
  | _ => ("", "", "", false)
def tyJ1 : Nat → FieldType := fun k => match k with
  | _ => .int
theorem tyJ1_ok : ∀ k, k < 0 → parseFieldDescriptor (TJ1 k).2.2.1 = some (tyJ1 k) := by decide +kernel
abbrev cJ1_charAt_3b067 : ByteArray := prog_27_method_2_code
def yJ1_charAt_3b067 : MethodName := ⟨RJ1, "charAt", "([BI)C"⟩
abbrev cJ1_canEncode_9a6ad : ByteArray := prog_27_method_4_code
def yJ1_canEncode_9a6ad : MethodName := ⟨RJ1, "canEncode", "(I)Z"⟩
abbrev cJ1_indexOf_4cfef : ByteArray := prog_27_method_22_code
def yJ1_indexOf_4cfef : MethodName := ⟨RJ1, "indexOf", "([BIII)I"⟩
abbrev cJ1_indexOfChar_4cfef : ByteArray := prog_27_method_23_code
def yJ1_indexOfChar_4cfef : MethodName := ⟨RJ1, "indexOfChar", "([BIII)I"⟩
def RJ2 : String := "java/lang/StringUTF16"
def TJ2 : u_T := fun k => match k with
  | _ => ("", "", "", false)
def tyJ2 : Nat → FieldType := fun k => match k with
  | _ => .int
theorem tyJ2_ok : ∀ k, k < 0 → parseFieldDescriptor (TJ2 k).2.2.1 = some (tyJ2 k) := by decide +kernel
abbrev cJ2_getChar_3b067 : ByteArray := prog_28_method_5_code
def yJ2_getChar_3b067 : MethodName := ⟨RJ2, "getChar", "([BI)C"⟩
abbrev cJ2_length_9d52b : ByteArray := prog_28_method_6_code
def yJ2_length_9d52b : MethodName := ⟨RJ2, "length", "([B)I"⟩
abbrev cJ2_indexOf_4cfef : ByteArray := prog_28_method_40_code
def yJ2_indexOf_4cfef : MethodName := ⟨RJ2, "indexOf", "([BIII)I"⟩
abbrev cJ2_indexOfChar_4cfef : ByteArray := prog_28_method_47_code
def yJ2_indexOfChar_4cfef : MethodName := ⟨RJ2, "indexOfChar", "([BIII)I"⟩
abbrev cJ2_indexOfCharUnsafe_4cfef : ByteArray := prog_28_method_48_code
def yJ2_indexOfCharUnsafe_4cfef : MethodName := ⟨RJ2, "indexOfCharUnsafe", "([BIII)I"⟩
abbrev cJ2_indexOfSupplementary_4cfef : ByteArray := prog_28_method_49_code
def yJ2_indexOfSupplementary_4cfef : MethodName := ⟨RJ2, "indexOfSupplementary", "([BIII)I"⟩
abbrev cJ2_charAt_3b067 : ByteArray := prog_28_method_83_code
def yJ2_charAt_3b067 : MethodName := ⟨RJ2, "charAt", "([BI)C"⟩
abbrev cJ2_checkIndex_2214a : ByteArray := prog_28_method_91_code
def yJ2_checkIndex_2214a : MethodName := ⟨RJ2, "checkIndex", "(I[B)V"⟩
abbrev cJ2_checkBoundsBeginEnd_d044e : ByteArray := prog_28_method_93_code
def yJ2_checkBoundsBeginEnd_d044e : MethodName := ⟨RJ2, "checkBoundsBeginEnd", "(II[B)V"⟩
def RJ10 : String := "java/lang/System"
def TJ10 : u_T := fun k => match k with
  | _ => ("", "", "", false)
def tyJ10 : Nat → FieldType := fun k => match k with
  | _ => .int
theorem tyJ10_ok : ∀ k, k < 0 → parseFieldDescriptor (TJ10 k).2.2.1 = some (tyJ10 k) := by decide +kernel
def RJ3 : String := "jdk/internal/util/Preconditions"
def TJ3 : u_T := fun k => match k with
  | _ => ("", "", "", false)
def tyJ3 : Nat → FieldType := fun k => match k with
  | _ => .int
theorem tyJ3_ok : ∀ k, k < 0 → parseFieldDescriptor (TJ3 k).2.2.1 = some (tyJ3 k) := by decide +kernel
abbrev cJ3_checkIndex_8e157 : ByteArray := prog_31_method_11_code
def yJ3_checkIndex_8e157 : MethodName := ⟨RJ3, "checkIndex", "(IILjava/util/function/BiFunction;)I"⟩
abbrev cJ3_checkFromToIndex_8c36e : ByteArray := prog_31_method_12_code
def yJ3_checkFromToIndex_8c36e : MethodName := ⟨RJ3, "checkFromToIndex", "(IIILjava/util/function/BiFunction;)I"⟩
def RL : String := "HedgeNewsLaw"
abbrev cL_feed : ByteArray := method_3_code
def yL_feed : MethodName := ⟨RL, "feed", "(LHedgeNews;IIIII[J)I"⟩
abbrev cL_trim : ByteArray := method_4_code
def yL_trim : MethodName := ⟨RL, "trim", "(LHedgeNews;I[J)I"⟩
abbrev cL_hushOf : ByteArray := method_5_code
def yL_hushOf : MethodName := ⟨RL, "hushOf", "(LHedgeNews;I[J)I"⟩
abbrev cL_heardBy : ByteArray := method_6_code
def yL_heardBy : MethodName := ⟨RL, "heardBy", "(LHedgeNews;I[J)I"⟩
abbrev cL_latestOf : ByteArray := method_7_code
def yL_latestOf : MethodName := ⟨RL, "latestOf", "(LHedgeNews;I[J)I"⟩
abbrev cL_listenersOf : ByteArray := method_8_code
def yL_listenersOf : MethodName := ⟨RL, "listenersOf", "(LHedgeNews;I[J)I"⟩
abbrev cL_hedgeInRow : ByteArray := method_9_code
def yL_hedgeInRow : MethodName := ⟨RL, "hedgeInRow", "(LHedgeNews;II[J)I"⟩
abbrev cL_roseInRow : ByteArray := method_10_code
def yL_roseInRow : MethodName := ⟨RL, "roseInRow", "(LHedgeNews;II[J)I"⟩
abbrev cL_patienceOf : ByteArray := method_11_code
def yL_patienceOf : MethodName := ⟨RL, "patienceOf", "(LHedgeNews;I[J)I"⟩
abbrev cL_petalsOf : ByteArray := method_12_code
def yL_petalsOf : MethodName := ⟨RL, "petalsOf", "(LHedgeNews;I[J)I"⟩
abbrev cL_countOf : ByteArray := method_13_code
def yL_countOf : MethodName := ⟨RL, "countOf", "(LHedgeNews;I[J)I"⟩
abbrev cL_hedgesOf : ByteArray := method_14_code
def yL_hedgesOf : MethodName := ⟨RL, "hedgesOf", "(LHedgeNews;I[J)I"⟩
abbrev cL_hedgeListens : ByteArray := method_15_code
def yL_hedgeListens : MethodName := ⟨RL, "hedgeListens", "(LHedgeNews;II[J)I"⟩
abbrev cL_roseListens : ByteArray := method_16_code
def yL_roseListens : MethodName := ⟨RL, "roseListens", "(LHedgeNews;II[J)I"⟩
abbrev cL_hedgeLeaves : ByteArray := method_17_code
def yL_hedgeLeaves : MethodName := ⟨RL, "hedgeLeaves", "(LHedgeNews;II[J)I"⟩
abbrev cL_roseLeaves : ByteArray := method_18_code
def yL_roseLeaves : MethodName := ⟨RL, "roseLeaves", "(LHedgeNews;II[J)I"⟩
abbrev cL_tell : ByteArray := method_19_code
def yL_tell : MethodName := ⟨RL, "tell", "(LHedgeNews;II[J)I"⟩
abbrev cL_passDays : ByteArray := method_20_code
def yL_passDays : MethodName := ⟨RL, "passDays", "(LHedgeNews;I[J)I"⟩
abbrev cL_reach : ByteArray := method_21_code
def yL_reach : MethodName := ⟨RL, "reach", "(LHedgeNews;II[J)I"⟩
abbrev cL_loudnessAt : ByteArray := method_22_code
def yL_loudnessAt : MethodName := ⟨RL, "loudnessAt", "(LHedgeNews;II[J)I"⟩
abbrev cL_comesBack : ByteArray := method_23_code
def yL_comesBack : MethodName := ⟨RL, "comesBack", "(LHedgeNews;I[J)I"⟩
abbrev cL_petalsAfter : ByteArray := method_24_code
def yL_petalsAfter : MethodName := ⟨RL, "petalsAfter", "(LHedgeNews;II[J)I"⟩
abbrev cL_daysUntilLeft : ByteArray := method_25_code
def yL_daysUntilLeft : MethodName := ⟨RL, "daysUntilLeft", "(LHedgeNews;I[J)I"⟩
abbrev cL_bestToTell : ByteArray := method_26_code
def yL_bestToTell : MethodName := ⟨RL, "bestToTell", "(LHedgeNews;I[J)I"⟩
abbrev cL_law : ByteArray := code
def yL_law : MethodName := ⟨RL, "law", "([I)Z"⟩
abbrev vwCl : List vw_C := [(RX1, TX1, 9), (RX2, TX2, 3), (RX3, TX3, 5), (RX5, TX5, 3), (RX6, TX6, 6), (RX7, TX7, 4), (RX8, TX8, 8), (RX9, TX9, 4), (RX10, TX10, 2), (RX11, TX11, 8), (RX12, TX12, 11), (RX13, TX13, 16), (RX14, TX14, 12), (RX15, TX15, 23)]
def TB : List Cond := lw_tbl.filter goodWord
theorem tb_in {w : Cond} (h : w ∈ lw_tbl) (g : goodWord w = true) : w ∈ TB := List.mem_filter.mpr ⟨h, g⟩
theorem tb_t {w : Cond} (h : w ∈ tables_1) (g : goodWord w = true) : w ∈ TB := tb_in (List.mem_append_right _ h) g
theorem tb_good {w : Cond} (h : w ∈ TB) : goodWord w = true := (List.mem_filter.mp h).2
theorem tb_of {w : Cond} (h : w ∈ TB) : w ∈ lw_tbl := (List.mem_filter.mp h).1
theorem tb_1 {w : Cond} (i : Nat) (h0 : tables_1_1[i]? = some w) (g : goodWord w = true) : w ∈ TB := tb_t (have h := List.mem_of_getElem? h0; List.mem_append_left _ h) g
theorem tb_2 {w : Cond} (i : Nat) (h0 : tables_1_2[i]? = some w) (g : goodWord w = true) : w ∈ TB := tb_t (have h := List.mem_of_getElem? h0; List.mem_append_right _ (List.mem_append_left _ h)) g
theorem tb_3 {w : Cond} (i : Nat) (h0 : tables_1_3[i]? = some w) (g : goodWord w = true) : w ∈ TB := tb_t (have h := List.mem_of_getElem? h0; List.mem_append_right _ (List.mem_append_right _ (List.mem_append_left _ h))) g
theorem tb_4 {w : Cond} (i : Nat) (h0 : tables_1_4[i]? = some w) (g : goodWord w = true) : w ∈ TB := tb_t (have h := List.mem_of_getElem? h0; List.mem_append_right _ (List.mem_append_right _ (List.mem_append_right _ (List.mem_append_left _ h)))) g
theorem tb_5 {w : Cond} (i : Nat) (h0 : tables_1_5[i]? = some w) (g : goodWord w = true) : w ∈ TB := tb_t (have h := List.mem_of_getElem? h0; List.mem_append_right _ (List.mem_append_right _ (List.mem_append_right _ (List.mem_append_right _ (List.mem_append_left _ h))))) g
theorem tb_6 {w : Cond} (i : Nat) (h0 : tables_1_6[i]? = some w) (g : goodWord w = true) : w ∈ TB := tb_t (have h := List.mem_of_getElem? h0; List.mem_append_right _ (List.mem_append_right _ (List.mem_append_right _ (List.mem_append_right _ (List.mem_append_right _ (List.mem_append_left _ h)))))) g
theorem tb_7 {w : Cond} (i : Nat) (h0 : tables_1_7[i]? = some w) (g : goodWord w = true) : w ∈ TB := tb_t (have h := List.mem_of_getElem? h0; List.mem_append_right _ (List.mem_append_right _ (List.mem_append_right _ (List.mem_append_right _ (List.mem_append_right _ (List.mem_append_right _ (List.mem_append_left _ h))))))) g
theorem tb_8 {w : Cond} (i : Nat) (h0 : tables_1_8[i]? = some w) (g : goodWord w = true) : w ∈ TB := tb_t (have h := List.mem_of_getElem? h0; List.mem_append_right _ (List.mem_append_right _ (List.mem_append_right _ (List.mem_append_right _ (List.mem_append_right _ (List.mem_append_right _ (List.mem_append_right _ (List.mem_append_left _ h)))))))) g
theorem tb_9 {w : Cond} (i : Nat) (h0 : tables_1_9[i]? = some w) (g : goodWord w = true) : w ∈ TB := tb_t (have h := List.mem_of_getElem? h0; List.mem_append_right _ (List.mem_append_right _ (List.mem_append_right _ (List.mem_append_right _ (List.mem_append_right _ (List.mem_append_right _ (List.mem_append_right _ (List.mem_append_right _ (h))))))))) g
theorem tz_1 {w : Cond} (i : Nat) (h0 : tables_1_1[i]? = some w) : w ∈ lw_tbl := List.mem_append_right _ (have h := List.mem_of_getElem? h0; List.mem_append_left _ h)
theorem tz_2 {w : Cond} (i : Nat) (h0 : tables_1_2[i]? = some w) : w ∈ lw_tbl := List.mem_append_right _ (have h := List.mem_of_getElem? h0; List.mem_append_right _ (List.mem_append_left _ h))
theorem tz_3 {w : Cond} (i : Nat) (h0 : tables_1_3[i]? = some w) : w ∈ lw_tbl := List.mem_append_right _ (have h := List.mem_of_getElem? h0; List.mem_append_right _ (List.mem_append_right _ (List.mem_append_left _ h)))
theorem tz_4 {w : Cond} (i : Nat) (h0 : tables_1_4[i]? = some w) : w ∈ lw_tbl := List.mem_append_right _ (have h := List.mem_of_getElem? h0; List.mem_append_right _ (List.mem_append_right _ (List.mem_append_right _ (List.mem_append_left _ h))))
theorem tz_5 {w : Cond} (i : Nat) (h0 : tables_1_5[i]? = some w) : w ∈ lw_tbl := List.mem_append_right _ (have h := List.mem_of_getElem? h0; List.mem_append_right _ (List.mem_append_right _ (List.mem_append_right _ (List.mem_append_right _ (List.mem_append_left _ h)))))
theorem tz_6 {w : Cond} (i : Nat) (h0 : tables_1_6[i]? = some w) : w ∈ lw_tbl := List.mem_append_right _ (have h := List.mem_of_getElem? h0; List.mem_append_right _ (List.mem_append_right _ (List.mem_append_right _ (List.mem_append_right _ (List.mem_append_right _ (List.mem_append_left _ h))))))
theorem tz_7 {w : Cond} (i : Nat) (h0 : tables_1_7[i]? = some w) : w ∈ lw_tbl := List.mem_append_right _ (have h := List.mem_of_getElem? h0; List.mem_append_right _ (List.mem_append_right _ (List.mem_append_right _ (List.mem_append_right _ (List.mem_append_right _ (List.mem_append_right _ (List.mem_append_left _ h)))))))
theorem tz_8 {w : Cond} (i : Nat) (h0 : tables_1_8[i]? = some w) : w ∈ lw_tbl := List.mem_append_right _ (have h := List.mem_of_getElem? h0; List.mem_append_right _ (List.mem_append_right _ (List.mem_append_right _ (List.mem_append_right _ (List.mem_append_right _ (List.mem_append_right _ (List.mem_append_right _ (List.mem_append_left _ h))))))))
theorem tz_9 {w : Cond} (i : Nat) (h0 : tables_1_9[i]? = some w) : w ∈ lw_tbl := List.mem_append_right _ (have h := List.mem_of_getElem? h0; List.mem_append_right _ (List.mem_append_right _ (List.mem_append_right _ (List.mem_append_right _ (List.mem_append_right _ (List.mem_append_right _ (List.mem_append_right _ (List.mem_append_right _ (h)))))))))
theorem w1_0 : (Jvm.Cond.initialized "HedgeNewsLaw") ∈ TB := tb_1 0 rfl rfl
theorem w1_1 : (Jvm.Cond.initialized "HedgeNews") ∈ TB := tb_1 1 rfl rfl
theorem w1_2 : (Jvm.Cond.initialized "HedgeNews$Tape") ∈ TB := tb_1 2 rfl rfl
theorem w1_3 : (Jvm.Cond.initialized "HedgeNews$Tokens") ∈ TB := tb_1 3 rfl rfl
theorem w1_4 : (Jvm.Cond.initialized "java/lang/Enum") ∈ TB := tb_1 4 rfl rfl
theorem w1_5 : (Jvm.Cond.initialized "HedgeNews$Kind") ∈ TB := tb_1 5 rfl rfl
theorem w1_6 : (Jvm.Cond.initialized "HedgeNews$NameCheck") ∈ TB := tb_1 6 rfl rfl
theorem w1_7 : (Jvm.Cond.initialized "HedgeNews$News") ∈ TB := tb_1 7 rfl rfl
theorem w1_8 : (Jvm.Cond.initialized "HedgeNews$Gardener") ∈ TB := tb_1 8 rfl rfl
theorem w1_9 : (Jvm.Cond.initialized "HedgeNews$Garden") ∈ TB := tb_1 9 rfl rfl
theorem w1_10 : (Jvm.Cond.initialized "HedgeNews$Hedge") ∈ TB := tb_1 10 rfl rfl
theorem w1_11 : (Jvm.Cond.initialized "HedgeNews$Rose") ∈ TB := tb_1 11 rfl rfl
theorem w1_12 : (Jvm.Cond.initialized "HedgeNews$Plan") ∈ TB := tb_1 12 rfl rfl
theorem w1_13 : (Jvm.Cond.initialized "HedgeNews$Parser") ∈ TB := tb_1 13 rfl rfl
theorem w1_14 : (Jvm.Cond.initialized "HedgeNewsModel") ∈ TB := tb_1 14 rfl rfl
theorem w1_15 : (Jvm.Cond.initialized "HedgeNewsModel$Plan") ∈ TB := tb_1 15 rfl rfl
theorem w1_16 : (Jvm.Cond.initialized "HedgeNewsModel$State") ∈ TB := tb_1 16 rfl rfl
theorem w1_17 : (Jvm.Cond.initialized "java/lang/Throwable") ∈ TB := tb_1 17 rfl rfl
theorem w1_18 : (Jvm.Cond.initialized "java/lang/Exception") ∈ TB := tb_1 18 rfl rfl
theorem w1_19 : (Jvm.Cond.initialized "java/lang/RuntimeException") ∈ TB := tb_1 19 rfl rfl
theorem w1_20 : (Jvm.Cond.initialized "java/lang/IllegalStateException") ∈ TB := tb_1 20 rfl rfl
theorem w1_21 : (Jvm.Cond.initialized "java/lang/IllegalArgumentException") ∈ TB := tb_1 21 rfl rfl
theorem w1_22 : (Jvm.Cond.initialized "HedgeNews$1") ∈ TB := tb_1 22 rfl rfl
theorem w1_23 : (Jvm.Cond.initialized "java/lang/String") ∈ TB := tb_1 23 rfl rfl
theorem w1_24 : (Jvm.Cond.initialized "java/lang/StringLatin1") ∈ TB := tb_1 24 rfl rfl
theorem w1_25 : (Jvm.Cond.initialized "jdk/internal/util/Preconditions") ∈ TB := tb_1 25 rfl rfl
theorem w1_26 : (Jvm.Cond.initialized "java/lang/StringUTF16") ∈ TB := tb_1 26 rfl rfl
theorem w1_27 : (Jvm.Cond.initialized "java/lang/Math") ∈ TB := tb_1 27 rfl rfl
theorem w1_28 : (Jvm.Cond.initialized "java/lang/Character") ∈ TB := tb_1 28 rfl rfl
theorem w1_29 : (Jvm.Cond.initialized "java/lang/System") ∈ TB := tb_1 29 rfl rfl
theorem w1_30 : (Jvm.Cond.initialized "java/lang/IndexOutOfBoundsException") ∈ TB := tb_1 30 rfl rfl
theorem w1_31 : (Jvm.Cond.classLink "HedgeNewsLaw" (8 : Nat) "HedgeNews") ∈ TB := tb_1 31 rfl rfl
theorem w1_32 : (Jvm.Cond.instantiable "HedgeNews" (11 : Nat)) ∈ TB := tb_1 32 rfl rfl
theorem w1_33 : (Jvm.Cond.methodLink "HedgeNewsLaw" (91 : Nat) ({ cls := "HedgeNews", name := "<init>", desc := "()V" } : Jvm.MethodName)) ∈ TB := tb_1 33 rfl rfl
theorem w1_34 : (Jvm.Cond.instanceMethod ({ cls := "HedgeNews", name := "<init>", desc := "()V" } : Jvm.MethodName)) ∈ TB := tb_1 34 rfl rfl
theorem w1_35 : (Jvm.Cond.code ({ cls := "HedgeNews", name := "<init>", desc := "()V" } : Jvm.MethodName) prog_1_method_1_code (1 : Nat) (Option.none : Option Jvm.ClassFile.FieldType)) ∈ TB := tb_1 35 rfl rfl
theorem w1_36 : (Jvm.Cond.methodLink "HedgeNews" (3 : Nat) ({ cls := "java/lang/Object", name := "<init>", desc := "()V" } : Jvm.MethodName)) ∈ TB := tb_1 36 rfl rfl
theorem w1_37 : (Jvm.Cond.instanceMethod ({ cls := "java/lang/Object", name := "<init>", desc := "()V" } : Jvm.MethodName)) ∈ TB := tb_1 37 rfl rfl
theorem w1_38 : (Jvm.Cond.code ({ cls := "java/lang/Object", name := "<init>", desc := "()V" } : Jvm.MethodName) object_method_1_code (1 : Nat) (Option.none : Option Jvm.ClassFile.FieldType)) ∈ TB := tb_1 38 rfl rfl
theorem w1_39 : (Jvm.Cond.classLink "HedgeNews" (9 : Nat) "HedgeNews$Tape") ∈ TB := tb_1 39 rfl rfl
theorem w1_40 : (Jvm.Cond.instantiable "HedgeNews$Tape" (2 : Nat)) ∈ TB := tb_1 40 rfl rfl
theorem w1_41 : (Jvm.Cond.methodLinkNest "HedgeNews" (11 : Nat) ({ cls := "HedgeNews$Tape", name := "<init>", desc := "()V" } : Jvm.MethodName) "HedgeNews") ∈ lw_tbl := tz_1 41 rfl
theorem w1_42 : (Jvm.Cond.instanceMethod ({ cls := "HedgeNews$Tape", name := "<init>", desc := "()V" } : Jvm.MethodName)) ∈ TB := tb_1 42 rfl rfl
theorem w1_43 : (Jvm.Cond.code ({ cls := "HedgeNews$Tape", name := "<init>", desc := "()V" } : Jvm.MethodName) prog_12_method_1_code (1 : Nat) (Option.none : Option Jvm.ClassFile.FieldType)) ∈ TB := tb_1 43 rfl rfl
theorem w1_44 : (Jvm.Cond.methodLink "HedgeNews$Tape" (3 : Nat) ({ cls := "java/lang/Object", name := "<init>", desc := "()V" } : Jvm.MethodName)) ∈ TB := tb_1 44 rfl rfl
theorem w1_45 : (Jvm.Cond.fieldLink "HedgeNews$Tape" (9 : Nat) "HedgeNews$Tape" "bytes" "[B") ∈ TB := tb_1 45 rfl rfl
theorem w1_46 : (Jvm.Cond.fieldLink "HedgeNews" (79 : Nat) "HedgeNews$Tape" "size" "I") ∈ TB := tb_1 46 rfl rfl
theorem w1_47 : (Jvm.Cond.fieldLink "HedgeNews$Tape" (15 : Nat) "HedgeNews$Tape" "size" "I") ∈ TB := tb_1 47 rfl rfl
theorem w1_48 : (Jvm.Cond.fieldLink "HedgeNews$Tokens" (57 : Nat) "HedgeNews$Tape" "size" "I") ∈ TB := tb_1 48 rfl rfl
theorem w1_49 : (Jvm.Cond.laysFinal "HedgeNews$Tape" "HedgeNews$Tape" "bytes" "[B") ∈ TB := tb_1 49 rfl rfl
theorem w1_50 : (Jvm.Cond.soleField "HedgeNews$Tape" "bytes") ∈ TB := tb_1 50 rfl rfl
theorem w1_51 : (Jvm.Cond.lays "HedgeNews$Tape" "HedgeNews$Tape" "size" "I") ∈ TB := tb_1 51 rfl rfl
theorem w1_52 : (Jvm.Cond.soleField "HedgeNews$Tape" "size") ∈ TB := tb_1 52 rfl rfl
theorem w1_53 : (Jvm.Cond.superclass "HedgeNews$Tape" "java/lang/Object") ∈ TB := tb_1 53 rfl rfl
theorem w1_54 : (Jvm.Cond.arrayClass Jvm.ClassFile.FieldType.byte) ∈ TB := tb_1 54 rfl rfl
theorem w1_55 : (Jvm.Cond.classLink "HedgeNews" (16 : Nat) "HedgeNews$Tokens") ∈ TB := tb_1 55 rfl rfl
theorem w1_56 : (Jvm.Cond.instantiable "HedgeNews$Tokens" (8 : Nat)) ∈ TB := tb_1 56 rfl rfl
theorem w1_57 : (Jvm.Cond.methodLink "HedgeNews" (18 : Nat) ({ cls := "HedgeNews$Tokens", name := "<init>", desc := "()V" } : Jvm.MethodName)) ∈ TB := tb_1 57 rfl rfl
theorem w1_58 : (Jvm.Cond.instanceMethod ({ cls := "HedgeNews$Tokens", name := "<init>", desc := "()V" } : Jvm.MethodName)) ∈ TB := tb_1 58 rfl rfl
theorem w1_59 : (Jvm.Cond.code ({ cls := "HedgeNews$Tokens", name := "<init>", desc := "()V" } : Jvm.MethodName) prog_13_method_1_code (2 : Nat) (Option.none : Option Jvm.ClassFile.FieldType)) ∈ TB := tb_1 59 rfl rfl
theorem w1_60 : (Jvm.Cond.methodLink "HedgeNews$Tokens" (3 : Nat) ({ cls := "java/lang/Object", name := "<init>", desc := "()V" } : Jvm.MethodName)) ∈ TB := tb_1 60 rfl rfl
theorem w1_61 : (Jvm.Cond.classLink "HedgeNews$Tokens" (9 : Nat) "HedgeNews$Kind") ∈ TB := tb_1 61 rfl rfl
theorem w1_62 : (Jvm.Cond.arrayOver (Jvm.ClassFile.FieldType.object "HedgeNews$Kind")) ∈ lw_tbl := tz_1 62 rfl
theorem w1_63 : (Jvm.Cond.fieldLink "HedgeNews$Tokens" (28 : Nat) "HedgeNews$Kind" "END" "LHedgeNews$Kind;") ∈ TB := tb_1 63 rfl rfl
theorem w1_64 : (Jvm.Cond.laysStatic "HedgeNews$Kind" "END" "LHedgeNews$Kind;") ∈ lw_tbl := tz_1 64 rfl
theorem w1_65 : (Jvm.Cond.fieldLink "HedgeNews$Tokens" (11 : Nat) "HedgeNews$Tokens" "kinds" "[LHedgeNews$Kind;") ∈ TB := tb_1 65 rfl rfl
theorem w1_66 : (Jvm.Cond.fieldLinkNest "HedgeNews$Parser" (32 : Nat) "HedgeNews$Tokens" "kinds" "[LHedgeNews$Kind;" "HedgeNews") ∈ lw_tbl := tz_1 66 rfl
theorem w1_67 : (Jvm.Cond.fieldLink "HedgeNews$Tokens" (17 : Nat) "HedgeNews$Tokens" "starts" "[I") ∈ TB := tb_1 67 rfl rfl
theorem w1_68 : (Jvm.Cond.fieldLink "HedgeNews$Tokens" (21 : Nat) "HedgeNews$Tokens" "keys" "[J") ∈ TB := tb_1 68 rfl rfl
theorem w1_69 : (Jvm.Cond.fieldLink "HedgeNews$Tokens" (25 : Nat) "HedgeNews$Tokens" "meanings" "[I") ∈ TB := tb_1 69 rfl rfl
theorem w1_70 : (Jvm.Cond.fieldLink "HedgeNews$Tokens" (54 : Nat) "HedgeNews$Tokens" "last" "I") ∈ TB := tb_1 70 rfl rfl
theorem w1_71 : (Jvm.Cond.fieldLink "HedgeNews$Tokens" (32 : Nat) "HedgeNews$Tokens" "cursor" "I") ∈ TB := tb_1 71 rfl rfl
theorem w1_72 : (Jvm.Cond.fieldLink "HedgeNews$Tokens" (47 : Nat) "HedgeNews$Tokens" "readKey" "J") ∈ TB := tb_1 72 rfl rfl
theorem w1_73 : (Jvm.Cond.fieldLink "HedgeNews$Tokens" (51 : Nat) "HedgeNews$Tokens" "readNumber" "I") ∈ TB := tb_1 73 rfl rfl
theorem w1_74 : (Jvm.Cond.laysFinal "HedgeNews$Tokens" "HedgeNews$Tokens" "kinds" "[LHedgeNews$Kind;") ∈ TB := tb_1 74 rfl rfl
theorem w1_75 : (Jvm.Cond.soleField "HedgeNews$Tokens" "kinds") ∈ TB := tb_1 75 rfl rfl
theorem w1_76 : (Jvm.Cond.laysFinal "HedgeNews$Tokens" "HedgeNews$Tokens" "starts" "[I") ∈ TB := tb_1 76 rfl rfl
theorem w1_77 : (Jvm.Cond.soleField "HedgeNews$Tokens" "starts") ∈ TB := tb_1 77 rfl rfl
theorem w1_78 : (Jvm.Cond.laysFinal "HedgeNews$Tokens" "HedgeNews$Tokens" "keys" "[J") ∈ TB := tb_1 78 rfl rfl
theorem w1_79 : (Jvm.Cond.soleField "HedgeNews$Tokens" "keys") ∈ TB := tb_1 79 rfl rfl
theorem w1_80 : (Jvm.Cond.laysFinal "HedgeNews$Tokens" "HedgeNews$Tokens" "meanings" "[I") ∈ TB := tb_1 80 rfl rfl
theorem w1_81 : (Jvm.Cond.soleField "HedgeNews$Tokens" "meanings") ∈ TB := tb_1 81 rfl rfl
theorem w1_82 : (Jvm.Cond.lays "HedgeNews$Tokens" "HedgeNews$Tokens" "last" "I") ∈ TB := tb_1 82 rfl rfl
theorem w1_83 : (Jvm.Cond.soleField "HedgeNews$Tokens" "last") ∈ TB := tb_1 83 rfl rfl
theorem w1_84 : (Jvm.Cond.lays "HedgeNews$Tokens" "HedgeNews$Tokens" "cursor" "I") ∈ TB := tb_1 84 rfl rfl
theorem w1_85 : (Jvm.Cond.soleField "HedgeNews$Tokens" "cursor") ∈ TB := tb_1 85 rfl rfl
theorem w1_86 : (Jvm.Cond.lays "HedgeNews$Tokens" "HedgeNews$Tokens" "readKey" "J") ∈ TB := tb_1 86 rfl rfl
theorem w1_87 : (Jvm.Cond.soleField "HedgeNews$Tokens" "readKey") ∈ TB := tb_1 87 rfl rfl
theorem w1_88 : (Jvm.Cond.lays "HedgeNews$Tokens" "HedgeNews$Tokens" "readNumber" "I") ∈ TB := tb_1 88 rfl rfl
theorem w1_89 : (Jvm.Cond.soleField "HedgeNews$Tokens" "readNumber") ∈ TB := tb_1 89 rfl rfl
theorem w1_90 : (Jvm.Cond.superclass "HedgeNews$Tokens" "java/lang/Object") ∈ TB := tb_1 90 rfl rfl
theorem w1_91 : (Jvm.Cond.arrayClass Jvm.ClassFile.FieldType.int) ∈ TB := tb_1 91 rfl rfl
theorem w1_92 : (Jvm.Cond.arrayClass Jvm.ClassFile.FieldType.long) ∈ TB := tb_1 92 rfl rfl
theorem w1_93 : (Jvm.Cond.classLink "HedgeNews" (23 : Nat) "HedgeNews$NameCheck") ∈ TB := tb_1 93 rfl rfl
theorem w1_94 : (Jvm.Cond.instantiable "HedgeNews$NameCheck" (3 : Nat)) ∈ TB := tb_1 94 rfl rfl
theorem w1_95 : (Jvm.Cond.methodLinkNest "HedgeNews" (25 : Nat) ({ cls := "HedgeNews$NameCheck", name := "<init>", desc := "()V" } : Jvm.MethodName) "HedgeNews") ∈ lw_tbl := tz_1 95 rfl
theorem w1_96 : (Jvm.Cond.instanceMethod ({ cls := "HedgeNews$NameCheck", name := "<init>", desc := "()V" } : Jvm.MethodName)) ∈ TB := tb_1 96 rfl rfl
theorem w1_97 : (Jvm.Cond.code ({ cls := "HedgeNews$NameCheck", name := "<init>", desc := "()V" } : Jvm.MethodName) prog_7_method_1_code (1 : Nat) (Option.none : Option Jvm.ClassFile.FieldType)) ∈ TB := tb_1 97 rfl rfl
theorem w1_98 : (Jvm.Cond.methodLink "HedgeNews$NameCheck" (3 : Nat) ({ cls := "java/lang/Object", name := "<init>", desc := "()V" } : Jvm.MethodName)) ∈ TB := tb_1 98 rfl rfl
theorem w1_99 : (Jvm.Cond.fieldLink "HedgeNews$NameCheck" (9 : Nat) "HedgeNews$NameCheck" "keys" "[J") ∈ TB := tb_1 99 rfl rfl
theorem w1_100 : (Jvm.Cond.fieldLink "HedgeNews$NameCheck" (15 : Nat) "HedgeNews$NameCheck" "orders" "I") ∈ TB := tb_1 100 rfl rfl
theorem w1_101 : (Jvm.Cond.fieldLink "HedgeNews$NameCheck" (35 : Nat) "HedgeNews$NameCheck" "wrongToken" "I") ∈ TB := tb_1 101 rfl rfl
theorem w1_102 : (Jvm.Cond.fieldLink "HedgeNews" (120 : Nat) "HedgeNews$NameCheck" "wrongToken" "I") ∈ TB := tb_1 102 rfl rfl
theorem w1_103 : (Jvm.Cond.laysFinal "HedgeNews$NameCheck" "HedgeNews$NameCheck" "keys" "[J") ∈ TB := tb_1 103 rfl rfl
theorem w1_104 : (Jvm.Cond.soleField "HedgeNews$NameCheck" "keys") ∈ TB := tb_1 104 rfl rfl
theorem w1_105 : (Jvm.Cond.lays "HedgeNews$NameCheck" "HedgeNews$NameCheck" "orders" "I") ∈ TB := tb_1 105 rfl rfl
theorem w1_106 : (Jvm.Cond.soleField "HedgeNews$NameCheck" "orders") ∈ TB := tb_1 106 rfl rfl
theorem w1_107 : (Jvm.Cond.lays "HedgeNews$NameCheck" "HedgeNews$NameCheck" "wrongToken" "I") ∈ TB := tb_1 107 rfl rfl
theorem w1_108 : (Jvm.Cond.soleField "HedgeNews$NameCheck" "wrongToken") ∈ TB := tb_1 108 rfl rfl
theorem w1_109 : (Jvm.Cond.superclass "HedgeNews$NameCheck" "java/lang/Object") ∈ TB := tb_1 109 rfl rfl
theorem w1_110 : (Jvm.Cond.classLink "HedgeNews" (30 : Nat) "HedgeNews$News") ∈ TB := tb_1 110 rfl rfl
theorem w1_111 : (Jvm.Cond.instantiable "HedgeNews$News" (6 : Nat)) ∈ TB := tb_1 111 rfl rfl
theorem w1_112 : (Jvm.Cond.methodLinkNest "HedgeNews" (32 : Nat) ({ cls := "HedgeNews$News", name := "<init>", desc := "()V" } : Jvm.MethodName) "HedgeNews") ∈ lw_tbl := tz_1 112 rfl
theorem w1_113 : (Jvm.Cond.instanceMethod ({ cls := "HedgeNews$News", name := "<init>", desc := "()V" } : Jvm.MethodName)) ∈ TB := tb_1 113 rfl rfl
theorem w1_114 : (Jvm.Cond.code ({ cls := "HedgeNews$News", name := "<init>", desc := "()V" } : Jvm.MethodName) prog_8_method_1_code (1 : Nat) (Option.none : Option Jvm.ClassFile.FieldType)) ∈ TB := tb_1 114 rfl rfl
theorem w1_115 : (Jvm.Cond.methodLink "HedgeNews$News" (3 : Nat) ({ cls := "java/lang/Object", name := "<init>", desc := "()V" } : Jvm.MethodName)) ∈ TB := tb_1 115 rfl rfl
theorem w1_116 : (Jvm.Cond.fieldLink "HedgeNews$News" (9 : Nat) "HedgeNews$News" "whisperers" "[I") ∈ TB := tb_1 116 rfl rfl
theorem w1_117 : (Jvm.Cond.fieldLink "HedgeNews$News" (15 : Nat) "HedgeNews$News" "hearers" "[I") ∈ TB := tb_1 117 rfl rfl
theorem w1_118 : (Jvm.Cond.fieldLink "HedgeNews$News" (18 : Nat) "HedgeNews$News" "loudnesses" "[I") ∈ TB := tb_1 118 rfl rfl
theorem w1_119 : (Jvm.Cond.fieldLink "HedgeNews$News" (28 : Nat) "HedgeNews$News" "size" "I") ∈ TB := tb_1 119 rfl rfl
theorem w1_120 : (Jvm.Cond.fieldLink "HedgeNews$News" (21 : Nat) "HedgeNews$News" "firstLoudnesses" "[I") ∈ TB := tb_1 120 rfl rfl
theorem w1_121 : (Jvm.Cond.fieldLink "HedgeNews$News" (24 : Nat) "HedgeNews$News" "cameAgain" "[Z") ∈ TB := tb_1 121 rfl rfl
theorem w1_122 : (Jvm.Cond.laysFinal "HedgeNews$News" "HedgeNews$News" "whisperers" "[I") ∈ TB := tb_1 122 rfl rfl
theorem w1_123 : (Jvm.Cond.soleField "HedgeNews$News" "whisperers") ∈ TB := tb_1 123 rfl rfl
theorem w1_124 : (Jvm.Cond.laysFinal "HedgeNews$News" "HedgeNews$News" "hearers" "[I") ∈ TB := tb_1 124 rfl rfl
theorem w1_125 : (Jvm.Cond.soleField "HedgeNews$News" "hearers") ∈ TB := tb_1 125 rfl rfl
theorem w1_126 : (Jvm.Cond.laysFinal "HedgeNews$News" "HedgeNews$News" "loudnesses" "[I") ∈ TB := tb_1 126 rfl rfl
theorem w1_127 : (Jvm.Cond.soleField "HedgeNews$News" "loudnesses") ∈ TB := tb_1 127 rfl rfl
theorem w1_128 : (Jvm.Cond.lays "HedgeNews$News" "HedgeNews$News" "size" "I") ∈ TB := tb_1 128 rfl rfl
theorem w1_129 : (Jvm.Cond.soleField "HedgeNews$News" "size") ∈ TB := tb_1 129 rfl rfl
theorem w1_130 : (Jvm.Cond.laysFinal "HedgeNews$News" "HedgeNews$News" "firstLoudnesses" "[I") ∈ TB := tb_1 130 rfl rfl
theorem w1_131 : (Jvm.Cond.soleField "HedgeNews$News" "firstLoudnesses") ∈ TB := tb_1 131 rfl rfl
theorem w1_132 : (Jvm.Cond.laysFinal "HedgeNews$News" "HedgeNews$News" "cameAgain" "[Z") ∈ TB := tb_1 132 rfl rfl
theorem w1_133 : (Jvm.Cond.soleField "HedgeNews$News" "cameAgain") ∈ TB := tb_1 133 rfl rfl
theorem w1_134 : (Jvm.Cond.superclass "HedgeNews$News" "java/lang/Object") ∈ TB := tb_1 134 rfl rfl
theorem w1_135 : (Jvm.Cond.arrayClass Jvm.ClassFile.FieldType.boolean) ∈ TB := tb_1 135 rfl rfl
theorem w1_136 : (Jvm.Cond.classLink "HedgeNews" (37 : Nat) "HedgeNews$Gardener") ∈ TB := tb_1 136 rfl rfl
theorem w1_137 : (Jvm.Cond.instantiable "HedgeNews$Gardener" (3 : Nat)) ∈ TB := tb_1 137 rfl rfl
theorem w1_138 : (Jvm.Cond.methodLink "HedgeNews" (39 : Nat) ({ cls := "HedgeNews$Gardener", name := "<init>", desc := "(LHedgeNews$News;)V" } : Jvm.MethodName)) ∈ TB := tb_1 138 rfl rfl
theorem w1_139 : (Jvm.Cond.instanceMethod ({ cls := "HedgeNews$Gardener", name := "<init>", desc := "(LHedgeNews$News;)V" } : Jvm.MethodName)) ∈ TB := tb_1 139 rfl rfl
theorem w1_140 : (Jvm.Cond.code ({ cls := "HedgeNews$Gardener", name := "<init>", desc := "(LHedgeNews$News;)V" } : Jvm.MethodName) prog_4_method_1_code (2 : Nat) (Option.none : Option Jvm.ClassFile.FieldType)) ∈ TB := tb_1 140 rfl rfl
theorem w1_141 : (Jvm.Cond.methodLink "HedgeNews$Gardener" (3 : Nat) ({ cls := "java/lang/Object", name := "<init>", desc := "()V" } : Jvm.MethodName)) ∈ TB := tb_1 141 rfl rfl
theorem w1_142 : (Jvm.Cond.fieldLink "HedgeNews$Gardener" (15 : Nat) "HedgeNews$Gardener" "news" "LHedgeNews$News;") ∈ TB := tb_1 142 rfl rfl
theorem w1_143 : (Jvm.Cond.fieldLink "HedgeNews$Gardener" (9 : Nat) "HedgeNews$Gardener" "pile" "[I") ∈ TB := tb_1 143 rfl rfl
theorem w1_144 : (Jvm.Cond.fieldLink "HedgeNews$Gardener" (19 : Nat) "HedgeNews$Gardener" "height" "I") ∈ TB := tb_1 144 rfl rfl
theorem w1_145 : (Jvm.Cond.laysFinal "HedgeNews$Gardener" "HedgeNews$Gardener" "news" "LHedgeNews$News;") ∈ TB := tb_1 145 rfl rfl
theorem w1_146 : (Jvm.Cond.soleField "HedgeNews$Gardener" "news") ∈ TB := tb_1 146 rfl rfl
theorem w1_147 : (Jvm.Cond.laysFinal "HedgeNews$Gardener" "HedgeNews$Gardener" "pile" "[I") ∈ TB := tb_1 147 rfl rfl
theorem w1_148 : (Jvm.Cond.soleField "HedgeNews$Gardener" "pile") ∈ TB := tb_1 148 rfl rfl
theorem w1_149 : (Jvm.Cond.lays "HedgeNews$Gardener" "HedgeNews$Gardener" "height" "I") ∈ TB := tb_1 149 rfl rfl
theorem w1_150 : (Jvm.Cond.soleField "HedgeNews$Gardener" "height") ∈ TB := tb_1 150 rfl rfl
theorem w1_151 : (Jvm.Cond.superclass "HedgeNews$Gardener" "java/lang/Object") ∈ TB := tb_1 151 rfl rfl
theorem w1_152 : (Jvm.Cond.classLink "HedgeNews" (46 : Nat) "HedgeNews$Garden") ∈ TB := tb_1 152 rfl rfl
theorem w1_153 : (Jvm.Cond.instantiable "HedgeNews$Garden" (9 : Nat)) ∈ TB := tb_1 153 rfl rfl
theorem w1_154 : (Jvm.Cond.methodLink "HedgeNews" (48 : Nat) ({ cls := "HedgeNews$Garden", name := "<init>", desc := "()V" } : Jvm.MethodName)) ∈ TB := tb_1 154 rfl rfl
theorem w1_155 : (Jvm.Cond.instanceMethod ({ cls := "HedgeNews$Garden", name := "<init>", desc := "()V" } : Jvm.MethodName)) ∈ TB := tb_1 155 rfl rfl
theorem w1_156 : (Jvm.Cond.code ({ cls := "HedgeNews$Garden", name := "<init>", desc := "()V" } : Jvm.MethodName) prog_3_method_1_code (2 : Nat) (Option.none : Option Jvm.ClassFile.FieldType)) ∈ TB := tb_1 156 rfl rfl
theorem w1_157 : (Jvm.Cond.methodLink "HedgeNews$Garden" (3 : Nat) ({ cls := "java/lang/Object", name := "<init>", desc := "()V" } : Jvm.MethodName)) ∈ TB := tb_1 157 rfl rfl
theorem w1_158 : (Jvm.Cond.classLink "HedgeNews$Garden" (9 : Nat) "HedgeNews$Hedge") ∈ TB := tb_1 158 rfl rfl
theorem w1_159 : (Jvm.Cond.arrayOver (Jvm.ClassFile.FieldType.object "HedgeNews$Hedge")) ∈ lw_tbl := tz_1 159 rfl
theorem w1_160 : (Jvm.Cond.classLink "HedgeNews$Garden" (17 : Nat) "HedgeNews$Rose") ∈ TB := tb_1 160 rfl rfl
theorem w1_161 : (Jvm.Cond.arrayOver (Jvm.ClassFile.FieldType.object "HedgeNews$Rose")) ∈ lw_tbl := tz_1 161 rfl
theorem w1_162 : (Jvm.Cond.instantiable "HedgeNews$Hedge" (5 : Nat)) ∈ TB := tb_1 162 rfl rfl
theorem w1_163 : (Jvm.Cond.methodLinkNest "HedgeNews$Garden" (23 : Nat) ({ cls := "HedgeNews$Hedge", name := "<init>", desc := "()V" } : Jvm.MethodName) "HedgeNews") ∈ lw_tbl := tz_1 163 rfl
theorem w1_164 : (Jvm.Cond.instanceMethod ({ cls := "HedgeNews$Hedge", name := "<init>", desc := "()V" } : Jvm.MethodName)) ∈ TB := tb_1 164 rfl rfl
theorem w1_165 : (Jvm.Cond.code ({ cls := "HedgeNews$Hedge", name := "<init>", desc := "()V" } : Jvm.MethodName) prog_5_method_1_code (1 : Nat) (Option.none : Option Jvm.ClassFile.FieldType)) ∈ TB := tb_1 165 rfl rfl
theorem w1_166 : (Jvm.Cond.methodLink "HedgeNews$Hedge" (3 : Nat) ({ cls := "java/lang/Object", name := "<init>", desc := "()V" } : Jvm.MethodName)) ∈ TB := tb_1 166 rfl rfl
theorem w1_167 : (Jvm.Cond.fieldLink "HedgeNews$Hedge" (15 : Nat) "HedgeNews$Hedge" "hush" "I") ∈ TB := tb_1 167 rfl rfl
theorem w1_168 : (Jvm.Cond.fieldLink "HedgeNews$News" (60 : Nat) "HedgeNews$Hedge" "hush" "I") ∈ TB := tb_1 168 rfl rfl
theorem w1_169 : (Jvm.Cond.fieldLink "HedgeNews" (159 : Nat) "HedgeNews$Hedge" "hush" "I") ∈ TB := tb_1 169 rfl rfl
theorem w1_170 : (Jvm.Cond.fieldLink "HedgeNews$Hedge" (19 : Nat) "HedgeNews$Hedge" "heard" "I") ∈ TB := tb_1 170 rfl rfl
theorem w1_171 : (Jvm.Cond.fieldLink "HedgeNews$News" (52 : Nat) "HedgeNews$Hedge" "heard" "I") ∈ TB := tb_1 171 rfl rfl
theorem w1_172 : (Jvm.Cond.fieldLink "HedgeNews" (164 : Nat) "HedgeNews$Hedge" "heard" "I") ∈ TB := tb_1 172 rfl rfl
theorem w1_173 : (Jvm.Cond.fieldLink "HedgeNews$Garden" (108 : Nat) "HedgeNews$Hedge" "heard" "I") ∈ TB := tb_1 173 rfl rfl
theorem w1_174 : (Jvm.Cond.fieldLink "HedgeNews$Hedge" (22 : Nat) "HedgeNews$Hedge" "latest" "I") ∈ TB := tb_1 174 rfl rfl
theorem w1_175 : (Jvm.Cond.fieldLink "HedgeNews$News" (57 : Nat) "HedgeNews$Hedge" "latest" "I") ∈ TB := tb_1 175 rfl rfl
theorem w1_176 : (Jvm.Cond.fieldLink "HedgeNews" (167 : Nat) "HedgeNews$Hedge" "latest" "I") ∈ TB := tb_1 176 rfl rfl
theorem w1_177 : (Jvm.Cond.fieldLink "HedgeNews$Garden" (111 : Nat) "HedgeNews$Hedge" "latest" "I") ∈ TB := tb_1 177 rfl rfl
theorem w1_178 : (Jvm.Cond.fieldLink "HedgeNews$Hedge" (25 : Nat) "HedgeNews$Hedge" "listeners" "I") ∈ TB := tb_1 178 rfl rfl
theorem w1_179 : (Jvm.Cond.fieldLink "HedgeNews$News" (63 : Nat) "HedgeNews$Hedge" "listeners" "I") ∈ TB := tb_1 179 rfl rfl
theorem w1_180 : (Jvm.Cond.fieldLink "HedgeNews" (170 : Nat) "HedgeNews$Hedge" "listeners" "I") ∈ TB := tb_1 180 rfl rfl
theorem w1_181 : (Jvm.Cond.fieldLink "HedgeNews$Hedge" (9 : Nat) "HedgeNews$Hedge" "row" "[I") ∈ TB := tb_1 181 rfl rfl
theorem w1_182 : (Jvm.Cond.lays "HedgeNews$Hedge" "HedgeNews$Hedge" "hush" "I") ∈ TB := tb_1 182 rfl rfl
theorem w1_183 : (Jvm.Cond.soleField "HedgeNews$Hedge" "hush") ∈ TB := tb_1 183 rfl rfl
theorem w1_184 : (Jvm.Cond.lays "HedgeNews$Hedge" "HedgeNews$Hedge" "heard" "I") ∈ TB := tb_1 184 rfl rfl
theorem w1_185 : (Jvm.Cond.soleField "HedgeNews$Hedge" "heard") ∈ TB := tb_1 185 rfl rfl
theorem w1_186 : (Jvm.Cond.lays "HedgeNews$Hedge" "HedgeNews$Hedge" "latest" "I") ∈ TB := tb_1 186 rfl rfl
theorem w1_187 : (Jvm.Cond.soleField "HedgeNews$Hedge" "latest") ∈ TB := tb_1 187 rfl rfl
theorem w1_188 : (Jvm.Cond.lays "HedgeNews$Hedge" "HedgeNews$Hedge" "listeners" "I") ∈ TB := tb_1 188 rfl rfl
theorem w1_189 : (Jvm.Cond.soleField "HedgeNews$Hedge" "listeners") ∈ TB := tb_1 189 rfl rfl
theorem w1_190 : (Jvm.Cond.laysFinal "HedgeNews$Hedge" "HedgeNews$Hedge" "row" "[I") ∈ TB := tb_1 190 rfl rfl
theorem w1_191 : (Jvm.Cond.soleField "HedgeNews$Hedge" "row") ∈ TB := tb_1 191 rfl rfl
theorem w1_192 : (Jvm.Cond.superclass "HedgeNews$Hedge" "java/lang/Object") ∈ TB := tb_1 192 rfl rfl
theorem w1_193 : (Jvm.Cond.instantiable "HedgeNews$Rose" (4 : Nat)) ∈ TB := tb_1 193 rfl rfl
theorem w1_194 : (Jvm.Cond.methodLinkNest "HedgeNews$Garden" (24 : Nat) ({ cls := "HedgeNews$Rose", name := "<init>", desc := "()V" } : Jvm.MethodName) "HedgeNews") ∈ lw_tbl := tz_1 194 rfl
theorem w1_195 : (Jvm.Cond.instanceMethod ({ cls := "HedgeNews$Rose", name := "<init>", desc := "()V" } : Jvm.MethodName)) ∈ TB := tb_1 195 rfl rfl
theorem w1_196 : (Jvm.Cond.code ({ cls := "HedgeNews$Rose", name := "<init>", desc := "()V" } : Jvm.MethodName) prog_11_method_1_code (1 : Nat) (Option.none : Option Jvm.ClassFile.FieldType)) ∈ TB := tb_1 196 rfl rfl
theorem w1_197 : (Jvm.Cond.methodLink "HedgeNews$Rose" (1 : Nat) ({ cls := "java/lang/Object", name := "<init>", desc := "()V" } : Jvm.MethodName)) ∈ TB := tb_1 197 rfl rfl
theorem w1_198 : (Jvm.Cond.fieldLink "HedgeNews$Rose" (7 : Nat) "HedgeNews$Rose" "patience" "I") ∈ TB := tb_1 198 rfl rfl
theorem w1_199 : (Jvm.Cond.fieldLink "HedgeNews$Garden" (94 : Nat) "HedgeNews$Rose" "patience" "I") ∈ TB := tb_1 199 rfl rfl
theorem w1_200 : (Jvm.Cond.fieldLink "HedgeNews" (188 : Nat) "HedgeNews$Rose" "patience" "I") ∈ TB := tb_1 200 rfl rfl
theorem w1_201 : (Jvm.Cond.fieldLink "HedgeNews$Rose" (13 : Nat) "HedgeNews$Rose" "petals" "I") ∈ TB := tb_1 201 rfl rfl
theorem w1_202 : (Jvm.Cond.fieldLink "HedgeNews$Garden" (91 : Nat) "HedgeNews$Rose" "petals" "I") ∈ TB := tb_1 202 rfl rfl
theorem w1_203 : (Jvm.Cond.fieldLink "HedgeNews" (193 : Nat) "HedgeNews$Rose" "petals" "I") ∈ TB := tb_1 203 rfl rfl
theorem w1_204 : (Jvm.Cond.fieldLink "HedgeNews$Rose" (16 : Nat) "HedgeNews$Rose" "count" "I") ∈ TB := tb_1 204 rfl rfl
theorem w1_205 : (Jvm.Cond.fieldLink "HedgeNews$Garden" (85 : Nat) "HedgeNews$Rose" "count" "I") ∈ TB := tb_1 205 rfl rfl
theorem w1_206 : (Jvm.Cond.fieldLink "HedgeNews" (196 : Nat) "HedgeNews$Rose" "count" "I") ∈ TB := tb_1 206 rfl rfl
theorem w1_207 : (Jvm.Cond.fieldLink "HedgeNews$Rose" (19 : Nat) "HedgeNews$Rose" "departures" "I") ∈ TB := tb_1 207 rfl rfl
theorem w1_208 : (Jvm.Cond.fieldLink "HedgeNews$Garden" (101 : Nat) "HedgeNews$Rose" "departures" "I") ∈ TB := tb_1 208 rfl rfl
theorem w1_209 : (Jvm.Cond.fieldLink "HedgeNews" (266 : Nat) "HedgeNews$Rose" "departures" "I") ∈ TB := tb_1 209 rfl rfl
theorem w1_210 : (Jvm.Cond.lays "HedgeNews$Rose" "HedgeNews$Rose" "patience" "I") ∈ TB := tb_1 210 rfl rfl
theorem w1_211 : (Jvm.Cond.soleField "HedgeNews$Rose" "patience") ∈ TB := tb_1 211 rfl rfl
theorem w1_212 : (Jvm.Cond.lays "HedgeNews$Rose" "HedgeNews$Rose" "petals" "I") ∈ TB := tb_1 212 rfl rfl
theorem w1_213 : (Jvm.Cond.soleField "HedgeNews$Rose" "petals") ∈ TB := tb_1 213 rfl rfl
theorem w1_214 : (Jvm.Cond.lays "HedgeNews$Rose" "HedgeNews$Rose" "count" "I") ∈ TB := tb_1 214 rfl rfl
theorem w1_215 : (Jvm.Cond.soleField "HedgeNews$Rose" "count") ∈ TB := tb_1 215 rfl rfl
theorem w1_216 : (Jvm.Cond.lays "HedgeNews$Rose" "HedgeNews$Rose" "departures" "I") ∈ TB := tb_1 216 rfl rfl
theorem w1_217 : (Jvm.Cond.soleField "HedgeNews$Rose" "departures") ∈ TB := tb_1 217 rfl rfl
theorem w1_218 : (Jvm.Cond.superclass "HedgeNews$Rose" "java/lang/Object") ∈ TB := tb_1 218 rfl rfl
theorem w1_219 : (Jvm.Cond.fieldLink "HedgeNews$Garden" (11 : Nat) "HedgeNews$Garden" "hedges" "[LHedgeNews$Hedge;") ∈ TB := tb_1 219 rfl rfl
theorem w1_220 : (Jvm.Cond.fieldLink "HedgeNews$Garden" (19 : Nat) "HedgeNews$Garden" "roses" "[LHedgeNews$Rose;") ∈ TB := tb_1 220 rfl rfl
theorem w1_221 : (Jvm.Cond.fieldLink "HedgeNews$Garden" (25 : Nat) "HedgeNews$Garden" "hedgeCount" "I") ∈ TB := tb_1 221 rfl rfl
theorem w1_222 : (Jvm.Cond.fieldLink "HedgeNews" (134 : Nat) "HedgeNews$Garden" "hedgeCount" "I") ∈ TB := tb_1 222 rfl rfl
theorem w1_223 : (Jvm.Cond.fieldLink "HedgeNews$Garden" (29 : Nat) "HedgeNews$Garden" "roseCount" "I") ∈ TB := tb_1 223 rfl rfl
theorem w1_224 : (Jvm.Cond.fieldLink "HedgeNews" (137 : Nat) "HedgeNews$Garden" "roseCount" "I") ∈ TB := tb_1 224 rfl rfl
theorem w1_225 : (Jvm.Cond.fieldLink "HedgeNews$Gardener" (62 : Nat) "HedgeNews$Garden" "day" "I") ∈ TB := tb_1 225 rfl rfl
theorem w1_226 : (Jvm.Cond.fieldLink "HedgeNews$Garden" (48 : Nat) "HedgeNews$Garden" "day" "I") ∈ TB := tb_1 226 rfl rfl
theorem w1_227 : (Jvm.Cond.fieldLink "HedgeNews" (140 : Nat) "HedgeNews$Garden" "day" "I") ∈ TB := tb_1 227 rfl rfl
theorem w1_228 : (Jvm.Cond.fieldLink "HedgeNews$Garden" (51 : Nat) "HedgeNews$Garden" "ordersDone" "I") ∈ TB := tb_1 228 rfl rfl
theorem w1_229 : (Jvm.Cond.fieldLink "HedgeNews$Gardener" (134 : Nat) "HedgeNews$Garden" "ordersDone" "I") ∈ TB := tb_1 229 rfl rfl
theorem w1_230 : (Jvm.Cond.fieldLink "HedgeNews" (143 : Nat) "HedgeNews$Garden" "ordersDone" "I") ∈ TB := tb_1 230 rfl rfl
theorem w1_231 : (Jvm.Cond.fieldLink "HedgeNews$News" (42 : Nat) "HedgeNews$Garden" "whispers" "I") ∈ TB := tb_1 231 rfl rfl
theorem w1_232 : (Jvm.Cond.fieldLink "HedgeNews$Gardener" (68 : Nat) "HedgeNews$Garden" "whispers" "I") ∈ TB := tb_1 232 rfl rfl
theorem w1_233 : (Jvm.Cond.fieldLink "HedgeNews$Garden" (54 : Nat) "HedgeNews$Garden" "whispers" "I") ∈ TB := tb_1 233 rfl rfl
theorem w1_234 : (Jvm.Cond.fieldLink "HedgeNews" (146 : Nat) "HedgeNews$Garden" "whispers" "I") ∈ TB := tb_1 234 rfl rfl
theorem w1_235 : (Jvm.Cond.fieldLink "HedgeNews$News" (49 : Nat) "HedgeNews$Garden" "cycles" "I") ∈ TB := tb_1 235 rfl rfl
theorem w1_236 : (Jvm.Cond.fieldLink "HedgeNews$Gardener" (65 : Nat) "HedgeNews$Garden" "cycles" "I") ∈ TB := tb_1 236 rfl rfl
theorem w1_237 : (Jvm.Cond.fieldLink "HedgeNews$Garden" (57 : Nat) "HedgeNews$Garden" "cycles" "I") ∈ TB := tb_1 237 rfl rfl
theorem w1_238 : (Jvm.Cond.fieldLink "HedgeNews" (149 : Nat) "HedgeNews$Garden" "cycles" "I") ∈ TB := tb_1 238 rfl rfl
theorem w1_239 : (Jvm.Cond.fieldLink "HedgeNews$Garden" (60 : Nat) "HedgeNews$Garden" "departures" "I") ∈ TB := tb_1 239 rfl rfl
theorem w2_0 : (Jvm.Cond.fieldLink "HedgeNews" (152 : Nat) "HedgeNews$Garden" "departures" "I") ∈ TB := tb_2 0 rfl rfl
theorem w2_1 : (Jvm.Cond.laysFinal "HedgeNews$Garden" "HedgeNews$Garden" "hedges" "[LHedgeNews$Hedge;") ∈ TB := tb_2 1 rfl rfl
theorem w2_2 : (Jvm.Cond.soleField "HedgeNews$Garden" "hedges") ∈ TB := tb_2 2 rfl rfl
theorem w2_3 : (Jvm.Cond.laysFinal "HedgeNews$Garden" "HedgeNews$Garden" "roses" "[LHedgeNews$Rose;") ∈ TB := tb_2 3 rfl rfl
theorem w2_4 : (Jvm.Cond.soleField "HedgeNews$Garden" "roses") ∈ TB := tb_2 4 rfl rfl
theorem w2_5 : (Jvm.Cond.lays "HedgeNews$Garden" "HedgeNews$Garden" "hedgeCount" "I") ∈ TB := tb_2 5 rfl rfl
theorem w2_6 : (Jvm.Cond.soleField "HedgeNews$Garden" "hedgeCount") ∈ TB := tb_2 6 rfl rfl
theorem w2_7 : (Jvm.Cond.lays "HedgeNews$Garden" "HedgeNews$Garden" "roseCount" "I") ∈ TB := tb_2 7 rfl rfl
theorem w2_8 : (Jvm.Cond.soleField "HedgeNews$Garden" "roseCount") ∈ TB := tb_2 8 rfl rfl
theorem w2_9 : (Jvm.Cond.lays "HedgeNews$Garden" "HedgeNews$Garden" "day" "I") ∈ TB := tb_2 9 rfl rfl
theorem w2_10 : (Jvm.Cond.soleField "HedgeNews$Garden" "day") ∈ TB := tb_2 10 rfl rfl
theorem w2_11 : (Jvm.Cond.lays "HedgeNews$Garden" "HedgeNews$Garden" "ordersDone" "I") ∈ TB := tb_2 11 rfl rfl
theorem w2_12 : (Jvm.Cond.soleField "HedgeNews$Garden" "ordersDone") ∈ TB := tb_2 12 rfl rfl
theorem w2_13 : (Jvm.Cond.lays "HedgeNews$Garden" "HedgeNews$Garden" "whispers" "I") ∈ TB := tb_2 13 rfl rfl
theorem w2_14 : (Jvm.Cond.soleField "HedgeNews$Garden" "whispers") ∈ TB := tb_2 14 rfl rfl
theorem w2_15 : (Jvm.Cond.lays "HedgeNews$Garden" "HedgeNews$Garden" "cycles" "I") ∈ TB := tb_2 15 rfl rfl
theorem w2_16 : (Jvm.Cond.soleField "HedgeNews$Garden" "cycles") ∈ TB := tb_2 16 rfl rfl
theorem w2_17 : (Jvm.Cond.lays "HedgeNews$Garden" "HedgeNews$Garden" "departures" "I") ∈ TB := tb_2 17 rfl rfl
theorem w2_18 : (Jvm.Cond.soleField "HedgeNews$Garden" "departures") ∈ TB := tb_2 18 rfl rfl
theorem w2_19 : (Jvm.Cond.superclass "HedgeNews$Garden" "java/lang/Object") ∈ TB := tb_2 19 rfl rfl
theorem w2_20 : (Jvm.Cond.classLink "HedgeNews" (56 : Nat) "HedgeNews$Plan") ∈ TB := tb_2 20 rfl rfl
theorem w2_21 : (Jvm.Cond.instantiable "HedgeNews$Plan" (8 : Nat)) ∈ TB := tb_2 21 rfl rfl
theorem w2_22 : (Jvm.Cond.methodLink "HedgeNews" (58 : Nat) ({ cls := "HedgeNews$Plan", name := "<init>", desc := "()V" } : Jvm.MethodName)) ∈ TB := tb_2 22 rfl rfl
theorem w2_23 : (Jvm.Cond.instanceMethod ({ cls := "HedgeNews$Plan", name := "<init>", desc := "()V" } : Jvm.MethodName)) ∈ TB := tb_2 23 rfl rfl
theorem w2_24 : (Jvm.Cond.code ({ cls := "HedgeNews$Plan", name := "<init>", desc := "()V" } : Jvm.MethodName) prog_10_method_1_code (2 : Nat) (Option.none : Option Jvm.ClassFile.FieldType)) ∈ TB := tb_2 24 rfl rfl
theorem w2_25 : (Jvm.Cond.methodLink "HedgeNews$Plan" (3 : Nat) ({ cls := "java/lang/Object", name := "<init>", desc := "()V" } : Jvm.MethodName)) ∈ TB := tb_2 25 rfl rfl
theorem w2_26 : (Jvm.Cond.classLink "HedgeNews$Plan" (18 : Nat) "HedgeNews$Kind") ∈ TB := tb_2 26 rfl rfl
theorem w2_27 : (Jvm.Cond.fieldLink "HedgeNews$Plan" (30 : Nat) "HedgeNews$Kind" "END" "LHedgeNews$Kind;") ∈ TB := tb_2 27 rfl rfl
theorem w2_28 : (Jvm.Cond.fieldLink "HedgeNews$Plan" (9 : Nat) "HedgeNews$Plan" "hushes" "[I") ∈ TB := tb_2 28 rfl rfl
theorem w2_29 : (Jvm.Cond.fieldLinkNest "HedgeNews$Garden" (36 : Nat) "HedgeNews$Plan" "hushes" "[I" "HedgeNews") ∈ lw_tbl := tz_2 29 rfl
theorem w2_30 : (Jvm.Cond.fieldLink "HedgeNews$Plan" (15 : Nat) "HedgeNews$Plan" "patiences" "[I") ∈ TB := tb_2 30 rfl rfl
theorem w2_31 : (Jvm.Cond.fieldLinkNest "HedgeNews$Garden" (44 : Nat) "HedgeNews$Plan" "patiences" "[I" "HedgeNews") ∈ lw_tbl := tz_2 31 rfl
theorem w2_32 : (Jvm.Cond.fieldLink "HedgeNews$Plan" (34 : Nat) "HedgeNews$Plan" "hedgeCount" "I") ∈ TB := tb_2 32 rfl rfl
theorem w2_33 : (Jvm.Cond.fieldLinkNest "HedgeNews$Garden" (32 : Nat) "HedgeNews$Plan" "hedgeCount" "I" "HedgeNews") ∈ lw_tbl := tz_2 33 rfl
theorem w2_34 : (Jvm.Cond.fieldLinkNest "HedgeNews$NameCheck" (92 : Nat) "HedgeNews$Plan" "hedgeCount" "I" "HedgeNews") ∈ lw_tbl := tz_2 34 rfl
theorem w2_35 : (Jvm.Cond.fieldLink "HedgeNews$Plan" (38 : Nat) "HedgeNews$Plan" "roseCount" "I") ∈ TB := tb_2 35 rfl rfl
theorem w2_36 : (Jvm.Cond.fieldLinkNest "HedgeNews$Garden" (35 : Nat) "HedgeNews$Plan" "roseCount" "I" "HedgeNews") ∈ lw_tbl := tz_2 36 rfl
theorem w2_37 : (Jvm.Cond.fieldLinkNest "HedgeNews$NameCheck" (95 : Nat) "HedgeNews$Plan" "roseCount" "I" "HedgeNews") ∈ lw_tbl := tz_2 37 rfl
theorem w2_38 : (Jvm.Cond.fieldLink "HedgeNews$Plan" (20 : Nat) "HedgeNews$Plan" "acts" "[LHedgeNews$Kind;") ∈ TB := tb_2 38 rfl rfl
theorem w2_39 : (Jvm.Cond.fieldLinkNest "HedgeNews$Gardener" (28 : Nat) "HedgeNews$Plan" "acts" "[LHedgeNews$Kind;" "HedgeNews") ∈ lw_tbl := tz_2 39 rfl
theorem w2_40 : (Jvm.Cond.fieldLink "HedgeNews$Plan" (24 : Nat) "HedgeNews$Plan" "firsts" "[I") ∈ TB := tb_2 40 rfl rfl
theorem w2_41 : (Jvm.Cond.fieldLinkNest "HedgeNews$Gardener" (32 : Nat) "HedgeNews$Plan" "firsts" "[I" "HedgeNews") ∈ lw_tbl := tz_2 41 rfl
theorem w2_42 : (Jvm.Cond.fieldLink "HedgeNews$Plan" (27 : Nat) "HedgeNews$Plan" "seconds" "[I") ∈ TB := tb_2 42 rfl rfl
theorem w2_43 : (Jvm.Cond.fieldLinkNest "HedgeNews$Gardener" (35 : Nat) "HedgeNews$Plan" "seconds" "[I" "HedgeNews") ∈ lw_tbl := tz_2 43 rfl
theorem w2_44 : (Jvm.Cond.fieldLinkNest "HedgeNews$Gardener" (23 : Nat) "HedgeNews$Plan" "size" "I" "HedgeNews") ∈ lw_tbl := tz_2 44 rfl
theorem w2_45 : (Jvm.Cond.fieldLink "HedgeNews$Plan" (41 : Nat) "HedgeNews$Plan" "size" "I") ∈ TB := tb_2 45 rfl rfl
theorem w2_46 : (Jvm.Cond.laysFinal "HedgeNews$Plan" "HedgeNews$Plan" "hushes" "[I") ∈ TB := tb_2 46 rfl rfl
theorem w2_47 : (Jvm.Cond.soleField "HedgeNews$Plan" "hushes") ∈ TB := tb_2 47 rfl rfl
theorem w2_48 : (Jvm.Cond.laysFinal "HedgeNews$Plan" "HedgeNews$Plan" "patiences" "[I") ∈ TB := tb_2 48 rfl rfl
theorem w2_49 : (Jvm.Cond.soleField "HedgeNews$Plan" "patiences") ∈ TB := tb_2 49 rfl rfl
theorem w2_50 : (Jvm.Cond.lays "HedgeNews$Plan" "HedgeNews$Plan" "hedgeCount" "I") ∈ TB := tb_2 50 rfl rfl
theorem w2_51 : (Jvm.Cond.soleField "HedgeNews$Plan" "hedgeCount") ∈ TB := tb_2 51 rfl rfl
theorem w2_52 : (Jvm.Cond.lays "HedgeNews$Plan" "HedgeNews$Plan" "roseCount" "I") ∈ TB := tb_2 52 rfl rfl
theorem w2_53 : (Jvm.Cond.soleField "HedgeNews$Plan" "roseCount") ∈ TB := tb_2 53 rfl rfl
theorem w2_54 : (Jvm.Cond.laysFinal "HedgeNews$Plan" "HedgeNews$Plan" "acts" "[LHedgeNews$Kind;") ∈ TB := tb_2 54 rfl rfl
theorem w2_55 : (Jvm.Cond.soleField "HedgeNews$Plan" "acts") ∈ TB := tb_2 55 rfl rfl
theorem w2_56 : (Jvm.Cond.laysFinal "HedgeNews$Plan" "HedgeNews$Plan" "firsts" "[I") ∈ TB := tb_2 56 rfl rfl
theorem w2_57 : (Jvm.Cond.soleField "HedgeNews$Plan" "firsts") ∈ TB := tb_2 57 rfl rfl
theorem w2_58 : (Jvm.Cond.laysFinal "HedgeNews$Plan" "HedgeNews$Plan" "seconds" "[I") ∈ TB := tb_2 58 rfl rfl
theorem w2_59 : (Jvm.Cond.soleField "HedgeNews$Plan" "seconds") ∈ TB := tb_2 59 rfl rfl
theorem w2_60 : (Jvm.Cond.lays "HedgeNews$Plan" "HedgeNews$Plan" "size" "I") ∈ TB := tb_2 60 rfl rfl
theorem w2_61 : (Jvm.Cond.soleField "HedgeNews$Plan" "size") ∈ TB := tb_2 61 rfl rfl
theorem w2_62 : (Jvm.Cond.superclass "HedgeNews$Plan" "java/lang/Object") ∈ TB := tb_2 62 rfl rfl
theorem w2_63 : (Jvm.Cond.classLink "HedgeNews" (66 : Nat) "HedgeNews$Parser") ∈ TB := tb_2 63 rfl rfl
theorem w2_64 : (Jvm.Cond.instantiable "HedgeNews$Parser" (4 : Nat)) ∈ TB := tb_2 64 rfl rfl
theorem w2_65 : (Jvm.Cond.methodLink "HedgeNews" (68 : Nat) ({ cls := "HedgeNews$Parser", name := "<init>", desc := "(LHedgeNews$Tokens;LHedgeNews$Plan;)V" } : Jvm.MethodName)) ∈ TB := tb_2 65 rfl rfl
theorem w2_66 : (Jvm.Cond.instanceMethod ({ cls := "HedgeNews$Parser", name := "<init>", desc := "(LHedgeNews$Tokens;LHedgeNews$Plan;)V" } : Jvm.MethodName)) ∈ TB := tb_2 66 rfl rfl
theorem w2_67 : (Jvm.Cond.code ({ cls := "HedgeNews$Parser", name := "<init>", desc := "(LHedgeNews$Tokens;LHedgeNews$Plan;)V" } : Jvm.MethodName) prog_9_method_1_code (3 : Nat) (Option.none : Option Jvm.ClassFile.FieldType)) ∈ TB := tb_2 67 rfl rfl
theorem w2_68 : (Jvm.Cond.methodLink "HedgeNews$Parser" (3 : Nat) ({ cls := "java/lang/Object", name := "<init>", desc := "()V" } : Jvm.MethodName)) ∈ TB := tb_2 68 rfl rfl
theorem w2_69 : (Jvm.Cond.fieldLink "HedgeNews$Parser" (9 : Nat) "HedgeNews$Kind" "END" "LHedgeNews$Kind;") ∈ TB := tb_2 69 rfl rfl
theorem w2_70 : (Jvm.Cond.fieldLink "HedgeNews$Parser" (20 : Nat) "HedgeNews$Parser" "tokens" "LHedgeNews$Tokens;") ∈ TB := tb_2 70 rfl rfl
theorem w2_71 : (Jvm.Cond.fieldLink "HedgeNews$Parser" (24 : Nat) "HedgeNews$Parser" "plan" "LHedgeNews$Plan;") ∈ TB := tb_2 71 rfl rfl
theorem w2_72 : (Jvm.Cond.fieldLink "HedgeNews$Parser" (28 : Nat) "HedgeNews$Parser" "at" "I") ∈ TB := tb_2 72 rfl rfl
theorem w2_73 : (Jvm.Cond.fieldLink "HedgeNews" (109 : Nat) "HedgeNews$Parser" "at" "I") ∈ TB := tb_2 73 rfl rfl
theorem w2_74 : (Jvm.Cond.fieldLink "HedgeNews$Parser" (15 : Nat) "HedgeNews$Parser" "now" "LHedgeNews$Kind;") ∈ TB := tb_2 74 rfl rfl
theorem w2_75 : (Jvm.Cond.laysFinal "HedgeNews$Parser" "HedgeNews$Parser" "tokens" "LHedgeNews$Tokens;") ∈ TB := tb_2 75 rfl rfl
theorem w2_76 : (Jvm.Cond.soleField "HedgeNews$Parser" "tokens") ∈ TB := tb_2 76 rfl rfl
theorem w2_77 : (Jvm.Cond.lays "HedgeNews$Parser" "HedgeNews$Parser" "plan" "LHedgeNews$Plan;") ∈ TB := tb_2 77 rfl rfl
theorem w2_78 : (Jvm.Cond.soleField "HedgeNews$Parser" "plan") ∈ TB := tb_2 78 rfl rfl
theorem w2_79 : (Jvm.Cond.lays "HedgeNews$Parser" "HedgeNews$Parser" "at" "I") ∈ TB := tb_2 79 rfl rfl
theorem w2_80 : (Jvm.Cond.soleField "HedgeNews$Parser" "at") ∈ TB := tb_2 80 rfl rfl
theorem w2_81 : (Jvm.Cond.lays "HedgeNews$Parser" "HedgeNews$Parser" "now" "LHedgeNews$Kind;") ∈ TB := tb_2 81 rfl rfl
theorem w2_82 : (Jvm.Cond.soleField "HedgeNews$Parser" "now") ∈ TB := tb_2 82 rfl rfl
theorem w2_83 : (Jvm.Cond.superclass "HedgeNews$Parser" "java/lang/Object") ∈ TB := tb_2 83 rfl rfl
theorem w2_84 : (Jvm.Cond.fieldLink "HedgeNews" (12 : Nat) "HedgeNews" "tape" "LHedgeNews$Tape;") ∈ TB := tb_2 84 rfl rfl
theorem w2_85 : (Jvm.Cond.fieldLink "HedgeNews" (19 : Nat) "HedgeNews" "tokens" "LHedgeNews$Tokens;") ∈ TB := tb_2 85 rfl rfl
theorem w2_86 : (Jvm.Cond.fieldLink "HedgeNews" (26 : Nat) "HedgeNews" "names" "LHedgeNews$NameCheck;") ∈ TB := tb_2 86 rfl rfl
theorem w2_87 : (Jvm.Cond.fieldLink "HedgeNews" (33 : Nat) "HedgeNews" "news" "LHedgeNews$News;") ∈ TB := tb_2 87 rfl rfl
theorem w2_88 : (Jvm.Cond.fieldLink "HedgeNews" (42 : Nat) "HedgeNews" "gardener" "LHedgeNews$Gardener;") ∈ TB := tb_2 88 rfl rfl
theorem w2_89 : (Jvm.Cond.fieldLink "HedgeNews" (49 : Nat) "HedgeNews" "garden" "LHedgeNews$Garden;") ∈ TB := tb_2 89 rfl rfl
theorem w2_90 : (Jvm.Cond.fieldLink "HedgeNews" (53 : Nat) "HedgeNews" "trial" "LHedgeNews$Garden;") ∈ TB := tb_2 90 rfl rfl
theorem w2_91 : (Jvm.Cond.fieldLink "HedgeNews" (59 : Nat) "HedgeNews" "plan" "LHedgeNews$Plan;") ∈ TB := tb_2 91 rfl rfl
theorem w2_92 : (Jvm.Cond.fieldLink "HedgeNews" (63 : Nat) "HedgeNews" "sparePlan" "LHedgeNews$Plan;") ∈ TB := tb_2 92 rfl rfl
theorem w2_93 : (Jvm.Cond.fieldLink "HedgeNews" (71 : Nat) "HedgeNews" "parser" "LHedgeNews$Parser;") ∈ TB := tb_2 93 rfl rfl
theorem w2_94 : (Jvm.Cond.fieldLink "HedgeNews" (75 : Nat) "HedgeNews" "errorPosition" "I") ∈ TB := tb_2 94 rfl rfl
theorem w2_95 : (Jvm.Cond.laysFinal "HedgeNews" "HedgeNews" "tape" "LHedgeNews$Tape;") ∈ TB := tb_2 95 rfl rfl
theorem w2_96 : (Jvm.Cond.soleField "HedgeNews" "tape") ∈ TB := tb_2 96 rfl rfl
theorem w2_97 : (Jvm.Cond.laysFinal "HedgeNews" "HedgeNews" "tokens" "LHedgeNews$Tokens;") ∈ TB := tb_2 97 rfl rfl
theorem w2_98 : (Jvm.Cond.soleField "HedgeNews" "tokens") ∈ TB := tb_2 98 rfl rfl
theorem w2_99 : (Jvm.Cond.laysFinal "HedgeNews" "HedgeNews" "names" "LHedgeNews$NameCheck;") ∈ TB := tb_2 99 rfl rfl
theorem w2_100 : (Jvm.Cond.soleField "HedgeNews" "names") ∈ TB := tb_2 100 rfl rfl
theorem w2_101 : (Jvm.Cond.laysFinal "HedgeNews" "HedgeNews" "news" "LHedgeNews$News;") ∈ TB := tb_2 101 rfl rfl
theorem w2_102 : (Jvm.Cond.soleField "HedgeNews" "news") ∈ TB := tb_2 102 rfl rfl
theorem w2_103 : (Jvm.Cond.laysFinal "HedgeNews" "HedgeNews" "gardener" "LHedgeNews$Gardener;") ∈ TB := tb_2 103 rfl rfl
theorem w2_104 : (Jvm.Cond.soleField "HedgeNews" "gardener") ∈ TB := tb_2 104 rfl rfl
theorem w2_105 : (Jvm.Cond.laysFinal "HedgeNews" "HedgeNews" "garden" "LHedgeNews$Garden;") ∈ TB := tb_2 105 rfl rfl
theorem w2_106 : (Jvm.Cond.soleField "HedgeNews" "garden") ∈ TB := tb_2 106 rfl rfl
theorem w2_107 : (Jvm.Cond.laysFinal "HedgeNews" "HedgeNews" "trial" "LHedgeNews$Garden;") ∈ TB := tb_2 107 rfl rfl
theorem w2_108 : (Jvm.Cond.soleField "HedgeNews" "trial") ∈ TB := tb_2 108 rfl rfl
theorem w2_109 : (Jvm.Cond.lays "HedgeNews" "HedgeNews" "plan" "LHedgeNews$Plan;") ∈ TB := tb_2 109 rfl rfl
theorem w2_110 : (Jvm.Cond.soleField "HedgeNews" "plan") ∈ TB := tb_2 110 rfl rfl
theorem w2_111 : (Jvm.Cond.lays "HedgeNews" "HedgeNews" "sparePlan" "LHedgeNews$Plan;") ∈ TB := tb_2 111 rfl rfl
theorem w2_112 : (Jvm.Cond.soleField "HedgeNews" "sparePlan") ∈ TB := tb_2 112 rfl rfl
theorem w2_113 : (Jvm.Cond.laysFinal "HedgeNews" "HedgeNews" "parser" "LHedgeNews$Parser;") ∈ TB := tb_2 113 rfl rfl
theorem w2_114 : (Jvm.Cond.soleField "HedgeNews" "parser") ∈ TB := tb_2 114 rfl rfl
theorem w2_115 : (Jvm.Cond.lays "HedgeNews" "HedgeNews" "errorPosition" "I") ∈ TB := tb_2 115 rfl rfl
theorem w2_116 : (Jvm.Cond.soleField "HedgeNews" "errorPosition") ∈ TB := tb_2 116 rfl rfl
theorem w2_117 : (Jvm.Cond.superclass "HedgeNews" "java/lang/Object") ∈ TB := tb_2 117 rfl rfl
theorem w2_118 : (Jvm.Cond.methodLink "HedgeNewsLaw" (109 : Nat) ({ cls := "HedgeNews", name := "teach", desc := "()I" } : Jvm.MethodName)) ∈ TB := tb_2 118 rfl rfl
theorem w2_119 : (Jvm.Cond.instanceMethod ({ cls := "HedgeNews", name := "teach", desc := "()I" } : Jvm.MethodName)) ∈ TB := tb_2 119 rfl rfl
theorem w2_120 : (Jvm.Cond.selects "HedgeNews" ({ cls := "HedgeNews", name := "teach", desc := "()I" } : Jvm.MethodName) ({ cls := "HedgeNews", name := "teach", desc := "()I" } : Jvm.MethodName)) ∈ TB := tb_2 120 rfl rfl
theorem w2_121 : (Jvm.Cond.code ({ cls := "HedgeNews", name := "teach", desc := "()I" } : Jvm.MethodName) prog_1_method_4_code (2 : Nat) (Option.some Jvm.ClassFile.FieldType.int)) ∈ TB := tb_2 121 rfl rfl
theorem w2_122 : (Jvm.Cond.methodLink "HedgeNews" (98 : Nat) ({ cls := "HedgeNews$Tokens", name := "scan", desc := "(LHedgeNews$Tape;)V" } : Jvm.MethodName)) ∈ TB := tb_2 122 rfl rfl
theorem w2_123 : (Jvm.Cond.instanceMethod ({ cls := "HedgeNews$Tokens", name := "scan", desc := "(LHedgeNews$Tape;)V" } : Jvm.MethodName)) ∈ TB := tb_2 123 rfl rfl
theorem w2_124 : (Jvm.Cond.selects "HedgeNews$Tokens" ({ cls := "HedgeNews$Tokens", name := "scan", desc := "(LHedgeNews$Tape;)V" } : Jvm.MethodName) ({ cls := "HedgeNews$Tokens", name := "scan", desc := "(LHedgeNews$Tape;)V" } : Jvm.MethodName)) ∈ TB := tb_2 124 rfl rfl
theorem w2_125 : (Jvm.Cond.code ({ cls := "HedgeNews$Tokens", name := "scan", desc := "(LHedgeNews$Tape;)V" } : Jvm.MethodName) prog_13_method_2_code (4 : Nat) (Option.none : Option Jvm.ClassFile.FieldType)) ∈ TB := tb_2 125 rfl rfl
theorem w2_126 : (Jvm.Cond.methodLink "HedgeNews$Tokens" (36 : Nat) ({ cls := "HedgeNews$Tokens", name := "skipBlanks", desc := "(LHedgeNews$Tape;)V" } : Jvm.MethodName)) ∈ TB := tb_2 126 rfl rfl
theorem w2_127 : (Jvm.Cond.privateMethod ({ cls := "HedgeNews$Tokens", name := "skipBlanks", desc := "(LHedgeNews$Tape;)V" } : Jvm.MethodName)) ∈ lw_tbl := tz_2 127 rfl
theorem w2_128 : (Jvm.Cond.instanceMethod ({ cls := "HedgeNews$Tokens", name := "skipBlanks", desc := "(LHedgeNews$Tape;)V" } : Jvm.MethodName)) ∈ TB := tb_2 128 rfl rfl
theorem w2_129 : (Jvm.Cond.code ({ cls := "HedgeNews$Tokens", name := "skipBlanks", desc := "(LHedgeNews$Tape;)V" } : Jvm.MethodName) prog_13_method_3_code (2 : Nat) (Option.none : Option Jvm.ClassFile.FieldType)) ∈ TB := tb_2 129 rfl rfl
theorem w2_130 : (Jvm.Cond.methodLink "HedgeNews$Tokens" (62 : Nat) ({ cls := "HedgeNews$Tape", name := "at", desc := "(I)I" } : Jvm.MethodName)) ∈ TB := tb_2 130 rfl rfl
theorem w2_131 : (Jvm.Cond.instanceMethod ({ cls := "HedgeNews$Tape", name := "at", desc := "(I)I" } : Jvm.MethodName)) ∈ TB := tb_2 131 rfl rfl
theorem w2_132 : (Jvm.Cond.selects "HedgeNews$Tape" ({ cls := "HedgeNews$Tape", name := "at", desc := "(I)I" } : Jvm.MethodName) ({ cls := "HedgeNews$Tape", name := "at", desc := "(I)I" } : Jvm.MethodName)) ∈ TB := tb_2 132 rfl rfl
theorem w2_133 : (Jvm.Cond.code ({ cls := "HedgeNews$Tape", name := "at", desc := "(I)I" } : Jvm.MethodName) prog_12_method_3_code (2 : Nat) (Option.some Jvm.ClassFile.FieldType.int)) ∈ TB := tb_2 133 rfl rfl
theorem w2_134 : (Jvm.Cond.methodLink "HedgeNews$Tokens" (40 : Nat) ({ cls := "HedgeNews$Tokens", name := "next", desc := "(LHedgeNews$Tape;)LHedgeNews$Kind;" } : Jvm.MethodName)) ∈ TB := tb_2 134 rfl rfl
theorem w2_135 : (Jvm.Cond.privateMethod ({ cls := "HedgeNews$Tokens", name := "next", desc := "(LHedgeNews$Tape;)LHedgeNews$Kind;" } : Jvm.MethodName)) ∈ lw_tbl := tz_2 135 rfl
theorem w2_136 : (Jvm.Cond.instanceMethod ({ cls := "HedgeNews$Tokens", name := "next", desc := "(LHedgeNews$Tape;)LHedgeNews$Kind;" } : Jvm.MethodName)) ∈ TB := tb_2 136 rfl rfl
theorem w2_137 : (Jvm.Cond.code ({ cls := "HedgeNews$Tokens", name := "next", desc := "(LHedgeNews$Tape;)LHedgeNews$Kind;" } : Jvm.MethodName) prog_13_method_4_code (3 : Nat) (Option.some (Jvm.ClassFile.FieldType.object "HedgeNews$Kind"))) ∈ TB := tb_2 137 rfl rfl
theorem w2_138 : (Jvm.Cond.methodLink "HedgeNews$Tokens" (66 : Nat) ({ cls := "HedgeNews$Tokens", name := "isLetter", desc := "(I)Z" } : Jvm.MethodName)) ∈ TB := tb_2 138 rfl rfl
theorem w2_139 : (Jvm.Cond.static ({ cls := "HedgeNews$Tokens", name := "isLetter", desc := "(I)Z" } : Jvm.MethodName)) ∈ TB := tb_2 139 rfl rfl
theorem w2_140 : (Jvm.Cond.code ({ cls := "HedgeNews$Tokens", name := "isLetter", desc := "(I)Z" } : Jvm.MethodName) prog_13_method_9_code (1 : Nat) (Option.some Jvm.ClassFile.FieldType.boolean)) ∈ TB := tb_2 140 rfl rfl
theorem w2_141 : (Jvm.Cond.methodLink "HedgeNews$Tokens" (70 : Nat) ({ cls := "HedgeNews$Tokens", name := "word", desc := "(LHedgeNews$Tape;)LHedgeNews$Kind;" } : Jvm.MethodName)) ∈ TB := tb_2 141 rfl rfl
theorem w2_142 : (Jvm.Cond.privateMethod ({ cls := "HedgeNews$Tokens", name := "word", desc := "(LHedgeNews$Tape;)LHedgeNews$Kind;" } : Jvm.MethodName)) ∈ lw_tbl := tz_2 142 rfl
theorem w2_143 : (Jvm.Cond.instanceMethod ({ cls := "HedgeNews$Tokens", name := "word", desc := "(LHedgeNews$Tape;)LHedgeNews$Kind;" } : Jvm.MethodName)) ∈ TB := tb_2 143 rfl rfl
theorem w2_144 : (Jvm.Cond.code ({ cls := "HedgeNews$Tokens", name := "word", desc := "(LHedgeNews$Tape;)LHedgeNews$Kind;" } : Jvm.MethodName) prog_13_method_5_code (3 : Nat) (Option.some (Jvm.ClassFile.FieldType.object "HedgeNews$Kind"))) ∈ TB := tb_2 144 rfl rfl
theorem w2_145 : (Jvm.Cond.methodLink "HedgeNews$Tokens" (83 : Nat) ({ cls := "HedgeNews$Tokens", name := "isInWord", desc := "(I)Z" } : Jvm.MethodName)) ∈ TB := tb_2 145 rfl rfl
theorem w2_146 : (Jvm.Cond.static ({ cls := "HedgeNews$Tokens", name := "isInWord", desc := "(I)Z" } : Jvm.MethodName)) ∈ TB := tb_2 146 rfl rfl
theorem w2_147 : (Jvm.Cond.code ({ cls := "HedgeNews$Tokens", name := "isInWord", desc := "(I)Z" } : Jvm.MethodName) prog_13_method_11_code (1 : Nat) (Option.some Jvm.ClassFile.FieldType.boolean)) ∈ TB := tb_2 147 rfl rfl
theorem w2_148 : (Jvm.Cond.methodLink "HedgeNews$Tokens" (73 : Nat) ({ cls := "HedgeNews$Tokens", name := "isDigit", desc := "(I)Z" } : Jvm.MethodName)) ∈ TB := tb_2 148 rfl rfl
theorem w2_149 : (Jvm.Cond.static ({ cls := "HedgeNews$Tokens", name := "isDigit", desc := "(I)Z" } : Jvm.MethodName)) ∈ TB := tb_2 149 rfl rfl
theorem w2_150 : (Jvm.Cond.code ({ cls := "HedgeNews$Tokens", name := "isDigit", desc := "(I)Z" } : Jvm.MethodName) prog_13_method_10_code (1 : Nat) (Option.some Jvm.ClassFile.FieldType.boolean)) ∈ TB := tb_2 150 rfl rfl
theorem w2_151 : (Jvm.Cond.methodLink "HedgeNews$Tokens" (86 : Nat) ({ cls := "HedgeNews$Kind", name := "longerKey", desc := "(JI)J" } : Jvm.MethodName)) ∈ TB := tb_2 151 rfl rfl
theorem w2_152 : (Jvm.Cond.static ({ cls := "HedgeNews$Kind", name := "longerKey", desc := "(JI)J" } : Jvm.MethodName)) ∈ TB := tb_2 152 rfl rfl
theorem w2_153 : (Jvm.Cond.code ({ cls := "HedgeNews$Kind", name := "longerKey", desc := "(JI)J" } : Jvm.MethodName) prog_6_method_5_code (4 : Nat) (Option.some Jvm.ClassFile.FieldType.long)) ∈ TB := tb_2 153 rfl rfl
theorem w2_154 : (Jvm.Cond.fieldLink "HedgeNews$Tokens" (44 : Nat) "HedgeNews$Kind" "BAD" "LHedgeNews$Kind;") ∈ TB := tb_2 154 rfl rfl
theorem w2_155 : (Jvm.Cond.laysStatic "HedgeNews$Kind" "BAD" "LHedgeNews$Kind;") ∈ lw_tbl := tz_2 155 rfl
theorem w2_156 : (Jvm.Cond.methodLink "HedgeNews$Tokens" (90 : Nat) ({ cls := "HedgeNews$Kind", name := "ofWord", desc := "(J)LHedgeNews$Kind;" } : Jvm.MethodName)) ∈ TB := tb_2 156 rfl rfl
theorem w2_157 : (Jvm.Cond.static ({ cls := "HedgeNews$Kind", name := "ofWord", desc := "(J)LHedgeNews$Kind;" } : Jvm.MethodName)) ∈ TB := tb_2 157 rfl rfl
theorem w2_158 : (Jvm.Cond.code ({ cls := "HedgeNews$Kind", name := "ofWord", desc := "(J)LHedgeNews$Kind;" } : Jvm.MethodName) prog_6_method_6_code (3 : Nat) (Option.some (Jvm.ClassFile.FieldType.object "HedgeNews$Kind"))) ∈ TB := tb_2 158 rfl rfl
theorem w2_159 : (Jvm.Cond.fieldLink "HedgeNews$Kind" (173 : Nat) "HedgeNews$Kind" "ALL" "[LHedgeNews$Kind;") ∈ TB := tb_2 159 rfl rfl
theorem w2_160 : (Jvm.Cond.laysStatic "HedgeNews$Kind" "ALL" "[LHedgeNews$Kind;") ∈ lw_tbl := tz_2 160 rfl
theorem w2_161 : (Jvm.Cond.fieldLink "HedgeNews$Kind" (10 : Nat) "HedgeNews$Kind" "NAME" "LHedgeNews$Kind;") ∈ TB := tb_2 161 rfl rfl
theorem w2_162 : (Jvm.Cond.laysStatic "HedgeNews$Kind" "NAME" "LHedgeNews$Kind;") ∈ lw_tbl := tz_2 162 rfl
theorem w2_163 : (Jvm.Cond.methodLink "HedgeNews$Tokens" (76 : Nat) ({ cls := "HedgeNews$Tokens", name := "number", desc := "(LHedgeNews$Tape;)LHedgeNews$Kind;" } : Jvm.MethodName)) ∈ TB := tb_2 163 rfl rfl
theorem w2_164 : (Jvm.Cond.privateMethod ({ cls := "HedgeNews$Tokens", name := "number", desc := "(LHedgeNews$Tape;)LHedgeNews$Kind;" } : Jvm.MethodName)) ∈ lw_tbl := tz_2 164 rfl
theorem w2_165 : (Jvm.Cond.instanceMethod ({ cls := "HedgeNews$Tokens", name := "number", desc := "(LHedgeNews$Tape;)LHedgeNews$Kind;" } : Jvm.MethodName)) ∈ TB := tb_2 165 rfl rfl
theorem w2_166 : (Jvm.Cond.code ({ cls := "HedgeNews$Tokens", name := "number", desc := "(LHedgeNews$Tape;)LHedgeNews$Kind;" } : Jvm.MethodName) prog_13_method_6_code (3 : Nat) (Option.some (Jvm.ClassFile.FieldType.object "HedgeNews$Kind"))) ∈ TB := tb_2 166 rfl rfl
theorem w2_167 : (Jvm.Cond.fieldLink "HedgeNews$Tokens" (94 : Nat) "HedgeNews$Kind" "NUMBER" "LHedgeNews$Kind;") ∈ TB := tb_2 167 rfl rfl
theorem w2_168 : (Jvm.Cond.laysStatic "HedgeNews$Kind" "NUMBER" "LHedgeNews$Kind;") ∈ lw_tbl := tz_2 168 rfl
theorem w2_169 : (Jvm.Cond.methodLink "HedgeNews$Tokens" (79 : Nat) ({ cls := "HedgeNews$Tokens", name := "symbol", desc := "(ILHedgeNews$Tape;)LHedgeNews$Kind;" } : Jvm.MethodName)) ∈ TB := tb_2 169 rfl rfl
theorem w2_170 : (Jvm.Cond.privateMethod ({ cls := "HedgeNews$Tokens", name := "symbol", desc := "(ILHedgeNews$Tape;)LHedgeNews$Kind;" } : Jvm.MethodName)) ∈ lw_tbl := tz_2 170 rfl
theorem w2_171 : (Jvm.Cond.instanceMethod ({ cls := "HedgeNews$Tokens", name := "symbol", desc := "(ILHedgeNews$Tape;)LHedgeNews$Kind;" } : Jvm.MethodName)) ∈ TB := tb_2 171 rfl rfl
theorem w2_172 : (Jvm.Cond.code ({ cls := "HedgeNews$Tokens", name := "symbol", desc := "(ILHedgeNews$Tape;)LHedgeNews$Kind;" } : Jvm.MethodName) prog_13_method_7_code (3 : Nat) (Option.some (Jvm.ClassFile.FieldType.object "HedgeNews$Kind"))) ∈ TB := tb_2 172 rfl rfl
theorem w2_173 : (Jvm.Cond.fieldLink "HedgeNews$Tokens" (97 : Nat) "HedgeNews$Kind" "OPEN" "LHedgeNews$Kind;") ∈ TB := tb_2 173 rfl rfl
theorem w2_174 : (Jvm.Cond.laysStatic "HedgeNews$Kind" "OPEN" "LHedgeNews$Kind;") ∈ lw_tbl := tz_2 174 rfl
theorem w2_175 : (Jvm.Cond.fieldLink "HedgeNews$Tokens" (100 : Nat) "HedgeNews$Kind" "CLOSE" "LHedgeNews$Kind;") ∈ TB := tb_2 175 rfl rfl
theorem w2_176 : (Jvm.Cond.laysStatic "HedgeNews$Kind" "CLOSE" "LHedgeNews$Kind;") ∈ lw_tbl := tz_2 176 rfl
theorem w2_177 : (Jvm.Cond.fieldLink "HedgeNews$Tokens" (103 : Nat) "HedgeNews$Kind" "OPEN_TEST" "LHedgeNews$Kind;") ∈ TB := tb_2 177 rfl rfl
theorem w2_178 : (Jvm.Cond.laysStatic "HedgeNews$Kind" "OPEN_TEST" "LHedgeNews$Kind;") ∈ lw_tbl := tz_2 178 rfl
theorem w2_179 : (Jvm.Cond.fieldLink "HedgeNews$Tokens" (106 : Nat) "HedgeNews$Kind" "CLOSE_TEST" "LHedgeNews$Kind;") ∈ TB := tb_2 179 rfl rfl
theorem w2_180 : (Jvm.Cond.laysStatic "HedgeNews$Kind" "CLOSE_TEST" "LHedgeNews$Kind;") ∈ lw_tbl := tz_2 180 rfl
theorem w2_181 : (Jvm.Cond.fieldLink "HedgeNews$Tokens" (109 : Nat) "HedgeNews$Kind" "SEMICOLON" "LHedgeNews$Kind;") ∈ TB := tb_2 181 rfl rfl
theorem w2_182 : (Jvm.Cond.laysStatic "HedgeNews$Kind" "SEMICOLON" "LHedgeNews$Kind;") ∈ lw_tbl := tz_2 182 rfl
theorem w2_183 : (Jvm.Cond.fieldLink "HedgeNews$Tokens" (112 : Nat) "HedgeNews$Kind" "COMMA" "LHedgeNews$Kind;") ∈ TB := tb_2 183 rfl rfl
theorem w2_184 : (Jvm.Cond.laysStatic "HedgeNews$Kind" "COMMA" "LHedgeNews$Kind;") ∈ lw_tbl := tz_2 184 rfl
theorem w2_185 : (Jvm.Cond.fieldLink "HedgeNews$Tokens" (115 : Nat) "HedgeNews$Kind" "PLUS" "LHedgeNews$Kind;") ∈ TB := tb_2 185 rfl rfl
theorem w2_186 : (Jvm.Cond.laysStatic "HedgeNews$Kind" "PLUS" "LHedgeNews$Kind;") ∈ lw_tbl := tz_2 186 rfl
theorem w2_187 : (Jvm.Cond.fieldLink "HedgeNews$Tokens" (118 : Nat) "HedgeNews$Kind" "MINUS" "LHedgeNews$Kind;") ∈ TB := tb_2 187 rfl rfl
theorem w2_188 : (Jvm.Cond.laysStatic "HedgeNews$Kind" "MINUS" "LHedgeNews$Kind;") ∈ lw_tbl := tz_2 188 rfl
theorem w2_189 : (Jvm.Cond.fieldLink "HedgeNews$Tokens" (121 : Nat) "HedgeNews$Kind" "TIMES" "LHedgeNews$Kind;") ∈ TB := tb_2 189 rfl rfl
theorem w2_190 : (Jvm.Cond.laysStatic "HedgeNews$Kind" "TIMES" "LHedgeNews$Kind;") ∈ lw_tbl := tz_2 190 rfl
theorem w2_191 : (Jvm.Cond.fieldLink "HedgeNews$Tokens" (124 : Nat) "HedgeNews$Kind" "OVER" "LHedgeNews$Kind;") ∈ TB := tb_2 191 rfl rfl
theorem w2_192 : (Jvm.Cond.laysStatic "HedgeNews$Kind" "OVER" "LHedgeNews$Kind;") ∈ lw_tbl := tz_2 192 rfl
theorem w2_193 : (Jvm.Cond.fieldLink "HedgeNews$Tokens" (127 : Nat) "HedgeNews$Kind" "EQUAL" "LHedgeNews$Kind;") ∈ TB := tb_2 193 rfl rfl
theorem w2_194 : (Jvm.Cond.laysStatic "HedgeNews$Kind" "EQUAL" "LHedgeNews$Kind;") ∈ lw_tbl := tz_2 194 rfl
theorem w2_195 : (Jvm.Cond.methodLink "HedgeNews$Tokens" (130 : Nat) ({ cls := "HedgeNews$Tokens", name := "withEqual", desc := "(LHedgeNews$Tape;)Z" } : Jvm.MethodName)) ∈ TB := tb_2 195 rfl rfl
theorem w2_196 : (Jvm.Cond.privateMethod ({ cls := "HedgeNews$Tokens", name := "withEqual", desc := "(LHedgeNews$Tape;)Z" } : Jvm.MethodName)) ∈ lw_tbl := tz_2 196 rfl
theorem w2_197 : (Jvm.Cond.instanceMethod ({ cls := "HedgeNews$Tokens", name := "withEqual", desc := "(LHedgeNews$Tape;)Z" } : Jvm.MethodName)) ∈ TB := tb_2 197 rfl rfl
theorem w2_198 : (Jvm.Cond.code ({ cls := "HedgeNews$Tokens", name := "withEqual", desc := "(LHedgeNews$Tape;)Z" } : Jvm.MethodName) prog_13_method_8_code (2 : Nat) (Option.some Jvm.ClassFile.FieldType.boolean)) ∈ TB := tb_2 198 rfl rfl
theorem w2_199 : (Jvm.Cond.fieldLink "HedgeNews$Tokens" (134 : Nat) "HedgeNews$Kind" "AT_MOST" "LHedgeNews$Kind;") ∈ TB := tb_2 199 rfl rfl
theorem w2_200 : (Jvm.Cond.laysStatic "HedgeNews$Kind" "AT_MOST" "LHedgeNews$Kind;") ∈ lw_tbl := tz_2 200 rfl
theorem w2_201 : (Jvm.Cond.fieldLink "HedgeNews$Tokens" (137 : Nat) "HedgeNews$Kind" "LESS" "LHedgeNews$Kind;") ∈ TB := tb_2 201 rfl rfl
theorem w2_202 : (Jvm.Cond.laysStatic "HedgeNews$Kind" "LESS" "LHedgeNews$Kind;") ∈ lw_tbl := tz_2 202 rfl
theorem w2_203 : (Jvm.Cond.fieldLink "HedgeNews$Tokens" (140 : Nat) "HedgeNews$Kind" "AT_LEAST" "LHedgeNews$Kind;") ∈ TB := tb_2 203 rfl rfl
theorem w2_204 : (Jvm.Cond.laysStatic "HedgeNews$Kind" "AT_LEAST" "LHedgeNews$Kind;") ∈ lw_tbl := tz_2 204 rfl
theorem w2_205 : (Jvm.Cond.fieldLink "HedgeNews$Tokens" (143 : Nat) "HedgeNews$Kind" "GREATER" "LHedgeNews$Kind;") ∈ TB := tb_2 205 rfl rfl
theorem w2_206 : (Jvm.Cond.laysStatic "HedgeNews$Kind" "GREATER" "LHedgeNews$Kind;") ∈ lw_tbl := tz_2 206 rfl
theorem w2_207 : (Jvm.Cond.methodLink "HedgeNews" (102 : Nat) ({ cls := "HedgeNews$Plan", name := "clear", desc := "()V" } : Jvm.MethodName)) ∈ TB := tb_2 207 rfl rfl
theorem w2_208 : (Jvm.Cond.instanceMethod ({ cls := "HedgeNews$Plan", name := "clear", desc := "()V" } : Jvm.MethodName)) ∈ TB := tb_2 208 rfl rfl
theorem w2_209 : (Jvm.Cond.selects "HedgeNews$Plan" ({ cls := "HedgeNews$Plan", name := "clear", desc := "()V" } : Jvm.MethodName) ({ cls := "HedgeNews$Plan", name := "clear", desc := "()V" } : Jvm.MethodName)) ∈ TB := tb_2 209 rfl rfl
theorem w2_210 : (Jvm.Cond.code ({ cls := "HedgeNews$Plan", name := "clear", desc := "()V" } : Jvm.MethodName) prog_10_method_2_code (1 : Nat) (Option.none : Option Jvm.ClassFile.FieldType)) ∈ TB := tb_2 210 rfl rfl
theorem w2_211 : (Jvm.Cond.methodLink "HedgeNews" (105 : Nat) ({ cls := "HedgeNews$Parser", name := "readsInto", desc := "(LHedgeNews$Plan;)Z" } : Jvm.MethodName)) ∈ TB := tb_2 211 rfl rfl
theorem w2_212 : (Jvm.Cond.instanceMethod ({ cls := "HedgeNews$Parser", name := "readsInto", desc := "(LHedgeNews$Plan;)Z" } : Jvm.MethodName)) ∈ TB := tb_2 212 rfl rfl
theorem w2_213 : (Jvm.Cond.selects "HedgeNews$Parser" ({ cls := "HedgeNews$Parser", name := "readsInto", desc := "(LHedgeNews$Plan;)Z" } : Jvm.MethodName) ({ cls := "HedgeNews$Parser", name := "readsInto", desc := "(LHedgeNews$Plan;)Z" } : Jvm.MethodName)) ∈ TB := tb_2 213 rfl rfl
theorem w2_214 : (Jvm.Cond.code ({ cls := "HedgeNews$Parser", name := "readsInto", desc := "(LHedgeNews$Plan;)Z" } : Jvm.MethodName) prog_9_method_2_code (4 : Nat) (Option.some Jvm.ClassFile.FieldType.boolean)) ∈ TB := tb_2 214 rfl rfl
theorem w2_215 : (Jvm.Cond.methodLink "HedgeNews$Parser" (38 : Nat) ({ cls := "HedgeNews$Parser", name := "line", desc := "()Z" } : Jvm.MethodName)) ∈ TB := tb_2 215 rfl rfl
theorem w2_216 : (Jvm.Cond.privateMethod ({ cls := "HedgeNews$Parser", name := "line", desc := "()Z" } : Jvm.MethodName)) ∈ lw_tbl := tz_2 216 rfl
theorem w2_217 : (Jvm.Cond.instanceMethod ({ cls := "HedgeNews$Parser", name := "line", desc := "()Z" } : Jvm.MethodName)) ∈ TB := tb_2 217 rfl rfl
theorem w2_218 : (Jvm.Cond.code ({ cls := "HedgeNews$Parser", name := "line", desc := "()Z" } : Jvm.MethodName) prog_9_method_4_code (3 : Nat) (Option.some Jvm.ClassFile.FieldType.boolean)) ∈ TB := tb_2 218 rfl rfl
theorem w2_219 : (Jvm.Cond.fieldLink "HedgeNews$Parser" (49 : Nat) "HedgeNews$1" "$SwitchMap$HedgeNews$Kind" "[I") ∈ TB := tb_2 219 rfl rfl
theorem w2_220 : (Jvm.Cond.laysStatic "HedgeNews$1" "$SwitchMap$HedgeNews$Kind" "[I") ∈ lw_tbl := tz_2 220 rfl
theorem w2_221 : (Jvm.Cond.methodLink "HedgeNews$Parser" (55 : Nat) ({ cls := "HedgeNews$Kind", name := "ordinal", desc := "()I" } : Jvm.MethodName)) ∈ TB := tb_2 221 rfl rfl
theorem w2_222 : (Jvm.Cond.sameMethod "HedgeNews$Kind" "java/lang/Enum" "ordinal" "()I") ∈ TB := tb_2 222 rfl rfl
theorem w2_223 : (Jvm.Cond.declares ({ cls := "java/lang/Enum", name := "ordinal", desc := "()I" } : Jvm.MethodName)) ∈ lw_tbl := tz_2 223 rfl
theorem w2_224 : (Jvm.Cond.selects "HedgeNews$Kind" ({ cls := "HedgeNews$Kind", name := "ordinal", desc := "()I" } : Jvm.MethodName) ({ cls := "java/lang/Enum", name := "ordinal", desc := "()I" } : Jvm.MethodName)) ∈ TB := tb_2 224 rfl rfl
theorem w2_225 : (Jvm.Cond.instanceMethod ({ cls := "java/lang/Enum", name := "ordinal", desc := "()I" } : Jvm.MethodName)) ∈ TB := tb_2 225 rfl rfl
theorem w2_226 : (Jvm.Cond.code ({ cls := "java/lang/Enum", name := "ordinal", desc := "()I" } : Jvm.MethodName) prog_19_method_2_code (1 : Nat) (Option.some Jvm.ClassFile.FieldType.int)) ∈ TB := tb_2 226 rfl rfl
theorem w2_227 : (Jvm.Cond.methodLink "HedgeNews$Parser" (45 : Nat) ({ cls := "HedgeNews$Parser", name := "take", desc := "(LHedgeNews$Kind;)Z" } : Jvm.MethodName)) ∈ TB := tb_2 227 rfl rfl
theorem w2_228 : (Jvm.Cond.privateMethod ({ cls := "HedgeNews$Parser", name := "take", desc := "(LHedgeNews$Kind;)Z" } : Jvm.MethodName)) ∈ lw_tbl := tz_2 228 rfl
theorem w2_229 : (Jvm.Cond.instanceMethod ({ cls := "HedgeNews$Parser", name := "take", desc := "(LHedgeNews$Kind;)Z" } : Jvm.MethodName)) ∈ TB := tb_2 229 rfl rfl
theorem w2_230 : (Jvm.Cond.code ({ cls := "HedgeNews$Parser", name := "take", desc := "(LHedgeNews$Kind;)Z" } : Jvm.MethodName) prog_9_method_3_code (2 : Nat) (Option.some Jvm.ClassFile.FieldType.boolean)) ∈ TB := tb_2 230 rfl rfl
theorem w2_231 : (Jvm.Cond.fieldLink "HedgeNews$Parser" (59 : Nat) "HedgeNews$Kind" "NAME" "LHedgeNews$Kind;") ∈ TB := tb_2 231 rfl rfl
theorem w2_232 : (Jvm.Cond.fieldLink "HedgeNews$Parser" (62 : Nat) "HedgeNews$Kind" "HUSH" "LHedgeNews$Kind;") ∈ TB := tb_2 232 rfl rfl
theorem w2_233 : (Jvm.Cond.laysStatic "HedgeNews$Kind" "HUSH" "LHedgeNews$Kind;") ∈ lw_tbl := tz_2 233 rfl
theorem w2_234 : (Jvm.Cond.fieldLink "HedgeNews$Parser" (65 : Nat) "HedgeNews$Kind" "NUMBER" "LHedgeNews$Kind;") ∈ TB := tb_2 234 rfl rfl
theorem w2_235 : (Jvm.Cond.fieldLink "HedgeNews$Parser" (68 : Nat) "HedgeNews$Kind" "PATIENCE" "LHedgeNews$Kind;") ∈ TB := tb_2 235 rfl rfl
theorem w2_236 : (Jvm.Cond.laysStatic "HedgeNews$Kind" "PATIENCE" "LHedgeNews$Kind;") ∈ lw_tbl := tz_2 236 rfl
theorem w2_237 : (Jvm.Cond.methodLink "HedgeNews$Parser" (71 : Nat) ({ cls := "HedgeNews$Parser", name := "order", desc := "()Z" } : Jvm.MethodName)) ∈ TB := tb_2 237 rfl rfl
theorem w2_238 : (Jvm.Cond.privateMethod ({ cls := "HedgeNews$Parser", name := "order", desc := "()Z" } : Jvm.MethodName)) ∈ lw_tbl := tz_2 238 rfl
theorem w2_239 : (Jvm.Cond.instanceMethod ({ cls := "HedgeNews$Parser", name := "order", desc := "()Z" } : Jvm.MethodName)) ∈ TB := tb_2 239 rfl rfl
theorem w3_0 : (Jvm.Cond.code ({ cls := "HedgeNews$Parser", name := "order", desc := "()Z" } : Jvm.MethodName) prog_9_method_5_code (1 : Nat) (Option.some Jvm.ClassFile.FieldType.boolean)) ∈ TB := tb_3 0 rfl rfl
theorem w3_1 : (Jvm.Cond.fieldLink "HedgeNews$Parser" (90 : Nat) "HedgeNews$Kind" "TELL" "LHedgeNews$Kind;") ∈ TB := tb_3 1 rfl rfl
theorem w3_2 : (Jvm.Cond.laysStatic "HedgeNews$Kind" "TELL" "LHedgeNews$Kind;") ∈ lw_tbl := tz_3 2 rfl
theorem w3_3 : (Jvm.Cond.fieldLink "HedgeNews$Parser" (93 : Nat) "HedgeNews$Kind" "WITH" "LHedgeNews$Kind;") ∈ TB := tb_3 3 rfl rfl
theorem w3_4 : (Jvm.Cond.laysStatic "HedgeNews$Kind" "WITH" "LHedgeNews$Kind;") ∈ lw_tbl := tz_3 4 rfl
theorem w3_5 : (Jvm.Cond.methodLink "HedgeNews$Parser" (96 : Nat) ({ cls := "HedgeNews$Parser", name := "sum", desc := "(I)Z" } : Jvm.MethodName)) ∈ TB := tb_3 5 rfl rfl
theorem w3_6 : (Jvm.Cond.privateMethod ({ cls := "HedgeNews$Parser", name := "sum", desc := "(I)Z" } : Jvm.MethodName)) ∈ lw_tbl := tz_3 6 rfl
theorem w3_7 : (Jvm.Cond.instanceMethod ({ cls := "HedgeNews$Parser", name := "sum", desc := "(I)Z" } : Jvm.MethodName)) ∈ TB := tb_3 7 rfl rfl
theorem w3_8 : (Jvm.Cond.code ({ cls := "HedgeNews$Parser", name := "sum", desc := "(I)Z" } : Jvm.MethodName) prog_9_method_8_code (6 : Nat) (Option.some Jvm.ClassFile.FieldType.boolean)) ∈ TB := tb_3 8 rfl rfl
theorem w3_9 : (Jvm.Cond.methodLink "HedgeNews$Parser" (129 : Nat) ({ cls := "HedgeNews$Parser", name := "value", desc := "(I)Z" } : Jvm.MethodName)) ∈ TB := tb_3 9 rfl rfl
theorem w3_10 : (Jvm.Cond.privateMethod ({ cls := "HedgeNews$Parser", name := "value", desc := "(I)Z" } : Jvm.MethodName)) ∈ lw_tbl := tz_3 10 rfl
theorem w3_11 : (Jvm.Cond.instanceMethod ({ cls := "HedgeNews$Parser", name := "value", desc := "(I)Z" } : Jvm.MethodName)) ∈ TB := tb_3 11 rfl rfl
theorem w3_12 : (Jvm.Cond.code ({ cls := "HedgeNews$Parser", name := "value", desc := "(I)Z" } : Jvm.MethodName) prog_9_method_9_code (4 : Nat) (Option.some Jvm.ClassFile.FieldType.boolean)) ∈ TB := tb_3 12 rfl rfl
theorem w3_13 : (Jvm.Cond.methodLink "HedgeNews$Parser" (84 : Nat) ({ cls := "HedgeNews$Plan", name := "add", desc := "(LHedgeNews$Kind;II)Z" } : Jvm.MethodName)) ∈ TB := tb_3 13 rfl rfl
theorem w3_14 : (Jvm.Cond.instanceMethod ({ cls := "HedgeNews$Plan", name := "add", desc := "(LHedgeNews$Kind;II)Z" } : Jvm.MethodName)) ∈ TB := tb_3 14 rfl rfl
theorem w3_15 : (Jvm.Cond.selects "HedgeNews$Plan" ({ cls := "HedgeNews$Plan", name := "add", desc := "(LHedgeNews$Kind;II)Z" } : Jvm.MethodName) ({ cls := "HedgeNews$Plan", name := "add", desc := "(LHedgeNews$Kind;II)Z" } : Jvm.MethodName)) ∈ TB := tb_3 15 rfl rfl
theorem w3_16 : (Jvm.Cond.code ({ cls := "HedgeNews$Plan", name := "add", desc := "(LHedgeNews$Kind;II)Z" } : Jvm.MethodName) prog_10_method_5_code (4 : Nat) (Option.some Jvm.ClassFile.FieldType.boolean)) ∈ TB := tb_3 16 rfl rfl
theorem w3_17 : (Jvm.Cond.fieldLink "HedgeNews$Parser" (123 : Nat) "HedgeNews$Kind" "OF" "LHedgeNews$Kind;") ∈ TB := tb_3 17 rfl rfl
theorem w3_18 : (Jvm.Cond.laysStatic "HedgeNews$Kind" "OF" "LHedgeNews$Kind;") ∈ lw_tbl := tz_3 18 rfl
theorem w3_19 : (Jvm.Cond.fieldLink "HedgeNews$Parser" (138 : Nat) "HedgeNews$Kind" "TURN" "LHedgeNews$Kind;") ∈ TB := tb_3 19 rfl rfl
theorem w3_20 : (Jvm.Cond.laysStatic "HedgeNews$Kind" "TURN" "LHedgeNews$Kind;") ∈ lw_tbl := tz_3 20 rfl
theorem w3_21 : (Jvm.Cond.fieldLink "HedgeNews$Parser" (141 : Nat) "HedgeNews$Kind" "CLOSE" "LHedgeNews$Kind;") ∈ TB := tb_3 21 rfl rfl
theorem w3_22 : (Jvm.Cond.fieldLink "HedgeNews$Parser" (144 : Nat) "HedgeNews$Kind" "OPEN" "LHedgeNews$Kind;") ∈ TB := tb_3 22 rfl rfl
theorem w3_23 : (Jvm.Cond.fieldLink "HedgeNews$Parser" (147 : Nat) "HedgeNews$Kind" "COMMA" "LHedgeNews$Kind;") ∈ TB := tb_3 23 rfl rfl
theorem w3_24 : (Jvm.Cond.methodLink "HedgeNews$Parser" (132 : Nat) ({ cls := "HedgeNews$Kind", name := "addsUp", desc := "()Z" } : Jvm.MethodName)) ∈ TB := tb_3 24 rfl rfl
theorem w3_25 : (Jvm.Cond.instanceMethod ({ cls := "HedgeNews$Kind", name := "addsUp", desc := "()Z" } : Jvm.MethodName)) ∈ TB := tb_3 25 rfl rfl
theorem w3_26 : (Jvm.Cond.selects "HedgeNews$Kind" ({ cls := "HedgeNews$Kind", name := "addsUp", desc := "()Z" } : Jvm.MethodName) ({ cls := "HedgeNews$Kind", name := "addsUp", desc := "()Z" } : Jvm.MethodName)) ∈ TB := tb_3 26 rfl rfl
theorem w3_27 : (Jvm.Cond.code ({ cls := "HedgeNews$Kind", name := "addsUp", desc := "()Z" } : Jvm.MethodName) prog_6_method_9_code (1 : Nat) (Option.some Jvm.ClassFile.FieldType.boolean)) ∈ TB := tb_3 27 rfl rfl
theorem w3_28 : (Jvm.Cond.fieldLink "HedgeNews$Kind" (109 : Nat) "HedgeNews$Kind" "PLUS" "LHedgeNews$Kind;") ∈ TB := tb_3 28 rfl rfl
theorem w3_29 : (Jvm.Cond.fieldLink "HedgeNews$Kind" (112 : Nat) "HedgeNews$Kind" "MINUS" "LHedgeNews$Kind;") ∈ TB := tb_3 29 rfl rfl
theorem w3_30 : (Jvm.Cond.methodLink "HedgeNews$Parser" (135 : Nat) ({ cls := "HedgeNews$Kind", name := "multiplies", desc := "()Z" } : Jvm.MethodName)) ∈ TB := tb_3 30 rfl rfl
theorem w3_31 : (Jvm.Cond.instanceMethod ({ cls := "HedgeNews$Kind", name := "multiplies", desc := "()Z" } : Jvm.MethodName)) ∈ TB := tb_3 31 rfl rfl
theorem w3_32 : (Jvm.Cond.selects "HedgeNews$Kind" ({ cls := "HedgeNews$Kind", name := "multiplies", desc := "()Z" } : Jvm.MethodName) ({ cls := "HedgeNews$Kind", name := "multiplies", desc := "()Z" } : Jvm.MethodName)) ∈ TB := tb_3 32 rfl rfl
theorem w3_33 : (Jvm.Cond.code ({ cls := "HedgeNews$Kind", name := "multiplies", desc := "()Z" } : Jvm.MethodName) prog_6_method_10_code (1 : Nat) (Option.some Jvm.ClassFile.FieldType.boolean)) ∈ TB := tb_3 33 rfl rfl
theorem w3_34 : (Jvm.Cond.fieldLink "HedgeNews$Kind" (115 : Nat) "HedgeNews$Kind" "TIMES" "LHedgeNews$Kind;") ∈ TB := tb_3 34 rfl rfl
theorem w3_35 : (Jvm.Cond.fieldLink "HedgeNews$Kind" (118 : Nat) "HedgeNews$Kind" "OVER" "LHedgeNews$Kind;") ∈ TB := tb_3 35 rfl rfl
theorem w3_36 : (Jvm.Cond.fieldLink "HedgeNews$Parser" (99 : Nat) "HedgeNews$Kind" "TO" "LHedgeNews$Kind;") ∈ TB := tb_3 36 rfl rfl
theorem w3_37 : (Jvm.Cond.laysStatic "HedgeNews$Kind" "TO" "LHedgeNews$Kind;") ∈ lw_tbl := tz_3 37 rfl
theorem w3_38 : (Jvm.Cond.fieldLink "HedgeNews$Parser" (74 : Nat) "HedgeNews$Kind" "WHEN" "LHedgeNews$Kind;") ∈ TB := tb_3 38 rfl rfl
theorem w3_39 : (Jvm.Cond.laysStatic "HedgeNews$Kind" "WHEN" "LHedgeNews$Kind;") ∈ lw_tbl := tz_3 39 rfl
theorem w3_40 : (Jvm.Cond.methodLink "HedgeNews$Parser" (77 : Nat) ({ cls := "HedgeNews$Parser", name := "test", desc := "(I)Z" } : Jvm.MethodName)) ∈ TB := tb_3 40 rfl rfl
theorem w3_41 : (Jvm.Cond.privateMethod ({ cls := "HedgeNews$Parser", name := "test", desc := "(I)Z" } : Jvm.MethodName)) ∈ lw_tbl := tz_3 41 rfl
theorem w3_42 : (Jvm.Cond.instanceMethod ({ cls := "HedgeNews$Parser", name := "test", desc := "(I)Z" } : Jvm.MethodName)) ∈ TB := tb_3 42 rfl rfl
theorem w3_43 : (Jvm.Cond.code ({ cls := "HedgeNews$Parser", name := "test", desc := "(I)Z" } : Jvm.MethodName) prog_9_method_6_code (5 : Nat) (Option.some Jvm.ClassFile.FieldType.boolean)) ∈ TB := tb_3 43 rfl rfl
theorem w3_44 : (Jvm.Cond.methodLink "HedgeNews$Parser" (102 : Nat) ({ cls := "HedgeNews$Parser", name := "single", desc := "(I)Z" } : Jvm.MethodName)) ∈ TB := tb_3 44 rfl rfl
theorem w3_45 : (Jvm.Cond.privateMethod ({ cls := "HedgeNews$Parser", name := "single", desc := "(I)Z" } : Jvm.MethodName)) ∈ lw_tbl := tz_3 45 rfl
theorem w3_46 : (Jvm.Cond.instanceMethod ({ cls := "HedgeNews$Parser", name := "single", desc := "(I)Z" } : Jvm.MethodName)) ∈ TB := tb_3 46 rfl rfl
theorem w3_47 : (Jvm.Cond.code ({ cls := "HedgeNews$Parser", name := "single", desc := "(I)Z" } : Jvm.MethodName) prog_9_method_7_code (5 : Nat) (Option.some Jvm.ClassFile.FieldType.boolean)) ∈ TB := tb_3 47 rfl rfl
theorem w3_48 : (Jvm.Cond.fieldLink "HedgeNews$Parser" (111 : Nat) "HedgeNews$Kind" "NOT" "LHedgeNews$Kind;") ∈ TB := tb_3 48 rfl rfl
theorem w3_49 : (Jvm.Cond.laysStatic "HedgeNews$Kind" "NOT" "LHedgeNews$Kind;") ∈ lw_tbl := tz_3 49 rfl
theorem w3_50 : (Jvm.Cond.fieldLink "HedgeNews$Parser" (114 : Nat) "HedgeNews$Kind" "OPEN_TEST" "LHedgeNews$Kind;") ∈ TB := tb_3 50 rfl rfl
theorem w3_51 : (Jvm.Cond.fieldLink "HedgeNews$Parser" (117 : Nat) "HedgeNews$Kind" "CLOSE_TEST" "LHedgeNews$Kind;") ∈ TB := tb_3 51 rfl rfl
theorem w3_52 : (Jvm.Cond.fieldLink "HedgeNews$Parser" (120 : Nat) "HedgeNews$Kind" "HEARS" "LHedgeNews$Kind;") ∈ TB := tb_3 52 rfl rfl
theorem w3_53 : (Jvm.Cond.laysStatic "HedgeNews$Kind" "HEARS" "LHedgeNews$Kind;") ∈ lw_tbl := tz_3 53 rfl
theorem w3_54 : (Jvm.Cond.methodLink "HedgeNews$Parser" (126 : Nat) ({ cls := "HedgeNews$Kind", name := "isComparison", desc := "()Z" } : Jvm.MethodName)) ∈ TB := tb_3 54 rfl rfl
theorem w3_55 : (Jvm.Cond.instanceMethod ({ cls := "HedgeNews$Kind", name := "isComparison", desc := "()Z" } : Jvm.MethodName)) ∈ TB := tb_3 55 rfl rfl
theorem w3_56 : (Jvm.Cond.selects "HedgeNews$Kind" ({ cls := "HedgeNews$Kind", name := "isComparison", desc := "()Z" } : Jvm.MethodName) ({ cls := "HedgeNews$Kind", name := "isComparison", desc := "()Z" } : Jvm.MethodName)) ∈ TB := tb_3 56 rfl rfl
theorem w3_57 : (Jvm.Cond.code ({ cls := "HedgeNews$Kind", name := "isComparison", desc := "()Z" } : Jvm.MethodName) prog_6_method_8_code (1 : Nat) (Option.some Jvm.ClassFile.FieldType.boolean)) ∈ TB := tb_3 57 rfl rfl
theorem w3_58 : (Jvm.Cond.fieldLink "HedgeNews$Kind" (121 : Nat) "HedgeNews$Kind" "LESS" "LHedgeNews$Kind;") ∈ TB := tb_3 58 rfl rfl
theorem w3_59 : (Jvm.Cond.fieldLink "HedgeNews$Kind" (124 : Nat) "HedgeNews$Kind" "GREATER" "LHedgeNews$Kind;") ∈ TB := tb_3 59 rfl rfl
theorem w3_60 : (Jvm.Cond.fieldLink "HedgeNews$Kind" (127 : Nat) "HedgeNews$Kind" "EQUAL" "LHedgeNews$Kind;") ∈ TB := tb_3 60 rfl rfl
theorem w3_61 : (Jvm.Cond.fieldLink "HedgeNews$Kind" (130 : Nat) "HedgeNews$Kind" "AT_MOST" "LHedgeNews$Kind;") ∈ TB := tb_3 61 rfl rfl
theorem w3_62 : (Jvm.Cond.fieldLink "HedgeNews$Kind" (133 : Nat) "HedgeNews$Kind" "AT_LEAST" "LHedgeNews$Kind;") ∈ TB := tb_3 62 rfl rfl
theorem w3_63 : (Jvm.Cond.fieldLink "HedgeNews$Parser" (105 : Nat) "HedgeNews$Kind" "AND" "LHedgeNews$Kind;") ∈ TB := tb_3 63 rfl rfl
theorem w3_64 : (Jvm.Cond.laysStatic "HedgeNews$Kind" "AND" "LHedgeNews$Kind;") ∈ lw_tbl := tz_3 64 rfl
theorem w3_65 : (Jvm.Cond.fieldLink "HedgeNews$Parser" (108 : Nat) "HedgeNews$Kind" "OR" "LHedgeNews$Kind;") ∈ TB := tb_3 65 rfl rfl
theorem w3_66 : (Jvm.Cond.laysStatic "HedgeNews$Kind" "OR" "LHedgeNews$Kind;") ∈ lw_tbl := tz_3 66 rfl
theorem w3_67 : (Jvm.Cond.fieldLink "HedgeNews$Parser" (81 : Nat) "HedgeNews$Kind" "EVER" "LHedgeNews$Kind;") ∈ TB := tb_3 67 rfl rfl
theorem w3_68 : (Jvm.Cond.laysStatic "HedgeNews$Kind" "EVER" "LHedgeNews$Kind;") ∈ lw_tbl := tz_3 68 rfl
theorem w3_69 : (Jvm.Cond.fieldLink "HedgeNews$Parser" (42 : Nat) "HedgeNews$Kind" "SEMICOLON" "LHedgeNews$Kind;") ∈ TB := tb_3 69 rfl rfl
theorem w3_70 : (Jvm.Cond.methodLink "HedgeNews" (112 : Nat) ({ cls := "HedgeNews$Tokens", name := "start", desc := "(I)I" } : Jvm.MethodName)) ∈ TB := tb_3 70 rfl rfl
theorem w3_71 : (Jvm.Cond.instanceMethod ({ cls := "HedgeNews$Tokens", name := "start", desc := "(I)I" } : Jvm.MethodName)) ∈ TB := tb_3 71 rfl rfl
theorem w3_72 : (Jvm.Cond.selects "HedgeNews$Tokens" ({ cls := "HedgeNews$Tokens", name := "start", desc := "(I)I" } : Jvm.MethodName) ({ cls := "HedgeNews$Tokens", name := "start", desc := "(I)I" } : Jvm.MethodName)) ∈ TB := tb_3 72 rfl rfl
theorem w3_73 : (Jvm.Cond.code ({ cls := "HedgeNews$Tokens", name := "start", desc := "(I)I" } : Jvm.MethodName) prog_13_method_14_code (2 : Nat) (Option.some Jvm.ClassFile.FieldType.int)) ∈ TB := tb_3 73 rfl rfl
theorem w3_74 : (Jvm.Cond.methodLink "HedgeNews$Tokens" (146 : Nat) ({ cls := "HedgeNews$Tokens", name := "has", desc := "(I)Z" } : Jvm.MethodName)) ∈ TB := tb_3 74 rfl rfl
theorem w3_75 : (Jvm.Cond.privateMethod ({ cls := "HedgeNews$Tokens", name := "has", desc := "(I)Z" } : Jvm.MethodName)) ∈ lw_tbl := tz_3 75 rfl
theorem w3_76 : (Jvm.Cond.instanceMethod ({ cls := "HedgeNews$Tokens", name := "has", desc := "(I)Z" } : Jvm.MethodName)) ∈ TB := tb_3 76 rfl rfl
theorem w3_77 : (Jvm.Cond.code ({ cls := "HedgeNews$Tokens", name := "has", desc := "(I)Z" } : Jvm.MethodName) prog_13_method_12_code (2 : Nat) (Option.some Jvm.ClassFile.FieldType.boolean)) ∈ TB := tb_3 77 rfl rfl
theorem w3_78 : (Jvm.Cond.methodLink "HedgeNews" (116 : Nat) ({ cls := "HedgeNews$NameCheck", name := "check", desc := "(LHedgeNews$Tokens;LHedgeNews$Plan;)I" } : Jvm.MethodName)) ∈ TB := tb_3 78 rfl rfl
theorem w3_79 : (Jvm.Cond.instanceMethod ({ cls := "HedgeNews$NameCheck", name := "check", desc := "(LHedgeNews$Tokens;LHedgeNews$Plan;)I" } : Jvm.MethodName)) ∈ TB := tb_3 79 rfl rfl
theorem w3_80 : (Jvm.Cond.selects "HedgeNews$NameCheck" ({ cls := "HedgeNews$NameCheck", name := "check", desc := "(LHedgeNews$Tokens;LHedgeNews$Plan;)I" } : Jvm.MethodName) ({ cls := "HedgeNews$NameCheck", name := "check", desc := "(LHedgeNews$Tokens;LHedgeNews$Plan;)I" } : Jvm.MethodName)) ∈ TB := tb_3 80 rfl rfl
theorem w3_81 : (Jvm.Cond.code ({ cls := "HedgeNews$NameCheck", name := "check", desc := "(LHedgeNews$Tokens;LHedgeNews$Plan;)I" } : Jvm.MethodName) prog_7_method_2_code (5 : Nat) (Option.some Jvm.ClassFile.FieldType.int)) ∈ TB := tb_3 81 rfl rfl
theorem w3_82 : (Jvm.Cond.methodLink "HedgeNews$NameCheck" (19 : Nat) ({ cls := "HedgeNews$Tokens", name := "kind", desc := "(I)LHedgeNews$Kind;" } : Jvm.MethodName)) ∈ TB := tb_3 82 rfl rfl
theorem w3_83 : (Jvm.Cond.instanceMethod ({ cls := "HedgeNews$Tokens", name := "kind", desc := "(I)LHedgeNews$Kind;" } : Jvm.MethodName)) ∈ TB := tb_3 83 rfl rfl
theorem w3_84 : (Jvm.Cond.selects "HedgeNews$Tokens" ({ cls := "HedgeNews$Tokens", name := "kind", desc := "(I)LHedgeNews$Kind;" } : Jvm.MethodName) ({ cls := "HedgeNews$Tokens", name := "kind", desc := "(I)LHedgeNews$Kind;" } : Jvm.MethodName)) ∈ TB := tb_3 84 rfl rfl
theorem w3_85 : (Jvm.Cond.code ({ cls := "HedgeNews$Tokens", name := "kind", desc := "(I)LHedgeNews$Kind;" } : Jvm.MethodName) prog_13_method_13_code (2 : Nat) (Option.some (Jvm.ClassFile.FieldType.object "HedgeNews$Kind"))) ∈ TB := tb_3 85 rfl rfl
theorem w3_86 : (Jvm.Cond.fieldLink "HedgeNews$NameCheck" (25 : Nat) "HedgeNews$Kind" "END" "LHedgeNews$Kind;") ∈ TB := tb_3 86 rfl rfl
theorem w3_87 : (Jvm.Cond.methodLink "HedgeNews$NameCheck" (31 : Nat) ({ cls := "HedgeNews$NameCheck", name := "errorOf", desc := "(LHedgeNews$Tokens;ILHedgeNews$Plan;)I" } : Jvm.MethodName)) ∈ TB := tb_3 87 rfl rfl
theorem w3_88 : (Jvm.Cond.privateMethod ({ cls := "HedgeNews$NameCheck", name := "errorOf", desc := "(LHedgeNews$Tokens;ILHedgeNews$Plan;)I" } : Jvm.MethodName)) ∈ lw_tbl := tz_3 88 rfl
theorem w3_89 : (Jvm.Cond.instanceMethod ({ cls := "HedgeNews$NameCheck", name := "errorOf", desc := "(LHedgeNews$Tokens;ILHedgeNews$Plan;)I" } : Jvm.MethodName)) ∈ TB := tb_3 89 rfl rfl
theorem w3_90 : (Jvm.Cond.code ({ cls := "HedgeNews$NameCheck", name := "errorOf", desc := "(LHedgeNews$Tokens;ILHedgeNews$Plan;)I" } : Jvm.MethodName) prog_7_method_3_code (6 : Nat) (Option.some Jvm.ClassFile.FieldType.int)) ∈ TB := tb_3 90 rfl rfl
theorem w3_91 : (Jvm.Cond.methodLink "HedgeNews$NameCheck" (38 : Nat) ({ cls := "HedgeNews$Kind", name := "isOrder", desc := "()Z" } : Jvm.MethodName)) ∈ TB := tb_3 91 rfl rfl
theorem w3_92 : (Jvm.Cond.instanceMethod ({ cls := "HedgeNews$Kind", name := "isOrder", desc := "()Z" } : Jvm.MethodName)) ∈ TB := tb_3 92 rfl rfl
theorem w3_93 : (Jvm.Cond.selects "HedgeNews$Kind" ({ cls := "HedgeNews$Kind", name := "isOrder", desc := "()Z" } : Jvm.MethodName) ({ cls := "HedgeNews$Kind", name := "isOrder", desc := "()Z" } : Jvm.MethodName)) ∈ TB := tb_3 93 rfl rfl
theorem w3_94 : (Jvm.Cond.code ({ cls := "HedgeNews$Kind", name := "isOrder", desc := "()Z" } : Jvm.MethodName) prog_6_method_7_code (1 : Nat) (Option.some Jvm.ClassFile.FieldType.boolean)) ∈ TB := tb_3 94 rfl rfl
theorem w3_95 : (Jvm.Cond.fieldLink "HedgeNews$Kind" (34 : Nat) "HedgeNews$Kind" "LISTEN" "LHedgeNews$Kind;") ∈ TB := tb_3 95 rfl rfl
theorem w3_96 : (Jvm.Cond.laysStatic "HedgeNews$Kind" "LISTEN" "LHedgeNews$Kind;") ∈ lw_tbl := tz_3 96 rfl
theorem w3_97 : (Jvm.Cond.fieldLink "HedgeNews$Kind" (37 : Nat) "HedgeNews$Kind" "LEAVE" "LHedgeNews$Kind;") ∈ TB := tb_3 97 rfl rfl
theorem w3_98 : (Jvm.Cond.laysStatic "HedgeNews$Kind" "LEAVE" "LHedgeNews$Kind;") ∈ lw_tbl := tz_3 98 rfl
theorem w3_99 : (Jvm.Cond.fieldLink "HedgeNews$Kind" (43 : Nat) "HedgeNews$Kind" "TELL" "LHedgeNews$Kind;") ∈ TB := tb_3 99 rfl rfl
theorem w3_100 : (Jvm.Cond.fieldLink "HedgeNews$NameCheck" (42 : Nat) "HedgeNews$Kind" "NUMBER" "LHedgeNews$Kind;") ∈ TB := tb_3 100 rfl rfl
theorem w3_101 : (Jvm.Cond.methodLink "HedgeNews$NameCheck" (45 : Nat) ({ cls := "HedgeNews$Tokens", name := "meaning", desc := "(I)I" } : Jvm.MethodName)) ∈ TB := tb_3 101 rfl rfl
theorem w3_102 : (Jvm.Cond.instanceMethod ({ cls := "HedgeNews$Tokens", name := "meaning", desc := "(I)I" } : Jvm.MethodName)) ∈ TB := tb_3 102 rfl rfl
theorem w3_103 : (Jvm.Cond.selects "HedgeNews$Tokens" ({ cls := "HedgeNews$Tokens", name := "meaning", desc := "(I)I" } : Jvm.MethodName) ({ cls := "HedgeNews$Tokens", name := "meaning", desc := "(I)I" } : Jvm.MethodName)) ∈ TB := tb_3 103 rfl rfl
theorem w3_104 : (Jvm.Cond.code ({ cls := "HedgeNews$Tokens", name := "meaning", desc := "(I)I" } : Jvm.MethodName) prog_13_method_16_code (2 : Nat) (Option.some Jvm.ClassFile.FieldType.int)) ∈ TB := tb_3 104 rfl rfl
theorem w3_105 : (Jvm.Cond.methodLink "HedgeNews$NameCheck" (49 : Nat) ({ cls := "HedgeNews$NameCheck", name := "errorOfNumber", desc := "(ILHedgeNews$Kind;LHedgeNews$Plan;)I" } : Jvm.MethodName)) ∈ TB := tb_3 105 rfl rfl
theorem w3_106 : (Jvm.Cond.privateMethod ({ cls := "HedgeNews$NameCheck", name := "errorOfNumber", desc := "(ILHedgeNews$Kind;LHedgeNews$Plan;)I" } : Jvm.MethodName)) ∈ lw_tbl := tz_3 106 rfl
theorem w3_107 : (Jvm.Cond.instanceMethod ({ cls := "HedgeNews$NameCheck", name := "errorOfNumber", desc := "(ILHedgeNews$Kind;LHedgeNews$Plan;)I" } : Jvm.MethodName)) ∈ TB := tb_3 107 rfl rfl
theorem w3_108 : (Jvm.Cond.code ({ cls := "HedgeNews$NameCheck", name := "errorOfNumber", desc := "(ILHedgeNews$Kind;LHedgeNews$Plan;)I" } : Jvm.MethodName) prog_7_method_4_code (4 : Nat) (Option.some Jvm.ClassFile.FieldType.int)) ∈ TB := tb_3 108 rfl rfl
theorem w3_109 : (Jvm.Cond.fieldLink "HedgeNews$NameCheck" (73 : Nat) "HedgeNews$Kind" "HUSH" "LHedgeNews$Kind;") ∈ TB := tb_3 109 rfl rfl
theorem w3_110 : (Jvm.Cond.fieldLink "HedgeNews$NameCheck" (76 : Nat) "HedgeNews$Kind" "PATIENCE" "LHedgeNews$Kind;") ∈ TB := tb_3 110 rfl rfl
theorem w3_111 : (Jvm.Cond.methodLink "HedgeNews$NameCheck" (79 : Nat) ({ cls := "HedgeNews$Plan", name := "addHedge", desc := "(I)V" } : Jvm.MethodName)) ∈ TB := tb_3 111 rfl rfl
theorem w3_112 : (Jvm.Cond.instanceMethod ({ cls := "HedgeNews$Plan", name := "addHedge", desc := "(I)V" } : Jvm.MethodName)) ∈ TB := tb_3 112 rfl rfl
theorem w3_113 : (Jvm.Cond.selects "HedgeNews$Plan" ({ cls := "HedgeNews$Plan", name := "addHedge", desc := "(I)V" } : Jvm.MethodName) ({ cls := "HedgeNews$Plan", name := "addHedge", desc := "(I)V" } : Jvm.MethodName)) ∈ TB := tb_3 113 rfl rfl
theorem w3_114 : (Jvm.Cond.code ({ cls := "HedgeNews$Plan", name := "addHedge", desc := "(I)V" } : Jvm.MethodName) prog_10_method_3_code (2 : Nat) (Option.none : Option Jvm.ClassFile.FieldType)) ∈ TB := tb_3 114 rfl rfl
theorem w3_115 : (Jvm.Cond.methodLink "HedgeNews$NameCheck" (85 : Nat) ({ cls := "HedgeNews$Plan", name := "addRose", desc := "(I)V" } : Jvm.MethodName)) ∈ TB := tb_3 115 rfl rfl
theorem w3_116 : (Jvm.Cond.instanceMethod ({ cls := "HedgeNews$Plan", name := "addRose", desc := "(I)V" } : Jvm.MethodName)) ∈ TB := tb_3 116 rfl rfl
theorem w3_117 : (Jvm.Cond.selects "HedgeNews$Plan" ({ cls := "HedgeNews$Plan", name := "addRose", desc := "(I)V" } : Jvm.MethodName) ({ cls := "HedgeNews$Plan", name := "addRose", desc := "(I)V" } : Jvm.MethodName)) ∈ TB := tb_3 117 rfl rfl
theorem w3_118 : (Jvm.Cond.code ({ cls := "HedgeNews$Plan", name := "addRose", desc := "(I)V" } : Jvm.MethodName) prog_10_method_4_code (2 : Nat) (Option.none : Option Jvm.ClassFile.FieldType)) ∈ TB := tb_3 118 rfl rfl
theorem w3_119 : (Jvm.Cond.fieldLink "HedgeNews$NameCheck" (53 : Nat) "HedgeNews$Kind" "NAME" "LHedgeNews$Kind;") ∈ TB := tb_3 119 rfl rfl
theorem w3_120 : (Jvm.Cond.fieldLink "HedgeNews$NameCheck" (56 : Nat) "HedgeNews$Kind" "HEDGE" "LHedgeNews$Kind;") ∈ TB := tb_3 120 rfl rfl
theorem w3_121 : (Jvm.Cond.laysStatic "HedgeNews$Kind" "HEDGE" "LHedgeNews$Kind;") ∈ lw_tbl := tz_3 121 rfl
theorem w3_122 : (Jvm.Cond.fieldLink "HedgeNews$NameCheck" (59 : Nat) "HedgeNews$Kind" "ROSE" "LHedgeNews$Kind;") ∈ TB := tb_3 122 rfl rfl
theorem w3_123 : (Jvm.Cond.laysStatic "HedgeNews$Kind" "ROSE" "LHedgeNews$Kind;") ∈ lw_tbl := tz_3 123 rfl
theorem w3_124 : (Jvm.Cond.methodLink "HedgeNews$NameCheck" (62 : Nat) ({ cls := "HedgeNews$Tokens", name := "key", desc := "(I)J" } : Jvm.MethodName)) ∈ TB := tb_3 124 rfl rfl
theorem w3_125 : (Jvm.Cond.instanceMethod ({ cls := "HedgeNews$Tokens", name := "key", desc := "(I)J" } : Jvm.MethodName)) ∈ TB := tb_3 125 rfl rfl
theorem w3_126 : (Jvm.Cond.selects "HedgeNews$Tokens" ({ cls := "HedgeNews$Tokens", name := "key", desc := "(I)J" } : Jvm.MethodName) ({ cls := "HedgeNews$Tokens", name := "key", desc := "(I)J" } : Jvm.MethodName)) ∈ TB := tb_3 126 rfl rfl
theorem w3_127 : (Jvm.Cond.code ({ cls := "HedgeNews$Tokens", name := "key", desc := "(I)J" } : Jvm.MethodName) prog_13_method_15_code (2 : Nat) (Option.some Jvm.ClassFile.FieldType.long)) ∈ TB := tb_3 127 rfl rfl
theorem w3_128 : (Jvm.Cond.methodLink "HedgeNews$NameCheck" (66 : Nat) ({ cls := "HedgeNews$NameCheck", name := "errorOfNewName", desc := "(JLHedgeNews$Kind;LHedgeNews$Plan;)I" } : Jvm.MethodName)) ∈ TB := tb_3 128 rfl rfl
theorem w3_129 : (Jvm.Cond.privateMethod ({ cls := "HedgeNews$NameCheck", name := "errorOfNewName", desc := "(JLHedgeNews$Kind;LHedgeNews$Plan;)I" } : Jvm.MethodName)) ∈ lw_tbl := tz_3 129 rfl
theorem w3_130 : (Jvm.Cond.instanceMethod ({ cls := "HedgeNews$NameCheck", name := "errorOfNewName", desc := "(JLHedgeNews$Kind;LHedgeNews$Plan;)I" } : Jvm.MethodName)) ∈ TB := tb_3 130 rfl rfl
theorem w3_131 : (Jvm.Cond.code ({ cls := "HedgeNews$NameCheck", name := "errorOfNewName", desc := "(JLHedgeNews$Kind;LHedgeNews$Plan;)I" } : Jvm.MethodName) prog_7_method_5_code (8 : Nat) (Option.some Jvm.ClassFile.FieldType.int)) ∈ TB := tb_3 131 rfl rfl
theorem w3_132 : (Jvm.Cond.methodLink "HedgeNews$NameCheck" (88 : Nat) ({ cls := "HedgeNews$NameCheck", name := "listenerNamed", desc := "(JLHedgeNews$Plan;)I" } : Jvm.MethodName)) ∈ TB := tb_3 132 rfl rfl
theorem w3_133 : (Jvm.Cond.privateMethod ({ cls := "HedgeNews$NameCheck", name := "listenerNamed", desc := "(JLHedgeNews$Plan;)I" } : Jvm.MethodName)) ∈ lw_tbl := tz_3 133 rfl
theorem w3_134 : (Jvm.Cond.instanceMethod ({ cls := "HedgeNews$NameCheck", name := "listenerNamed", desc := "(JLHedgeNews$Plan;)I" } : Jvm.MethodName)) ∈ TB := tb_3 134 rfl rfl
theorem w3_135 : (Jvm.Cond.code ({ cls := "HedgeNews$NameCheck", name := "listenerNamed", desc := "(JLHedgeNews$Plan;)I" } : Jvm.MethodName) prog_7_method_7_code (6 : Nat) (Option.some Jvm.ClassFile.FieldType.int)) ∈ TB := tb_3 135 rfl rfl
theorem w3_136 : (Jvm.Cond.methodLink "HedgeNews$NameCheck" (70 : Nat) ({ cls := "HedgeNews$NameCheck", name := "errorOfOldName", desc := "(LHedgeNews$Tokens;ILHedgeNews$Plan;)I" } : Jvm.MethodName)) ∈ TB := tb_3 136 rfl rfl
theorem w3_137 : (Jvm.Cond.privateMethod ({ cls := "HedgeNews$NameCheck", name := "errorOfOldName", desc := "(LHedgeNews$Tokens;ILHedgeNews$Plan;)I" } : Jvm.MethodName)) ∈ lw_tbl := tz_3 137 rfl
theorem w3_138 : (Jvm.Cond.instanceMethod ({ cls := "HedgeNews$NameCheck", name := "errorOfOldName", desc := "(LHedgeNews$Tokens;ILHedgeNews$Plan;)I" } : Jvm.MethodName)) ∈ TB := tb_3 138 rfl rfl
theorem w3_139 : (Jvm.Cond.code ({ cls := "HedgeNews$NameCheck", name := "errorOfOldName", desc := "(LHedgeNews$Tokens;ILHedgeNews$Plan;)I" } : Jvm.MethodName) prog_7_method_6_code (9 : Nat) (Option.some Jvm.ClassFile.FieldType.int)) ∈ TB := tb_3 139 rfl rfl
theorem w3_140 : (Jvm.Cond.fieldLink "HedgeNews$NameCheck" (98 : Nat) "HedgeNews$Kind" "LISTEN" "LHedgeNews$Kind;") ∈ TB := tb_3 140 rfl rfl
theorem w3_141 : (Jvm.Cond.fieldLink "HedgeNews$NameCheck" (101 : Nat) "HedgeNews$Kind" "LEAVE" "LHedgeNews$Kind;") ∈ TB := tb_3 141 rfl rfl
theorem w3_142 : (Jvm.Cond.fieldLink "HedgeNews$NameCheck" (104 : Nat) "HedgeNews$Kind" "HEARS" "LHedgeNews$Kind;") ∈ TB := tb_3 142 rfl rfl
theorem w3_143 : (Jvm.Cond.fieldLink "HedgeNews$NameCheck" (107 : Nat) "HedgeNews$Kind" "OF" "LHedgeNews$Kind;") ∈ TB := tb_3 143 rfl rfl
theorem w3_144 : (Jvm.Cond.fieldLink "HedgeNews$NameCheck" (110 : Nat) "HedgeNews$Kind" "PETALS" "LHedgeNews$Kind;") ∈ TB := tb_3 144 rfl rfl
theorem w3_145 : (Jvm.Cond.laysStatic "HedgeNews$Kind" "PETALS" "LHedgeNews$Kind;") ∈ lw_tbl := tz_3 145 rfl
theorem w3_146 : (Jvm.Cond.methodLink "HedgeNews$NameCheck" (113 : Nat) ({ cls := "HedgeNews$Tokens", name := "mean", desc := "(II)V" } : Jvm.MethodName)) ∈ TB := tb_3 146 rfl rfl
theorem w3_147 : (Jvm.Cond.instanceMethod ({ cls := "HedgeNews$Tokens", name := "mean", desc := "(II)V" } : Jvm.MethodName)) ∈ TB := tb_3 147 rfl rfl
theorem w3_148 : (Jvm.Cond.selects "HedgeNews$Tokens" ({ cls := "HedgeNews$Tokens", name := "mean", desc := "(II)V" } : Jvm.MethodName) ({ cls := "HedgeNews$Tokens", name := "mean", desc := "(II)V" } : Jvm.MethodName)) ∈ TB := tb_3 148 rfl rfl
theorem w3_149 : (Jvm.Cond.code ({ cls := "HedgeNews$Tokens", name := "mean", desc := "(II)V" } : Jvm.MethodName) prog_13_method_17_code (3 : Nat) (Option.none : Option Jvm.ClassFile.FieldType)) ∈ TB := tb_3 149 rfl rfl
theorem w3_150 : (Jvm.Cond.methodLink "HedgeNews" (123 : Nat) ({ cls := "HedgeNews$Plan", name := "link", desc := "(LHedgeNews$Tokens;)V" } : Jvm.MethodName)) ∈ TB := tb_3 150 rfl rfl
theorem w3_151 : (Jvm.Cond.instanceMethod ({ cls := "HedgeNews$Plan", name := "link", desc := "(LHedgeNews$Tokens;)V" } : Jvm.MethodName)) ∈ TB := tb_3 151 rfl rfl
theorem w3_152 : (Jvm.Cond.selects "HedgeNews$Plan" ({ cls := "HedgeNews$Plan", name := "link", desc := "(LHedgeNews$Tokens;)V" } : Jvm.MethodName) ({ cls := "HedgeNews$Plan", name := "link", desc := "(LHedgeNews$Tokens;)V" } : Jvm.MethodName)) ∈ TB := tb_3 152 rfl rfl
theorem w3_153 : (Jvm.Cond.code ({ cls := "HedgeNews$Plan", name := "link", desc := "(LHedgeNews$Tokens;)V" } : Jvm.MethodName) prog_10_method_6_code (3 : Nat) (Option.none : Option Jvm.ClassFile.FieldType)) ∈ TB := tb_3 153 rfl rfl
theorem w3_154 : (Jvm.Cond.methodLink "HedgeNews$Plan" (44 : Nat) ({ cls := "HedgeNews$Tokens", name := "meaning", desc := "(I)I" } : Jvm.MethodName)) ∈ TB := tb_3 154 rfl rfl
theorem w3_155 : (Jvm.Cond.methodLink "HedgeNews" (127 : Nat) ({ cls := "HedgeNews", name := "beginSparePlan", desc := "()V" } : Jvm.MethodName)) ∈ TB := tb_3 155 rfl rfl
theorem w3_156 : (Jvm.Cond.privateMethod ({ cls := "HedgeNews", name := "beginSparePlan", desc := "()V" } : Jvm.MethodName)) ∈ lw_tbl := tz_3 156 rfl
theorem w3_157 : (Jvm.Cond.instanceMethod ({ cls := "HedgeNews", name := "beginSparePlan", desc := "()V" } : Jvm.MethodName)) ∈ TB := tb_3 157 rfl rfl
theorem w3_158 : (Jvm.Cond.code ({ cls := "HedgeNews", name := "beginSparePlan", desc := "()V" } : Jvm.MethodName) prog_1_method_5_code (2 : Nat) (Option.none : Option Jvm.ClassFile.FieldType)) ∈ TB := tb_3 158 rfl rfl
theorem w3_159 : (Jvm.Cond.methodLink "HedgeNews" (130 : Nat) ({ cls := "HedgeNews$Garden", name := "begin", desc := "(LHedgeNews$Plan;)V" } : Jvm.MethodName)) ∈ TB := tb_3 159 rfl rfl
theorem w3_160 : (Jvm.Cond.instanceMethod ({ cls := "HedgeNews$Garden", name := "begin", desc := "(LHedgeNews$Plan;)V" } : Jvm.MethodName)) ∈ TB := tb_3 160 rfl rfl
theorem w3_161 : (Jvm.Cond.selects "HedgeNews$Garden" ({ cls := "HedgeNews$Garden", name := "begin", desc := "(LHedgeNews$Plan;)V" } : Jvm.MethodName) ({ cls := "HedgeNews$Garden", name := "begin", desc := "(LHedgeNews$Plan;)V" } : Jvm.MethodName)) ∈ TB := tb_3 161 rfl rfl
theorem w3_162 : (Jvm.Cond.code ({ cls := "HedgeNews$Garden", name := "begin", desc := "(LHedgeNews$Plan;)V" } : Jvm.MethodName) prog_3_method_4_code (3 : Nat) (Option.none : Option Jvm.ClassFile.FieldType)) ∈ TB := tb_3 162 rfl rfl
theorem w3_163 : (Jvm.Cond.methodLink "HedgeNews$Garden" (40 : Nat) ({ cls := "HedgeNews$Hedge", name := "begin", desc := "(I)V" } : Jvm.MethodName)) ∈ TB := tb_3 163 rfl rfl
theorem w3_164 : (Jvm.Cond.instanceMethod ({ cls := "HedgeNews$Hedge", name := "begin", desc := "(I)V" } : Jvm.MethodName)) ∈ TB := tb_3 164 rfl rfl
theorem w3_165 : (Jvm.Cond.selects "HedgeNews$Hedge" ({ cls := "HedgeNews$Hedge", name := "begin", desc := "(I)V" } : Jvm.MethodName) ({ cls := "HedgeNews$Hedge", name := "begin", desc := "(I)V" } : Jvm.MethodName)) ∈ TB := tb_3 165 rfl rfl
theorem w3_166 : (Jvm.Cond.code ({ cls := "HedgeNews$Hedge", name := "begin", desc := "(I)V" } : Jvm.MethodName) prog_5_method_2_code (2 : Nat) (Option.none : Option Jvm.ClassFile.FieldType)) ∈ TB := tb_3 166 rfl rfl
theorem w3_167 : (Jvm.Cond.methodLink "HedgeNews$Garden" (47 : Nat) ({ cls := "HedgeNews$Rose", name := "begin", desc := "(I)V" } : Jvm.MethodName)) ∈ TB := tb_3 167 rfl rfl
theorem w3_168 : (Jvm.Cond.instanceMethod ({ cls := "HedgeNews$Rose", name := "begin", desc := "(I)V" } : Jvm.MethodName)) ∈ TB := tb_3 168 rfl rfl
theorem w3_169 : (Jvm.Cond.selects "HedgeNews$Rose" ({ cls := "HedgeNews$Rose", name := "begin", desc := "(I)V" } : Jvm.MethodName) ({ cls := "HedgeNews$Rose", name := "begin", desc := "(I)V" } : Jvm.MethodName)) ∈ TB := tb_3 169 rfl rfl
theorem w3_170 : (Jvm.Cond.code ({ cls := "HedgeNews$Rose", name := "begin", desc := "(I)V" } : Jvm.MethodName) prog_11_method_2_code (2 : Nat) (Option.none : Option Jvm.ClassFile.FieldType)) ∈ TB := tb_3 170 rfl rfl
theorem w3_171 : (Jvm.Cond.methodLink "HedgeNewsLaw" (113 : Nat) ({ cls := "HedgeNews", name := "errorAt", desc := "()I" } : Jvm.MethodName)) ∈ TB := tb_3 171 rfl rfl
theorem w3_172 : (Jvm.Cond.instanceMethod ({ cls := "HedgeNews", name := "errorAt", desc := "()I" } : Jvm.MethodName)) ∈ TB := tb_3 172 rfl rfl
theorem w3_173 : (Jvm.Cond.selects "HedgeNews" ({ cls := "HedgeNews", name := "errorAt", desc := "()I" } : Jvm.MethodName) ({ cls := "HedgeNews", name := "errorAt", desc := "()I" } : Jvm.MethodName)) ∈ TB := tb_3 173 rfl rfl
theorem w3_174 : (Jvm.Cond.code ({ cls := "HedgeNews", name := "errorAt", desc := "()I" } : Jvm.MethodName) prog_1_method_6_code (1 : Nat) (Option.some Jvm.ClassFile.FieldType.int)) ∈ TB := tb_3 174 rfl rfl
theorem w3_175 : (Jvm.Cond.methodLink "HedgeNewsLaw" (117 : Nat) ({ cls := "HedgeNews", name := "hedges", desc := "()I" } : Jvm.MethodName)) ∈ TB := tb_3 175 rfl rfl
theorem w3_176 : (Jvm.Cond.instanceMethod ({ cls := "HedgeNews", name := "hedges", desc := "()I" } : Jvm.MethodName)) ∈ TB := tb_3 176 rfl rfl
theorem w3_177 : (Jvm.Cond.selects "HedgeNews" ({ cls := "HedgeNews", name := "hedges", desc := "()I" } : Jvm.MethodName) ({ cls := "HedgeNews", name := "hedges", desc := "()I" } : Jvm.MethodName)) ∈ TB := tb_3 177 rfl rfl
theorem w3_178 : (Jvm.Cond.code ({ cls := "HedgeNews", name := "hedges", desc := "()I" } : Jvm.MethodName) prog_1_method_7_code (1 : Nat) (Option.some Jvm.ClassFile.FieldType.int)) ∈ TB := tb_3 178 rfl rfl
theorem w3_179 : (Jvm.Cond.methodLink "HedgeNewsLaw" (121 : Nat) ({ cls := "HedgeNews", name := "roses", desc := "()I" } : Jvm.MethodName)) ∈ TB := tb_3 179 rfl rfl
theorem w3_180 : (Jvm.Cond.instanceMethod ({ cls := "HedgeNews", name := "roses", desc := "()I" } : Jvm.MethodName)) ∈ TB := tb_3 180 rfl rfl
theorem w3_181 : (Jvm.Cond.selects "HedgeNews" ({ cls := "HedgeNews", name := "roses", desc := "()I" } : Jvm.MethodName) ({ cls := "HedgeNews", name := "roses", desc := "()I" } : Jvm.MethodName)) ∈ TB := tb_3 181 rfl rfl
theorem w3_182 : (Jvm.Cond.code ({ cls := "HedgeNews", name := "roses", desc := "()I" } : Jvm.MethodName) prog_1_method_8_code (1 : Nat) (Option.some Jvm.ClassFile.FieldType.int)) ∈ TB := tb_3 182 rfl rfl
theorem w3_183 : (Jvm.Cond.methodLink "HedgeNewsLaw" (125 : Nat) ({ cls := "HedgeNews", name := "day", desc := "()I" } : Jvm.MethodName)) ∈ TB := tb_3 183 rfl rfl
theorem w3_184 : (Jvm.Cond.instanceMethod ({ cls := "HedgeNews", name := "day", desc := "()I" } : Jvm.MethodName)) ∈ TB := tb_3 184 rfl rfl
theorem w3_185 : (Jvm.Cond.selects "HedgeNews" ({ cls := "HedgeNews", name := "day", desc := "()I" } : Jvm.MethodName) ({ cls := "HedgeNews", name := "day", desc := "()I" } : Jvm.MethodName)) ∈ TB := tb_3 185 rfl rfl
theorem w3_186 : (Jvm.Cond.code ({ cls := "HedgeNews", name := "day", desc := "()I" } : Jvm.MethodName) prog_1_method_9_code (1 : Nat) (Option.some Jvm.ClassFile.FieldType.int)) ∈ TB := tb_3 186 rfl rfl
theorem w3_187 : (Jvm.Cond.methodLink "HedgeNewsLaw" (129 : Nat) ({ cls := "HedgeNews", name := "ordersCarriedOut", desc := "()I" } : Jvm.MethodName)) ∈ TB := tb_3 187 rfl rfl
theorem w3_188 : (Jvm.Cond.instanceMethod ({ cls := "HedgeNews", name := "ordersCarriedOut", desc := "()I" } : Jvm.MethodName)) ∈ TB := tb_3 188 rfl rfl
theorem w3_189 : (Jvm.Cond.selects "HedgeNews" ({ cls := "HedgeNews", name := "ordersCarriedOut", desc := "()I" } : Jvm.MethodName) ({ cls := "HedgeNews", name := "ordersCarriedOut", desc := "()I" } : Jvm.MethodName)) ∈ TB := tb_3 189 rfl rfl
theorem w3_190 : (Jvm.Cond.code ({ cls := "HedgeNews", name := "ordersCarriedOut", desc := "()I" } : Jvm.MethodName) prog_1_method_10_code (1 : Nat) (Option.some Jvm.ClassFile.FieldType.int)) ∈ TB := tb_3 190 rfl rfl
theorem w3_191 : (Jvm.Cond.methodLink "HedgeNewsLaw" (133 : Nat) ({ cls := "HedgeNews", name := "whispers", desc := "()I" } : Jvm.MethodName)) ∈ TB := tb_3 191 rfl rfl
theorem w3_192 : (Jvm.Cond.instanceMethod ({ cls := "HedgeNews", name := "whispers", desc := "()I" } : Jvm.MethodName)) ∈ TB := tb_3 192 rfl rfl
theorem w3_193 : (Jvm.Cond.selects "HedgeNews" ({ cls := "HedgeNews", name := "whispers", desc := "()I" } : Jvm.MethodName) ({ cls := "HedgeNews", name := "whispers", desc := "()I" } : Jvm.MethodName)) ∈ TB := tb_3 193 rfl rfl
theorem w3_194 : (Jvm.Cond.code ({ cls := "HedgeNews", name := "whispers", desc := "()I" } : Jvm.MethodName) prog_1_method_11_code (1 : Nat) (Option.some Jvm.ClassFile.FieldType.int)) ∈ TB := tb_3 194 rfl rfl
theorem w3_195 : (Jvm.Cond.methodLink "HedgeNewsLaw" (137 : Nat) ({ cls := "HedgeNews", name := "cycles", desc := "()I" } : Jvm.MethodName)) ∈ TB := tb_3 195 rfl rfl
theorem w3_196 : (Jvm.Cond.instanceMethod ({ cls := "HedgeNews", name := "cycles", desc := "()I" } : Jvm.MethodName)) ∈ TB := tb_3 196 rfl rfl
theorem w3_197 : (Jvm.Cond.selects "HedgeNews" ({ cls := "HedgeNews", name := "cycles", desc := "()I" } : Jvm.MethodName) ({ cls := "HedgeNews", name := "cycles", desc := "()I" } : Jvm.MethodName)) ∈ TB := tb_3 197 rfl rfl
theorem w3_198 : (Jvm.Cond.code ({ cls := "HedgeNews", name := "cycles", desc := "()I" } : Jvm.MethodName) prog_1_method_12_code (1 : Nat) (Option.some Jvm.ClassFile.FieldType.int)) ∈ TB := tb_3 198 rfl rfl
theorem w3_199 : (Jvm.Cond.methodLink "HedgeNewsLaw" (141 : Nat) ({ cls := "HedgeNews", name := "departures", desc := "()I" } : Jvm.MethodName)) ∈ TB := tb_3 199 rfl rfl
theorem w3_200 : (Jvm.Cond.instanceMethod ({ cls := "HedgeNews", name := "departures", desc := "()I" } : Jvm.MethodName)) ∈ TB := tb_3 200 rfl rfl
theorem w3_201 : (Jvm.Cond.selects "HedgeNews" ({ cls := "HedgeNews", name := "departures", desc := "()I" } : Jvm.MethodName) ({ cls := "HedgeNews", name := "departures", desc := "()I" } : Jvm.MethodName)) ∈ TB := tb_3 201 rfl rfl
theorem w3_202 : (Jvm.Cond.code ({ cls := "HedgeNews", name := "departures", desc := "()I" } : Jvm.MethodName) prog_1_method_13_code (1 : Nat) (Option.some Jvm.ClassFile.FieldType.int)) ∈ TB := tb_3 202 rfl rfl
theorem w3_203 : (Jvm.Cond.methodLink "HedgeNewsLaw" (176 : Nat) ({ cls := "HedgeNews", name := "fullest", desc := "()I" } : Jvm.MethodName)) ∈ TB := tb_3 203 rfl rfl
theorem w3_204 : (Jvm.Cond.instanceMethod ({ cls := "HedgeNews", name := "fullest", desc := "()I" } : Jvm.MethodName)) ∈ TB := tb_3 204 rfl rfl
theorem w3_205 : (Jvm.Cond.selects "HedgeNews" ({ cls := "HedgeNews", name := "fullest", desc := "()I" } : Jvm.MethodName) ({ cls := "HedgeNews", name := "fullest", desc := "()I" } : Jvm.MethodName)) ∈ TB := tb_3 205 rfl rfl
theorem w3_206 : (Jvm.Cond.code ({ cls := "HedgeNews", name := "fullest", desc := "()I" } : Jvm.MethodName) prog_1_method_25_code (1 : Nat) (Option.some Jvm.ClassFile.FieldType.int)) ∈ TB := tb_3 206 rfl rfl
theorem w3_207 : (Jvm.Cond.methodLink "HedgeNews" (202 : Nat) ({ cls := "HedgeNews$Garden", name := "fullestRose", desc := "()I" } : Jvm.MethodName)) ∈ TB := tb_3 207 rfl rfl
theorem w3_208 : (Jvm.Cond.instanceMethod ({ cls := "HedgeNews$Garden", name := "fullestRose", desc := "()I" } : Jvm.MethodName)) ∈ TB := tb_3 208 rfl rfl
theorem w3_209 : (Jvm.Cond.selects "HedgeNews$Garden" ({ cls := "HedgeNews$Garden", name := "fullestRose", desc := "()I" } : Jvm.MethodName) ({ cls := "HedgeNews$Garden", name := "fullestRose", desc := "()I" } : Jvm.MethodName)) ∈ TB := tb_3 209 rfl rfl
theorem w3_210 : (Jvm.Cond.code ({ cls := "HedgeNews$Garden", name := "fullestRose", desc := "()I" } : Jvm.MethodName) prog_3_method_12_code (4 : Nat) (Option.some Jvm.ClassFile.FieldType.int)) ∈ TB := tb_3 210 rfl rfl
theorem w3_211 : (Jvm.Cond.methodLink "HedgeNews$Garden" (105 : Nat) ({ cls := "HedgeNews$Garden", name := "petalsAt", desc := "(I)I" } : Jvm.MethodName)) ∈ TB := tb_3 211 rfl rfl
theorem w3_212 : (Jvm.Cond.instanceMethod ({ cls := "HedgeNews$Garden", name := "petalsAt", desc := "(I)I" } : Jvm.MethodName)) ∈ TB := tb_3 212 rfl rfl
theorem w3_213 : (Jvm.Cond.selects "HedgeNews$Garden" ({ cls := "HedgeNews$Garden", name := "petalsAt", desc := "(I)I" } : Jvm.MethodName) ({ cls := "HedgeNews$Garden", name := "petalsAt", desc := "(I)I" } : Jvm.MethodName)) ∈ TB := tb_3 213 rfl rfl
theorem w3_214 : (Jvm.Cond.code ({ cls := "HedgeNews$Garden", name := "petalsAt", desc := "(I)I" } : Jvm.MethodName) prog_3_method_14_code (3 : Nat) (Option.some Jvm.ClassFile.FieldType.int)) ∈ TB := tb_3 214 rfl rfl
theorem w3_215 : (Jvm.Cond.methodLink "HedgeNews$Garden" (81 : Nat) ({ cls := "HedgeNews$Garden", name := "rose", desc := "(I)LHedgeNews$Rose;" } : Jvm.MethodName)) ∈ TB := tb_3 215 rfl rfl
theorem w3_216 : (Jvm.Cond.instanceMethod ({ cls := "HedgeNews$Garden", name := "rose", desc := "(I)LHedgeNews$Rose;" } : Jvm.MethodName)) ∈ TB := tb_3 216 rfl rfl
theorem w3_217 : (Jvm.Cond.selects "HedgeNews$Garden" ({ cls := "HedgeNews$Garden", name := "rose", desc := "(I)LHedgeNews$Rose;" } : Jvm.MethodName) ({ cls := "HedgeNews$Garden", name := "rose", desc := "(I)LHedgeNews$Rose;" } : Jvm.MethodName)) ∈ TB := tb_3 217 rfl rfl
theorem w3_218 : (Jvm.Cond.code ({ cls := "HedgeNews$Garden", name := "rose", desc := "(I)LHedgeNews$Rose;" } : Jvm.MethodName) prog_3_method_3_code (2 : Nat) (Option.some (Jvm.ClassFile.FieldType.object "HedgeNews$Rose"))) ∈ TB := tb_3 218 rfl rfl
theorem w3_219 : (Jvm.Cond.methodLink "HedgeNewsLaw" (216 : Nat) ({ cls := "HedgeNews", name := "meanPetals", desc := "()D" } : Jvm.MethodName)) ∈ TB := tb_3 219 rfl rfl
theorem w3_220 : (Jvm.Cond.instanceMethod ({ cls := "HedgeNews", name := "meanPetals", desc := "()D" } : Jvm.MethodName)) ∈ TB := tb_3 220 rfl rfl
theorem w3_221 : (Jvm.Cond.selects "HedgeNews" ({ cls := "HedgeNews", name := "meanPetals", desc := "()D" } : Jvm.MethodName) ({ cls := "HedgeNews", name := "meanPetals", desc := "()D" } : Jvm.MethodName)) ∈ TB := tb_3 221 rfl rfl
theorem w3_222 : (Jvm.Cond.code ({ cls := "HedgeNews", name := "meanPetals", desc := "()D" } : Jvm.MethodName) prog_1_method_42_code (1 : Nat) (Option.some Jvm.ClassFile.FieldType.double)) ∈ TB := tb_3 222 rfl rfl
theorem w3_223 : (Jvm.Cond.methodLink "HedgeNews" (272 : Nat) ({ cls := "HedgeNews$Garden", name := "petalsInAll", desc := "()J" } : Jvm.MethodName)) ∈ TB := tb_3 223 rfl rfl
theorem w3_224 : (Jvm.Cond.instanceMethod ({ cls := "HedgeNews$Garden", name := "petalsInAll", desc := "()J" } : Jvm.MethodName)) ∈ TB := tb_3 224 rfl rfl
theorem w3_225 : (Jvm.Cond.selects "HedgeNews$Garden" ({ cls := "HedgeNews$Garden", name := "petalsInAll", desc := "()J" } : Jvm.MethodName) ({ cls := "HedgeNews$Garden", name := "petalsInAll", desc := "()J" } : Jvm.MethodName)) ∈ TB := tb_3 225 rfl rfl
theorem w3_226 : (Jvm.Cond.code ({ cls := "HedgeNews$Garden", name := "petalsInAll", desc := "()J" } : Jvm.MethodName) prog_3_method_13_code (4 : Nat) (Option.some Jvm.ClassFile.FieldType.long)) ∈ TB := tb_3 226 rfl rfl
theorem w3_227 : (Jvm.Cond.methodLink "HedgeNewsLaw" (221 : Nat) ({ cls := "HedgeNews", name := "digest", desc := "()J" } : Jvm.MethodName)) ∈ TB := tb_3 227 rfl rfl
theorem w3_228 : (Jvm.Cond.instanceMethod ({ cls := "HedgeNews", name := "digest", desc := "()J" } : Jvm.MethodName)) ∈ TB := tb_3 228 rfl rfl
theorem w3_229 : (Jvm.Cond.selects "HedgeNews" ({ cls := "HedgeNews", name := "digest", desc := "()J" } : Jvm.MethodName) ({ cls := "HedgeNews", name := "digest", desc := "()J" } : Jvm.MethodName)) ∈ TB := tb_3 229 rfl rfl
theorem w3_230 : (Jvm.Cond.code ({ cls := "HedgeNews", name := "digest", desc := "()J" } : Jvm.MethodName) prog_1_method_43_code (4 : Nat) (Option.some Jvm.ClassFile.FieldType.long)) ∈ TB := tb_3 230 rfl rfl
theorem w3_231 : (Jvm.Cond.constantLong "HedgeNews" (276 : Nat) (1063 : Int64)) ∈ TB := tb_3 231 rfl rfl
theorem w3_232 : (Jvm.Cond.methodLink "HedgeNews" (278 : Nat) ({ cls := "HedgeNews", name := "digested", desc := "(JI)J" } : Jvm.MethodName)) ∈ TB := tb_3 232 rfl rfl
theorem w3_233 : (Jvm.Cond.static ({ cls := "HedgeNews", name := "digested", desc := "(JI)J" } : Jvm.MethodName)) ∈ TB := tb_3 233 rfl rfl
theorem w3_234 : (Jvm.Cond.code ({ cls := "HedgeNews", name := "digested", desc := "(JI)J" } : Jvm.MethodName) prog_1_method_45_code (3 : Nat) (Option.some Jvm.ClassFile.FieldType.long)) ∈ TB := tb_3 234 rfl rfl
theorem w3_235 : (Jvm.Cond.constantLong "HedgeNews" (312 : Nat) (31 : Int64)) ∈ TB := tb_3 235 rfl rfl
theorem w3_236 : (Jvm.Cond.methodLink "HedgeNews" (282 : Nat) ({ cls := "HedgeNews", name := "bestToTell", desc := "(I)I" } : Jvm.MethodName)) ∈ TB := tb_3 236 rfl rfl
theorem w3_237 : (Jvm.Cond.instanceMethod ({ cls := "HedgeNews", name := "bestToTell", desc := "(I)I" } : Jvm.MethodName)) ∈ TB := tb_3 237 rfl rfl
theorem w3_238 : (Jvm.Cond.selects "HedgeNews" ({ cls := "HedgeNews", name := "bestToTell", desc := "(I)I" } : Jvm.MethodName) ({ cls := "HedgeNews", name := "bestToTell", desc := "(I)I" } : Jvm.MethodName)) ∈ TB := tb_3 238 rfl rfl
theorem w3_239 : (Jvm.Cond.code ({ cls := "HedgeNews", name := "bestToTell", desc := "(I)I" } : Jvm.MethodName) prog_1_method_41_code (8 : Nat) (Option.some Jvm.ClassFile.FieldType.int)) ∈ TB := tb_3 239 rfl rfl
theorem w4_0 : (Jvm.Cond.methodLink "HedgeNews" (229 : Nat) ({ cls := "HedgeNews", name := "needLoudness", desc := "(I)V" } : Jvm.MethodName)) ∈ TB := tb_4 0 rfl rfl
theorem w4_1 : (Jvm.Cond.static ({ cls := "HedgeNews", name := "needLoudness", desc := "(I)V" } : Jvm.MethodName)) ∈ TB := tb_4 1 rfl rfl
theorem w4_2 : (Jvm.Cond.code ({ cls := "HedgeNews", name := "needLoudness", desc := "(I)V" } : Jvm.MethodName) prog_1_method_34_code (1 : Nat) (Option.none : Option Jvm.ClassFile.FieldType)) ∈ TB := tb_4 2 rfl rfl
theorem w4_3 : (Jvm.Cond.classLink "HedgeNews" (93 : Nat) "java/lang/IllegalArgumentException") ∈ TB := tb_4 3 rfl rfl
theorem w4_4 : (Jvm.Cond.instantiable "java/lang/IllegalArgumentException" (6 : Nat)) ∈ TB := tb_4 4 rfl rfl
theorem w4_5 : (Jvm.Cond.castable "java/lang/IllegalArgumentException" "java/lang/IllegalArgumentException") ∈ lw_tbl := tz_4 5 rfl
theorem w4_6 : (Jvm.Cond.declares ({ cls := "java/lang/RuntimeException", name := "<init>", desc := "()V" } : Jvm.MethodName)) ∈ lw_tbl := tz_4 6 rfl
theorem w4_7 : (Jvm.Cond.declares ({ cls := "java/lang/RuntimeException", name := "<init>", desc := "(Ljava/lang/String;)V" } : Jvm.MethodName)) ∈ lw_tbl := tz_4 7 rfl
theorem w4_8 : (Jvm.Cond.declares ({ cls := "java/lang/Exception", name := "<init>", desc := "()V" } : Jvm.MethodName)) ∈ lw_tbl := tz_4 8 rfl
theorem w4_9 : (Jvm.Cond.declares ({ cls := "java/lang/Exception", name := "<init>", desc := "(Ljava/lang/String;)V" } : Jvm.MethodName)) ∈ lw_tbl := tz_4 9 rfl
theorem w4_10 : (Jvm.Cond.declares ({ cls := "java/lang/Throwable", name := "<init>", desc := "()V" } : Jvm.MethodName)) ∈ lw_tbl := tz_4 10 rfl
theorem w4_11 : (Jvm.Cond.declares ({ cls := "java/lang/Throwable", name := "<init>", desc := "(Ljava/lang/String;)V" } : Jvm.MethodName)) ∈ lw_tbl := tz_4 11 rfl
theorem w4_12 : (Jvm.Cond.selects "java/lang/IllegalArgumentException" ({ cls := "java/lang/Throwable", name := "fillInStackTrace", desc := "(I)Ljava/lang/Throwable;" } : Jvm.MethodName) ({ cls := "java/lang/Throwable", name := "fillInStackTrace", desc := "(I)Ljava/lang/Throwable;" } : Jvm.MethodName)) ∈ TB := tb_4 12 rfl rfl
theorem w4_13 : (Jvm.Cond.selects "java/lang/IllegalArgumentException" ({ cls := "java/lang/Throwable", name := "fillInStackTrace", desc := "()Ljava/lang/Throwable;" } : Jvm.MethodName) ({ cls := "java/lang/Throwable", name := "fillInStackTrace", desc := "()Ljava/lang/Throwable;" } : Jvm.MethodName)) ∈ TB := tb_4 13 rfl rfl
theorem w4_14 : (Jvm.Cond.lays "java/lang/IllegalArgumentException" "java/lang/Throwable" "cause" "Ljava/lang/Throwable;") ∈ TB := tb_4 14 rfl rfl
theorem w4_15 : (Jvm.Cond.lays "java/lang/Throwable" "java/lang/Throwable" "cause" "Ljava/lang/Throwable;") ∈ TB := tb_4 15 rfl rfl
theorem w4_16 : (Jvm.Cond.lays "java/lang/IllegalArgumentException" "java/lang/Throwable" "stackTrace" "[Ljava/lang/StackTraceElement;") ∈ TB := tb_4 16 rfl rfl
theorem w4_17 : (Jvm.Cond.lays "java/lang/Throwable" "java/lang/Throwable" "stackTrace" "[Ljava/lang/StackTraceElement;") ∈ TB := tb_4 17 rfl rfl
theorem w4_18 : (Jvm.Cond.lays "java/lang/IllegalArgumentException" "java/lang/Throwable" "suppressedExceptions" "Ljava/util/List;") ∈ TB := tb_4 18 rfl rfl
theorem w4_19 : (Jvm.Cond.lays "java/lang/Throwable" "java/lang/Throwable" "suppressedExceptions" "Ljava/util/List;") ∈ TB := tb_4 19 rfl rfl
theorem w4_20 : (Jvm.Cond.lays "java/lang/IllegalArgumentException" "java/lang/Throwable" "detailMessage" "Ljava/lang/String;") ∈ TB := tb_4 20 rfl rfl
theorem w4_21 : (Jvm.Cond.lays "java/lang/Throwable" "java/lang/Throwable" "detailMessage" "Ljava/lang/String;") ∈ TB := tb_4 21 rfl rfl
theorem w4_22 : (Jvm.Cond.lays "java/lang/IllegalArgumentException" "java/lang/Throwable" "backtrace" "Ljava/lang/Object;") ∈ TB := tb_4 22 rfl rfl
theorem w4_23 : (Jvm.Cond.lays "java/lang/Throwable" "java/lang/Throwable" "backtrace" "Ljava/lang/Object;") ∈ TB := tb_4 23 rfl rfl
theorem w4_24 : (Jvm.Cond.fieldLink "java/lang/Throwable" (198 : Nat) "java/lang/Throwable" "backtrace" "Ljava/lang/Object;") ∈ TB := tb_4 24 rfl rfl
theorem w4_25 : (Jvm.Cond.superclass "java/lang/Throwable" "java/lang/Object") ∈ TB := tb_4 25 rfl rfl
theorem w4_26 : (Jvm.Cond.instanceMethod ({ cls := "java/lang/Throwable", name := "<init>", desc := "()V" } : Jvm.MethodName)) ∈ TB := tb_4 26 rfl rfl
theorem w4_27 : (Jvm.Cond.code ({ cls := "java/lang/Throwable", name := "<init>", desc := "()V" } : Jvm.MethodName) prog_30_method_1_code (1 : Nat) (Option.none : Option Jvm.ClassFile.FieldType)) ∈ TB := tb_4 27 rfl rfl
theorem w4_28 : (Jvm.Cond.methodLink "java/lang/Throwable" (1 : Nat) ({ cls := "java/lang/Object", name := "<init>", desc := "()V" } : Jvm.MethodName)) ∈ TB := tb_4 28 rfl rfl
theorem w4_29 : (Jvm.Cond.fieldLink "java/lang/Throwable" (13 : Nat) "java/lang/Throwable" "UNASSIGNED_STACK" "[Ljava/lang/StackTraceElement;") ∈ TB := tb_4 29 rfl rfl
theorem w4_30 : (Jvm.Cond.laysStatic "java/lang/Throwable" "UNASSIGNED_STACK" "[Ljava/lang/StackTraceElement;") ∈ lw_tbl := tz_4 30 rfl
theorem w4_31 : (Jvm.Cond.fieldLink "java/lang/Throwable" (20 : Nat) "java/lang/Throwable" "SUPPRESSED_SENTINEL" "Ljava/util/List;") ∈ TB := tb_4 31 rfl rfl
theorem w4_32 : (Jvm.Cond.laysStatic "java/lang/Throwable" "SUPPRESSED_SENTINEL" "Ljava/util/List;") ∈ lw_tbl := tz_4 32 rfl
theorem w4_33 : (Jvm.Cond.methodLink "java/lang/Throwable" (27 : Nat) ({ cls := "java/lang/Throwable", name := "fillInStackTrace", desc := "()Ljava/lang/Throwable;" } : Jvm.MethodName)) ∈ TB := tb_4 33 rfl rfl
theorem w4_34 : (Jvm.Cond.instanceMethod ({ cls := "java/lang/Throwable", name := "fillInStackTrace", desc := "()Ljava/lang/Throwable;" } : Jvm.MethodName)) ∈ TB := tb_4 34 rfl rfl
theorem w4_35 : (Jvm.Cond.sameMethod "java/lang/Throwable" "java/lang/Throwable" "fillInStackTrace" "()Ljava/lang/Throwable;") ∈ TB := tb_4 35 rfl rfl
theorem w4_36 : (Jvm.Cond.selects "java/lang/IllegalStateException" ({ cls := "java/lang/Throwable", name := "fillInStackTrace", desc := "()Ljava/lang/Throwable;" } : Jvm.MethodName) ({ cls := "java/lang/Throwable", name := "fillInStackTrace", desc := "()Ljava/lang/Throwable;" } : Jvm.MethodName)) ∈ TB := tb_4 36 rfl rfl
theorem w4_37 : (Jvm.Cond.selects "java/lang/IndexOutOfBoundsException" ({ cls := "java/lang/Throwable", name := "fillInStackTrace", desc := "()Ljava/lang/Throwable;" } : Jvm.MethodName) ({ cls := "java/lang/Throwable", name := "fillInStackTrace", desc := "()Ljava/lang/Throwable;" } : Jvm.MethodName)) ∈ TB := tb_4 37 rfl rfl
theorem w4_38 : (Jvm.Cond.codeSync ({ cls := "java/lang/Throwable", name := "fillInStackTrace", desc := "()Ljava/lang/Throwable;" } : Jvm.MethodName) prog_30_method_18_code (1 : Nat) (Option.some (Jvm.ClassFile.FieldType.object "java/lang/Throwable"))) ∈ TB := tb_4 38 rfl rfl
theorem w4_39 : (Jvm.Cond.methodLink "java/lang/Throwable" (202 : Nat) ({ cls := "java/lang/Throwable", name := "fillInStackTrace", desc := "(I)Ljava/lang/Throwable;" } : Jvm.MethodName)) ∈ TB := tb_4 39 rfl rfl
theorem w4_40 : (Jvm.Cond.privateMethod ({ cls := "java/lang/Throwable", name := "fillInStackTrace", desc := "(I)Ljava/lang/Throwable;" } : Jvm.MethodName)) ∈ lw_tbl := tz_4 40 rfl
theorem w4_41 : (Jvm.Cond.instanceMethod ({ cls := "java/lang/Throwable", name := "fillInStackTrace", desc := "(I)Ljava/lang/Throwable;" } : Jvm.MethodName)) ∈ TB := tb_4 41 rfl rfl
theorem w4_42 : (Jvm.Cond.instantiable "java/lang/Throwable" (6 : Nat)) ∈ TB := tb_4 42 rfl rfl
theorem w4_43 : (Jvm.Cond.native ({ cls := "java/lang/Throwable", name := "fillInStackTrace", desc := "(I)Ljava/lang/Throwable;" } : Jvm.MethodName)) ∈ TB := tb_4 43 rfl rfl
theorem w4_44 : (Jvm.Cond.stringRef "HedgeNews" (236 : Nat) "a loudness is 1 to 99") ∈ lw_tbl := tz_4 44 rfl
theorem w4_45 : (Jvm.Cond.methodLink "HedgeNews" (97 : Nat) ({ cls := "java/lang/IllegalArgumentException", name := "<init>", desc := "(Ljava/lang/String;)V" } : Jvm.MethodName)) ∈ TB := tb_4 45 rfl rfl
theorem w4_46 : (Jvm.Cond.instanceMethod ({ cls := "java/lang/IllegalArgumentException", name := "<init>", desc := "(Ljava/lang/String;)V" } : Jvm.MethodName)) ∈ TB := tb_4 46 rfl rfl
theorem w4_47 : (Jvm.Cond.code ({ cls := "java/lang/IllegalArgumentException", name := "<init>", desc := "(Ljava/lang/String;)V" } : Jvm.MethodName) prog_21_method_2_code (2 : Nat) (Option.none : Option Jvm.ClassFile.FieldType)) ∈ TB := tb_4 47 rfl rfl
theorem w4_48 : (Jvm.Cond.methodLink "java/lang/IllegalArgumentException" (7 : Nat) ({ cls := "java/lang/RuntimeException", name := "<init>", desc := "(Ljava/lang/String;)V" } : Jvm.MethodName)) ∈ TB := tb_4 48 rfl rfl
theorem w4_49 : (Jvm.Cond.instanceMethod ({ cls := "java/lang/RuntimeException", name := "<init>", desc := "(Ljava/lang/String;)V" } : Jvm.MethodName)) ∈ TB := tb_4 49 rfl rfl
theorem w4_50 : (Jvm.Cond.code ({ cls := "java/lang/RuntimeException", name := "<init>", desc := "(Ljava/lang/String;)V" } : Jvm.MethodName) prog_25_method_2_code (2 : Nat) (Option.none : Option Jvm.ClassFile.FieldType)) ∈ TB := tb_4 50 rfl rfl
theorem w4_51 : (Jvm.Cond.methodLink "java/lang/RuntimeException" (7 : Nat) ({ cls := "java/lang/Exception", name := "<init>", desc := "(Ljava/lang/String;)V" } : Jvm.MethodName)) ∈ TB := tb_4 51 rfl rfl
theorem w4_52 : (Jvm.Cond.instanceMethod ({ cls := "java/lang/Exception", name := "<init>", desc := "(Ljava/lang/String;)V" } : Jvm.MethodName)) ∈ TB := tb_4 52 rfl rfl
theorem w4_53 : (Jvm.Cond.code ({ cls := "java/lang/Exception", name := "<init>", desc := "(Ljava/lang/String;)V" } : Jvm.MethodName) prog_20_method_2_code (2 : Nat) (Option.none : Option Jvm.ClassFile.FieldType)) ∈ TB := tb_4 53 rfl rfl
theorem w4_54 : (Jvm.Cond.methodLink "java/lang/Exception" (7 : Nat) ({ cls := "java/lang/Throwable", name := "<init>", desc := "(Ljava/lang/String;)V" } : Jvm.MethodName)) ∈ TB := tb_4 54 rfl rfl
theorem w4_55 : (Jvm.Cond.instanceMethod ({ cls := "java/lang/Throwable", name := "<init>", desc := "(Ljava/lang/String;)V" } : Jvm.MethodName)) ∈ TB := tb_4 55 rfl rfl
theorem w4_56 : (Jvm.Cond.code ({ cls := "java/lang/Throwable", name := "<init>", desc := "(Ljava/lang/String;)V" } : Jvm.MethodName) prog_30_method_2_code (2 : Nat) (Option.none : Option Jvm.ClassFile.FieldType)) ∈ TB := tb_4 56 rfl rfl
theorem w4_58 : (Jvm.Cond.fieldLink "java/lang/Throwable" (31 : Nat) "java/lang/Throwable" "detailMessage" "Ljava/lang/String;") ∈ TB := tb_4 58 rfl rfl
theorem w4_59 : (Jvm.Cond.fieldLink "java/lang/Throwable" (7 : Nat) "java/lang/Throwable" "cause" "Ljava/lang/Throwable;") ∈ TB := tb_4 59 rfl rfl
theorem w4_60 : (Jvm.Cond.fieldLink "java/lang/Throwable" (17 : Nat) "java/lang/Throwable" "stackTrace" "[Ljava/lang/StackTraceElement;") ∈ TB := tb_4 60 rfl rfl
theorem w4_61 : (Jvm.Cond.fieldLink "java/lang/Throwable" (24 : Nat) "java/lang/Throwable" "suppressedExceptions" "Ljava/util/List;") ∈ TB := tb_4 61 rfl rfl
theorem w4_62 : (Jvm.Cond.soleField "java/lang/Throwable" "backtrace") ∈ TB := tb_4 62 rfl rfl
theorem w4_63 : (Jvm.Cond.soleField "java/lang/Throwable" "detailMessage") ∈ TB := tb_4 63 rfl rfl
theorem w4_64 : (Jvm.Cond.soleField "java/lang/Throwable" "cause") ∈ TB := tb_4 64 rfl rfl
theorem w4_65 : (Jvm.Cond.soleField "java/lang/Throwable" "stackTrace") ∈ TB := tb_4 65 rfl rfl
theorem w4_66 : (Jvm.Cond.lays "java/lang/IllegalArgumentException" "java/lang/Throwable" "depth" "I") ∈ TB := tb_4 66 rfl rfl
theorem w4_67 : (Jvm.Cond.soleField "java/lang/Throwable" "depth") ∈ TB := tb_4 67 rfl rfl
theorem w4_68 : (Jvm.Cond.soleField "java/lang/Throwable" "suppressedExceptions") ∈ TB := tb_4 68 rfl rfl
theorem w4_69 : (Jvm.Cond.superclass "java/lang/IllegalArgumentException" "java/lang/RuntimeException") ∈ TB := tb_4 69 rfl rfl
theorem w4_70 : (Jvm.Cond.constantLong "HedgeNews" (270 : Nat) (-1 : Int64)) ∈ TB := tb_4 70 rfl rfl
theorem w4_71 : (Jvm.Cond.methodLink "HedgeNews" (245 : Nat) ({ cls := "HedgeNews", name := "tryTelling", desc := "(II)V" } : Jvm.MethodName)) ∈ TB := tb_4 71 rfl rfl
theorem w4_72 : (Jvm.Cond.privateMethod ({ cls := "HedgeNews", name := "tryTelling", desc := "(II)V" } : Jvm.MethodName)) ∈ lw_tbl := tz_4 72 rfl
theorem w4_73 : (Jvm.Cond.instanceMethod ({ cls := "HedgeNews", name := "tryTelling", desc := "(II)V" } : Jvm.MethodName)) ∈ TB := tb_4 73 rfl rfl
theorem w4_74 : (Jvm.Cond.code ({ cls := "HedgeNews", name := "tryTelling", desc := "(II)V" } : Jvm.MethodName) prog_1_method_47_code (3 : Nat) (Option.none : Option Jvm.ClassFile.FieldType)) ∈ TB := tb_4 74 rfl rfl
theorem w4_75 : (Jvm.Cond.methodLink "HedgeNews" (259 : Nat) ({ cls := "HedgeNews$Garden", name := "copy", desc := "(LHedgeNews$Garden;)V" } : Jvm.MethodName)) ∈ TB := tb_4 75 rfl rfl
theorem w4_76 : (Jvm.Cond.instanceMethod ({ cls := "HedgeNews$Garden", name := "copy", desc := "(LHedgeNews$Garden;)V" } : Jvm.MethodName)) ∈ TB := tb_4 76 rfl rfl
theorem w4_77 : (Jvm.Cond.selects "HedgeNews$Garden" ({ cls := "HedgeNews$Garden", name := "copy", desc := "(LHedgeNews$Garden;)V" } : Jvm.MethodName) ({ cls := "HedgeNews$Garden", name := "copy", desc := "(LHedgeNews$Garden;)V" } : Jvm.MethodName)) ∈ TB := tb_4 77 rfl rfl
theorem w4_78 : (Jvm.Cond.code ({ cls := "HedgeNews$Garden", name := "copy", desc := "(LHedgeNews$Garden;)V" } : Jvm.MethodName) prog_3_method_5_code (3 : Nat) (Option.none : Option Jvm.ClassFile.FieldType)) ∈ TB := tb_4 78 rfl rfl
theorem w4_79 : (Jvm.Cond.methodLink "HedgeNews$Garden" (63 : Nat) ({ cls := "HedgeNews$Hedge", name := "copy", desc := "(LHedgeNews$Hedge;)V" } : Jvm.MethodName)) ∈ TB := tb_4 79 rfl rfl
theorem w4_80 : (Jvm.Cond.instanceMethod ({ cls := "HedgeNews$Hedge", name := "copy", desc := "(LHedgeNews$Hedge;)V" } : Jvm.MethodName)) ∈ TB := tb_4 80 rfl rfl
theorem w4_81 : (Jvm.Cond.selects "HedgeNews$Hedge" ({ cls := "HedgeNews$Hedge", name := "copy", desc := "(LHedgeNews$Hedge;)V" } : Jvm.MethodName) ({ cls := "HedgeNews$Hedge", name := "copy", desc := "(LHedgeNews$Hedge;)V" } : Jvm.MethodName)) ∈ TB := tb_4 81 rfl rfl
theorem w4_82 : (Jvm.Cond.code ({ cls := "HedgeNews$Hedge", name := "copy", desc := "(LHedgeNews$Hedge;)V" } : Jvm.MethodName) prog_5_method_3_code (3 : Nat) (Option.none : Option Jvm.ClassFile.FieldType)) ∈ TB := tb_4 82 rfl rfl
theorem w4_83 : (Jvm.Cond.methodLink "HedgeNews$Garden" (67 : Nat) ({ cls := "HedgeNews$Rose", name := "copy", desc := "(LHedgeNews$Rose;)V" } : Jvm.MethodName)) ∈ TB := tb_4 83 rfl rfl
theorem w4_84 : (Jvm.Cond.instanceMethod ({ cls := "HedgeNews$Rose", name := "copy", desc := "(LHedgeNews$Rose;)V" } : Jvm.MethodName)) ∈ TB := tb_4 84 rfl rfl
theorem w4_85 : (Jvm.Cond.selects "HedgeNews$Rose" ({ cls := "HedgeNews$Rose", name := "copy", desc := "(LHedgeNews$Rose;)V" } : Jvm.MethodName) ({ cls := "HedgeNews$Rose", name := "copy", desc := "(LHedgeNews$Rose;)V" } : Jvm.MethodName)) ∈ TB := tb_4 85 rfl rfl
theorem w4_86 : (Jvm.Cond.code ({ cls := "HedgeNews$Rose", name := "copy", desc := "(LHedgeNews$Rose;)V" } : Jvm.MethodName) prog_11_method_3_code (2 : Nat) (Option.none : Option Jvm.ClassFile.FieldType)) ∈ TB := tb_4 86 rfl rfl
theorem w4_87 : (Jvm.Cond.methodLink "HedgeNews" (232 : Nat) ({ cls := "HedgeNews$News", name := "carry", desc := "(LHedgeNews$Garden;II)I" } : Jvm.MethodName)) ∈ TB := tb_4 87 rfl rfl
theorem w4_88 : (Jvm.Cond.instanceMethod ({ cls := "HedgeNews$News", name := "carry", desc := "(LHedgeNews$Garden;II)I" } : Jvm.MethodName)) ∈ TB := tb_4 88 rfl rfl
theorem w4_89 : (Jvm.Cond.selects "HedgeNews$News" ({ cls := "HedgeNews$News", name := "carry", desc := "(LHedgeNews$Garden;II)I" } : Jvm.MethodName) ({ cls := "HedgeNews$News", name := "carry", desc := "(LHedgeNews$Garden;II)I" } : Jvm.MethodName)) ∈ TB := tb_4 89 rfl rfl
theorem w4_90 : (Jvm.Cond.code ({ cls := "HedgeNews$News", name := "carry", desc := "(LHedgeNews$Garden;II)I" } : Jvm.MethodName) prog_8_method_2_code (5 : Nat) (Option.some Jvm.ClassFile.FieldType.int)) ∈ TB := tb_4 90 rfl rfl
theorem w4_91 : (Jvm.Cond.methodLink "HedgeNews$News" (32 : Nat) ({ cls := "HedgeNews$News", name := "hedgeHears", desc := "(LHedgeNews$Garden;II)V" } : Jvm.MethodName)) ∈ TB := tb_4 91 rfl rfl
theorem w4_92 : (Jvm.Cond.privateMethod ({ cls := "HedgeNews$News", name := "hedgeHears", desc := "(LHedgeNews$Garden;II)V" } : Jvm.MethodName)) ∈ lw_tbl := tz_4 92 rfl
theorem w4_93 : (Jvm.Cond.instanceMethod ({ cls := "HedgeNews$News", name := "hedgeHears", desc := "(LHedgeNews$Garden;II)V" } : Jvm.MethodName)) ∈ TB := tb_4 93 rfl rfl
theorem w4_94 : (Jvm.Cond.code ({ cls := "HedgeNews$News", name := "hedgeHears", desc := "(LHedgeNews$Garden;II)V" } : Jvm.MethodName) prog_8_method_3_code (6 : Nat) (Option.none : Option Jvm.ClassFile.FieldType)) ∈ TB := tb_4 94 rfl rfl
theorem w4_95 : (Jvm.Cond.methodLink "HedgeNews$News" (45 : Nat) ({ cls := "HedgeNews$Garden", name := "hedge", desc := "(I)LHedgeNews$Hedge;" } : Jvm.MethodName)) ∈ TB := tb_4 95 rfl rfl
theorem w4_96 : (Jvm.Cond.instanceMethod ({ cls := "HedgeNews$Garden", name := "hedge", desc := "(I)LHedgeNews$Hedge;" } : Jvm.MethodName)) ∈ TB := tb_4 96 rfl rfl
theorem w4_97 : (Jvm.Cond.selects "HedgeNews$Garden" ({ cls := "HedgeNews$Garden", name := "hedge", desc := "(I)LHedgeNews$Hedge;" } : Jvm.MethodName) ({ cls := "HedgeNews$Garden", name := "hedge", desc := "(I)LHedgeNews$Hedge;" } : Jvm.MethodName)) ∈ TB := tb_4 97 rfl rfl
theorem w4_98 : (Jvm.Cond.code ({ cls := "HedgeNews$Garden", name := "hedge", desc := "(I)LHedgeNews$Hedge;" } : Jvm.MethodName) prog_3_method_2_code (2 : Nat) (Option.some (Jvm.ClassFile.FieldType.object "HedgeNews$Hedge"))) ∈ TB := tb_4 98 rfl rfl
theorem w4_99 : (Jvm.Cond.methodLink "HedgeNews$News" (66 : Nat) ({ cls := "HedgeNews$Hedge", name := "listenerAt", desc := "(I)I" } : Jvm.MethodName)) ∈ TB := tb_4 99 rfl rfl
theorem w4_100 : (Jvm.Cond.instanceMethod ({ cls := "HedgeNews$Hedge", name := "listenerAt", desc := "(I)I" } : Jvm.MethodName)) ∈ TB := tb_4 100 rfl rfl
theorem w4_101 : (Jvm.Cond.selects "HedgeNews$Hedge" ({ cls := "HedgeNews$Hedge", name := "listenerAt", desc := "(I)I" } : Jvm.MethodName) ({ cls := "HedgeNews$Hedge", name := "listenerAt", desc := "(I)I" } : Jvm.MethodName)) ∈ TB := tb_4 101 rfl rfl
theorem w4_102 : (Jvm.Cond.code ({ cls := "HedgeNews$Hedge", name := "listenerAt", desc := "(I)I" } : Jvm.MethodName) prog_5_method_4_code (2 : Nat) (Option.some Jvm.ClassFile.FieldType.int)) ∈ TB := tb_4 102 rfl rfl
theorem w4_103 : (Jvm.Cond.methodLink "HedgeNews$News" (70 : Nat) ({ cls := "HedgeNews$News", name := "whisper", desc := "(III)V" } : Jvm.MethodName)) ∈ TB := tb_4 103 rfl rfl
theorem w4_104 : (Jvm.Cond.privateMethod ({ cls := "HedgeNews$News", name := "whisper", desc := "(III)V" } : Jvm.MethodName)) ∈ lw_tbl := tz_4 104 rfl
theorem w4_105 : (Jvm.Cond.instanceMethod ({ cls := "HedgeNews$News", name := "whisper", desc := "(III)V" } : Jvm.MethodName)) ∈ TB := tb_4 105 rfl rfl
theorem w4_106 : (Jvm.Cond.code ({ cls := "HedgeNews$News", name := "whisper", desc := "(III)V" } : Jvm.MethodName) prog_8_method_4_code (4 : Nat) (Option.none : Option Jvm.ClassFile.FieldType)) ∈ TB := tb_4 106 rfl rfl
theorem w4_107 : (Jvm.Cond.methodLink "HedgeNews$News" (36 : Nat) ({ cls := "HedgeNews$Garden", name := "roseHears", desc := "(III)V" } : Jvm.MethodName)) ∈ TB := tb_4 107 rfl rfl
theorem w4_108 : (Jvm.Cond.instanceMethod ({ cls := "HedgeNews$Garden", name := "roseHears", desc := "(III)V" } : Jvm.MethodName)) ∈ TB := tb_4 108 rfl rfl
theorem w4_109 : (Jvm.Cond.selects "HedgeNews$Garden" ({ cls := "HedgeNews$Garden", name := "roseHears", desc := "(III)V" } : Jvm.MethodName) ({ cls := "HedgeNews$Garden", name := "roseHears", desc := "(III)V" } : Jvm.MethodName)) ∈ TB := tb_4 109 rfl rfl
theorem w4_110 : (Jvm.Cond.code ({ cls := "HedgeNews$Garden", name := "roseHears", desc := "(III)V" } : Jvm.MethodName) prog_3_method_8_code (5 : Nat) (Option.none : Option Jvm.ClassFile.FieldType)) ∈ TB := tb_4 110 rfl rfl
theorem w4_111 : (Jvm.Cond.methodLink "HedgeNews$Garden" (97 : Nat) ({ cls := "HedgeNews$Garden", name := "stopListening", desc := "(II)Z" } : Jvm.MethodName)) ∈ TB := tb_4 111 rfl rfl
theorem w4_112 : (Jvm.Cond.instanceMethod ({ cls := "HedgeNews$Garden", name := "stopListening", desc := "(II)Z" } : Jvm.MethodName)) ∈ TB := tb_4 112 rfl rfl
theorem w4_113 : (Jvm.Cond.selects "HedgeNews$Garden" ({ cls := "HedgeNews$Garden", name := "stopListening", desc := "(II)Z" } : Jvm.MethodName) ({ cls := "HedgeNews$Garden", name := "stopListening", desc := "(II)Z" } : Jvm.MethodName)) ∈ TB := tb_4 113 rfl rfl
theorem w4_114 : (Jvm.Cond.code ({ cls := "HedgeNews$Garden", name := "stopListening", desc := "(II)Z" } : Jvm.MethodName) prog_3_method_7_code (4 : Nat) (Option.some Jvm.ClassFile.FieldType.boolean)) ∈ TB := tb_4 114 rfl rfl
theorem w4_115 : (Jvm.Cond.methodLink "HedgeNews$Garden" (70 : Nat) ({ cls := "HedgeNews$Garden", name := "hedge", desc := "(I)LHedgeNews$Hedge;" } : Jvm.MethodName)) ∈ TB := tb_4 115 rfl rfl
theorem w4_116 : (Jvm.Cond.methodLink "HedgeNews$Garden" (74 : Nat) ({ cls := "HedgeNews$Hedge", name := "placeOf", desc := "(I)I" } : Jvm.MethodName)) ∈ TB := tb_4 116 rfl rfl
theorem w4_117 : (Jvm.Cond.instanceMethod ({ cls := "HedgeNews$Hedge", name := "placeOf", desc := "(I)I" } : Jvm.MethodName)) ∈ TB := tb_4 117 rfl rfl
theorem w4_118 : (Jvm.Cond.selects "HedgeNews$Hedge" ({ cls := "HedgeNews$Hedge", name := "placeOf", desc := "(I)I" } : Jvm.MethodName) ({ cls := "HedgeNews$Hedge", name := "placeOf", desc := "(I)I" } : Jvm.MethodName)) ∈ TB := tb_4 118 rfl rfl
theorem w4_119 : (Jvm.Cond.code ({ cls := "HedgeNews$Hedge", name := "placeOf", desc := "(I)I" } : Jvm.MethodName) prog_5_method_5_code (3 : Nat) (Option.some Jvm.ClassFile.FieldType.int)) ∈ TB := tb_4 119 rfl rfl
theorem w4_120 : (Jvm.Cond.methodLink "HedgeNews$Garden" (88 : Nat) ({ cls := "HedgeNews$Hedge", name := "removeAt", desc := "(I)V" } : Jvm.MethodName)) ∈ TB := tb_4 120 rfl rfl
theorem w4_121 : (Jvm.Cond.instanceMethod ({ cls := "HedgeNews$Hedge", name := "removeAt", desc := "(I)V" } : Jvm.MethodName)) ∈ TB := tb_4 121 rfl rfl
theorem w4_122 : (Jvm.Cond.selects "HedgeNews$Hedge" ({ cls := "HedgeNews$Hedge", name := "removeAt", desc := "(I)V" } : Jvm.MethodName) ({ cls := "HedgeNews$Hedge", name := "removeAt", desc := "(I)V" } : Jvm.MethodName)) ∈ TB := tb_4 122 rfl rfl
theorem w4_123 : (Jvm.Cond.code ({ cls := "HedgeNews$Hedge", name := "removeAt", desc := "(I)V" } : Jvm.MethodName) prog_5_method_7_code (3 : Nat) (Option.none : Option Jvm.ClassFile.FieldType)) ∈ TB := tb_4 123 rfl rfl
theorem w4_124 : (Jvm.Cond.methodLink "HedgeNews" (285 : Nat) ({ cls := "HedgeNews", name := "digestedHedge", desc := "(JI)J" } : Jvm.MethodName)) ∈ TB := tb_4 124 rfl rfl
theorem w4_125 : (Jvm.Cond.privateMethod ({ cls := "HedgeNews", name := "digestedHedge", desc := "(JI)J" } : Jvm.MethodName)) ∈ lw_tbl := tz_4 125 rfl
theorem w4_126 : (Jvm.Cond.instanceMethod ({ cls := "HedgeNews", name := "digestedHedge", desc := "(JI)J" } : Jvm.MethodName)) ∈ TB := tb_4 126 rfl rfl
theorem w4_127 : (Jvm.Cond.code ({ cls := "HedgeNews", name := "digestedHedge", desc := "(JI)J" } : Jvm.MethodName) prog_1_method_44_code (7 : Nat) (Option.some Jvm.ClassFile.FieldType.long)) ∈ TB := tb_4 127 rfl rfl
theorem w4_128 : (Jvm.Cond.methodLink "HedgeNews" (297 : Nat) ({ cls := "HedgeNews", name := "heardBy", desc := "(I)I" } : Jvm.MethodName)) ∈ TB := tb_4 128 rfl rfl
theorem w4_129 : (Jvm.Cond.instanceMethod ({ cls := "HedgeNews", name := "heardBy", desc := "(I)I" } : Jvm.MethodName)) ∈ TB := tb_4 129 rfl rfl
theorem w4_130 : (Jvm.Cond.selects "HedgeNews" ({ cls := "HedgeNews", name := "heardBy", desc := "(I)I" } : Jvm.MethodName) ({ cls := "HedgeNews", name := "heardBy", desc := "(I)I" } : Jvm.MethodName)) ∈ TB := tb_4 130 rfl rfl
theorem w4_131 : (Jvm.Cond.code ({ cls := "HedgeNews", name := "heardBy", desc := "(I)I" } : Jvm.MethodName) prog_1_method_15_code (2 : Nat) (Option.some Jvm.ClassFile.FieldType.int)) ∈ TB := tb_4 131 rfl rfl
theorem w4_132 : (Jvm.Cond.methodLink "HedgeNews" (155 : Nat) ({ cls := "HedgeNews", name := "hedgeNumbered", desc := "(I)LHedgeNews$Hedge;" } : Jvm.MethodName)) ∈ TB := tb_4 132 rfl rfl
theorem w4_133 : (Jvm.Cond.privateMethod ({ cls := "HedgeNews", name := "hedgeNumbered", desc := "(I)LHedgeNews$Hedge;" } : Jvm.MethodName)) ∈ lw_tbl := tz_4 133 rfl
theorem w4_134 : (Jvm.Cond.instanceMethod ({ cls := "HedgeNews", name := "hedgeNumbered", desc := "(I)LHedgeNews$Hedge;" } : Jvm.MethodName)) ∈ TB := tb_4 134 rfl rfl
theorem w4_135 : (Jvm.Cond.code ({ cls := "HedgeNews", name := "hedgeNumbered", desc := "(I)LHedgeNews$Hedge;" } : Jvm.MethodName) prog_1_method_20_code (3 : Nat) (Option.some (Jvm.ClassFile.FieldType.object "HedgeNews$Hedge"))) ∈ TB := tb_4 135 rfl rfl
theorem w4_136 : (Jvm.Cond.methodLink "HedgeNews" (180 : Nat) ({ cls := "HedgeNews$Garden", name := "hedge", desc := "(I)LHedgeNews$Hedge;" } : Jvm.MethodName)) ∈ TB := tb_4 136 rfl rfl
theorem w4_137 : (Jvm.Cond.classLink "HedgeNews" (183 : Nat) "java/lang/IndexOutOfBoundsException") ∈ TB := tb_4 137 rfl rfl
theorem w4_138 : (Jvm.Cond.instantiable "java/lang/IndexOutOfBoundsException" (6 : Nat)) ∈ TB := tb_4 138 rfl rfl
theorem w4_139 : (Jvm.Cond.castable "java/lang/IndexOutOfBoundsException" "java/lang/IndexOutOfBoundsException") ∈ lw_tbl := tz_4 139 rfl
theorem w4_140 : (Jvm.Cond.selects "java/lang/IndexOutOfBoundsException" ({ cls := "java/lang/Throwable", name := "fillInStackTrace", desc := "(I)Ljava/lang/Throwable;" } : Jvm.MethodName) ({ cls := "java/lang/Throwable", name := "fillInStackTrace", desc := "(I)Ljava/lang/Throwable;" } : Jvm.MethodName)) ∈ TB := tb_4 140 rfl rfl
theorem w4_141 : (Jvm.Cond.lays "java/lang/IndexOutOfBoundsException" "java/lang/Throwable" "cause" "Ljava/lang/Throwable;") ∈ TB := tb_4 141 rfl rfl
theorem w4_142 : (Jvm.Cond.lays "java/lang/IndexOutOfBoundsException" "java/lang/Throwable" "stackTrace" "[Ljava/lang/StackTraceElement;") ∈ TB := tb_4 142 rfl rfl
theorem w4_143 : (Jvm.Cond.lays "java/lang/IndexOutOfBoundsException" "java/lang/Throwable" "suppressedExceptions" "Ljava/util/List;") ∈ TB := tb_4 143 rfl rfl
theorem w4_144 : (Jvm.Cond.lays "java/lang/IndexOutOfBoundsException" "java/lang/Throwable" "detailMessage" "Ljava/lang/String;") ∈ TB := tb_4 144 rfl rfl
theorem w4_145 : (Jvm.Cond.lays "java/lang/IndexOutOfBoundsException" "java/lang/Throwable" "backtrace" "Ljava/lang/Object;") ∈ TB := tb_4 145 rfl rfl
theorem w4_146 : (Jvm.Cond.stringRef "HedgeNews" (185 : Nat) "no such hedge") ∈ lw_tbl := tz_4 146 rfl
theorem w4_147 : (Jvm.Cond.methodLink "HedgeNews" (187 : Nat) ({ cls := "java/lang/IndexOutOfBoundsException", name := "<init>", desc := "(Ljava/lang/String;)V" } : Jvm.MethodName)) ∈ TB := tb_4 147 rfl rfl
theorem w4_148 : (Jvm.Cond.instanceMethod ({ cls := "java/lang/IndexOutOfBoundsException", name := "<init>", desc := "(Ljava/lang/String;)V" } : Jvm.MethodName)) ∈ TB := tb_4 148 rfl rfl
theorem w4_149 : (Jvm.Cond.code ({ cls := "java/lang/IndexOutOfBoundsException", name := "<init>", desc := "(Ljava/lang/String;)V" } : Jvm.MethodName) prog_23_method_2_code (2 : Nat) (Option.none : Option Jvm.ClassFile.FieldType)) ∈ TB := tb_4 149 rfl rfl
theorem w4_150 : (Jvm.Cond.methodLink "java/lang/IndexOutOfBoundsException" (7 : Nat) ({ cls := "java/lang/RuntimeException", name := "<init>", desc := "(Ljava/lang/String;)V" } : Jvm.MethodName)) ∈ TB := tb_4 150 rfl rfl
theorem w4_151 : (Jvm.Cond.lays "java/lang/IndexOutOfBoundsException" "java/lang/Throwable" "depth" "I") ∈ TB := tb_4 151 rfl rfl
theorem w4_152 : (Jvm.Cond.superclass "java/lang/IndexOutOfBoundsException" "java/lang/RuntimeException") ∈ TB := tb_4 152 rfl rfl
theorem w4_153 : (Jvm.Cond.methodLink "HedgeNews" (300 : Nat) ({ cls := "HedgeNews", name := "latestOf", desc := "(I)I" } : Jvm.MethodName)) ∈ TB := tb_4 153 rfl rfl
theorem w4_154 : (Jvm.Cond.instanceMethod ({ cls := "HedgeNews", name := "latestOf", desc := "(I)I" } : Jvm.MethodName)) ∈ TB := tb_4 154 rfl rfl
theorem w4_155 : (Jvm.Cond.selects "HedgeNews" ({ cls := "HedgeNews", name := "latestOf", desc := "(I)I" } : Jvm.MethodName) ({ cls := "HedgeNews", name := "latestOf", desc := "(I)I" } : Jvm.MethodName)) ∈ TB := tb_4 155 rfl rfl
theorem w4_156 : (Jvm.Cond.code ({ cls := "HedgeNews", name := "latestOf", desc := "(I)I" } : Jvm.MethodName) prog_1_method_16_code (2 : Nat) (Option.some Jvm.ClassFile.FieldType.int)) ∈ TB := tb_4 156 rfl rfl
theorem w4_157 : (Jvm.Cond.methodLink "HedgeNews" (303 : Nat) ({ cls := "HedgeNews", name := "listenersOf", desc := "(I)I" } : Jvm.MethodName)) ∈ TB := tb_4 157 rfl rfl
theorem w4_158 : (Jvm.Cond.instanceMethod ({ cls := "HedgeNews", name := "listenersOf", desc := "(I)I" } : Jvm.MethodName)) ∈ TB := tb_4 158 rfl rfl
theorem w4_159 : (Jvm.Cond.selects "HedgeNews" ({ cls := "HedgeNews", name := "listenersOf", desc := "(I)I" } : Jvm.MethodName) ({ cls := "HedgeNews", name := "listenersOf", desc := "(I)I" } : Jvm.MethodName)) ∈ TB := tb_4 159 rfl rfl
theorem w4_160 : (Jvm.Cond.code ({ cls := "HedgeNews", name := "listenersOf", desc := "(I)I" } : Jvm.MethodName) prog_1_method_17_code (2 : Nat) (Option.some Jvm.ClassFile.FieldType.int)) ∈ TB := tb_4 160 rfl rfl
theorem w4_161 : (Jvm.Cond.methodLink "HedgeNews" (306 : Nat) ({ cls := "HedgeNews", name := "hedgeInRow", desc := "(II)I" } : Jvm.MethodName)) ∈ TB := tb_4 161 rfl rfl
theorem w4_162 : (Jvm.Cond.instanceMethod ({ cls := "HedgeNews", name := "hedgeInRow", desc := "(II)I" } : Jvm.MethodName)) ∈ TB := tb_4 162 rfl rfl
theorem w4_163 : (Jvm.Cond.selects "HedgeNews" ({ cls := "HedgeNews", name := "hedgeInRow", desc := "(II)I" } : Jvm.MethodName) ({ cls := "HedgeNews", name := "hedgeInRow", desc := "(II)I" } : Jvm.MethodName)) ∈ TB := tb_4 163 rfl rfl
theorem w4_164 : (Jvm.Cond.code ({ cls := "HedgeNews", name := "hedgeInRow", desc := "(II)I" } : Jvm.MethodName) prog_1_method_18_code (3 : Nat) (Option.some Jvm.ClassFile.FieldType.int)) ∈ TB := tb_4 164 rfl rfl
theorem w4_165 : (Jvm.Cond.methodLink "HedgeNews" (173 : Nat) ({ cls := "HedgeNews$Hedge", name := "placeOf", desc := "(I)I" } : Jvm.MethodName)) ∈ TB := tb_4 165 rfl rfl
theorem w4_166 : (Jvm.Cond.methodLink "HedgeNews" (309 : Nat) ({ cls := "HedgeNews", name := "roseInRow", desc := "(II)I" } : Jvm.MethodName)) ∈ TB := tb_4 166 rfl rfl
theorem w4_167 : (Jvm.Cond.instanceMethod ({ cls := "HedgeNews", name := "roseInRow", desc := "(II)I" } : Jvm.MethodName)) ∈ TB := tb_4 167 rfl rfl
theorem w4_168 : (Jvm.Cond.selects "HedgeNews" ({ cls := "HedgeNews", name := "roseInRow", desc := "(II)I" } : Jvm.MethodName) ({ cls := "HedgeNews", name := "roseInRow", desc := "(II)I" } : Jvm.MethodName)) ∈ TB := tb_4 168 rfl rfl
theorem w4_169 : (Jvm.Cond.code ({ cls := "HedgeNews", name := "roseInRow", desc := "(II)I" } : Jvm.MethodName) prog_1_method_19_code (3 : Nat) (Option.some Jvm.ClassFile.FieldType.int)) ∈ TB := tb_4 169 rfl rfl
theorem w4_170 : (Jvm.Cond.methodLink "HedgeNews" (176 : Nat) ({ cls := "HedgeNews", name := "roseNumbered", desc := "(I)LHedgeNews$Rose;" } : Jvm.MethodName)) ∈ TB := tb_4 170 rfl rfl
theorem w4_171 : (Jvm.Cond.privateMethod ({ cls := "HedgeNews", name := "roseNumbered", desc := "(I)LHedgeNews$Rose;" } : Jvm.MethodName)) ∈ lw_tbl := tz_4 171 rfl
theorem w4_172 : (Jvm.Cond.instanceMethod ({ cls := "HedgeNews", name := "roseNumbered", desc := "(I)LHedgeNews$Rose;" } : Jvm.MethodName)) ∈ TB := tb_4 172 rfl rfl
theorem w4_173 : (Jvm.Cond.code ({ cls := "HedgeNews", name := "roseNumbered", desc := "(I)LHedgeNews$Rose;" } : Jvm.MethodName) prog_1_method_26_code (3 : Nat) (Option.some (Jvm.ClassFile.FieldType.object "HedgeNews$Rose"))) ∈ TB := tb_4 173 rfl rfl
theorem w4_174 : (Jvm.Cond.methodLink "HedgeNews" (206 : Nat) ({ cls := "HedgeNews$Garden", name := "rose", desc := "(I)LHedgeNews$Rose;" } : Jvm.MethodName)) ∈ TB := tb_4 174 rfl rfl
theorem w4_175 : (Jvm.Cond.stringRef "HedgeNews" (209 : Nat) "no such rose") ∈ lw_tbl := tz_4 175 rfl
theorem w4_176 : (Jvm.Cond.methodLink "HedgeNews" (288 : Nat) ({ cls := "HedgeNews", name := "petalsOf", desc := "(I)I" } : Jvm.MethodName)) ∈ TB := tb_4 176 rfl rfl
theorem w4_177 : (Jvm.Cond.instanceMethod ({ cls := "HedgeNews", name := "petalsOf", desc := "(I)I" } : Jvm.MethodName)) ∈ TB := tb_4 177 rfl rfl
theorem w4_178 : (Jvm.Cond.selects "HedgeNews" ({ cls := "HedgeNews", name := "petalsOf", desc := "(I)I" } : Jvm.MethodName) ({ cls := "HedgeNews", name := "petalsOf", desc := "(I)I" } : Jvm.MethodName)) ∈ TB := tb_4 178 rfl rfl
theorem w4_179 : (Jvm.Cond.code ({ cls := "HedgeNews", name := "petalsOf", desc := "(I)I" } : Jvm.MethodName) prog_1_method_22_code (2 : Nat) (Option.some Jvm.ClassFile.FieldType.int)) ∈ TB := tb_4 179 rfl rfl
theorem w4_180 : (Jvm.Cond.methodLink "HedgeNews" (291 : Nat) ({ cls := "HedgeNews", name := "countOf", desc := "(I)I" } : Jvm.MethodName)) ∈ TB := tb_4 180 rfl rfl
theorem w4_181 : (Jvm.Cond.instanceMethod ({ cls := "HedgeNews", name := "countOf", desc := "(I)I" } : Jvm.MethodName)) ∈ TB := tb_4 181 rfl rfl
theorem w4_182 : (Jvm.Cond.selects "HedgeNews" ({ cls := "HedgeNews", name := "countOf", desc := "(I)I" } : Jvm.MethodName) ({ cls := "HedgeNews", name := "countOf", desc := "(I)I" } : Jvm.MethodName)) ∈ TB := tb_4 182 rfl rfl
theorem w4_183 : (Jvm.Cond.code ({ cls := "HedgeNews", name := "countOf", desc := "(I)I" } : Jvm.MethodName) prog_1_method_23_code (2 : Nat) (Option.some Jvm.ClassFile.FieldType.int)) ∈ TB := tb_4 183 rfl rfl
theorem w4_184 : (Jvm.Cond.methodLink "HedgeNews" (294 : Nat) ({ cls := "HedgeNews", name := "hedgesOf", desc := "(I)I" } : Jvm.MethodName)) ∈ TB := tb_4 184 rfl rfl
theorem w4_185 : (Jvm.Cond.instanceMethod ({ cls := "HedgeNews", name := "hedgesOf", desc := "(I)I" } : Jvm.MethodName)) ∈ TB := tb_4 185 rfl rfl
theorem w4_186 : (Jvm.Cond.selects "HedgeNews" ({ cls := "HedgeNews", name := "hedgesOf", desc := "(I)I" } : Jvm.MethodName) ({ cls := "HedgeNews", name := "hedgesOf", desc := "(I)I" } : Jvm.MethodName)) ∈ TB := tb_4 186 rfl rfl
theorem w4_187 : (Jvm.Cond.code ({ cls := "HedgeNews", name := "hedgesOf", desc := "(I)I" } : Jvm.MethodName) prog_1_method_24_code (2 : Nat) (Option.some Jvm.ClassFile.FieldType.int)) ∈ TB := tb_4 187 rfl rfl
theorem w4_188 : (Jvm.Cond.methodLink "HedgeNews" (199 : Nat) ({ cls := "HedgeNews$Garden", name := "rowsWith", desc := "(I)I" } : Jvm.MethodName)) ∈ TB := tb_4 188 rfl rfl
theorem w4_189 : (Jvm.Cond.instanceMethod ({ cls := "HedgeNews$Garden", name := "rowsWith", desc := "(I)I" } : Jvm.MethodName)) ∈ TB := tb_4 189 rfl rfl
theorem w4_190 : (Jvm.Cond.selects "HedgeNews$Garden" ({ cls := "HedgeNews$Garden", name := "rowsWith", desc := "(I)I" } : Jvm.MethodName) ({ cls := "HedgeNews$Garden", name := "rowsWith", desc := "(I)I" } : Jvm.MethodName)) ∈ TB := tb_4 190 rfl rfl
theorem w4_191 : (Jvm.Cond.code ({ cls := "HedgeNews$Garden", name := "rowsWith", desc := "(I)I" } : Jvm.MethodName) prog_3_method_11_code (4 : Nat) (Option.some Jvm.ClassFile.FieldType.int)) ∈ TB := tb_4 191 rfl rfl
theorem w4_192 : (Jvm.Cond.methodLink "HedgeNews$Garden" (102 : Nat) ({ cls := "HedgeNews$Garden", name := "isInRow", desc := "(II)Z" } : Jvm.MethodName)) ∈ TB := tb_4 192 rfl rfl
theorem w4_193 : (Jvm.Cond.instanceMethod ({ cls := "HedgeNews$Garden", name := "isInRow", desc := "(II)Z" } : Jvm.MethodName)) ∈ TB := tb_4 193 rfl rfl
theorem w4_194 : (Jvm.Cond.selects "HedgeNews$Garden" ({ cls := "HedgeNews$Garden", name := "isInRow", desc := "(II)Z" } : Jvm.MethodName) ({ cls := "HedgeNews$Garden", name := "isInRow", desc := "(II)Z" } : Jvm.MethodName)) ∈ TB := tb_4 194 rfl rfl
theorem w4_195 : (Jvm.Cond.code ({ cls := "HedgeNews$Garden", name := "isInRow", desc := "(II)Z" } : Jvm.MethodName) prog_3_method_10_code (4 : Nat) (Option.some Jvm.ClassFile.FieldType.boolean)) ∈ TB := tb_4 195 rfl rfl
theorem w4_196 : (Jvm.Cond.methodLink "HedgeNewsLaw" (95 : Nat) ({ cls := "HedgeNewsLaw", name := "feed", desc := "(LHedgeNews;IIIII[J)I" } : Jvm.MethodName)) ∈ TB := tb_4 196 rfl rfl
theorem w4_197 : (Jvm.Cond.static ({ cls := "HedgeNewsLaw", name := "feed", desc := "(LHedgeNews;IIIII[J)I" } : Jvm.MethodName)) ∈ TB := tb_4 197 rfl rfl
theorem w4_198 : (Jvm.Cond.codeWith ({ cls := "HedgeNewsLaw", name := "feed", desc := "(LHedgeNews;IIIII[J)I" } : Jvm.MethodName) method_3_code (8 : Nat) (Option.some Jvm.ClassFile.FieldType.int) [((0 : Nat), (16 : Nat), (19 : Nat), (13 : Nat))]) ∈ TB := tb_4 198 rfl rfl
theorem w4_199 : (Jvm.Cond.classLink "HedgeNewsLaw" (13 : Nat) "java/lang/IllegalStateException") ∈ TB := tb_4 199 rfl rfl
theorem w4_200 : (Jvm.Cond.methodLink "HedgeNewsLaw" (7 : Nat) ({ cls := "HedgeNews", name := "feed", desc := "(IIIII)I" } : Jvm.MethodName)) ∈ TB := tb_4 200 rfl rfl
theorem w4_201 : (Jvm.Cond.instanceMethod ({ cls := "HedgeNews", name := "feed", desc := "(IIIII)I" } : Jvm.MethodName)) ∈ TB := tb_4 201 rfl rfl
theorem w4_202 : (Jvm.Cond.selects "HedgeNews" ({ cls := "HedgeNews", name := "feed", desc := "(IIIII)I" } : Jvm.MethodName) ({ cls := "HedgeNews", name := "feed", desc := "(IIIII)I" } : Jvm.MethodName)) ∈ TB := tb_4 202 rfl rfl
theorem w4_203 : (Jvm.Cond.code ({ cls := "HedgeNews", name := "feed", desc := "(IIIII)I" } : Jvm.MethodName) prog_1_method_2_code (6 : Nat) (Option.some Jvm.ClassFile.FieldType.int)) ∈ TB := tb_4 203 rfl rfl
theorem w4_204 : (Jvm.Cond.classLink "HedgeNews" (82 : Nat) "java/lang/IllegalStateException") ∈ TB := tb_4 204 rfl rfl
theorem w4_205 : (Jvm.Cond.instantiable "java/lang/IllegalStateException" (6 : Nat)) ∈ TB := tb_4 205 rfl rfl
theorem w4_206 : (Jvm.Cond.castable "java/lang/IllegalStateException" "java/lang/IllegalStateException") ∈ lw_tbl := tz_4 206 rfl
theorem w4_207 : (Jvm.Cond.selects "java/lang/IllegalStateException" ({ cls := "java/lang/Throwable", name := "fillInStackTrace", desc := "(I)Ljava/lang/Throwable;" } : Jvm.MethodName) ({ cls := "java/lang/Throwable", name := "fillInStackTrace", desc := "(I)Ljava/lang/Throwable;" } : Jvm.MethodName)) ∈ TB := tb_4 207 rfl rfl
theorem w4_208 : (Jvm.Cond.lays "java/lang/IllegalStateException" "java/lang/Throwable" "cause" "Ljava/lang/Throwable;") ∈ TB := tb_4 208 rfl rfl
theorem w4_209 : (Jvm.Cond.lays "java/lang/IllegalStateException" "java/lang/Throwable" "stackTrace" "[Ljava/lang/StackTraceElement;") ∈ TB := tb_4 209 rfl rfl
theorem w4_210 : (Jvm.Cond.lays "java/lang/IllegalStateException" "java/lang/Throwable" "suppressedExceptions" "Ljava/util/List;") ∈ TB := tb_4 210 rfl rfl
theorem w4_211 : (Jvm.Cond.lays "java/lang/IllegalStateException" "java/lang/Throwable" "detailMessage" "Ljava/lang/String;") ∈ TB := tb_4 211 rfl rfl
theorem w4_212 : (Jvm.Cond.lays "java/lang/IllegalStateException" "java/lang/Throwable" "backtrace" "Ljava/lang/Object;") ∈ TB := tb_4 212 rfl rfl
theorem w4_213 : (Jvm.Cond.stringRef "HedgeNews" (84 : Nat) "the tape would be too long") ∈ lw_tbl := tz_4 213 rfl
theorem w4_214 : (Jvm.Cond.methodLink "HedgeNews" (86 : Nat) ({ cls := "java/lang/IllegalStateException", name := "<init>", desc := "(Ljava/lang/String;)V" } : Jvm.MethodName)) ∈ TB := tb_4 214 rfl rfl
theorem w4_215 : (Jvm.Cond.instanceMethod ({ cls := "java/lang/IllegalStateException", name := "<init>", desc := "(Ljava/lang/String;)V" } : Jvm.MethodName)) ∈ TB := tb_4 215 rfl rfl
theorem w4_216 : (Jvm.Cond.code ({ cls := "java/lang/IllegalStateException", name := "<init>", desc := "(Ljava/lang/String;)V" } : Jvm.MethodName) prog_22_method_2_code (2 : Nat) (Option.none : Option Jvm.ClassFile.FieldType)) ∈ TB := tb_4 216 rfl rfl
theorem w4_217 : (Jvm.Cond.methodLink "java/lang/IllegalStateException" (7 : Nat) ({ cls := "java/lang/RuntimeException", name := "<init>", desc := "(Ljava/lang/String;)V" } : Jvm.MethodName)) ∈ TB := tb_4 217 rfl rfl
theorem w4_218 : (Jvm.Cond.lays "java/lang/IllegalStateException" "java/lang/Throwable" "depth" "I") ∈ TB := tb_4 218 rfl rfl
theorem w4_219 : (Jvm.Cond.superclass "java/lang/IllegalStateException" "java/lang/RuntimeException") ∈ TB := tb_4 219 rfl rfl
theorem w4_220 : (Jvm.Cond.methodLink "HedgeNews" (89 : Nat) ({ cls := "HedgeNews$Tape", name := "add", desc := "(I)V" } : Jvm.MethodName)) ∈ TB := tb_4 220 rfl rfl
theorem w4_221 : (Jvm.Cond.instanceMethod ({ cls := "HedgeNews$Tape", name := "add", desc := "(I)V" } : Jvm.MethodName)) ∈ TB := tb_4 221 rfl rfl
theorem w4_222 : (Jvm.Cond.selects "HedgeNews$Tape" ({ cls := "HedgeNews$Tape", name := "add", desc := "(I)V" } : Jvm.MethodName) ({ cls := "HedgeNews$Tape", name := "add", desc := "(I)V" } : Jvm.MethodName)) ∈ TB := tb_4 222 rfl rfl
theorem w4_223 : (Jvm.Cond.code ({ cls := "HedgeNews$Tape", name := "add", desc := "(I)V" } : Jvm.MethodName) prog_12_method_2_code (3 : Nat) (Option.none : Option Jvm.ClassFile.FieldType)) ∈ TB := tb_4 223 rfl rfl
theorem w4_224 : (Jvm.Cond.methodLink "HedgeNewsLaw" (105 : Nat) ({ cls := "HedgeNewsLaw", name := "trim", desc := "(LHedgeNews;I[J)I" } : Jvm.MethodName)) ∈ TB := tb_4 224 rfl rfl
theorem w4_225 : (Jvm.Cond.static ({ cls := "HedgeNewsLaw", name := "trim", desc := "(LHedgeNews;I[J)I" } : Jvm.MethodName)) ∈ TB := tb_4 225 rfl rfl
theorem w4_226 : (Jvm.Cond.codeWith ({ cls := "HedgeNewsLaw", name := "trim", desc := "(LHedgeNews;I[J)I" } : Jvm.MethodName) method_4_code (4 : Nat) (Option.some Jvm.ClassFile.FieldType.int) [((0 : Nat), (9 : Nat), (12 : Nat), (19 : Nat))]) ∈ TB := tb_4 226 rfl rfl
theorem w4_227 : (Jvm.Cond.classLink "HedgeNewsLaw" (19 : Nat) "java/lang/IllegalArgumentException") ∈ TB := tb_4 227 rfl rfl
theorem w4_228 : (Jvm.Cond.methodLink "HedgeNewsLaw" (15 : Nat) ({ cls := "HedgeNews", name := "trim", desc := "(I)I" } : Jvm.MethodName)) ∈ TB := tb_4 228 rfl rfl
theorem w4_229 : (Jvm.Cond.instanceMethod ({ cls := "HedgeNews", name := "trim", desc := "(I)I" } : Jvm.MethodName)) ∈ TB := tb_4 229 rfl rfl
theorem w4_230 : (Jvm.Cond.selects "HedgeNews" ({ cls := "HedgeNews", name := "trim", desc := "(I)I" } : Jvm.MethodName) ({ cls := "HedgeNews", name := "trim", desc := "(I)I" } : Jvm.MethodName)) ∈ TB := tb_4 230 rfl rfl
theorem w4_231 : (Jvm.Cond.code ({ cls := "HedgeNews", name := "trim", desc := "(I)I" } : Jvm.MethodName) prog_1_method_3_code (2 : Nat) (Option.some Jvm.ClassFile.FieldType.int)) ∈ TB := tb_4 231 rfl rfl
theorem w4_232 : (Jvm.Cond.stringRef "HedgeNews" (95 : Nat) "the tape has no such first bytes") ∈ lw_tbl := tz_4 232 rfl
theorem w4_233 : (Jvm.Cond.methodLink "HedgeNewsLaw" (145 : Nat) ({ cls := "HedgeNewsLaw", name := "hushOf", desc := "(LHedgeNews;I[J)I" } : Jvm.MethodName)) ∈ TB := tb_4 233 rfl rfl
theorem w4_234 : (Jvm.Cond.static ({ cls := "HedgeNewsLaw", name := "hushOf", desc := "(LHedgeNews;I[J)I" } : Jvm.MethodName)) ∈ TB := tb_4 234 rfl rfl
theorem w4_235 : (Jvm.Cond.codeWith ({ cls := "HedgeNewsLaw", name := "hushOf", desc := "(LHedgeNews;I[J)I" } : Jvm.MethodName) method_5_code (4 : Nat) (Option.some Jvm.ClassFile.FieldType.int) [((0 : Nat), (9 : Nat), (12 : Nat), (24 : Nat))]) ∈ TB := tb_4 235 rfl rfl
theorem w4_236 : (Jvm.Cond.classLink "HedgeNewsLaw" (24 : Nat) "java/lang/IndexOutOfBoundsException") ∈ TB := tb_4 236 rfl rfl
theorem w4_237 : (Jvm.Cond.methodLink "HedgeNewsLaw" (21 : Nat) ({ cls := "HedgeNews", name := "hushOf", desc := "(I)I" } : Jvm.MethodName)) ∈ TB := tb_4 237 rfl rfl
theorem w4_238 : (Jvm.Cond.instanceMethod ({ cls := "HedgeNews", name := "hushOf", desc := "(I)I" } : Jvm.MethodName)) ∈ TB := tb_4 238 rfl rfl
theorem w4_239 : (Jvm.Cond.selects "HedgeNews" ({ cls := "HedgeNews", name := "hushOf", desc := "(I)I" } : Jvm.MethodName) ({ cls := "HedgeNews", name := "hushOf", desc := "(I)I" } : Jvm.MethodName)) ∈ TB := tb_4 239 rfl rfl
theorem w5_0 : (Jvm.Cond.code ({ cls := "HedgeNews", name := "hushOf", desc := "(I)I" } : Jvm.MethodName) prog_1_method_14_code (2 : Nat) (Option.some Jvm.ClassFile.FieldType.int)) ∈ TB := tb_5 0 rfl rfl
theorem w5_1 : (Jvm.Cond.methodLink "HedgeNewsLaw" (148 : Nat) ({ cls := "HedgeNewsLaw", name := "heardBy", desc := "(LHedgeNews;I[J)I" } : Jvm.MethodName)) ∈ TB := tb_5 1 rfl rfl
theorem w5_2 : (Jvm.Cond.static ({ cls := "HedgeNewsLaw", name := "heardBy", desc := "(LHedgeNews;I[J)I" } : Jvm.MethodName)) ∈ TB := tb_5 2 rfl rfl
theorem w5_3 : (Jvm.Cond.codeWith ({ cls := "HedgeNewsLaw", name := "heardBy", desc := "(LHedgeNews;I[J)I" } : Jvm.MethodName) method_6_code (4 : Nat) (Option.some Jvm.ClassFile.FieldType.int) [((0 : Nat), (9 : Nat), (12 : Nat), (24 : Nat))]) ∈ TB := tb_5 3 rfl rfl
theorem w5_4 : (Jvm.Cond.methodLink "HedgeNewsLaw" (26 : Nat) ({ cls := "HedgeNews", name := "heardBy", desc := "(I)I" } : Jvm.MethodName)) ∈ TB := tb_5 4 rfl rfl
theorem w5_5 : (Jvm.Cond.methodLink "HedgeNewsLaw" (151 : Nat) ({ cls := "HedgeNewsLaw", name := "latestOf", desc := "(LHedgeNews;I[J)I" } : Jvm.MethodName)) ∈ TB := tb_5 5 rfl rfl
theorem w5_6 : (Jvm.Cond.static ({ cls := "HedgeNewsLaw", name := "latestOf", desc := "(LHedgeNews;I[J)I" } : Jvm.MethodName)) ∈ TB := tb_5 6 rfl rfl
theorem w5_7 : (Jvm.Cond.codeWith ({ cls := "HedgeNewsLaw", name := "latestOf", desc := "(LHedgeNews;I[J)I" } : Jvm.MethodName) method_7_code (4 : Nat) (Option.some Jvm.ClassFile.FieldType.int) [((0 : Nat), (9 : Nat), (12 : Nat), (24 : Nat))]) ∈ TB := tb_5 7 rfl rfl
theorem w5_8 : (Jvm.Cond.methodLink "HedgeNewsLaw" (29 : Nat) ({ cls := "HedgeNews", name := "latestOf", desc := "(I)I" } : Jvm.MethodName)) ∈ TB := tb_5 8 rfl rfl
theorem w5_9 : (Jvm.Cond.methodLink "HedgeNewsLaw" (154 : Nat) ({ cls := "HedgeNewsLaw", name := "listenersOf", desc := "(LHedgeNews;I[J)I" } : Jvm.MethodName)) ∈ TB := tb_5 9 rfl rfl
theorem w5_10 : (Jvm.Cond.static ({ cls := "HedgeNewsLaw", name := "listenersOf", desc := "(LHedgeNews;I[J)I" } : Jvm.MethodName)) ∈ TB := tb_5 10 rfl rfl
theorem w5_11 : (Jvm.Cond.codeWith ({ cls := "HedgeNewsLaw", name := "listenersOf", desc := "(LHedgeNews;I[J)I" } : Jvm.MethodName) method_8_code (4 : Nat) (Option.some Jvm.ClassFile.FieldType.int) [((0 : Nat), (9 : Nat), (12 : Nat), (24 : Nat))]) ∈ TB := tb_5 11 rfl rfl
theorem w5_12 : (Jvm.Cond.methodLink "HedgeNewsLaw" (32 : Nat) ({ cls := "HedgeNews", name := "listenersOf", desc := "(I)I" } : Jvm.MethodName)) ∈ TB := tb_5 12 rfl rfl
theorem w5_13 : (Jvm.Cond.methodLink "HedgeNewsLaw" (157 : Nat) ({ cls := "HedgeNewsLaw", name := "hedgeInRow", desc := "(LHedgeNews;II[J)I" } : Jvm.MethodName)) ∈ TB := tb_5 13 rfl rfl
theorem w5_14 : (Jvm.Cond.static ({ cls := "HedgeNewsLaw", name := "hedgeInRow", desc := "(LHedgeNews;II[J)I" } : Jvm.MethodName)) ∈ TB := tb_5 14 rfl rfl
theorem w5_15 : (Jvm.Cond.codeWith ({ cls := "HedgeNewsLaw", name := "hedgeInRow", desc := "(LHedgeNews;II[J)I" } : Jvm.MethodName) method_9_code (5 : Nat) (Option.some Jvm.ClassFile.FieldType.int) [((0 : Nat), (10 : Nat), (13 : Nat), (24 : Nat))]) ∈ TB := tb_5 15 rfl rfl
theorem w5_16 : (Jvm.Cond.methodLink "HedgeNewsLaw" (35 : Nat) ({ cls := "HedgeNews", name := "hedgeInRow", desc := "(II)I" } : Jvm.MethodName)) ∈ TB := tb_5 16 rfl rfl
theorem w5_17 : (Jvm.Cond.methodLink "HedgeNewsLaw" (161 : Nat) ({ cls := "HedgeNewsLaw", name := "roseInRow", desc := "(LHedgeNews;II[J)I" } : Jvm.MethodName)) ∈ TB := tb_5 17 rfl rfl
theorem w5_18 : (Jvm.Cond.static ({ cls := "HedgeNewsLaw", name := "roseInRow", desc := "(LHedgeNews;II[J)I" } : Jvm.MethodName)) ∈ TB := tb_5 18 rfl rfl
theorem w5_19 : (Jvm.Cond.codeWith ({ cls := "HedgeNewsLaw", name := "roseInRow", desc := "(LHedgeNews;II[J)I" } : Jvm.MethodName) method_10_code (5 : Nat) (Option.some Jvm.ClassFile.FieldType.int) [((0 : Nat), (10 : Nat), (13 : Nat), (24 : Nat))]) ∈ TB := tb_5 19 rfl rfl
theorem w5_20 : (Jvm.Cond.methodLink "HedgeNewsLaw" (39 : Nat) ({ cls := "HedgeNews", name := "roseInRow", desc := "(II)I" } : Jvm.MethodName)) ∈ TB := tb_5 20 rfl rfl
theorem w5_21 : (Jvm.Cond.methodLink "HedgeNewsLaw" (164 : Nat) ({ cls := "HedgeNewsLaw", name := "patienceOf", desc := "(LHedgeNews;I[J)I" } : Jvm.MethodName)) ∈ TB := tb_5 21 rfl rfl
theorem w5_22 : (Jvm.Cond.static ({ cls := "HedgeNewsLaw", name := "patienceOf", desc := "(LHedgeNews;I[J)I" } : Jvm.MethodName)) ∈ TB := tb_5 22 rfl rfl
theorem w5_23 : (Jvm.Cond.codeWith ({ cls := "HedgeNewsLaw", name := "patienceOf", desc := "(LHedgeNews;I[J)I" } : Jvm.MethodName) method_11_code (4 : Nat) (Option.some Jvm.ClassFile.FieldType.int) [((0 : Nat), (9 : Nat), (12 : Nat), (24 : Nat))]) ∈ TB := tb_5 23 rfl rfl
theorem w5_24 : (Jvm.Cond.methodLink "HedgeNewsLaw" (42 : Nat) ({ cls := "HedgeNews", name := "patienceOf", desc := "(I)I" } : Jvm.MethodName)) ∈ TB := tb_5 24 rfl rfl
theorem w5_25 : (Jvm.Cond.instanceMethod ({ cls := "HedgeNews", name := "patienceOf", desc := "(I)I" } : Jvm.MethodName)) ∈ TB := tb_5 25 rfl rfl
theorem w5_26 : (Jvm.Cond.selects "HedgeNews" ({ cls := "HedgeNews", name := "patienceOf", desc := "(I)I" } : Jvm.MethodName) ({ cls := "HedgeNews", name := "patienceOf", desc := "(I)I" } : Jvm.MethodName)) ∈ TB := tb_5 26 rfl rfl
theorem w5_27 : (Jvm.Cond.code ({ cls := "HedgeNews", name := "patienceOf", desc := "(I)I" } : Jvm.MethodName) prog_1_method_21_code (2 : Nat) (Option.some Jvm.ClassFile.FieldType.int)) ∈ TB := tb_5 27 rfl rfl
theorem w5_28 : (Jvm.Cond.methodLink "HedgeNewsLaw" (167 : Nat) ({ cls := "HedgeNewsLaw", name := "petalsOf", desc := "(LHedgeNews;I[J)I" } : Jvm.MethodName)) ∈ TB := tb_5 28 rfl rfl
theorem w5_29 : (Jvm.Cond.static ({ cls := "HedgeNewsLaw", name := "petalsOf", desc := "(LHedgeNews;I[J)I" } : Jvm.MethodName)) ∈ TB := tb_5 29 rfl rfl
theorem w5_30 : (Jvm.Cond.codeWith ({ cls := "HedgeNewsLaw", name := "petalsOf", desc := "(LHedgeNews;I[J)I" } : Jvm.MethodName) method_12_code (4 : Nat) (Option.some Jvm.ClassFile.FieldType.int) [((0 : Nat), (9 : Nat), (12 : Nat), (24 : Nat))]) ∈ TB := tb_5 30 rfl rfl
theorem w5_31 : (Jvm.Cond.methodLink "HedgeNewsLaw" (45 : Nat) ({ cls := "HedgeNews", name := "petalsOf", desc := "(I)I" } : Jvm.MethodName)) ∈ TB := tb_5 31 rfl rfl
theorem w5_32 : (Jvm.Cond.methodLink "HedgeNewsLaw" (170 : Nat) ({ cls := "HedgeNewsLaw", name := "countOf", desc := "(LHedgeNews;I[J)I" } : Jvm.MethodName)) ∈ TB := tb_5 32 rfl rfl
theorem w5_33 : (Jvm.Cond.static ({ cls := "HedgeNewsLaw", name := "countOf", desc := "(LHedgeNews;I[J)I" } : Jvm.MethodName)) ∈ TB := tb_5 33 rfl rfl
theorem w5_34 : (Jvm.Cond.codeWith ({ cls := "HedgeNewsLaw", name := "countOf", desc := "(LHedgeNews;I[J)I" } : Jvm.MethodName) method_13_code (4 : Nat) (Option.some Jvm.ClassFile.FieldType.int) [((0 : Nat), (9 : Nat), (12 : Nat), (24 : Nat))]) ∈ TB := tb_5 34 rfl rfl
theorem w5_35 : (Jvm.Cond.methodLink "HedgeNewsLaw" (48 : Nat) ({ cls := "HedgeNews", name := "countOf", desc := "(I)I" } : Jvm.MethodName)) ∈ TB := tb_5 35 rfl rfl
theorem w5_36 : (Jvm.Cond.methodLink "HedgeNewsLaw" (173 : Nat) ({ cls := "HedgeNewsLaw", name := "hedgesOf", desc := "(LHedgeNews;I[J)I" } : Jvm.MethodName)) ∈ TB := tb_5 36 rfl rfl
theorem w5_37 : (Jvm.Cond.static ({ cls := "HedgeNewsLaw", name := "hedgesOf", desc := "(LHedgeNews;I[J)I" } : Jvm.MethodName)) ∈ TB := tb_5 37 rfl rfl
theorem w5_38 : (Jvm.Cond.codeWith ({ cls := "HedgeNewsLaw", name := "hedgesOf", desc := "(LHedgeNews;I[J)I" } : Jvm.MethodName) method_14_code (4 : Nat) (Option.some Jvm.ClassFile.FieldType.int) [((0 : Nat), (9 : Nat), (12 : Nat), (24 : Nat))]) ∈ TB := tb_5 38 rfl rfl
theorem w5_39 : (Jvm.Cond.methodLink "HedgeNewsLaw" (51 : Nat) ({ cls := "HedgeNews", name := "hedgesOf", desc := "(I)I" } : Jvm.MethodName)) ∈ TB := tb_5 39 rfl rfl
theorem w5_40 : (Jvm.Cond.methodLink "HedgeNewsLaw" (180 : Nat) ({ cls := "HedgeNewsLaw", name := "hedgeListens", desc := "(LHedgeNews;II[J)I" } : Jvm.MethodName)) ∈ TB := tb_5 40 rfl rfl
theorem w5_41 : (Jvm.Cond.static ({ cls := "HedgeNewsLaw", name := "hedgeListens", desc := "(LHedgeNews;II[J)I" } : Jvm.MethodName)) ∈ TB := tb_5 41 rfl rfl
theorem w5_42 : (Jvm.Cond.codeWith ({ cls := "HedgeNewsLaw", name := "hedgeListens", desc := "(LHedgeNews;II[J)I" } : Jvm.MethodName) method_15_code (5 : Nat) (Option.some Jvm.ClassFile.FieldType.int) [((0 : Nat), (10 : Nat), (13 : Nat), (24 : Nat)), ((0 : Nat), (10 : Nat), (17 : Nat), (13 : Nat))]) ∈ TB := tb_5 42 rfl rfl
theorem w5_43 : (Jvm.Cond.methodLink "HedgeNewsLaw" (54 : Nat) ({ cls := "HedgeNews", name := "hedgeListens", desc := "(II)I" } : Jvm.MethodName)) ∈ TB := tb_5 43 rfl rfl
theorem w5_44 : (Jvm.Cond.instanceMethod ({ cls := "HedgeNews", name := "hedgeListens", desc := "(II)I" } : Jvm.MethodName)) ∈ TB := tb_5 44 rfl rfl
theorem w5_45 : (Jvm.Cond.selects "HedgeNews" ({ cls := "HedgeNews", name := "hedgeListens", desc := "(II)I" } : Jvm.MethodName) ({ cls := "HedgeNews", name := "hedgeListens", desc := "(II)I" } : Jvm.MethodName)) ∈ TB := tb_5 45 rfl rfl
theorem w5_46 : (Jvm.Cond.code ({ cls := "HedgeNews", name := "hedgeListens", desc := "(II)I" } : Jvm.MethodName) prog_1_method_27_code (3 : Nat) (Option.some Jvm.ClassFile.FieldType.int)) ∈ TB := tb_5 46 rfl rfl
theorem w5_47 : (Jvm.Cond.methodLink "HedgeNews" (211 : Nat) ({ cls := "HedgeNews", name := "placeAfterListening", desc := "(II)I" } : Jvm.MethodName)) ∈ TB := tb_5 47 rfl rfl
theorem w5_48 : (Jvm.Cond.privateMethod ({ cls := "HedgeNews", name := "placeAfterListening", desc := "(II)I" } : Jvm.MethodName)) ∈ lw_tbl := tz_5 48 rfl
theorem w5_49 : (Jvm.Cond.instanceMethod ({ cls := "HedgeNews", name := "placeAfterListening", desc := "(II)I" } : Jvm.MethodName)) ∈ TB := tb_5 49 rfl rfl
theorem w5_50 : (Jvm.Cond.code ({ cls := "HedgeNews", name := "placeAfterListening", desc := "(II)I" } : Jvm.MethodName) prog_1_method_31_code (4 : Nat) (Option.some Jvm.ClassFile.FieldType.int)) ∈ TB := tb_5 50 rfl rfl
theorem w5_51 : (Jvm.Cond.methodLink "HedgeNews" (218 : Nat) ({ cls := "HedgeNews$Garden", name := "startListening", desc := "(II)Z" } : Jvm.MethodName)) ∈ TB := tb_5 51 rfl rfl
theorem w5_52 : (Jvm.Cond.instanceMethod ({ cls := "HedgeNews$Garden", name := "startListening", desc := "(II)Z" } : Jvm.MethodName)) ∈ TB := tb_5 52 rfl rfl
theorem w5_53 : (Jvm.Cond.selects "HedgeNews$Garden" ({ cls := "HedgeNews$Garden", name := "startListening", desc := "(II)Z" } : Jvm.MethodName) ({ cls := "HedgeNews$Garden", name := "startListening", desc := "(II)Z" } : Jvm.MethodName)) ∈ TB := tb_5 53 rfl rfl
theorem w5_54 : (Jvm.Cond.code ({ cls := "HedgeNews$Garden", name := "startListening", desc := "(II)Z" } : Jvm.MethodName) prog_3_method_6_code (5 : Nat) (Option.some Jvm.ClassFile.FieldType.boolean)) ∈ TB := tb_5 54 rfl rfl
theorem w5_55 : (Jvm.Cond.methodLink "HedgeNews$Garden" (78 : Nat) ({ cls := "HedgeNews$Hedge", name := "add", desc := "(I)V" } : Jvm.MethodName)) ∈ TB := tb_5 55 rfl rfl
theorem w5_56 : (Jvm.Cond.instanceMethod ({ cls := "HedgeNews$Hedge", name := "add", desc := "(I)V" } : Jvm.MethodName)) ∈ TB := tb_5 56 rfl rfl
theorem w5_57 : (Jvm.Cond.selects "HedgeNews$Hedge" ({ cls := "HedgeNews$Hedge", name := "add", desc := "(I)V" } : Jvm.MethodName) ({ cls := "HedgeNews$Hedge", name := "add", desc := "(I)V" } : Jvm.MethodName)) ∈ TB := tb_5 57 rfl rfl
theorem w5_58 : (Jvm.Cond.code ({ cls := "HedgeNews$Hedge", name := "add", desc := "(I)V" } : Jvm.MethodName) prog_5_method_6_code (2 : Nat) (Option.none : Option Jvm.ClassFile.FieldType)) ∈ TB := tb_5 58 rfl rfl
theorem w5_59 : (Jvm.Cond.stringRef "HedgeNews" (222 : Nat) "it listens there, or is this very hedge") ∈ lw_tbl := tz_5 59 rfl
theorem w5_60 : (Jvm.Cond.methodLink "HedgeNewsLaw" (183 : Nat) ({ cls := "HedgeNewsLaw", name := "roseListens", desc := "(LHedgeNews;II[J)I" } : Jvm.MethodName)) ∈ TB := tb_5 60 rfl rfl
theorem w5_61 : (Jvm.Cond.static ({ cls := "HedgeNewsLaw", name := "roseListens", desc := "(LHedgeNews;II[J)I" } : Jvm.MethodName)) ∈ TB := tb_5 61 rfl rfl
theorem w5_62 : (Jvm.Cond.codeWith ({ cls := "HedgeNewsLaw", name := "roseListens", desc := "(LHedgeNews;II[J)I" } : Jvm.MethodName) method_16_code (5 : Nat) (Option.some Jvm.ClassFile.FieldType.int) [((0 : Nat), (10 : Nat), (13 : Nat), (24 : Nat)), ((0 : Nat), (10 : Nat), (17 : Nat), (13 : Nat))]) ∈ TB := tb_5 62 rfl rfl
theorem w5_63 : (Jvm.Cond.methodLink "HedgeNewsLaw" (57 : Nat) ({ cls := "HedgeNews", name := "roseListens", desc := "(II)I" } : Jvm.MethodName)) ∈ TB := tb_5 63 rfl rfl
theorem w5_64 : (Jvm.Cond.instanceMethod ({ cls := "HedgeNews", name := "roseListens", desc := "(II)I" } : Jvm.MethodName)) ∈ TB := tb_5 64 rfl rfl
theorem w5_65 : (Jvm.Cond.selects "HedgeNews" ({ cls := "HedgeNews", name := "roseListens", desc := "(II)I" } : Jvm.MethodName) ({ cls := "HedgeNews", name := "roseListens", desc := "(II)I" } : Jvm.MethodName)) ∈ TB := tb_5 65 rfl rfl
theorem w5_66 : (Jvm.Cond.code ({ cls := "HedgeNews", name := "roseListens", desc := "(II)I" } : Jvm.MethodName) prog_1_method_28_code (3 : Nat) (Option.some Jvm.ClassFile.FieldType.int)) ∈ TB := tb_5 66 rfl rfl
theorem w5_67 : (Jvm.Cond.methodLink "HedgeNewsLaw" (186 : Nat) ({ cls := "HedgeNewsLaw", name := "hedgeLeaves", desc := "(LHedgeNews;II[J)I" } : Jvm.MethodName)) ∈ TB := tb_5 67 rfl rfl
theorem w5_68 : (Jvm.Cond.static ({ cls := "HedgeNewsLaw", name := "hedgeLeaves", desc := "(LHedgeNews;II[J)I" } : Jvm.MethodName)) ∈ TB := tb_5 68 rfl rfl
theorem w5_69 : (Jvm.Cond.codeWith ({ cls := "HedgeNewsLaw", name := "hedgeLeaves", desc := "(LHedgeNews;II[J)I" } : Jvm.MethodName) method_17_code (5 : Nat) (Option.some Jvm.ClassFile.FieldType.int) [((0 : Nat), (10 : Nat), (13 : Nat), (24 : Nat)), ((0 : Nat), (10 : Nat), (17 : Nat), (13 : Nat))]) ∈ TB := tb_5 69 rfl rfl
theorem w5_70 : (Jvm.Cond.methodLink "HedgeNewsLaw" (60 : Nat) ({ cls := "HedgeNews", name := "hedgeLeaves", desc := "(II)I" } : Jvm.MethodName)) ∈ TB := tb_5 70 rfl rfl
theorem w5_71 : (Jvm.Cond.instanceMethod ({ cls := "HedgeNews", name := "hedgeLeaves", desc := "(II)I" } : Jvm.MethodName)) ∈ TB := tb_5 71 rfl rfl
theorem w5_72 : (Jvm.Cond.selects "HedgeNews" ({ cls := "HedgeNews", name := "hedgeLeaves", desc := "(II)I" } : Jvm.MethodName) ({ cls := "HedgeNews", name := "hedgeLeaves", desc := "(II)I" } : Jvm.MethodName)) ∈ TB := tb_5 72 rfl rfl
theorem w5_73 : (Jvm.Cond.code ({ cls := "HedgeNews", name := "hedgeLeaves", desc := "(II)I" } : Jvm.MethodName) prog_1_method_29_code (3 : Nat) (Option.some Jvm.ClassFile.FieldType.int)) ∈ TB := tb_5 73 rfl rfl
theorem w5_74 : (Jvm.Cond.methodLink "HedgeNews" (215 : Nat) ({ cls := "HedgeNews", name := "listenersAfterLeaving", desc := "(II)I" } : Jvm.MethodName)) ∈ TB := tb_5 74 rfl rfl
theorem w5_75 : (Jvm.Cond.privateMethod ({ cls := "HedgeNews", name := "listenersAfterLeaving", desc := "(II)I" } : Jvm.MethodName)) ∈ lw_tbl := tz_5 75 rfl
theorem w5_76 : (Jvm.Cond.instanceMethod ({ cls := "HedgeNews", name := "listenersAfterLeaving", desc := "(II)I" } : Jvm.MethodName)) ∈ TB := tb_5 76 rfl rfl
theorem w5_77 : (Jvm.Cond.code ({ cls := "HedgeNews", name := "listenersAfterLeaving", desc := "(II)I" } : Jvm.MethodName) prog_1_method_32_code (4 : Nat) (Option.some Jvm.ClassFile.FieldType.int)) ∈ TB := tb_5 77 rfl rfl
theorem w5_78 : (Jvm.Cond.methodLink "HedgeNews" (224 : Nat) ({ cls := "HedgeNews$Garden", name := "stopListening", desc := "(II)Z" } : Jvm.MethodName)) ∈ TB := tb_5 78 rfl rfl
theorem w5_79 : (Jvm.Cond.stringRef "HedgeNews" (227 : Nat) "it does not listen there") ∈ lw_tbl := tz_5 79 rfl
theorem w5_80 : (Jvm.Cond.methodLink "HedgeNewsLaw" (189 : Nat) ({ cls := "HedgeNewsLaw", name := "roseLeaves", desc := "(LHedgeNews;II[J)I" } : Jvm.MethodName)) ∈ TB := tb_5 80 rfl rfl
theorem w5_81 : (Jvm.Cond.static ({ cls := "HedgeNewsLaw", name := "roseLeaves", desc := "(LHedgeNews;II[J)I" } : Jvm.MethodName)) ∈ TB := tb_5 81 rfl rfl
theorem w5_82 : (Jvm.Cond.codeWith ({ cls := "HedgeNewsLaw", name := "roseLeaves", desc := "(LHedgeNews;II[J)I" } : Jvm.MethodName) method_18_code (5 : Nat) (Option.some Jvm.ClassFile.FieldType.int) [((0 : Nat), (10 : Nat), (13 : Nat), (24 : Nat)), ((0 : Nat), (10 : Nat), (17 : Nat), (13 : Nat))]) ∈ TB := tb_5 82 rfl rfl
theorem w5_83 : (Jvm.Cond.methodLink "HedgeNewsLaw" (63 : Nat) ({ cls := "HedgeNews", name := "roseLeaves", desc := "(II)I" } : Jvm.MethodName)) ∈ TB := tb_5 83 rfl rfl
theorem w5_84 : (Jvm.Cond.instanceMethod ({ cls := "HedgeNews", name := "roseLeaves", desc := "(II)I" } : Jvm.MethodName)) ∈ TB := tb_5 84 rfl rfl
theorem w5_85 : (Jvm.Cond.selects "HedgeNews" ({ cls := "HedgeNews", name := "roseLeaves", desc := "(II)I" } : Jvm.MethodName) ({ cls := "HedgeNews", name := "roseLeaves", desc := "(II)I" } : Jvm.MethodName)) ∈ TB := tb_5 85 rfl rfl
theorem w5_86 : (Jvm.Cond.code ({ cls := "HedgeNews", name := "roseLeaves", desc := "(II)I" } : Jvm.MethodName) prog_1_method_30_code (3 : Nat) (Option.some Jvm.ClassFile.FieldType.int)) ∈ TB := tb_5 86 rfl rfl
theorem w5_87 : (Jvm.Cond.methodLink "HedgeNewsLaw" (192 : Nat) ({ cls := "HedgeNewsLaw", name := "tell", desc := "(LHedgeNews;II[J)I" } : Jvm.MethodName)) ∈ TB := tb_5 87 rfl rfl
theorem w5_88 : (Jvm.Cond.static ({ cls := "HedgeNewsLaw", name := "tell", desc := "(LHedgeNews;II[J)I" } : Jvm.MethodName)) ∈ TB := tb_5 88 rfl rfl
theorem w5_89 : (Jvm.Cond.codeWith ({ cls := "HedgeNewsLaw", name := "tell", desc := "(LHedgeNews;II[J)I" } : Jvm.MethodName) method_19_code (5 : Nat) (Option.some Jvm.ClassFile.FieldType.int) [((0 : Nat), (10 : Nat), (13 : Nat), (24 : Nat)), ((0 : Nat), (10 : Nat), (17 : Nat), (19 : Nat))]) ∈ TB := tb_5 89 rfl rfl
theorem w5_90 : (Jvm.Cond.methodLink "HedgeNewsLaw" (66 : Nat) ({ cls := "HedgeNews", name := "tell", desc := "(II)I" } : Jvm.MethodName)) ∈ TB := tb_5 90 rfl rfl
theorem w5_91 : (Jvm.Cond.instanceMethod ({ cls := "HedgeNews", name := "tell", desc := "(II)I" } : Jvm.MethodName)) ∈ TB := tb_5 91 rfl rfl
theorem w5_92 : (Jvm.Cond.selects "HedgeNews" ({ cls := "HedgeNews", name := "tell", desc := "(II)I" } : Jvm.MethodName) ({ cls := "HedgeNews", name := "tell", desc := "(II)I" } : Jvm.MethodName)) ∈ TB := tb_5 92 rfl rfl
theorem w5_93 : (Jvm.Cond.code ({ cls := "HedgeNews", name := "tell", desc := "(II)I" } : Jvm.MethodName) prog_1_method_33_code (3 : Nat) (Option.some Jvm.ClassFile.FieldType.int)) ∈ TB := tb_5 93 rfl rfl
theorem w5_94 : (Jvm.Cond.methodLink "HedgeNewsLaw" (195 : Nat) ({ cls := "HedgeNewsLaw", name := "passDays", desc := "(LHedgeNews;I[J)I" } : Jvm.MethodName)) ∈ TB := tb_5 94 rfl rfl
theorem w5_95 : (Jvm.Cond.static ({ cls := "HedgeNewsLaw", name := "passDays", desc := "(LHedgeNews;I[J)I" } : Jvm.MethodName)) ∈ TB := tb_5 95 rfl rfl
theorem w5_96 : (Jvm.Cond.codeWith ({ cls := "HedgeNewsLaw", name := "passDays", desc := "(LHedgeNews;I[J)I" } : Jvm.MethodName) method_20_code (4 : Nat) (Option.some Jvm.ClassFile.FieldType.int) [((0 : Nat), (9 : Nat), (12 : Nat), (19 : Nat))]) ∈ TB := tb_5 96 rfl rfl
theorem w5_97 : (Jvm.Cond.methodLink "HedgeNewsLaw" (69 : Nat) ({ cls := "HedgeNews", name := "passDays", desc := "(I)I" } : Jvm.MethodName)) ∈ TB := tb_5 97 rfl rfl
theorem w5_98 : (Jvm.Cond.instanceMethod ({ cls := "HedgeNews", name := "passDays", desc := "(I)I" } : Jvm.MethodName)) ∈ TB := tb_5 98 rfl rfl
theorem w5_99 : (Jvm.Cond.selects "HedgeNews" ({ cls := "HedgeNews", name := "passDays", desc := "(I)I" } : Jvm.MethodName) ({ cls := "HedgeNews", name := "passDays", desc := "(I)I" } : Jvm.MethodName)) ∈ TB := tb_5 99 rfl rfl
theorem w5_100 : (Jvm.Cond.code ({ cls := "HedgeNews", name := "passDays", desc := "(I)I" } : Jvm.MethodName) prog_1_method_35_code (4 : Nat) (Option.some Jvm.ClassFile.FieldType.int)) ∈ TB := tb_5 100 rfl rfl
theorem w5_101 : (Jvm.Cond.methodLink "HedgeNews" (238 : Nat) ({ cls := "HedgeNews", name := "needDays", desc := "(I)V" } : Jvm.MethodName)) ∈ TB := tb_5 101 rfl rfl
theorem w5_102 : (Jvm.Cond.static ({ cls := "HedgeNews", name := "needDays", desc := "(I)V" } : Jvm.MethodName)) ∈ TB := tb_5 102 rfl rfl
theorem w5_103 : (Jvm.Cond.code ({ cls := "HedgeNews", name := "needDays", desc := "(I)V" } : Jvm.MethodName) prog_1_method_46_code (1 : Nat) (Option.none : Option Jvm.ClassFile.FieldType)) ∈ TB := tb_5 103 rfl rfl
theorem w5_104 : (Jvm.Cond.stringRef "HedgeNews" (314 : Nat) "days are 1 to 30") ∈ lw_tbl := tz_5 104 rfl
theorem w5_105 : (Jvm.Cond.methodLink "HedgeNews" (241 : Nat) ({ cls := "HedgeNews$Gardener", name := "letDayPass", desc := "(LHedgeNews$Plan;LHedgeNews$Garden;)V" } : Jvm.MethodName)) ∈ TB := tb_5 105 rfl rfl
theorem w5_106 : (Jvm.Cond.instanceMethod ({ cls := "HedgeNews$Gardener", name := "letDayPass", desc := "(LHedgeNews$Plan;LHedgeNews$Garden;)V" } : Jvm.MethodName)) ∈ TB := tb_5 106 rfl rfl
theorem w5_107 : (Jvm.Cond.selects "HedgeNews$Gardener" ({ cls := "HedgeNews$Gardener", name := "letDayPass", desc := "(LHedgeNews$Plan;LHedgeNews$Garden;)V" } : Jvm.MethodName) ({ cls := "HedgeNews$Gardener", name := "letDayPass", desc := "(LHedgeNews$Plan;LHedgeNews$Garden;)V" } : Jvm.MethodName)) ∈ TB := tb_5 107 rfl rfl
theorem w5_108 : (Jvm.Cond.code ({ cls := "HedgeNews$Gardener", name := "letDayPass", desc := "(LHedgeNews$Plan;LHedgeNews$Garden;)V" } : Jvm.MethodName) prog_4_method_2_code (4 : Nat) (Option.none : Option Jvm.ClassFile.FieldType)) ∈ TB := tb_5 108 rfl rfl
theorem w5_109 : (Jvm.Cond.methodLink "HedgeNews$Gardener" (38 : Nat) ({ cls := "HedgeNews$Gardener", name := "step", desc := "(LHedgeNews$Garden;LHedgeNews$Kind;II)V" } : Jvm.MethodName)) ∈ TB := tb_5 109 rfl rfl
theorem w5_110 : (Jvm.Cond.privateMethod ({ cls := "HedgeNews$Gardener", name := "step", desc := "(LHedgeNews$Garden;LHedgeNews$Kind;II)V" } : Jvm.MethodName)) ∈ lw_tbl := tz_5 110 rfl
theorem w5_111 : (Jvm.Cond.instanceMethod ({ cls := "HedgeNews$Gardener", name := "step", desc := "(LHedgeNews$Garden;LHedgeNews$Kind;II)V" } : Jvm.MethodName)) ∈ TB := tb_5 111 rfl rfl
theorem w5_112 : (Jvm.Cond.code ({ cls := "HedgeNews$Gardener", name := "step", desc := "(LHedgeNews$Garden;LHedgeNews$Kind;II)V" } : Jvm.MethodName) prog_4_method_3_code (5 : Nat) (Option.none : Option Jvm.ClassFile.FieldType)) ∈ TB := tb_5 112 rfl rfl
theorem w5_113 : (Jvm.Cond.fieldLink "HedgeNews$Gardener" (47 : Nat) "HedgeNews$1" "$SwitchMap$HedgeNews$Kind" "[I") ∈ TB := tb_5 113 rfl rfl
theorem w5_114 : (Jvm.Cond.methodLink "HedgeNews$Gardener" (52 : Nat) ({ cls := "HedgeNews$Kind", name := "ordinal", desc := "()I" } : Jvm.MethodName)) ∈ TB := tb_5 114 rfl rfl
theorem w5_115 : (Jvm.Cond.methodLink "HedgeNews$Gardener" (58 : Nat) ({ cls := "HedgeNews$Gardener", name := "push", desc := "(I)V" } : Jvm.MethodName)) ∈ TB := tb_5 115 rfl rfl
theorem w5_116 : (Jvm.Cond.privateMethod ({ cls := "HedgeNews$Gardener", name := "push", desc := "(I)V" } : Jvm.MethodName)) ∈ lw_tbl := tz_5 116 rfl
theorem w5_117 : (Jvm.Cond.instanceMethod ({ cls := "HedgeNews$Gardener", name := "push", desc := "(I)V" } : Jvm.MethodName)) ∈ TB := tb_5 117 rfl rfl
theorem w5_118 : (Jvm.Cond.code ({ cls := "HedgeNews$Gardener", name := "push", desc := "(I)V" } : Jvm.MethodName) prog_4_method_8_code (2 : Nat) (Option.none : Option Jvm.ClassFile.FieldType)) ∈ TB := tb_5 118 rfl rfl
theorem w5_119 : (Jvm.Cond.methodLink "HedgeNews$Gardener" (71 : Nat) ({ cls := "HedgeNews$Garden", name := "heardAt", desc := "(I)I" } : Jvm.MethodName)) ∈ TB := tb_5 119 rfl rfl
theorem w5_120 : (Jvm.Cond.instanceMethod ({ cls := "HedgeNews$Garden", name := "heardAt", desc := "(I)I" } : Jvm.MethodName)) ∈ TB := tb_5 120 rfl rfl
theorem w5_121 : (Jvm.Cond.selects "HedgeNews$Garden" ({ cls := "HedgeNews$Garden", name := "heardAt", desc := "(I)I" } : Jvm.MethodName) ({ cls := "HedgeNews$Garden", name := "heardAt", desc := "(I)I" } : Jvm.MethodName)) ∈ TB := tb_5 121 rfl rfl
theorem w5_122 : (Jvm.Cond.code ({ cls := "HedgeNews$Garden", name := "heardAt", desc := "(I)I" } : Jvm.MethodName) prog_3_method_16_code (3 : Nat) (Option.some Jvm.ClassFile.FieldType.int)) ∈ TB := tb_5 122 rfl rfl
theorem w5_123 : (Jvm.Cond.methodLink "HedgeNews$Gardener" (75 : Nat) ({ cls := "HedgeNews$Garden", name := "latestAt", desc := "(I)I" } : Jvm.MethodName)) ∈ TB := tb_5 123 rfl rfl
theorem w5_124 : (Jvm.Cond.instanceMethod ({ cls := "HedgeNews$Garden", name := "latestAt", desc := "(I)I" } : Jvm.MethodName)) ∈ TB := tb_5 124 rfl rfl
theorem w5_125 : (Jvm.Cond.selects "HedgeNews$Garden" ({ cls := "HedgeNews$Garden", name := "latestAt", desc := "(I)I" } : Jvm.MethodName) ({ cls := "HedgeNews$Garden", name := "latestAt", desc := "(I)I" } : Jvm.MethodName)) ∈ TB := tb_5 125 rfl rfl
theorem w5_126 : (Jvm.Cond.code ({ cls := "HedgeNews$Garden", name := "latestAt", desc := "(I)I" } : Jvm.MethodName) prog_3_method_17_code (3 : Nat) (Option.some Jvm.ClassFile.FieldType.int)) ∈ TB := tb_5 126 rfl rfl
theorem w5_127 : (Jvm.Cond.methodLink "HedgeNews$Gardener" (78 : Nat) ({ cls := "HedgeNews$Garden", name := "petalsAt", desc := "(I)I" } : Jvm.MethodName)) ∈ TB := tb_5 127 rfl rfl
theorem w5_128 : (Jvm.Cond.methodLink "HedgeNews$Gardener" (81 : Nat) ({ cls := "HedgeNews$Garden", name := "isInRow", desc := "(II)Z" } : Jvm.MethodName)) ∈ TB := tb_5 128 rfl rfl
theorem w5_129 : (Jvm.Cond.methodLink "HedgeNews$Gardener" (85 : Nat) ({ cls := "HedgeNews$Gardener", name := "oneIf", desc := "(Z)I" } : Jvm.MethodName)) ∈ TB := tb_5 129 rfl rfl
theorem w5_130 : (Jvm.Cond.static ({ cls := "HedgeNews$Gardener", name := "oneIf", desc := "(Z)I" } : Jvm.MethodName)) ∈ TB := tb_5 130 rfl rfl
theorem w5_131 : (Jvm.Cond.code ({ cls := "HedgeNews$Gardener", name := "oneIf", desc := "(Z)I" } : Jvm.MethodName) prog_4_method_7_code (1 : Nat) (Option.some Jvm.ClassFile.FieldType.int)) ∈ TB := tb_5 131 rfl rfl
theorem w5_132 : (Jvm.Cond.methodLink "HedgeNews$Gardener" (89 : Nat) ({ cls := "HedgeNews$Gardener", name := "pop", desc := "()I" } : Jvm.MethodName)) ∈ TB := tb_5 132 rfl rfl
theorem w5_133 : (Jvm.Cond.privateMethod ({ cls := "HedgeNews$Gardener", name := "pop", desc := "()I" } : Jvm.MethodName)) ∈ lw_tbl := tz_5 133 rfl
theorem w5_134 : (Jvm.Cond.instanceMethod ({ cls := "HedgeNews$Gardener", name := "pop", desc := "()I" } : Jvm.MethodName)) ∈ TB := tb_5 134 rfl rfl
theorem w5_135 : (Jvm.Cond.code ({ cls := "HedgeNews$Gardener", name := "pop", desc := "()I" } : Jvm.MethodName) prog_4_method_9_code (1 : Nat) (Option.some Jvm.ClassFile.FieldType.int)) ∈ TB := tb_5 135 rfl rfl
theorem w5_136 : (Jvm.Cond.methodLink "HedgeNews$Gardener" (92 : Nat) ({ cls := "HedgeNews$Gardener", name := "order", desc := "(LHedgeNews$Garden;LHedgeNews$Kind;II)V" } : Jvm.MethodName)) ∈ TB := tb_5 136 rfl rfl
theorem w5_137 : (Jvm.Cond.privateMethod ({ cls := "HedgeNews$Gardener", name := "order", desc := "(LHedgeNews$Garden;LHedgeNews$Kind;II)V" } : Jvm.MethodName)) ∈ lw_tbl := tz_5 137 rfl
theorem w5_138 : (Jvm.Cond.instanceMethod ({ cls := "HedgeNews$Gardener", name := "order", desc := "(LHedgeNews$Garden;LHedgeNews$Kind;II)V" } : Jvm.MethodName)) ∈ TB := tb_5 138 rfl rfl
theorem w5_139 : (Jvm.Cond.code ({ cls := "HedgeNews$Gardener", name := "order", desc := "(LHedgeNews$Garden;LHedgeNews$Kind;II)V" } : Jvm.MethodName) prog_4_method_5_code (8 : Nat) (Option.none : Option Jvm.ClassFile.FieldType)) ∈ TB := tb_5 139 rfl rfl
theorem w5_140 : (Jvm.Cond.fieldLink "HedgeNews$Gardener" (103 : Nat) "HedgeNews$Kind" "TELL" "LHedgeNews$Kind;") ∈ TB := tb_5 140 rfl rfl
theorem w5_141 : (Jvm.Cond.methodLink "HedgeNews$Gardener" (107 : Nat) ({ cls := "java/lang/Math", name := "min", desc := "(II)I" } : Jvm.MethodName)) ∈ TB := tb_5 141 rfl rfl
theorem w5_142 : (Jvm.Cond.static ({ cls := "java/lang/Math", name := "min", desc := "(II)I" } : Jvm.MethodName)) ∈ TB := tb_5 142 rfl rfl
theorem w5_143 : (Jvm.Cond.code ({ cls := "java/lang/Math", name := "min", desc := "(II)I" } : Jvm.MethodName) prog_24_method_69_code (2 : Nat) (Option.some Jvm.ClassFile.FieldType.int)) ∈ TB := tb_5 143 rfl rfl
theorem w5_144 : (Jvm.Cond.methodLink "HedgeNews$Gardener" (113 : Nat) ({ cls := "java/lang/Math", name := "max", desc := "(II)I" } : Jvm.MethodName)) ∈ TB := tb_5 144 rfl rfl
theorem w5_145 : (Jvm.Cond.static ({ cls := "java/lang/Math", name := "max", desc := "(II)I" } : Jvm.MethodName)) ∈ TB := tb_5 145 rfl rfl
theorem w5_146 : (Jvm.Cond.code ({ cls := "java/lang/Math", name := "max", desc := "(II)I" } : Jvm.MethodName) prog_24_method_65_code (2 : Nat) (Option.some Jvm.ClassFile.FieldType.int)) ∈ TB := tb_5 146 rfl rfl
theorem w5_147 : (Jvm.Cond.fieldLink "HedgeNews$Gardener" (116 : Nat) "HedgeNews$Kind" "LISTEN" "LHedgeNews$Kind;") ∈ TB := tb_5 147 rfl rfl
theorem w5_148 : (Jvm.Cond.methodLink "HedgeNews$Gardener" (119 : Nat) ({ cls := "HedgeNews$Garden", name := "startListening", desc := "(II)Z" } : Jvm.MethodName)) ∈ TB := tb_5 148 rfl rfl
theorem w5_149 : (Jvm.Cond.fieldLink "HedgeNews$Gardener" (122 : Nat) "HedgeNews$Kind" "LEAVE" "LHedgeNews$Kind;") ∈ TB := tb_5 149 rfl rfl
theorem w5_150 : (Jvm.Cond.methodLink "HedgeNews$Gardener" (125 : Nat) ({ cls := "HedgeNews$Garden", name := "stopListening", desc := "(II)Z" } : Jvm.MethodName)) ∈ TB := tb_5 150 rfl rfl
theorem w5_151 : (Jvm.Cond.methodLink "HedgeNews$Gardener" (128 : Nat) ({ cls := "HedgeNews$News", name := "carry", desc := "(LHedgeNews$Garden;II)I" } : Jvm.MethodName)) ∈ TB := tb_5 151 rfl rfl
theorem w5_152 : (Jvm.Cond.methodLink "HedgeNews$Gardener" (95 : Nat) ({ cls := "HedgeNews$Gardener", name := "join", desc := "(LHedgeNews$Kind;)V" } : Jvm.MethodName)) ∈ TB := tb_5 152 rfl rfl
theorem w5_153 : (Jvm.Cond.privateMethod ({ cls := "HedgeNews$Gardener", name := "join", desc := "(LHedgeNews$Kind;)V" } : Jvm.MethodName)) ∈ lw_tbl := tz_5 153 rfl
theorem w5_154 : (Jvm.Cond.instanceMethod ({ cls := "HedgeNews$Gardener", name := "join", desc := "(LHedgeNews$Kind;)V" } : Jvm.MethodName)) ∈ TB := tb_5 154 rfl rfl
theorem w5_155 : (Jvm.Cond.code ({ cls := "HedgeNews$Gardener", name := "join", desc := "(LHedgeNews$Kind;)V" } : Jvm.MethodName) prog_4_method_4_code (4 : Nat) (Option.none : Option Jvm.ClassFile.FieldType)) ∈ TB := tb_5 155 rfl rfl
theorem w5_156 : (Jvm.Cond.methodLink "HedgeNews$Gardener" (99 : Nat) ({ cls := "HedgeNews$Gardener", name := "joined", desc := "(LHedgeNews$Kind;II)I" } : Jvm.MethodName)) ∈ TB := tb_5 156 rfl rfl
theorem w5_157 : (Jvm.Cond.static ({ cls := "HedgeNews$Gardener", name := "joined", desc := "(LHedgeNews$Kind;II)I" } : Jvm.MethodName)) ∈ TB := tb_5 157 rfl rfl
theorem w5_158 : (Jvm.Cond.code ({ cls := "HedgeNews$Gardener", name := "joined", desc := "(LHedgeNews$Kind;II)I" } : Jvm.MethodName) prog_4_method_6_code (3 : Nat) (Option.some Jvm.ClassFile.FieldType.int)) ∈ TB := tb_5 158 rfl rfl
theorem w5_159 : (Jvm.Cond.methodLink "HedgeNews$Gardener" (42 : Nat) ({ cls := "HedgeNews$Garden", name := "endDay", desc := "()V" } : Jvm.MethodName)) ∈ TB := tb_5 159 rfl rfl
theorem w5_160 : (Jvm.Cond.instanceMethod ({ cls := "HedgeNews$Garden", name := "endDay", desc := "()V" } : Jvm.MethodName)) ∈ TB := tb_5 160 rfl rfl
theorem w5_161 : (Jvm.Cond.selects "HedgeNews$Garden" ({ cls := "HedgeNews$Garden", name := "endDay", desc := "()V" } : Jvm.MethodName) ({ cls := "HedgeNews$Garden", name := "endDay", desc := "()V" } : Jvm.MethodName)) ∈ TB := tb_5 161 rfl rfl
theorem w5_162 : (Jvm.Cond.code ({ cls := "HedgeNews$Garden", name := "endDay", desc := "()V" } : Jvm.MethodName) prog_3_method_9_code (2 : Nat) (Option.none : Option Jvm.ClassFile.FieldType)) ∈ TB := tb_5 162 rfl rfl
theorem w5_163 : (Jvm.Cond.methodLink "HedgeNewsLaw" (198 : Nat) ({ cls := "HedgeNewsLaw", name := "reach", desc := "(LHedgeNews;II[J)I" } : Jvm.MethodName)) ∈ TB := tb_5 163 rfl rfl
theorem w5_164 : (Jvm.Cond.static ({ cls := "HedgeNewsLaw", name := "reach", desc := "(LHedgeNews;II[J)I" } : Jvm.MethodName)) ∈ TB := tb_5 164 rfl rfl
theorem w5_165 : (Jvm.Cond.codeWith ({ cls := "HedgeNewsLaw", name := "reach", desc := "(LHedgeNews;II[J)I" } : Jvm.MethodName) method_21_code (5 : Nat) (Option.some Jvm.ClassFile.FieldType.int) [((0 : Nat), (10 : Nat), (13 : Nat), (24 : Nat)), ((0 : Nat), (10 : Nat), (17 : Nat), (19 : Nat))]) ∈ TB := tb_5 165 rfl rfl
theorem w5_166 : (Jvm.Cond.methodLink "HedgeNewsLaw" (72 : Nat) ({ cls := "HedgeNews", name := "reach", desc := "(II)I" } : Jvm.MethodName)) ∈ TB := tb_5 166 rfl rfl
theorem w5_167 : (Jvm.Cond.instanceMethod ({ cls := "HedgeNews", name := "reach", desc := "(II)I" } : Jvm.MethodName)) ∈ TB := tb_5 167 rfl rfl
theorem w5_168 : (Jvm.Cond.selects "HedgeNews" ({ cls := "HedgeNews", name := "reach", desc := "(II)I" } : Jvm.MethodName) ({ cls := "HedgeNews", name := "reach", desc := "(II)I" } : Jvm.MethodName)) ∈ TB := tb_5 168 rfl rfl
theorem w5_169 : (Jvm.Cond.code ({ cls := "HedgeNews", name := "reach", desc := "(II)I" } : Jvm.MethodName) prog_1_method_36_code (3 : Nat) (Option.some Jvm.ClassFile.FieldType.int)) ∈ TB := tb_5 169 rfl rfl
theorem w5_170 : (Jvm.Cond.methodLink "HedgeNews" (249 : Nat) ({ cls := "HedgeNews$News", name := "hedgesReached", desc := "()I" } : Jvm.MethodName)) ∈ TB := tb_5 170 rfl rfl
theorem w5_171 : (Jvm.Cond.instanceMethod ({ cls := "HedgeNews$News", name := "hedgesReached", desc := "()I" } : Jvm.MethodName)) ∈ TB := tb_5 171 rfl rfl
theorem w5_172 : (Jvm.Cond.selects "HedgeNews$News" ({ cls := "HedgeNews$News", name := "hedgesReached", desc := "()I" } : Jvm.MethodName) ({ cls := "HedgeNews$News", name := "hedgesReached", desc := "()I" } : Jvm.MethodName)) ∈ TB := tb_5 172 rfl rfl
theorem w5_173 : (Jvm.Cond.code ({ cls := "HedgeNews$News", name := "hedgesReached", desc := "()I" } : Jvm.MethodName) prog_8_method_5_code (3 : Nat) (Option.some Jvm.ClassFile.FieldType.int)) ∈ TB := tb_5 173 rfl rfl
theorem w5_174 : (Jvm.Cond.methodLink "HedgeNewsLaw" (201 : Nat) ({ cls := "HedgeNewsLaw", name := "loudnessAt", desc := "(LHedgeNews;II[J)I" } : Jvm.MethodName)) ∈ TB := tb_5 174 rfl rfl
theorem w5_175 : (Jvm.Cond.static ({ cls := "HedgeNewsLaw", name := "loudnessAt", desc := "(LHedgeNews;II[J)I" } : Jvm.MethodName)) ∈ TB := tb_5 175 rfl rfl
theorem w5_176 : (Jvm.Cond.codeWith ({ cls := "HedgeNewsLaw", name := "loudnessAt", desc := "(LHedgeNews;II[J)I" } : Jvm.MethodName) method_22_code (5 : Nat) (Option.some Jvm.ClassFile.FieldType.int) [((0 : Nat), (10 : Nat), (13 : Nat), (24 : Nat))]) ∈ TB := tb_5 176 rfl rfl
theorem w5_177 : (Jvm.Cond.methodLink "HedgeNewsLaw" (75 : Nat) ({ cls := "HedgeNews", name := "loudnessAt", desc := "(II)I" } : Jvm.MethodName)) ∈ TB := tb_5 177 rfl rfl
theorem w5_178 : (Jvm.Cond.instanceMethod ({ cls := "HedgeNews", name := "loudnessAt", desc := "(II)I" } : Jvm.MethodName)) ∈ TB := tb_5 178 rfl rfl
theorem w5_179 : (Jvm.Cond.selects "HedgeNews" ({ cls := "HedgeNews", name := "loudnessAt", desc := "(II)I" } : Jvm.MethodName) ({ cls := "HedgeNews", name := "loudnessAt", desc := "(II)I" } : Jvm.MethodName)) ∈ TB := tb_5 179 rfl rfl
theorem w5_180 : (Jvm.Cond.code ({ cls := "HedgeNews", name := "loudnessAt", desc := "(II)I" } : Jvm.MethodName) prog_1_method_37_code (3 : Nat) (Option.some Jvm.ClassFile.FieldType.int)) ∈ TB := tb_5 180 rfl rfl
theorem w5_181 : (Jvm.Cond.methodLink "HedgeNews" (252 : Nat) ({ cls := "HedgeNews$News", name := "firstLoudnessAt", desc := "(I)I" } : Jvm.MethodName)) ∈ TB := tb_5 181 rfl rfl
theorem w5_182 : (Jvm.Cond.instanceMethod ({ cls := "HedgeNews$News", name := "firstLoudnessAt", desc := "(I)I" } : Jvm.MethodName)) ∈ TB := tb_5 182 rfl rfl
theorem w5_183 : (Jvm.Cond.selects "HedgeNews$News" ({ cls := "HedgeNews$News", name := "firstLoudnessAt", desc := "(I)I" } : Jvm.MethodName) ({ cls := "HedgeNews$News", name := "firstLoudnessAt", desc := "(I)I" } : Jvm.MethodName)) ∈ TB := tb_5 183 rfl rfl
theorem w5_184 : (Jvm.Cond.code ({ cls := "HedgeNews$News", name := "firstLoudnessAt", desc := "(I)I" } : Jvm.MethodName) prog_8_method_6_code (2 : Nat) (Option.some Jvm.ClassFile.FieldType.int)) ∈ TB := tb_5 184 rfl rfl
theorem w5_185 : (Jvm.Cond.methodLink "HedgeNewsLaw" (204 : Nat) ({ cls := "HedgeNewsLaw", name := "comesBack", desc := "(LHedgeNews;I[J)I" } : Jvm.MethodName)) ∈ TB := tb_5 185 rfl rfl
theorem w5_186 : (Jvm.Cond.static ({ cls := "HedgeNewsLaw", name := "comesBack", desc := "(LHedgeNews;I[J)I" } : Jvm.MethodName)) ∈ TB := tb_5 186 rfl rfl
theorem w5_187 : (Jvm.Cond.codeWith ({ cls := "HedgeNewsLaw", name := "comesBack", desc := "(LHedgeNews;I[J)I" } : Jvm.MethodName) method_23_code (4 : Nat) (Option.some Jvm.ClassFile.FieldType.int) [((0 : Nat), (16 : Nat), (19 : Nat), (24 : Nat))]) ∈ TB := tb_5 187 rfl rfl
theorem w5_188 : (Jvm.Cond.methodLink "HedgeNewsLaw" (78 : Nat) ({ cls := "HedgeNews", name := "comesBack", desc := "(I)Z" } : Jvm.MethodName)) ∈ TB := tb_5 188 rfl rfl
theorem w5_189 : (Jvm.Cond.instanceMethod ({ cls := "HedgeNews", name := "comesBack", desc := "(I)Z" } : Jvm.MethodName)) ∈ TB := tb_5 189 rfl rfl
theorem w5_190 : (Jvm.Cond.selects "HedgeNews" ({ cls := "HedgeNews", name := "comesBack", desc := "(I)Z" } : Jvm.MethodName) ({ cls := "HedgeNews", name := "comesBack", desc := "(I)Z" } : Jvm.MethodName)) ∈ TB := tb_5 190 rfl rfl
theorem w5_191 : (Jvm.Cond.code ({ cls := "HedgeNews", name := "comesBack", desc := "(I)Z" } : Jvm.MethodName) prog_1_method_38_code (2 : Nat) (Option.some Jvm.ClassFile.FieldType.boolean)) ∈ TB := tb_5 191 rfl rfl
theorem w5_192 : (Jvm.Cond.methodLink "HedgeNews" (255 : Nat) ({ cls := "HedgeNews$News", name := "cameAgainTo", desc := "(I)Z" } : Jvm.MethodName)) ∈ TB := tb_5 192 rfl rfl
theorem w5_193 : (Jvm.Cond.instanceMethod ({ cls := "HedgeNews$News", name := "cameAgainTo", desc := "(I)Z" } : Jvm.MethodName)) ∈ TB := tb_5 193 rfl rfl
theorem w5_194 : (Jvm.Cond.selects "HedgeNews$News" ({ cls := "HedgeNews$News", name := "cameAgainTo", desc := "(I)Z" } : Jvm.MethodName) ({ cls := "HedgeNews$News", name := "cameAgainTo", desc := "(I)Z" } : Jvm.MethodName)) ∈ TB := tb_5 194 rfl rfl
theorem w5_195 : (Jvm.Cond.code ({ cls := "HedgeNews$News", name := "cameAgainTo", desc := "(I)Z" } : Jvm.MethodName) prog_8_method_7_code (2 : Nat) (Option.some Jvm.ClassFile.FieldType.boolean)) ∈ TB := tb_5 195 rfl rfl
theorem w5_196 : (Jvm.Cond.methodLink "HedgeNewsLaw" (207 : Nat) ({ cls := "HedgeNewsLaw", name := "petalsAfter", desc := "(LHedgeNews;II[J)I" } : Jvm.MethodName)) ∈ TB := tb_5 196 rfl rfl
theorem w5_197 : (Jvm.Cond.static ({ cls := "HedgeNewsLaw", name := "petalsAfter", desc := "(LHedgeNews;II[J)I" } : Jvm.MethodName)) ∈ TB := tb_5 197 rfl rfl
theorem w5_198 : (Jvm.Cond.codeWith ({ cls := "HedgeNewsLaw", name := "petalsAfter", desc := "(LHedgeNews;II[J)I" } : Jvm.MethodName) method_24_code (5 : Nat) (Option.some Jvm.ClassFile.FieldType.int) [((0 : Nat), (10 : Nat), (13 : Nat), (24 : Nat)), ((0 : Nat), (10 : Nat), (17 : Nat), (19 : Nat))]) ∈ TB := tb_5 198 rfl rfl
theorem w5_199 : (Jvm.Cond.methodLink "HedgeNewsLaw" (82 : Nat) ({ cls := "HedgeNews", name := "petalsAfter", desc := "(II)I" } : Jvm.MethodName)) ∈ TB := tb_5 199 rfl rfl
theorem w5_200 : (Jvm.Cond.instanceMethod ({ cls := "HedgeNews", name := "petalsAfter", desc := "(II)I" } : Jvm.MethodName)) ∈ TB := tb_5 200 rfl rfl
theorem w5_201 : (Jvm.Cond.selects "HedgeNews" ({ cls := "HedgeNews", name := "petalsAfter", desc := "(II)I" } : Jvm.MethodName) ({ cls := "HedgeNews", name := "petalsAfter", desc := "(II)I" } : Jvm.MethodName)) ∈ TB := tb_5 201 rfl rfl
theorem w5_202 : (Jvm.Cond.code ({ cls := "HedgeNews", name := "petalsAfter", desc := "(II)I" } : Jvm.MethodName) prog_1_method_39_code (4 : Nat) (Option.some Jvm.ClassFile.FieldType.int)) ∈ TB := tb_5 202 rfl rfl
theorem w5_203 : (Jvm.Cond.methodLink "HedgeNews" (263 : Nat) ({ cls := "HedgeNews$Garden", name := "petalsAt", desc := "(I)I" } : Jvm.MethodName)) ∈ TB := tb_5 203 rfl rfl
theorem w5_204 : (Jvm.Cond.methodLink "HedgeNewsLaw" (210 : Nat) ({ cls := "HedgeNewsLaw", name := "daysUntilLeft", desc := "(LHedgeNews;I[J)I" } : Jvm.MethodName)) ∈ TB := tb_5 204 rfl rfl
theorem w5_205 : (Jvm.Cond.static ({ cls := "HedgeNewsLaw", name := "daysUntilLeft", desc := "(LHedgeNews;I[J)I" } : Jvm.MethodName)) ∈ TB := tb_5 205 rfl rfl
theorem w5_206 : (Jvm.Cond.codeWith ({ cls := "HedgeNewsLaw", name := "daysUntilLeft", desc := "(LHedgeNews;I[J)I" } : Jvm.MethodName) method_25_code (4 : Nat) (Option.some Jvm.ClassFile.FieldType.int) [((0 : Nat), (9 : Nat), (12 : Nat), (24 : Nat))]) ∈ TB := tb_5 206 rfl rfl
theorem w5_207 : (Jvm.Cond.methodLink "HedgeNewsLaw" (85 : Nat) ({ cls := "HedgeNews", name := "daysUntilLeft", desc := "(I)I" } : Jvm.MethodName)) ∈ TB := tb_5 207 rfl rfl
theorem w5_208 : (Jvm.Cond.instanceMethod ({ cls := "HedgeNews", name := "daysUntilLeft", desc := "(I)I" } : Jvm.MethodName)) ∈ TB := tb_5 208 rfl rfl
theorem w5_209 : (Jvm.Cond.selects "HedgeNews" ({ cls := "HedgeNews", name := "daysUntilLeft", desc := "(I)I" } : Jvm.MethodName) ({ cls := "HedgeNews", name := "daysUntilLeft", desc := "(I)I" } : Jvm.MethodName)) ∈ TB := tb_5 209 rfl rfl
theorem w5_210 : (Jvm.Cond.code ({ cls := "HedgeNews", name := "daysUntilLeft", desc := "(I)I" } : Jvm.MethodName) prog_1_method_40_code (4 : Nat) (Option.some Jvm.ClassFile.FieldType.int)) ∈ TB := tb_5 210 rfl rfl
theorem w5_211 : (Jvm.Cond.methodLink "HedgeNews" (267 : Nat) ({ cls := "HedgeNews$Garden", name := "departuresAt", desc := "(I)I" } : Jvm.MethodName)) ∈ TB := tb_5 211 rfl rfl
theorem w5_212 : (Jvm.Cond.instanceMethod ({ cls := "HedgeNews$Garden", name := "departuresAt", desc := "(I)I" } : Jvm.MethodName)) ∈ TB := tb_5 212 rfl rfl
theorem w5_213 : (Jvm.Cond.selects "HedgeNews$Garden" ({ cls := "HedgeNews$Garden", name := "departuresAt", desc := "(I)I" } : Jvm.MethodName) ({ cls := "HedgeNews$Garden", name := "departuresAt", desc := "(I)I" } : Jvm.MethodName)) ∈ TB := tb_5 213 rfl rfl
theorem w5_214 : (Jvm.Cond.code ({ cls := "HedgeNews$Garden", name := "departuresAt", desc := "(I)I" } : Jvm.MethodName) prog_3_method_15_code (3 : Nat) (Option.some Jvm.ClassFile.FieldType.int)) ∈ TB := tb_5 214 rfl rfl
theorem w5_215 : (Jvm.Cond.methodLink "HedgeNewsLaw" (213 : Nat) ({ cls := "HedgeNewsLaw", name := "bestToTell", desc := "(LHedgeNews;I[J)I" } : Jvm.MethodName)) ∈ TB := tb_5 215 rfl rfl
theorem w5_216 : (Jvm.Cond.static ({ cls := "HedgeNewsLaw", name := "bestToTell", desc := "(LHedgeNews;I[J)I" } : Jvm.MethodName)) ∈ TB := tb_5 216 rfl rfl
theorem w5_217 : (Jvm.Cond.codeWith ({ cls := "HedgeNewsLaw", name := "bestToTell", desc := "(LHedgeNews;I[J)I" } : Jvm.MethodName) method_26_code (4 : Nat) (Option.some Jvm.ClassFile.FieldType.int) [((0 : Nat), (9 : Nat), (12 : Nat), (19 : Nat))]) ∈ TB := tb_5 217 rfl rfl
theorem w5_218 : (Jvm.Cond.methodLink "HedgeNewsLaw" (88 : Nat) ({ cls := "HedgeNews", name := "bestToTell", desc := "(I)I" } : Jvm.MethodName)) ∈ TB := tb_5 218 rfl rfl
theorem w5_219 : (Jvm.Cond.classLink "HedgeNewsLaw" (92 : Nat) "HedgeNewsModel") ∈ TB := tb_5 219 rfl rfl
theorem w5_220 : (Jvm.Cond.instantiable "HedgeNewsModel" (23 : Nat)) ∈ TB := tb_5 220 rfl rfl
theorem w5_221 : (Jvm.Cond.methodLink "HedgeNewsLaw" (94 : Nat) ({ cls := "HedgeNewsModel", name := "<init>", desc := "()V" } : Jvm.MethodName)) ∈ TB := tb_5 221 rfl rfl
theorem w5_222 : (Jvm.Cond.instanceMethod ({ cls := "HedgeNewsModel", name := "<init>", desc := "()V" } : Jvm.MethodName)) ∈ TB := tb_5 222 rfl rfl
theorem w5_223 : (Jvm.Cond.code ({ cls := "HedgeNewsModel", name := "<init>", desc := "()V" } : Jvm.MethodName) prog_15_method_1_code (1 : Nat) (Option.none : Option Jvm.ClassFile.FieldType)) ∈ TB := tb_5 223 rfl rfl
theorem w5_224 : (Jvm.Cond.methodLink "HedgeNewsModel" (3 : Nat) ({ cls := "java/lang/Object", name := "<init>", desc := "()V" } : Jvm.MethodName)) ∈ TB := tb_5 224 rfl rfl
theorem w5_225 : (Jvm.Cond.classLink "HedgeNewsModel" (32 : Nat) "HedgeNewsModel$Plan") ∈ TB := tb_5 225 rfl rfl
theorem w5_226 : (Jvm.Cond.instantiable "HedgeNewsModel$Plan" (16 : Nat)) ∈ TB := tb_5 226 rfl rfl
theorem w5_227 : (Jvm.Cond.methodLinkNest "HedgeNewsModel" (34 : Nat) ({ cls := "HedgeNewsModel$Plan", name := "<init>", desc := "()V" } : Jvm.MethodName) "HedgeNewsModel") ∈ lw_tbl := tz_5 227 rfl
theorem w5_228 : (Jvm.Cond.instanceMethod ({ cls := "HedgeNewsModel$Plan", name := "<init>", desc := "()V" } : Jvm.MethodName)) ∈ TB := tb_5 228 rfl rfl
theorem w5_229 : (Jvm.Cond.code ({ cls := "HedgeNewsModel$Plan", name := "<init>", desc := "()V" } : Jvm.MethodName) prog_16_method_1_code (1 : Nat) (Option.none : Option Jvm.ClassFile.FieldType)) ∈ TB := tb_5 229 rfl rfl
theorem w5_230 : (Jvm.Cond.methodLink "HedgeNewsModel$Plan" (3 : Nat) ({ cls := "java/lang/Object", name := "<init>", desc := "()V" } : Jvm.MethodName)) ∈ TB := tb_5 230 rfl rfl
theorem w5_231 : (Jvm.Cond.fieldLinkNest "HedgeNewsModel" (72 : Nat) "HedgeNewsModel$Plan" "hedges" "I" "HedgeNewsModel") ∈ lw_tbl := tz_5 231 rfl
theorem w5_232 : (Jvm.Cond.fieldLinkNest "HedgeNewsModel$State" (74 : Nat) "HedgeNewsModel$Plan" "hedges" "I" "HedgeNewsModel") ∈ lw_tbl := tz_5 232 rfl
theorem w5_233 : (Jvm.Cond.fieldLinkNest "HedgeNewsModel" (79 : Nat) "HedgeNewsModel$Plan" "roses" "I" "HedgeNewsModel") ∈ lw_tbl := tz_5 233 rfl
theorem w5_234 : (Jvm.Cond.fieldLinkNest "HedgeNewsModel$State" (118 : Nat) "HedgeNewsModel$Plan" "roses" "I" "HedgeNewsModel") ∈ lw_tbl := tz_5 234 rfl
theorem w5_235 : (Jvm.Cond.fieldLink "HedgeNewsModel$Plan" (9 : Nat) "HedgeNewsModel$Plan" "hush" "[I") ∈ TB := tb_5 235 rfl rfl
theorem w5_236 : (Jvm.Cond.fieldLinkNest "HedgeNewsModel$State" (89 : Nat) "HedgeNewsModel$Plan" "hush" "[I" "HedgeNewsModel") ∈ lw_tbl := tz_5 236 rfl
theorem w5_237 : (Jvm.Cond.fieldLinkNest "HedgeNewsModel" (234 : Nat) "HedgeNewsModel$Plan" "hush" "[I" "HedgeNewsModel") ∈ lw_tbl := tz_5 237 rfl
theorem w5_238 : (Jvm.Cond.fieldLink "HedgeNewsModel$Plan" (15 : Nat) "HedgeNewsModel$Plan" "patience" "[I") ∈ TB := tb_5 238 rfl rfl
theorem w5_239 : (Jvm.Cond.fieldLinkNest "HedgeNewsModel$State" (104 : Nat) "HedgeNewsModel$Plan" "patience" "[I" "HedgeNewsModel") ∈ lw_tbl := tz_5 239 rfl
theorem w6_0 : (Jvm.Cond.fieldLinkNest "HedgeNewsModel" (237 : Nat) "HedgeNewsModel$Plan" "patience" "[I" "HedgeNewsModel") ∈ lw_tbl := tz_6 0 rfl
theorem w6_1 : (Jvm.Cond.fieldLinkNest "HedgeNewsModel$State" (170 : Nat) "HedgeNewsModel$Plan" "orders" "I" "HedgeNewsModel") ∈ lw_tbl := tz_6 1 rfl
theorem w6_2 : (Jvm.Cond.fieldLinkNest "HedgeNewsModel" (240 : Nat) "HedgeNewsModel$Plan" "orders" "I" "HedgeNewsModel") ∈ lw_tbl := tz_6 2 rfl
theorem w6_3 : (Jvm.Cond.fieldLinkNest "HedgeNewsModel" (162 : Nat) "HedgeNewsModel$Plan" "ordersRead" "I" "HedgeNewsModel") ∈ lw_tbl := tz_6 3 rfl
theorem w6_4 : (Jvm.Cond.fieldLink "HedgeNewsModel$Plan" (18 : Nat) "HedgeNewsModel$Plan" "does" "[I") ∈ TB := tb_6 4 rfl rfl
theorem w6_5 : (Jvm.Cond.fieldLinkNest "HedgeNewsModel$State" (134 : Nat) "HedgeNewsModel$Plan" "does" "[I" "HedgeNewsModel") ∈ lw_tbl := tz_6 5 rfl
theorem w6_6 : (Jvm.Cond.fieldLinkNest "HedgeNewsModel" (243 : Nat) "HedgeNewsModel$Plan" "does" "[I" "HedgeNewsModel") ∈ lw_tbl := tz_6 6 rfl
theorem w6_7 : (Jvm.Cond.fieldLink "HedgeNewsModel$Plan" (21 : Nat) "HedgeNewsModel$Plan" "who" "[I") ∈ TB := tb_6 7 rfl rfl
theorem w6_8 : (Jvm.Cond.fieldLinkNest "HedgeNewsModel$State" (137 : Nat) "HedgeNewsModel$Plan" "who" "[I" "HedgeNewsModel") ∈ lw_tbl := tz_6 8 rfl
theorem w6_9 : (Jvm.Cond.fieldLinkNest "HedgeNewsModel" (250 : Nat) "HedgeNewsModel$Plan" "who" "[I" "HedgeNewsModel") ∈ lw_tbl := tz_6 9 rfl
theorem w6_10 : (Jvm.Cond.fieldLink "HedgeNewsModel$Plan" (24 : Nat) "HedgeNewsModel$Plan" "to" "[I") ∈ TB := tb_6 10 rfl rfl
theorem w6_11 : (Jvm.Cond.fieldLinkNest "HedgeNewsModel$State" (140 : Nat) "HedgeNewsModel$Plan" "to" "[I" "HedgeNewsModel") ∈ lw_tbl := tz_6 11 rfl
theorem w6_12 : (Jvm.Cond.fieldLinkNest "HedgeNewsModel" (253 : Nat) "HedgeNewsModel$Plan" "to" "[I" "HedgeNewsModel") ∈ lw_tbl := tz_6 12 rfl
theorem w6_13 : (Jvm.Cond.fieldLink "HedgeNewsModel$Plan" (27 : Nat) "HedgeNewsModel$Plan" "sum" "[I") ∈ TB := tb_6 13 rfl rfl
theorem w6_14 : (Jvm.Cond.fieldLinkNest "HedgeNewsModel$State" (143 : Nat) "HedgeNewsModel$Plan" "sum" "[I" "HedgeNewsModel") ∈ lw_tbl := tz_6 14 rfl
theorem w6_15 : (Jvm.Cond.fieldLinkNest "HedgeNewsModel" (165 : Nat) "HedgeNewsModel$Plan" "sum" "[I" "HedgeNewsModel") ∈ lw_tbl := tz_6 15 rfl
theorem w6_16 : (Jvm.Cond.fieldLink "HedgeNewsModel$Plan" (30 : Nat) "HedgeNewsModel$Plan" "test" "[I") ∈ TB := tb_6 16 rfl rfl
theorem w6_17 : (Jvm.Cond.fieldLinkNest "HedgeNewsModel$State" (146 : Nat) "HedgeNewsModel$Plan" "test" "[I" "HedgeNewsModel") ∈ lw_tbl := tz_6 17 rfl
theorem w6_18 : (Jvm.Cond.fieldLinkNest "HedgeNewsModel" (171 : Nat) "HedgeNewsModel$Plan" "test" "[I" "HedgeNewsModel") ∈ lw_tbl := tz_6 18 rfl
theorem w6_19 : (Jvm.Cond.fieldLink "HedgeNewsModel$Plan" (33 : Nat) "HedgeNewsModel$Plan" "testEnd" "[I") ∈ TB := tb_6 19 rfl rfl
theorem w6_20 : (Jvm.Cond.fieldLinkNest "HedgeNewsModel$State" (173 : Nat) "HedgeNewsModel$Plan" "testEnd" "[I" "HedgeNewsModel") ∈ lw_tbl := tz_6 20 rfl
theorem w6_21 : (Jvm.Cond.fieldLinkNest "HedgeNewsModel" (177 : Nat) "HedgeNewsModel$Plan" "testEnd" "[I" "HedgeNewsModel") ∈ lw_tbl := tz_6 21 rfl
theorem w6_22 : (Jvm.Cond.fieldLink "HedgeNewsModel$Plan" (36 : Nat) "HedgeNewsModel$Plan" "code" "[I") ∈ TB := tb_6 22 rfl rfl
theorem w6_23 : (Jvm.Cond.fieldLinkNest "HedgeNewsModel$State" (121 : Nat) "HedgeNewsModel$Plan" "code" "[I" "HedgeNewsModel") ∈ lw_tbl := tz_6 23 rfl
theorem w6_24 : (Jvm.Cond.fieldLinkNest "HedgeNewsModel" (143 : Nat) "HedgeNewsModel$Plan" "code" "[I" "HedgeNewsModel") ∈ lw_tbl := tz_6 24 rfl
theorem w6_25 : (Jvm.Cond.fieldLinkNest "HedgeNewsModel" (146 : Nat) "HedgeNewsModel$Plan" "size" "I" "HedgeNewsModel") ∈ lw_tbl := tz_6 25 rfl
theorem w6_26 : (Jvm.Cond.fieldLink "HedgeNewsModel$Plan" (39 : Nat) "HedgeNewsModel$Plan" "open" "[I") ∈ TB := tb_6 26 rfl rfl
theorem w6_27 : (Jvm.Cond.fieldLinkNest "HedgeNewsModel" (193 : Nat) "HedgeNewsModel$Plan" "open" "[I" "HedgeNewsModel") ∈ lw_tbl := tz_6 27 rfl
theorem w6_28 : (Jvm.Cond.fieldLinkNest "HedgeNewsModel" (196 : Nat) "HedgeNewsModel$Plan" "opens" "I" "HedgeNewsModel") ∈ lw_tbl := tz_6 28 rfl
theorem w6_29 : (Jvm.Cond.lays "HedgeNewsModel$Plan" "HedgeNewsModel$Plan" "hedges" "I") ∈ TB := tb_6 29 rfl rfl
theorem w6_30 : (Jvm.Cond.soleField "HedgeNewsModel$Plan" "hedges") ∈ TB := tb_6 30 rfl rfl
theorem w6_31 : (Jvm.Cond.lays "HedgeNewsModel$Plan" "HedgeNewsModel$Plan" "roses" "I") ∈ TB := tb_6 31 rfl rfl
theorem w6_32 : (Jvm.Cond.soleField "HedgeNewsModel$Plan" "roses") ∈ TB := tb_6 32 rfl rfl
theorem w6_33 : (Jvm.Cond.laysFinal "HedgeNewsModel$Plan" "HedgeNewsModel$Plan" "hush" "[I") ∈ TB := tb_6 33 rfl rfl
theorem w6_34 : (Jvm.Cond.soleField "HedgeNewsModel$Plan" "hush") ∈ TB := tb_6 34 rfl rfl
theorem w6_35 : (Jvm.Cond.laysFinal "HedgeNewsModel$Plan" "HedgeNewsModel$Plan" "patience" "[I") ∈ TB := tb_6 35 rfl rfl
theorem w6_36 : (Jvm.Cond.soleField "HedgeNewsModel$Plan" "patience") ∈ TB := tb_6 36 rfl rfl
theorem w6_37 : (Jvm.Cond.lays "HedgeNewsModel$Plan" "HedgeNewsModel$Plan" "orders" "I") ∈ TB := tb_6 37 rfl rfl
theorem w6_38 : (Jvm.Cond.soleField "HedgeNewsModel$Plan" "orders") ∈ TB := tb_6 38 rfl rfl
theorem w6_39 : (Jvm.Cond.lays "HedgeNewsModel$Plan" "HedgeNewsModel$Plan" "ordersRead" "I") ∈ TB := tb_6 39 rfl rfl
theorem w6_40 : (Jvm.Cond.soleField "HedgeNewsModel$Plan" "ordersRead") ∈ TB := tb_6 40 rfl rfl
theorem w6_41 : (Jvm.Cond.laysFinal "HedgeNewsModel$Plan" "HedgeNewsModel$Plan" "does" "[I") ∈ TB := tb_6 41 rfl rfl
theorem w6_42 : (Jvm.Cond.soleField "HedgeNewsModel$Plan" "does") ∈ TB := tb_6 42 rfl rfl
theorem w6_43 : (Jvm.Cond.laysFinal "HedgeNewsModel$Plan" "HedgeNewsModel$Plan" "who" "[I") ∈ TB := tb_6 43 rfl rfl
theorem w6_44 : (Jvm.Cond.soleField "HedgeNewsModel$Plan" "who") ∈ TB := tb_6 44 rfl rfl
theorem w6_45 : (Jvm.Cond.laysFinal "HedgeNewsModel$Plan" "HedgeNewsModel$Plan" "to" "[I") ∈ TB := tb_6 45 rfl rfl
theorem w6_46 : (Jvm.Cond.soleField "HedgeNewsModel$Plan" "to") ∈ TB := tb_6 46 rfl rfl
theorem w6_47 : (Jvm.Cond.laysFinal "HedgeNewsModel$Plan" "HedgeNewsModel$Plan" "sum" "[I") ∈ TB := tb_6 47 rfl rfl
theorem w6_48 : (Jvm.Cond.soleField "HedgeNewsModel$Plan" "sum") ∈ TB := tb_6 48 rfl rfl
theorem w6_49 : (Jvm.Cond.laysFinal "HedgeNewsModel$Plan" "HedgeNewsModel$Plan" "test" "[I") ∈ TB := tb_6 49 rfl rfl
theorem w6_50 : (Jvm.Cond.soleField "HedgeNewsModel$Plan" "test") ∈ TB := tb_6 50 rfl rfl
theorem w6_51 : (Jvm.Cond.laysFinal "HedgeNewsModel$Plan" "HedgeNewsModel$Plan" "testEnd" "[I") ∈ TB := tb_6 51 rfl rfl
theorem w6_52 : (Jvm.Cond.soleField "HedgeNewsModel$Plan" "testEnd") ∈ TB := tb_6 52 rfl rfl
theorem w6_53 : (Jvm.Cond.laysFinal "HedgeNewsModel$Plan" "HedgeNewsModel$Plan" "code" "[I") ∈ TB := tb_6 53 rfl rfl
theorem w6_54 : (Jvm.Cond.soleField "HedgeNewsModel$Plan" "code") ∈ TB := tb_6 54 rfl rfl
theorem w6_55 : (Jvm.Cond.lays "HedgeNewsModel$Plan" "HedgeNewsModel$Plan" "size" "I") ∈ TB := tb_6 55 rfl rfl
theorem w6_56 : (Jvm.Cond.soleField "HedgeNewsModel$Plan" "size") ∈ TB := tb_6 56 rfl rfl
theorem w6_57 : (Jvm.Cond.laysFinal "HedgeNewsModel$Plan" "HedgeNewsModel$Plan" "open" "[I") ∈ TB := tb_6 57 rfl rfl
theorem w6_58 : (Jvm.Cond.soleField "HedgeNewsModel$Plan" "open") ∈ TB := tb_6 58 rfl rfl
theorem w6_59 : (Jvm.Cond.lays "HedgeNewsModel$Plan" "HedgeNewsModel$Plan" "opens" "I") ∈ TB := tb_6 59 rfl rfl
theorem w6_60 : (Jvm.Cond.soleField "HedgeNewsModel$Plan" "opens") ∈ TB := tb_6 60 rfl rfl
theorem w6_61 : (Jvm.Cond.superclass "HedgeNewsModel$Plan" "java/lang/Object") ∈ TB := tb_6 61 rfl rfl
theorem w6_62 : (Jvm.Cond.classLink "HedgeNewsModel" (57 : Nat) "HedgeNewsModel$State") ∈ TB := tb_6 62 rfl rfl
theorem w6_63 : (Jvm.Cond.instantiable "HedgeNewsModel$State" (12 : Nat)) ∈ TB := tb_6 63 rfl rfl
theorem w6_64 : (Jvm.Cond.methodLinkNest "HedgeNewsModel" (59 : Nat) ({ cls := "HedgeNewsModel$State", name := "<init>", desc := "(LHedgeNewsModel;)V" } : Jvm.MethodName) "HedgeNewsModel") ∈ lw_tbl := tz_6 64 rfl
theorem w6_65 : (Jvm.Cond.instanceMethod ({ cls := "HedgeNewsModel$State", name := "<init>", desc := "(LHedgeNewsModel;)V" } : Jvm.MethodName)) ∈ TB := tb_6 65 rfl rfl
theorem w6_66 : (Jvm.Cond.code ({ cls := "HedgeNewsModel$State", name := "<init>", desc := "(LHedgeNewsModel;)V" } : Jvm.MethodName) prog_17_method_1_code (2 : Nat) (Option.none : Option Jvm.ClassFile.FieldType)) ∈ TB := tb_6 66 rfl rfl
theorem w6_67 : (Jvm.Cond.methodLink "HedgeNewsModel$State" (9 : Nat) ({ cls := "java/lang/Object", name := "<init>", desc := "()V" } : Jvm.MethodName)) ∈ TB := tb_6 67 rfl rfl
theorem w6_68 : (Jvm.Cond.fieldLink "HedgeNewsModel$State" (37 : Nat) "HedgeNewsModel$State" "day" "I") ∈ TB := tb_6 68 rfl rfl
theorem w6_69 : (Jvm.Cond.fieldLinkNest "HedgeNewsModel" (293 : Nat) "HedgeNewsModel$State" "day" "I" "HedgeNewsModel") ∈ lw_tbl := tz_6 69 rfl
theorem w6_70 : (Jvm.Cond.fieldLink "HedgeNewsModel$State" (41 : Nat) "HedgeNewsModel$State" "done" "I") ∈ TB := tb_6 70 rfl rfl
theorem w6_71 : (Jvm.Cond.fieldLinkNest "HedgeNewsModel" (296 : Nat) "HedgeNewsModel$State" "done" "I" "HedgeNewsModel") ∈ lw_tbl := tz_6 71 rfl
theorem w6_72 : (Jvm.Cond.fieldLink "HedgeNewsModel$State" (44 : Nat) "HedgeNewsModel$State" "whispers" "I") ∈ TB := tb_6 72 rfl rfl
theorem w6_73 : (Jvm.Cond.fieldLinkNest "HedgeNewsModel" (299 : Nat) "HedgeNewsModel$State" "whispers" "I" "HedgeNewsModel") ∈ lw_tbl := tz_6 73 rfl
theorem w6_74 : (Jvm.Cond.fieldLink "HedgeNewsModel$State" (47 : Nat) "HedgeNewsModel$State" "cycles" "I") ∈ TB := tb_6 74 rfl rfl
theorem w6_75 : (Jvm.Cond.fieldLinkNest "HedgeNewsModel" (302 : Nat) "HedgeNewsModel$State" "cycles" "I" "HedgeNewsModel") ∈ lw_tbl := tz_6 75 rfl
theorem w6_76 : (Jvm.Cond.fieldLink "HedgeNewsModel$State" (15 : Nat) "HedgeNewsModel$State" "row" "[I") ∈ TB := tb_6 76 rfl rfl
theorem w6_77 : (Jvm.Cond.fieldLink "HedgeNewsModel$State" (19 : Nat) "HedgeNewsModel$State" "listen" "[I") ∈ TB := tb_6 77 rfl rfl
theorem w6_78 : (Jvm.Cond.fieldLinkNest "HedgeNewsModel" (321 : Nat) "HedgeNewsModel$State" "listen" "[I" "HedgeNewsModel") ∈ lw_tbl := tz_6 78 rfl
theorem w6_79 : (Jvm.Cond.fieldLink "HedgeNewsModel$State" (22 : Nat) "HedgeNewsModel$State" "heard" "[I") ∈ TB := tb_6 79 rfl rfl
theorem w6_80 : (Jvm.Cond.fieldLinkNest "HedgeNewsModel" (315 : Nat) "HedgeNewsModel$State" "heard" "[I" "HedgeNewsModel") ∈ lw_tbl := tz_6 80 rfl
theorem w6_81 : (Jvm.Cond.fieldLink "HedgeNewsModel$State" (25 : Nat) "HedgeNewsModel$State" "latest" "[I") ∈ TB := tb_6 81 rfl rfl
theorem w6_82 : (Jvm.Cond.fieldLinkNest "HedgeNewsModel" (318 : Nat) "HedgeNewsModel$State" "latest" "[I" "HedgeNewsModel") ∈ lw_tbl := tz_6 82 rfl
theorem w6_83 : (Jvm.Cond.fieldLink "HedgeNewsModel$State" (28 : Nat) "HedgeNewsModel$State" "petals" "[I") ∈ TB := tb_6 83 rfl rfl
theorem w6_84 : (Jvm.Cond.fieldLinkNest "HedgeNewsModel" (330 : Nat) "HedgeNewsModel$State" "petals" "[I" "HedgeNewsModel") ∈ lw_tbl := tz_6 84 rfl
theorem w6_85 : (Jvm.Cond.fieldLink "HedgeNewsModel$State" (31 : Nat) "HedgeNewsModel$State" "count" "[I") ∈ TB := tb_6 85 rfl rfl
theorem w6_86 : (Jvm.Cond.fieldLinkNest "HedgeNewsModel" (333 : Nat) "HedgeNewsModel$State" "count" "[I" "HedgeNewsModel") ∈ lw_tbl := tz_6 86 rfl
theorem w6_87 : (Jvm.Cond.fieldLink "HedgeNewsModel$State" (34 : Nat) "HedgeNewsModel$State" "left" "[I") ∈ TB := tb_6 87 rfl rfl
theorem w6_88 : (Jvm.Cond.fieldLink "HedgeNewsModel$State" (3 : Nat) "HedgeNewsModel$State" "this$0" "LHedgeNewsModel;") ∈ TB := tb_6 88 rfl rfl
theorem w6_89 : (Jvm.Cond.lays "HedgeNewsModel$State" "HedgeNewsModel$State" "day" "I") ∈ TB := tb_6 89 rfl rfl
theorem w6_90 : (Jvm.Cond.soleField "HedgeNewsModel$State" "day") ∈ TB := tb_6 90 rfl rfl
theorem w6_91 : (Jvm.Cond.lays "HedgeNewsModel$State" "HedgeNewsModel$State" "done" "I") ∈ TB := tb_6 91 rfl rfl
theorem w6_92 : (Jvm.Cond.soleField "HedgeNewsModel$State" "done") ∈ TB := tb_6 92 rfl rfl
theorem w6_93 : (Jvm.Cond.lays "HedgeNewsModel$State" "HedgeNewsModel$State" "whispers" "I") ∈ TB := tb_6 93 rfl rfl
theorem w6_94 : (Jvm.Cond.soleField "HedgeNewsModel$State" "whispers") ∈ TB := tb_6 94 rfl rfl
theorem w6_95 : (Jvm.Cond.lays "HedgeNewsModel$State" "HedgeNewsModel$State" "cycles" "I") ∈ TB := tb_6 95 rfl rfl
theorem w6_96 : (Jvm.Cond.soleField "HedgeNewsModel$State" "cycles") ∈ TB := tb_6 96 rfl rfl
theorem w6_97 : (Jvm.Cond.laysFinal "HedgeNewsModel$State" "HedgeNewsModel$State" "row" "[I") ∈ TB := tb_6 97 rfl rfl
theorem w6_98 : (Jvm.Cond.soleField "HedgeNewsModel$State" "row") ∈ TB := tb_6 98 rfl rfl
theorem w6_99 : (Jvm.Cond.laysFinal "HedgeNewsModel$State" "HedgeNewsModel$State" "listen" "[I") ∈ TB := tb_6 99 rfl rfl
theorem w6_100 : (Jvm.Cond.soleField "HedgeNewsModel$State" "listen") ∈ TB := tb_6 100 rfl rfl
theorem w6_101 : (Jvm.Cond.laysFinal "HedgeNewsModel$State" "HedgeNewsModel$State" "heard" "[I") ∈ TB := tb_6 101 rfl rfl
theorem w6_102 : (Jvm.Cond.soleField "HedgeNewsModel$State" "heard") ∈ TB := tb_6 102 rfl rfl
theorem w6_103 : (Jvm.Cond.laysFinal "HedgeNewsModel$State" "HedgeNewsModel$State" "latest" "[I") ∈ TB := tb_6 103 rfl rfl
theorem w6_104 : (Jvm.Cond.soleField "HedgeNewsModel$State" "latest") ∈ TB := tb_6 104 rfl rfl
theorem w6_105 : (Jvm.Cond.laysFinal "HedgeNewsModel$State" "HedgeNewsModel$State" "petals" "[I") ∈ TB := tb_6 105 rfl rfl
theorem w6_106 : (Jvm.Cond.soleField "HedgeNewsModel$State" "petals") ∈ TB := tb_6 106 rfl rfl
theorem w6_107 : (Jvm.Cond.laysFinal "HedgeNewsModel$State" "HedgeNewsModel$State" "count" "[I") ∈ TB := tb_6 107 rfl rfl
theorem w6_108 : (Jvm.Cond.soleField "HedgeNewsModel$State" "count") ∈ TB := tb_6 108 rfl rfl
theorem w6_109 : (Jvm.Cond.laysFinal "HedgeNewsModel$State" "HedgeNewsModel$State" "left" "[I") ∈ TB := tb_6 109 rfl rfl
theorem w6_110 : (Jvm.Cond.soleField "HedgeNewsModel$State" "left") ∈ TB := tb_6 110 rfl rfl
theorem w6_111 : (Jvm.Cond.laysFinal "HedgeNewsModel$State" "HedgeNewsModel$State" "this$0" "LHedgeNewsModel;") ∈ TB := tb_6 111 rfl rfl
theorem w6_112 : (Jvm.Cond.soleField "HedgeNewsModel$State" "this$0") ∈ TB := tb_6 112 rfl rfl
theorem w6_113 : (Jvm.Cond.superclass "HedgeNewsModel$State" "java/lang/Object") ∈ TB := tb_6 113 rfl rfl
theorem w6_114 : (Jvm.Cond.fieldLink "HedgeNewsModel" (69 : Nat) "HedgeNewsModel" "thrown" "I") ∈ TB := tb_6 114 rfl rfl
theorem w6_115 : (Jvm.Cond.fieldLink "HedgeNewsModel" (9 : Nat) "HedgeNewsModel" "tape" "[I") ∈ TB := tb_6 115 rfl rfl
theorem w6_116 : (Jvm.Cond.fieldLink "HedgeNewsModel" (95 : Nat) "HedgeNewsModel" "size" "I") ∈ TB := tb_6 116 rfl rfl
theorem w6_117 : (Jvm.Cond.fieldLink "HedgeNewsModel" (13 : Nat) "HedgeNewsModel" "errorAt" "I") ∈ TB := tb_6 117 rfl rfl
theorem w6_118 : (Jvm.Cond.fieldLink "HedgeNewsModel" (17 : Nat) "HedgeNewsModel" "kind" "[I") ∈ TB := tb_6 118 rfl rfl
theorem w6_119 : (Jvm.Cond.fieldLink "HedgeNewsModel" (20 : Nat) "HedgeNewsModel" "from" "[I") ∈ TB := tb_6 119 rfl rfl
theorem w6_120 : (Jvm.Cond.fieldLink "HedgeNewsModel" (23 : Nat) "HedgeNewsModel" "many" "[I") ∈ TB := tb_6 120 rfl rfl
theorem w6_121 : (Jvm.Cond.fieldLink "HedgeNewsModel" (26 : Nat) "HedgeNewsModel" "role" "[I") ∈ TB := tb_6 121 rfl rfl
theorem w6_122 : (Jvm.Cond.fieldLink "HedgeNewsModel" (29 : Nat) "HedgeNewsModel" "meant" "[I") ∈ TB := tb_6 122 rfl rfl
theorem w6_123 : (Jvm.Cond.fieldLink "HedgeNewsModel" (134 : Nat) "HedgeNewsModel" "token" "I") ∈ TB := tb_6 123 rfl rfl
theorem w6_124 : (Jvm.Cond.fieldLink "HedgeNewsModel" (190 : Nat) "HedgeNewsModel" "depth" "I") ∈ TB := tb_6 124 rfl rfl
theorem w6_125 : (Jvm.Cond.fieldLink "HedgeNewsModel" (35 : Nat) "HedgeNewsModel" "plan" "LHedgeNewsModel$Plan;") ∈ TB := tb_6 125 rfl rfl
theorem w6_126 : (Jvm.Cond.fieldLinkNest "HedgeNewsModel$State" (70 : Nat) "HedgeNewsModel" "plan" "LHedgeNewsModel$Plan;" "HedgeNewsModel") ∈ lw_tbl := tz_6 126 rfl
theorem w6_127 : (Jvm.Cond.fieldLink "HedgeNewsModel" (39 : Nat) "HedgeNewsModel" "reading" "LHedgeNewsModel$Plan;") ∈ TB := tb_6 127 rfl rfl
theorem w6_128 : (Jvm.Cond.fieldLink "HedgeNewsModel" (42 : Nat) "HedgeNewsModel" "stack" "[I") ∈ TB := tb_6 128 rfl rfl
theorem w6_129 : (Jvm.Cond.fieldLinkNest "HedgeNewsModel$State" (124 : Nat) "HedgeNewsModel" "stack" "[I" "HedgeNewsModel") ∈ lw_tbl := tz_6 129 rfl
theorem w6_130 : (Jvm.Cond.fieldLink "HedgeNewsModel" (45 : Nat) "HedgeNewsModel" "ear" "[I") ∈ TB := tb_6 130 rfl rfl
theorem w6_131 : (Jvm.Cond.fieldLinkNest "HedgeNewsModel$State" (92 : Nat) "HedgeNewsModel" "ear" "[I" "HedgeNewsModel") ∈ lw_tbl := tz_6 131 rfl
theorem w6_132 : (Jvm.Cond.fieldLink "HedgeNewsModel" (48 : Nat) "HedgeNewsModel" "mouth" "[I") ∈ TB := tb_6 132 rfl rfl
theorem w6_133 : (Jvm.Cond.fieldLinkNest "HedgeNewsModel$State" (98 : Nat) "HedgeNewsModel" "mouth" "[I" "HedgeNewsModel") ∈ lw_tbl := tz_6 133 rfl
theorem w6_134 : (Jvm.Cond.fieldLink "HedgeNewsModel" (51 : Nat) "HedgeNewsModel" "loud" "[I") ∈ TB := tb_6 134 rfl rfl
theorem w6_135 : (Jvm.Cond.fieldLinkNest "HedgeNewsModel$State" (101 : Nat) "HedgeNewsModel" "loud" "[I" "HedgeNewsModel") ∈ lw_tbl := tz_6 135 rfl
theorem w6_136 : (Jvm.Cond.fieldLink "HedgeNewsModel" (54 : Nat) "HedgeNewsModel" "first" "[I") ∈ TB := tb_6 136 rfl rfl
theorem w6_137 : (Jvm.Cond.fieldLinkNest "HedgeNewsModel$State" (79 : Nat) "HedgeNewsModel" "first" "[I" "HedgeNewsModel") ∈ lw_tbl := tz_6 137 rfl
theorem w6_138 : (Jvm.Cond.fieldLinkNest "HedgeNewsModel$State" (95 : Nat) "HedgeNewsModel" "said" "I" "HedgeNewsModel") ∈ lw_tbl := tz_6 138 rfl
theorem w6_139 : (Jvm.Cond.fieldLinkNest "HedgeNewsModel$State" (86 : Nat) "HedgeNewsModel" "begun" "I" "HedgeNewsModel") ∈ lw_tbl := tz_6 139 rfl
theorem w6_140 : (Jvm.Cond.fieldLinkNest "HedgeNewsModel$State" (82 : Nat) "HedgeNewsModel" "isBack" "Z" "HedgeNewsModel") ∈ lw_tbl := tz_6 140 rfl
theorem w6_141 : (Jvm.Cond.fieldLink "HedgeNewsModel" (370 : Nat) "HedgeNewsModel" "isBack" "Z") ∈ TB := tb_6 141 rfl rfl
theorem w6_142 : (Jvm.Cond.fieldLink "HedgeNewsModel" (62 : Nat) "HedgeNewsModel" "s" "LHedgeNewsModel$State;") ∈ TB := tb_6 142 rfl rfl
theorem w6_143 : (Jvm.Cond.fieldLink "HedgeNewsModel" (66 : Nat) "HedgeNewsModel" "other" "LHedgeNewsModel$State;") ∈ TB := tb_6 143 rfl rfl
theorem w6_144 : (Jvm.Cond.lays "HedgeNewsModel" "HedgeNewsModel" "thrown" "I") ∈ TB := tb_6 144 rfl rfl
theorem w6_145 : (Jvm.Cond.soleField "HedgeNewsModel" "thrown") ∈ TB := tb_6 145 rfl rfl
theorem w6_146 : (Jvm.Cond.laysFinal "HedgeNewsModel" "HedgeNewsModel" "tape" "[I") ∈ TB := tb_6 146 rfl rfl
theorem w6_147 : (Jvm.Cond.soleField "HedgeNewsModel" "tape") ∈ TB := tb_6 147 rfl rfl
theorem w6_148 : (Jvm.Cond.lays "HedgeNewsModel" "HedgeNewsModel" "size" "I") ∈ TB := tb_6 148 rfl rfl
theorem w6_149 : (Jvm.Cond.soleField "HedgeNewsModel" "size") ∈ TB := tb_6 149 rfl rfl
theorem w6_150 : (Jvm.Cond.lays "HedgeNewsModel" "HedgeNewsModel" "errorAt" "I") ∈ TB := tb_6 150 rfl rfl
theorem w6_151 : (Jvm.Cond.soleField "HedgeNewsModel" "errorAt") ∈ TB := tb_6 151 rfl rfl
theorem w6_152 : (Jvm.Cond.laysFinal "HedgeNewsModel" "HedgeNewsModel" "kind" "[I") ∈ TB := tb_6 152 rfl rfl
theorem w6_153 : (Jvm.Cond.soleField "HedgeNewsModel" "kind") ∈ TB := tb_6 153 rfl rfl
theorem w6_154 : (Jvm.Cond.laysFinal "HedgeNewsModel" "HedgeNewsModel" "from" "[I") ∈ TB := tb_6 154 rfl rfl
theorem w6_155 : (Jvm.Cond.soleField "HedgeNewsModel" "from") ∈ TB := tb_6 155 rfl rfl
theorem w6_156 : (Jvm.Cond.laysFinal "HedgeNewsModel" "HedgeNewsModel" "many" "[I") ∈ TB := tb_6 156 rfl rfl
theorem w6_157 : (Jvm.Cond.soleField "HedgeNewsModel" "many") ∈ TB := tb_6 157 rfl rfl
theorem w6_158 : (Jvm.Cond.laysFinal "HedgeNewsModel" "HedgeNewsModel" "role" "[I") ∈ TB := tb_6 158 rfl rfl
theorem w6_159 : (Jvm.Cond.soleField "HedgeNewsModel" "role") ∈ TB := tb_6 159 rfl rfl
theorem w6_160 : (Jvm.Cond.laysFinal "HedgeNewsModel" "HedgeNewsModel" "meant" "[I") ∈ TB := tb_6 160 rfl rfl
theorem w6_161 : (Jvm.Cond.soleField "HedgeNewsModel" "meant") ∈ TB := tb_6 161 rfl rfl
theorem w6_162 : (Jvm.Cond.lays "HedgeNewsModel" "HedgeNewsModel" "token" "I") ∈ TB := tb_6 162 rfl rfl
theorem w6_163 : (Jvm.Cond.soleField "HedgeNewsModel" "token") ∈ TB := tb_6 163 rfl rfl
theorem w6_164 : (Jvm.Cond.lays "HedgeNewsModel" "HedgeNewsModel" "depth" "I") ∈ TB := tb_6 164 rfl rfl
theorem w6_165 : (Jvm.Cond.soleField "HedgeNewsModel" "depth") ∈ TB := tb_6 165 rfl rfl
theorem w6_166 : (Jvm.Cond.lays "HedgeNewsModel" "HedgeNewsModel" "plan" "LHedgeNewsModel$Plan;") ∈ TB := tb_6 166 rfl rfl
theorem w6_167 : (Jvm.Cond.soleField "HedgeNewsModel" "plan") ∈ TB := tb_6 167 rfl rfl
theorem w6_168 : (Jvm.Cond.lays "HedgeNewsModel" "HedgeNewsModel" "reading" "LHedgeNewsModel$Plan;") ∈ TB := tb_6 168 rfl rfl
theorem w6_169 : (Jvm.Cond.soleField "HedgeNewsModel" "reading") ∈ TB := tb_6 169 rfl rfl
theorem w6_170 : (Jvm.Cond.laysFinal "HedgeNewsModel" "HedgeNewsModel" "stack" "[I") ∈ TB := tb_6 170 rfl rfl
theorem w6_171 : (Jvm.Cond.soleField "HedgeNewsModel" "stack") ∈ TB := tb_6 171 rfl rfl
theorem w6_172 : (Jvm.Cond.laysFinal "HedgeNewsModel" "HedgeNewsModel" "ear" "[I") ∈ TB := tb_6 172 rfl rfl
theorem w6_173 : (Jvm.Cond.soleField "HedgeNewsModel" "ear") ∈ TB := tb_6 173 rfl rfl
theorem w6_174 : (Jvm.Cond.laysFinal "HedgeNewsModel" "HedgeNewsModel" "mouth" "[I") ∈ TB := tb_6 174 rfl rfl
theorem w6_175 : (Jvm.Cond.soleField "HedgeNewsModel" "mouth") ∈ TB := tb_6 175 rfl rfl
theorem w6_176 : (Jvm.Cond.laysFinal "HedgeNewsModel" "HedgeNewsModel" "loud" "[I") ∈ TB := tb_6 176 rfl rfl
theorem w6_177 : (Jvm.Cond.soleField "HedgeNewsModel" "loud") ∈ TB := tb_6 177 rfl rfl
theorem w6_178 : (Jvm.Cond.laysFinal "HedgeNewsModel" "HedgeNewsModel" "first" "[I") ∈ TB := tb_6 178 rfl rfl
theorem w6_179 : (Jvm.Cond.soleField "HedgeNewsModel" "first") ∈ TB := tb_6 179 rfl rfl
theorem w6_180 : (Jvm.Cond.lays "HedgeNewsModel" "HedgeNewsModel" "said" "I") ∈ TB := tb_6 180 rfl rfl
theorem w6_181 : (Jvm.Cond.soleField "HedgeNewsModel" "said") ∈ TB := tb_6 181 rfl rfl
theorem w6_182 : (Jvm.Cond.lays "HedgeNewsModel" "HedgeNewsModel" "begun" "I") ∈ TB := tb_6 182 rfl rfl
theorem w6_183 : (Jvm.Cond.soleField "HedgeNewsModel" "begun") ∈ TB := tb_6 183 rfl rfl
theorem w6_184 : (Jvm.Cond.lays "HedgeNewsModel" "HedgeNewsModel" "isBack" "Z") ∈ TB := tb_6 184 rfl rfl
theorem w6_185 : (Jvm.Cond.soleField "HedgeNewsModel" "isBack") ∈ TB := tb_6 185 rfl rfl
theorem w6_186 : (Jvm.Cond.laysFinal "HedgeNewsModel" "HedgeNewsModel" "s" "LHedgeNewsModel$State;") ∈ TB := tb_6 186 rfl rfl
theorem w6_187 : (Jvm.Cond.soleField "HedgeNewsModel" "s") ∈ TB := tb_6 187 rfl rfl
theorem w6_188 : (Jvm.Cond.laysFinal "HedgeNewsModel" "HedgeNewsModel" "other" "LHedgeNewsModel$State;") ∈ TB := tb_6 188 rfl rfl
theorem w6_189 : (Jvm.Cond.soleField "HedgeNewsModel" "other") ∈ TB := tb_6 189 rfl rfl
theorem w6_190 : (Jvm.Cond.superclass "HedgeNewsModel" "java/lang/Object") ∈ TB := tb_6 190 rfl rfl
theorem w6_191 : (Jvm.Cond.methodLink "HedgeNewsLaw" (101 : Nat) ({ cls := "HedgeNewsModel", name := "thrown", desc := "()I" } : Jvm.MethodName)) ∈ TB := tb_6 191 rfl rfl
theorem w6_192 : (Jvm.Cond.instanceMethod ({ cls := "HedgeNewsModel", name := "thrown", desc := "()I" } : Jvm.MethodName)) ∈ TB := tb_6 192 rfl rfl
theorem w6_193 : (Jvm.Cond.selects "HedgeNewsModel" ({ cls := "HedgeNewsModel", name := "thrown", desc := "()I" } : Jvm.MethodName) ({ cls := "HedgeNewsModel", name := "thrown", desc := "()I" } : Jvm.MethodName)) ∈ TB := tb_6 193 rfl rfl
theorem w6_194 : (Jvm.Cond.code ({ cls := "HedgeNewsModel", name := "thrown", desc := "()I" } : Jvm.MethodName) prog_15_method_2_code (1 : Nat) (Option.some Jvm.ClassFile.FieldType.int)) ∈ TB := tb_6 194 rfl rfl
theorem w6_195 : (Jvm.Cond.methodLink "HedgeNewsLaw" (100 : Nat) ({ cls := "HedgeNewsModel", name := "feed", desc := "(IIIII)I" } : Jvm.MethodName)) ∈ TB := tb_6 195 rfl rfl
theorem w6_196 : (Jvm.Cond.instanceMethod ({ cls := "HedgeNewsModel", name := "feed", desc := "(IIIII)I" } : Jvm.MethodName)) ∈ TB := tb_6 196 rfl rfl
theorem w6_197 : (Jvm.Cond.selects "HedgeNewsModel" ({ cls := "HedgeNewsModel", name := "feed", desc := "(IIIII)I" } : Jvm.MethodName) ({ cls := "HedgeNewsModel", name := "feed", desc := "(IIIII)I" } : Jvm.MethodName)) ∈ TB := tb_6 197 rfl rfl
theorem w6_198 : (Jvm.Cond.code ({ cls := "HedgeNewsModel", name := "feed", desc := "(IIIII)I" } : Jvm.MethodName) prog_15_method_48_code (8 : Nat) (Option.some Jvm.ClassFile.FieldType.int)) ∈ TB := tb_6 198 rfl rfl
theorem w6_199 : (Jvm.Cond.methodLink "HedgeNewsModel" (281 : Nat) ({ cls := "HedgeNewsModel", name := "no", desc := "(I)I" } : Jvm.MethodName)) ∈ TB := tb_6 199 rfl rfl
theorem w6_200 : (Jvm.Cond.privateMethod ({ cls := "HedgeNewsModel", name := "no", desc := "(I)I" } : Jvm.MethodName)) ∈ lw_tbl := tz_6 200 rfl
theorem w6_201 : (Jvm.Cond.instanceMethod ({ cls := "HedgeNewsModel", name := "no", desc := "(I)I" } : Jvm.MethodName)) ∈ TB := tb_6 201 rfl rfl
theorem w6_202 : (Jvm.Cond.code ({ cls := "HedgeNewsModel", name := "no", desc := "(I)I" } : Jvm.MethodName) prog_15_method_3_code (2 : Nat) (Option.some Jvm.ClassFile.FieldType.int)) ∈ TB := tb_6 202 rfl rfl
theorem w6_203 : (Jvm.Cond.methodLink "HedgeNewsLaw" (108 : Nat) ({ cls := "HedgeNewsModel", name := "trim", desc := "(I)I" } : Jvm.MethodName)) ∈ TB := tb_6 203 rfl rfl
theorem w6_204 : (Jvm.Cond.instanceMethod ({ cls := "HedgeNewsModel", name := "trim", desc := "(I)I" } : Jvm.MethodName)) ∈ TB := tb_6 204 rfl rfl
theorem w6_205 : (Jvm.Cond.selects "HedgeNewsModel" ({ cls := "HedgeNewsModel", name := "trim", desc := "(I)I" } : Jvm.MethodName) ({ cls := "HedgeNewsModel", name := "trim", desc := "(I)I" } : Jvm.MethodName)) ∈ TB := tb_6 205 rfl rfl
theorem w6_206 : (Jvm.Cond.code ({ cls := "HedgeNewsModel", name := "trim", desc := "(I)I" } : Jvm.MethodName) prog_15_method_49_code (2 : Nat) (Option.some Jvm.ClassFile.FieldType.int)) ∈ TB := tb_6 206 rfl rfl
theorem w6_207 : (Jvm.Cond.methodLink "HedgeNewsModel" (75 : Nat) ({ cls := "HedgeNewsModel", name := "isIn", desc := "(III)Z" } : Jvm.MethodName)) ∈ TB := tb_6 207 rfl rfl
theorem w6_208 : (Jvm.Cond.static ({ cls := "HedgeNewsModel", name := "isIn", desc := "(III)Z" } : Jvm.MethodName)) ∈ TB := tb_6 208 rfl rfl
theorem w6_209 : (Jvm.Cond.code ({ cls := "HedgeNewsModel", name := "isIn", desc := "(III)Z" } : Jvm.MethodName) prog_15_method_6_code (3 : Nat) (Option.some Jvm.ClassFile.FieldType.boolean)) ∈ TB := tb_6 209 rfl rfl
theorem w6_210 : (Jvm.Cond.methodLink "HedgeNewsLaw" (112 : Nat) ({ cls := "HedgeNewsModel", name := "teach", desc := "()I" } : Jvm.MethodName)) ∈ TB := tb_6 210 rfl rfl
theorem w6_211 : (Jvm.Cond.instanceMethod ({ cls := "HedgeNewsModel", name := "teach", desc := "()I" } : Jvm.MethodName)) ∈ TB := tb_6 211 rfl rfl
theorem w6_212 : (Jvm.Cond.selects "HedgeNewsModel" ({ cls := "HedgeNewsModel", name := "teach", desc := "()I" } : Jvm.MethodName) ({ cls := "HedgeNewsModel", name := "teach", desc := "()I" } : Jvm.MethodName)) ∈ TB := tb_6 212 rfl rfl
theorem w6_213 : (Jvm.Cond.code ({ cls := "HedgeNewsModel", name := "teach", desc := "()I" } : Jvm.MethodName) prog_15_method_50_code (2 : Nat) (Option.some Jvm.ClassFile.FieldType.int)) ∈ TB := tb_6 213 rfl rfl
theorem w6_214 : (Jvm.Cond.methodLink "HedgeNewsModel" (284 : Nat) ({ cls := "HedgeNewsModel", name := "read", desc := "()I" } : Jvm.MethodName)) ∈ TB := tb_6 214 rfl rfl
theorem w6_215 : (Jvm.Cond.privateMethod ({ cls := "HedgeNewsModel", name := "read", desc := "()I" } : Jvm.MethodName)) ∈ lw_tbl := tz_6 215 rfl
theorem w6_216 : (Jvm.Cond.instanceMethod ({ cls := "HedgeNewsModel", name := "read", desc := "()I" } : Jvm.MethodName)) ∈ TB := tb_6 216 rfl rfl
theorem w6_217 : (Jvm.Cond.code ({ cls := "HedgeNewsModel", name := "read", desc := "()I" } : Jvm.MethodName) prog_15_method_47_code (3 : Nat) (Option.some Jvm.ClassFile.FieldType.int)) ∈ TB := tb_6 217 rfl rfl
theorem w6_218 : (Jvm.Cond.methodLink "HedgeNewsModel" (272 : Nat) ({ cls := "HedgeNewsModel", name := "cut", desc := "()V" } : Jvm.MethodName)) ∈ TB := tb_6 218 rfl rfl
theorem w6_219 : (Jvm.Cond.privateMethod ({ cls := "HedgeNewsModel", name := "cut", desc := "()V" } : Jvm.MethodName)) ∈ lw_tbl := tz_6 219 rfl
theorem w6_220 : (Jvm.Cond.instanceMethod ({ cls := "HedgeNewsModel", name := "cut", desc := "()V" } : Jvm.MethodName)) ∈ TB := tb_6 220 rfl rfl
theorem w6_221 : (Jvm.Cond.code ({ cls := "HedgeNewsModel", name := "cut", desc := "()V" } : Jvm.MethodName) prog_15_method_16_code (3 : Nat) (Option.none : Option Jvm.ClassFile.FieldType)) ∈ TB := tb_6 221 rfl rfl
theorem w6_222 : (Jvm.Cond.methodLink "HedgeNewsModel" (98 : Nat) ({ cls := "HedgeNewsModel", name := "byteOf", desc := "(I)I" } : Jvm.MethodName)) ∈ TB := tb_6 222 rfl rfl
theorem w6_223 : (Jvm.Cond.privateMethod ({ cls := "HedgeNewsModel", name := "byteOf", desc := "(I)I" } : Jvm.MethodName)) ∈ lw_tbl := tz_6 223 rfl
theorem w6_224 : (Jvm.Cond.instanceMethod ({ cls := "HedgeNewsModel", name := "byteOf", desc := "(I)I" } : Jvm.MethodName)) ∈ TB := tb_6 224 rfl rfl
theorem w6_225 : (Jvm.Cond.code ({ cls := "HedgeNewsModel", name := "byteOf", desc := "(I)I" } : Jvm.MethodName) prog_15_method_13_code (2 : Nat) (Option.some Jvm.ClassFile.FieldType.int)) ∈ TB := tb_6 225 rfl rfl
theorem w6_226 : (Jvm.Cond.methodLink "HedgeNewsModel" (131 : Nat) ({ cls := "HedgeNewsModel", name := "kindAt", desc := "(II)I" } : Jvm.MethodName)) ∈ TB := tb_6 226 rfl rfl
theorem w6_227 : (Jvm.Cond.privateMethod ({ cls := "HedgeNewsModel", name := "kindAt", desc := "(II)I" } : Jvm.MethodName)) ∈ lw_tbl := tz_6 227 rfl
theorem w6_228 : (Jvm.Cond.instanceMethod ({ cls := "HedgeNewsModel", name := "kindAt", desc := "(II)I" } : Jvm.MethodName)) ∈ TB := tb_6 228 rfl rfl
theorem w6_229 : (Jvm.Cond.code ({ cls := "HedgeNewsModel", name := "kindAt", desc := "(II)I" } : Jvm.MethodName) prog_15_method_14_code (6 : Nat) (Option.some Jvm.ClassFile.FieldType.int)) ∈ TB := tb_6 229 rfl rfl
theorem w6_230 : (Jvm.Cond.methodLink "HedgeNewsModel" (102 : Nat) ({ cls := "HedgeNewsModel", name := "isLetter", desc := "(I)Z" } : Jvm.MethodName)) ∈ TB := tb_6 230 rfl rfl
theorem w6_231 : (Jvm.Cond.static ({ cls := "HedgeNewsModel", name := "isLetter", desc := "(I)Z" } : Jvm.MethodName)) ∈ TB := tb_6 231 rfl rfl
theorem w6_232 : (Jvm.Cond.code ({ cls := "HedgeNewsModel", name := "isLetter", desc := "(I)Z" } : Jvm.MethodName) prog_15_method_11_code (1 : Nat) (Option.some Jvm.ClassFile.FieldType.boolean)) ∈ TB := tb_6 232 rfl rfl
theorem w6_233 : (Jvm.Cond.methodLink "HedgeNewsModel" (106 : Nat) ({ cls := "HedgeNewsModel", name := "isDigit", desc := "(I)Z" } : Jvm.MethodName)) ∈ TB := tb_6 233 rfl rfl
theorem w6_234 : (Jvm.Cond.static ({ cls := "HedgeNewsModel", name := "isDigit", desc := "(I)Z" } : Jvm.MethodName)) ∈ TB := tb_6 234 rfl rfl
theorem w6_235 : (Jvm.Cond.code ({ cls := "HedgeNewsModel", name := "isDigit", desc := "(I)Z" } : Jvm.MethodName) prog_15_method_12_code (1 : Nat) (Option.some Jvm.ClassFile.FieldType.boolean)) ∈ TB := tb_6 235 rfl rfl
theorem w6_236 : (Jvm.Cond.methodLink "HedgeNewsModel" (109 : Nat) ({ cls := "HedgeNewsModel", name := "word", desc := "(II)I" } : Jvm.MethodName)) ∈ TB := tb_6 236 rfl rfl
theorem w6_237 : (Jvm.Cond.privateMethod ({ cls := "HedgeNewsModel", name := "word", desc := "(II)I" } : Jvm.MethodName)) ∈ lw_tbl := tz_6 237 rfl
theorem w6_238 : (Jvm.Cond.instanceMethod ({ cls := "HedgeNewsModel", name := "word", desc := "(II)I" } : Jvm.MethodName)) ∈ TB := tb_6 238 rfl rfl
theorem w6_239 : (Jvm.Cond.code ({ cls := "HedgeNewsModel", name := "word", desc := "(II)I" } : Jvm.MethodName) prog_15_method_15_code (6 : Nat) (Option.some Jvm.ClassFile.FieldType.int)) ∈ TB := tb_6 239 rfl rfl
theorem w7_0 : (Jvm.Cond.fieldLink "HedgeNewsModel" (119 : Nat) "HedgeNewsModel" "WORDS" "[Ljava/lang/String;") ∈ TB := tb_7 0 rfl rfl
theorem w7_1 : (Jvm.Cond.laysStatic "HedgeNewsModel" "WORDS" "[Ljava/lang/String;") ∈ lw_tbl := tz_7 1 rfl
theorem w7_2 : (Jvm.Cond.methodLink "HedgeNewsModel" (123 : Nat) ({ cls := "java/lang/String", name := "length", desc := "()I" } : Jvm.MethodName)) ∈ TB := tb_7 2 rfl rfl
theorem w7_3 : (Jvm.Cond.instanceMethod ({ cls := "java/lang/String", name := "length", desc := "()I" } : Jvm.MethodName)) ∈ TB := tb_7 3 rfl rfl
theorem w7_4 : (Jvm.Cond.selects "java/lang/String" ({ cls := "java/lang/String", name := "length", desc := "()I" } : Jvm.MethodName) ({ cls := "java/lang/String", name := "length", desc := "()I" } : Jvm.MethodName)) ∈ TB := tb_7 4 rfl rfl
theorem w7_5 : (Jvm.Cond.code ({ cls := "java/lang/String", name := "length", desc := "()I" } : Jvm.MethodName) prog_26_method_54_code (1 : Nat) (Option.some Jvm.ClassFile.FieldType.int)) ∈ TB := tb_7 5 rfl rfl
theorem w7_6 : (Jvm.Cond.methodLink "java/lang/String" (335 : Nat) ({ cls := "java/lang/String", name := "coder", desc := "()B" } : Jvm.MethodName)) ∈ TB := tb_7 6 rfl rfl
theorem w7_7 : (Jvm.Cond.instanceMethod ({ cls := "java/lang/String", name := "coder", desc := "()B" } : Jvm.MethodName)) ∈ TB := tb_7 7 rfl rfl
theorem w7_8 : (Jvm.Cond.selects "java/lang/String" ({ cls := "java/lang/String", name := "coder", desc := "()B" } : Jvm.MethodName) ({ cls := "java/lang/String", name := "coder", desc := "()B" } : Jvm.MethodName)) ∈ TB := tb_7 8 rfl rfl
theorem w7_9 : (Jvm.Cond.code ({ cls := "java/lang/String", name := "coder", desc := "()B" } : Jvm.MethodName) prog_26_method_152_code (1 : Nat) (Option.some Jvm.ClassFile.FieldType.byte)) ∈ TB := tb_7 9 rfl rfl
theorem w7_10 : (Jvm.Cond.fieldLink "java/lang/String" (38 : Nat) "java/lang/String" "COMPACT_STRINGS" "Z") ∈ TB := tb_7 10 rfl rfl
theorem w7_11 : (Jvm.Cond.laysStatic "java/lang/String" "COMPACT_STRINGS" "Z") ∈ lw_tbl := tz_7 11 rfl
theorem w7_12 : (Jvm.Cond.methodLink "HedgeNewsModel" (127 : Nat) ({ cls := "java/lang/String", name := "charAt", desc := "(I)C" } : Jvm.MethodName)) ∈ TB := tb_7 12 rfl rfl
theorem w7_13 : (Jvm.Cond.instanceMethod ({ cls := "java/lang/String", name := "charAt", desc := "(I)C" } : Jvm.MethodName)) ∈ TB := tb_7 13 rfl rfl
theorem w7_14 : (Jvm.Cond.selects "java/lang/String" ({ cls := "java/lang/String", name := "charAt", desc := "(I)C" } : Jvm.MethodName) ({ cls := "java/lang/String", name := "charAt", desc := "(I)C" } : Jvm.MethodName)) ∈ TB := tb_7 14 rfl rfl
theorem w7_15 : (Jvm.Cond.code ({ cls := "java/lang/String", name := "charAt", desc := "(I)C" } : Jvm.MethodName) prog_26_method_56_code (2 : Nat) (Option.some Jvm.ClassFile.FieldType.char)) ∈ TB := tb_7 15 rfl rfl
theorem w7_16 : (Jvm.Cond.methodLink "java/lang/String" (492 : Nat) ({ cls := "java/lang/String", name := "isLatin1", desc := "()Z" } : Jvm.MethodName)) ∈ TB := tb_7 16 rfl rfl
theorem w7_17 : (Jvm.Cond.instanceMethod ({ cls := "java/lang/String", name := "isLatin1", desc := "()Z" } : Jvm.MethodName)) ∈ TB := tb_7 17 rfl rfl
theorem w7_18 : (Jvm.Cond.selects "java/lang/String" ({ cls := "java/lang/String", name := "isLatin1", desc := "()Z" } : Jvm.MethodName) ({ cls := "java/lang/String", name := "isLatin1", desc := "()Z" } : Jvm.MethodName)) ∈ TB := tb_7 18 rfl rfl
theorem w7_19 : (Jvm.Cond.code ({ cls := "java/lang/String", name := "isLatin1", desc := "()Z" } : Jvm.MethodName) prog_26_method_154_code (1 : Nat) (Option.some Jvm.ClassFile.FieldType.boolean)) ∈ TB := tb_7 19 rfl rfl
theorem w7_20 : (Jvm.Cond.methodLink "java/lang/String" (495 : Nat) ({ cls := "java/lang/StringLatin1", name := "charAt", desc := "([BI)C" } : Jvm.MethodName)) ∈ TB := tb_7 20 rfl rfl
theorem w7_21 : (Jvm.Cond.static ({ cls := "java/lang/StringLatin1", name := "charAt", desc := "([BI)C" } : Jvm.MethodName)) ∈ TB := tb_7 21 rfl rfl
theorem w7_22 : (Jvm.Cond.code ({ cls := "java/lang/StringLatin1", name := "charAt", desc := "([BI)C" } : Jvm.MethodName) prog_27_method_2_code (2 : Nat) (Option.some Jvm.ClassFile.FieldType.char)) ∈ TB := tb_7 22 rfl rfl
theorem w7_23 : (Jvm.Cond.methodLink "java/lang/StringLatin1" (9 : Nat) ({ cls := "java/lang/String", name := "checkIndex", desc := "(II)V" } : Jvm.MethodName)) ∈ TB := tb_7 23 rfl rfl
theorem w7_24 : (Jvm.Cond.static ({ cls := "java/lang/String", name := "checkIndex", desc := "(II)V" } : Jvm.MethodName)) ∈ TB := tb_7 24 rfl rfl
theorem w7_25 : (Jvm.Cond.code ({ cls := "java/lang/String", name := "checkIndex", desc := "(II)V" } : Jvm.MethodName) prog_26_method_155_code (2 : Nat) (Option.none : Option Jvm.ClassFile.FieldType)) ∈ TB := tb_7 25 rfl rfl
theorem w7_26 : (Jvm.Cond.fieldLink "java/lang/String" (1053 : Nat) "jdk/internal/util/Preconditions" "SIOOBE_FORMATTER" "Ljava/util/function/BiFunction;") ∈ TB := tb_7 26 rfl rfl
theorem w7_27 : (Jvm.Cond.laysStatic "jdk/internal/util/Preconditions" "SIOOBE_FORMATTER" "Ljava/util/function/BiFunction;") ∈ lw_tbl := tz_7 27 rfl
theorem w7_28 : (Jvm.Cond.methodLink "java/lang/String" (1059 : Nat) ({ cls := "jdk/internal/util/Preconditions", name := "checkIndex", desc := "(IILjava/util/function/BiFunction;)I" } : Jvm.MethodName)) ∈ TB := tb_7 28 rfl rfl
theorem w7_29 : (Jvm.Cond.static ({ cls := "jdk/internal/util/Preconditions", name := "checkIndex", desc := "(IILjava/util/function/BiFunction;)I" } : Jvm.MethodName)) ∈ TB := tb_7 29 rfl rfl
theorem w7_30 : (Jvm.Cond.code ({ cls := "jdk/internal/util/Preconditions", name := "checkIndex", desc := "(IILjava/util/function/BiFunction;)I" } : Jvm.MethodName) prog_31_method_11_code (3 : Nat) (Option.some Jvm.ClassFile.FieldType.int)) ∈ TB := tb_7 30 rfl rfl
theorem w7_31 : (Jvm.Cond.methodLink "java/lang/String" (498 : Nat) ({ cls := "java/lang/StringUTF16", name := "charAt", desc := "([BI)C" } : Jvm.MethodName)) ∈ TB := tb_7 31 rfl rfl
theorem w7_32 : (Jvm.Cond.static ({ cls := "java/lang/StringUTF16", name := "charAt", desc := "([BI)C" } : Jvm.MethodName)) ∈ TB := tb_7 32 rfl rfl
theorem w7_33 : (Jvm.Cond.code ({ cls := "java/lang/StringUTF16", name := "charAt", desc := "([BI)C" } : Jvm.MethodName) prog_28_method_83_code (2 : Nat) (Option.some Jvm.ClassFile.FieldType.char)) ∈ TB := tb_7 33 rfl rfl
theorem w7_34 : (Jvm.Cond.methodLink "java/lang/StringUTF16" (67 : Nat) ({ cls := "java/lang/StringUTF16", name := "checkIndex", desc := "(I[B)V" } : Jvm.MethodName)) ∈ TB := tb_7 34 rfl rfl
theorem w7_35 : (Jvm.Cond.static ({ cls := "java/lang/StringUTF16", name := "checkIndex", desc := "(I[B)V" } : Jvm.MethodName)) ∈ TB := tb_7 35 rfl rfl
theorem w7_36 : (Jvm.Cond.code ({ cls := "java/lang/StringUTF16", name := "checkIndex", desc := "(I[B)V" } : Jvm.MethodName) prog_28_method_91_code (2 : Nat) (Option.none : Option Jvm.ClassFile.FieldType)) ∈ TB := tb_7 36 rfl rfl
theorem w7_37 : (Jvm.Cond.methodLink "java/lang/StringUTF16" (48 : Nat) ({ cls := "java/lang/StringUTF16", name := "length", desc := "([B)I" } : Jvm.MethodName)) ∈ TB := tb_7 37 rfl rfl
theorem w7_38 : (Jvm.Cond.static ({ cls := "java/lang/StringUTF16", name := "length", desc := "([B)I" } : Jvm.MethodName)) ∈ TB := tb_7 38 rfl rfl
theorem w7_39 : (Jvm.Cond.code ({ cls := "java/lang/StringUTF16", name := "length", desc := "([B)I" } : Jvm.MethodName) prog_28_method_6_code (1 : Nat) (Option.some Jvm.ClassFile.FieldType.int)) ∈ TB := tb_7 39 rfl rfl
theorem w7_40 : (Jvm.Cond.methodLink "java/lang/StringUTF16" (414 : Nat) ({ cls := "java/lang/String", name := "checkIndex", desc := "(II)V" } : Jvm.MethodName)) ∈ TB := tb_7 40 rfl rfl
theorem w7_41 : (Jvm.Cond.methodLink "java/lang/StringUTF16" (71 : Nat) ({ cls := "java/lang/StringUTF16", name := "getChar", desc := "([BI)C" } : Jvm.MethodName)) ∈ TB := tb_7 41 rfl rfl
theorem w7_42 : (Jvm.Cond.static ({ cls := "java/lang/StringUTF16", name := "getChar", desc := "([BI)C" } : Jvm.MethodName)) ∈ TB := tb_7 42 rfl rfl
theorem w7_43 : (Jvm.Cond.code ({ cls := "java/lang/StringUTF16", name := "getChar", desc := "([BI)C" } : Jvm.MethodName) prog_28_method_5_code (2 : Nat) (Option.some Jvm.ClassFile.FieldType.char)) ∈ TB := tb_7 43 rfl rfl
theorem w7_44 : (Jvm.Cond.fieldLink "java/lang/StringUTF16" (44 : Nat) "java/lang/StringUTF16" "$assertionsDisabled" "Z") ∈ TB := tb_7 44 rfl rfl
theorem w7_45 : (Jvm.Cond.laysStatic "java/lang/StringUTF16" "$assertionsDisabled" "Z") ∈ lw_tbl := tz_7 45 rfl
theorem w7_46 : (Jvm.Cond.fieldLink "java/lang/StringUTF16" (59 : Nat) "java/lang/StringUTF16" "HI_BYTE_SHIFT" "I") ∈ TB := tb_7 46 rfl rfl
theorem w7_47 : (Jvm.Cond.laysStatic "java/lang/StringUTF16" "HI_BYTE_SHIFT" "I") ∈ lw_tbl := tz_7 47 rfl
theorem w7_48 : (Jvm.Cond.fieldLink "java/lang/StringUTF16" (63 : Nat) "java/lang/StringUTF16" "LO_BYTE_SHIFT" "I") ∈ TB := tb_7 48 rfl rfl
theorem w7_49 : (Jvm.Cond.laysStatic "java/lang/StringUTF16" "LO_BYTE_SHIFT" "I") ∈ lw_tbl := tz_7 49 rfl
theorem w7_50 : (Jvm.Cond.stringRef "HedgeNewsModel" (112 : Nat) "()[];,+-*/<>=") ∈ lw_tbl := tz_7 50 rfl
theorem w7_51 : (Jvm.Cond.methodLink "HedgeNewsModel" (114 : Nat) ({ cls := "java/lang/String", name := "indexOf", desc := "(I)I" } : Jvm.MethodName)) ∈ TB := tb_7 51 rfl rfl
theorem w7_52 : (Jvm.Cond.instanceMethod ({ cls := "java/lang/String", name := "indexOf", desc := "(I)I" } : Jvm.MethodName)) ∈ TB := tb_7 52 rfl rfl
theorem w7_53 : (Jvm.Cond.selects "java/lang/String" ({ cls := "java/lang/String", name := "indexOf", desc := "(I)I" } : Jvm.MethodName) ({ cls := "java/lang/String", name := "indexOf", desc := "(I)I" } : Jvm.MethodName)) ∈ TB := tb_7 53 rfl rfl
theorem w7_54 : (Jvm.Cond.code ({ cls := "java/lang/String", name := "indexOf", desc := "(I)I" } : Jvm.MethodName) prog_26_method_79_code (2 : Nat) (Option.some Jvm.ClassFile.FieldType.int)) ∈ TB := tb_7 54 rfl rfl
theorem w7_55 : (Jvm.Cond.methodLink "java/lang/String" (633 : Nat) ({ cls := "java/lang/String", name := "indexOf", desc := "(II)I" } : Jvm.MethodName)) ∈ TB := tb_7 55 rfl rfl
theorem w7_56 : (Jvm.Cond.instanceMethod ({ cls := "java/lang/String", name := "indexOf", desc := "(II)I" } : Jvm.MethodName)) ∈ TB := tb_7 56 rfl rfl
theorem w7_57 : (Jvm.Cond.selects "java/lang/String" ({ cls := "java/lang/String", name := "indexOf", desc := "(II)I" } : Jvm.MethodName) ({ cls := "java/lang/String", name := "indexOf", desc := "(II)I" } : Jvm.MethodName)) ∈ TB := tb_7 57 rfl rfl
theorem w7_58 : (Jvm.Cond.code ({ cls := "java/lang/String", name := "indexOf", desc := "(II)I" } : Jvm.MethodName) prog_26_method_80_code (3 : Nat) (Option.some Jvm.ClassFile.FieldType.int)) ∈ TB := tb_7 58 rfl rfl
theorem w7_59 : (Jvm.Cond.methodLink "java/lang/String" (505 : Nat) ({ cls := "java/lang/String", name := "length", desc := "()I" } : Jvm.MethodName)) ∈ TB := tb_7 59 rfl rfl
theorem w7_60 : (Jvm.Cond.methodLink "java/lang/String" (637 : Nat) ({ cls := "java/lang/StringLatin1", name := "indexOf", desc := "([BIII)I" } : Jvm.MethodName)) ∈ TB := tb_7 60 rfl rfl
theorem w7_61 : (Jvm.Cond.static ({ cls := "java/lang/StringLatin1", name := "indexOf", desc := "([BIII)I" } : Jvm.MethodName)) ∈ TB := tb_7 61 rfl rfl
theorem w7_62 : (Jvm.Cond.code ({ cls := "java/lang/StringLatin1", name := "indexOf", desc := "([BIII)I" } : Jvm.MethodName) prog_27_method_22_code (4 : Nat) (Option.some Jvm.ClassFile.FieldType.int)) ∈ TB := tb_7 62 rfl rfl
theorem w7_63 : (Jvm.Cond.methodLink "java/lang/StringLatin1" (88 : Nat) ({ cls := "java/lang/StringLatin1", name := "canEncode", desc := "(I)Z" } : Jvm.MethodName)) ∈ TB := tb_7 63 rfl rfl
theorem w7_64 : (Jvm.Cond.static ({ cls := "java/lang/StringLatin1", name := "canEncode", desc := "(I)Z" } : Jvm.MethodName)) ∈ TB := tb_7 64 rfl rfl
theorem w7_65 : (Jvm.Cond.code ({ cls := "java/lang/StringLatin1", name := "canEncode", desc := "(I)Z" } : Jvm.MethodName) prog_27_method_4_code (1 : Nat) (Option.some Jvm.ClassFile.FieldType.boolean)) ∈ TB := tb_7 65 rfl rfl
theorem w7_66 : (Jvm.Cond.methodLink "java/lang/StringLatin1" (92 : Nat) ({ cls := "java/lang/Math", name := "max", desc := "(II)I" } : Jvm.MethodName)) ∈ TB := tb_7 66 rfl rfl
theorem w7_67 : (Jvm.Cond.methodLink "java/lang/StringLatin1" (38 : Nat) ({ cls := "java/lang/Math", name := "min", desc := "(II)I" } : Jvm.MethodName)) ∈ TB := tb_7 67 rfl rfl
theorem w7_68 : (Jvm.Cond.methodLink "java/lang/StringLatin1" (95 : Nat) ({ cls := "java/lang/StringLatin1", name := "indexOfChar", desc := "([BIII)I" } : Jvm.MethodName)) ∈ TB := tb_7 68 rfl rfl
theorem w7_69 : (Jvm.Cond.static ({ cls := "java/lang/StringLatin1", name := "indexOfChar", desc := "([BIII)I" } : Jvm.MethodName)) ∈ TB := tb_7 69 rfl rfl
theorem w7_70 : (Jvm.Cond.code ({ cls := "java/lang/StringLatin1", name := "indexOfChar", desc := "([BIII)I" } : Jvm.MethodName) prog_27_method_23_code (6 : Nat) (Option.some Jvm.ClassFile.FieldType.int)) ∈ TB := tb_7 70 rfl rfl
theorem w7_71 : (Jvm.Cond.methodLink "java/lang/String" (640 : Nat) ({ cls := "java/lang/StringUTF16", name := "indexOf", desc := "([BIII)I" } : Jvm.MethodName)) ∈ TB := tb_7 71 rfl rfl
theorem w7_72 : (Jvm.Cond.static ({ cls := "java/lang/StringUTF16", name := "indexOf", desc := "([BIII)I" } : Jvm.MethodName)) ∈ TB := tb_7 72 rfl rfl
theorem w7_73 : (Jvm.Cond.code ({ cls := "java/lang/StringUTF16", name := "indexOf", desc := "([BIII)I" } : Jvm.MethodName) prog_28_method_40_code (4 : Nat) (Option.some Jvm.ClassFile.FieldType.int)) ∈ TB := tb_7 73 rfl rfl
theorem w7_74 : (Jvm.Cond.methodLink "java/lang/StringUTF16" (224 : Nat) ({ cls := "java/lang/Math", name := "max", desc := "(II)I" } : Jvm.MethodName)) ∈ TB := tb_7 74 rfl rfl
theorem w7_75 : (Jvm.Cond.methodLink "java/lang/StringUTF16" (183 : Nat) ({ cls := "java/lang/Math", name := "min", desc := "(II)I" } : Jvm.MethodName)) ∈ TB := tb_7 75 rfl rfl
theorem w7_76 : (Jvm.Cond.constant "java/lang/StringUTF16" (227 : Nat) (65536 : Int32)) ∈ TB := tb_7 76 rfl rfl
theorem w7_77 : (Jvm.Cond.methodLink "java/lang/StringUTF16" (228 : Nat) ({ cls := "java/lang/StringUTF16", name := "indexOfChar", desc := "([BIII)I" } : Jvm.MethodName)) ∈ TB := tb_7 77 rfl rfl
theorem w7_78 : (Jvm.Cond.static ({ cls := "java/lang/StringUTF16", name := "indexOfChar", desc := "([BIII)I" } : Jvm.MethodName)) ∈ TB := tb_7 78 rfl rfl
theorem w7_79 : (Jvm.Cond.code ({ cls := "java/lang/StringUTF16", name := "indexOfChar", desc := "([BIII)I" } : Jvm.MethodName) prog_28_method_47_code (4 : Nat) (Option.some Jvm.ClassFile.FieldType.int)) ∈ TB := tb_7 79 rfl rfl
theorem w7_80 : (Jvm.Cond.methodLink "java/lang/StringUTF16" (96 : Nat) ({ cls := "java/lang/StringUTF16", name := "checkBoundsBeginEnd", desc := "(II[B)V" } : Jvm.MethodName)) ∈ TB := tb_7 80 rfl rfl
theorem w7_81 : (Jvm.Cond.static ({ cls := "java/lang/StringUTF16", name := "checkBoundsBeginEnd", desc := "(II[B)V" } : Jvm.MethodName)) ∈ TB := tb_7 81 rfl rfl
theorem w7_82 : (Jvm.Cond.code ({ cls := "java/lang/StringUTF16", name := "checkBoundsBeginEnd", desc := "(II[B)V" } : Jvm.MethodName) prog_28_method_93_code (3 : Nat) (Option.none : Option Jvm.ClassFile.FieldType)) ∈ TB := tb_7 82 rfl rfl
theorem w7_83 : (Jvm.Cond.methodLink "java/lang/StringUTF16" (241 : Nat) ({ cls := "java/lang/String", name := "checkBoundsBeginEnd", desc := "(III)V" } : Jvm.MethodName)) ∈ TB := tb_7 83 rfl rfl
theorem w7_84 : (Jvm.Cond.static ({ cls := "java/lang/String", name := "checkBoundsBeginEnd", desc := "(III)V" } : Jvm.MethodName)) ∈ TB := tb_7 84 rfl rfl
theorem w7_85 : (Jvm.Cond.code ({ cls := "java/lang/String", name := "checkBoundsBeginEnd", desc := "(III)V" } : Jvm.MethodName) prog_26_method_158_code (3 : Nat) (Option.none : Option Jvm.ClassFile.FieldType)) ∈ TB := tb_7 85 rfl rfl
theorem w7_86 : (Jvm.Cond.methodLink "java/lang/String" (1062 : Nat) ({ cls := "jdk/internal/util/Preconditions", name := "checkFromToIndex", desc := "(IIILjava/util/function/BiFunction;)I" } : Jvm.MethodName)) ∈ TB := tb_7 86 rfl rfl
theorem w7_87 : (Jvm.Cond.static ({ cls := "jdk/internal/util/Preconditions", name := "checkFromToIndex", desc := "(IIILjava/util/function/BiFunction;)I" } : Jvm.MethodName)) ∈ TB := tb_7 87 rfl rfl
theorem w7_88 : (Jvm.Cond.code ({ cls := "jdk/internal/util/Preconditions", name := "checkFromToIndex", desc := "(IIILjava/util/function/BiFunction;)I" } : Jvm.MethodName) prog_31_method_12_code (4 : Nat) (Option.some Jvm.ClassFile.FieldType.int)) ∈ TB := tb_7 88 rfl rfl
theorem w7_89 : (Jvm.Cond.methodLink "java/lang/StringUTF16" (244 : Nat) ({ cls := "java/lang/StringUTF16", name := "indexOfCharUnsafe", desc := "([BIII)I" } : Jvm.MethodName)) ∈ TB := tb_7 89 rfl rfl
theorem w7_90 : (Jvm.Cond.static ({ cls := "java/lang/StringUTF16", name := "indexOfCharUnsafe", desc := "([BIII)I" } : Jvm.MethodName)) ∈ TB := tb_7 90 rfl rfl
theorem w7_91 : (Jvm.Cond.code ({ cls := "java/lang/StringUTF16", name := "indexOfCharUnsafe", desc := "([BIII)I" } : Jvm.MethodName) prog_28_method_48_code (5 : Nat) (Option.some Jvm.ClassFile.FieldType.int)) ∈ TB := tb_7 91 rfl rfl
theorem w7_92 : (Jvm.Cond.methodLink "java/lang/StringUTF16" (232 : Nat) ({ cls := "java/lang/StringUTF16", name := "indexOfSupplementary", desc := "([BIII)I" } : Jvm.MethodName)) ∈ TB := tb_7 92 rfl rfl
theorem w7_93 : (Jvm.Cond.static ({ cls := "java/lang/StringUTF16", name := "indexOfSupplementary", desc := "([BIII)I" } : Jvm.MethodName)) ∈ TB := tb_7 93 rfl rfl
theorem w7_94 : (Jvm.Cond.code ({ cls := "java/lang/StringUTF16", name := "indexOfSupplementary", desc := "([BIII)I" } : Jvm.MethodName) prog_28_method_49_code (7 : Nat) (Option.some Jvm.ClassFile.FieldType.int)) ∈ TB := tb_7 94 rfl rfl
theorem w7_95 : (Jvm.Cond.methodLink "java/lang/StringUTF16" (164 : Nat) ({ cls := "java/lang/Character", name := "isValidCodePoint", desc := "(I)Z" } : Jvm.MethodName)) ∈ TB := tb_7 95 rfl rfl
theorem w7_96 : (Jvm.Cond.static ({ cls := "java/lang/Character", name := "isValidCodePoint", desc := "(I)Z" } : Jvm.MethodName)) ∈ TB := tb_7 96 rfl rfl
theorem w7_97 : (Jvm.Cond.code ({ cls := "java/lang/Character", name := "isValidCodePoint", desc := "(I)Z" } : Jvm.MethodName) prog_18_method_11_code (2 : Nat) (Option.some Jvm.ClassFile.FieldType.boolean)) ∈ TB := tb_7 97 rfl rfl
theorem w7_98 : (Jvm.Cond.methodLink "java/lang/StringUTF16" (157 : Nat) ({ cls := "java/lang/Character", name := "highSurrogate", desc := "(I)C" } : Jvm.MethodName)) ∈ TB := tb_7 98 rfl rfl
theorem w7_99 : (Jvm.Cond.static ({ cls := "java/lang/Character", name := "highSurrogate", desc := "(I)C" } : Jvm.MethodName)) ∈ TB := tb_7 99 rfl rfl
theorem w7_100 : (Jvm.Cond.code ({ cls := "java/lang/Character", name := "highSurrogate", desc := "(I)C" } : Jvm.MethodName) prog_18_method_28_code (1 : Nat) (Option.some Jvm.ClassFile.FieldType.char)) ∈ TB := tb_7 100 rfl rfl
theorem w7_101 : (Jvm.Cond.constant "java/lang/Character" (110 : Nat) (55232 : Int32)) ∈ TB := tb_7 101 rfl rfl
theorem w7_102 : (Jvm.Cond.methodLink "java/lang/StringUTF16" (161 : Nat) ({ cls := "java/lang/Character", name := "lowSurrogate", desc := "(I)C" } : Jvm.MethodName)) ∈ TB := tb_7 102 rfl rfl
theorem w7_103 : (Jvm.Cond.static ({ cls := "java/lang/Character", name := "lowSurrogate", desc := "(I)C" } : Jvm.MethodName)) ∈ TB := tb_7 103 rfl rfl
theorem w7_104 : (Jvm.Cond.code ({ cls := "java/lang/Character", name := "lowSurrogate", desc := "(I)C" } : Jvm.MethodName) prog_18_method_29_code (1 : Nat) (Option.some Jvm.ClassFile.FieldType.char)) ∈ TB := tb_7 104 rfl rfl
theorem w7_105 : (Jvm.Cond.constant "java/lang/Character" (76 : Nat) (56320 : Int32)) ∈ TB := tb_7 105 rfl rfl
theorem w7_106 : (Jvm.Cond.methodLink "HedgeNewsModel" (275 : Nat) ({ cls := "HedgeNewsModel", name := "isBook", desc := "()Z" } : Jvm.MethodName)) ∈ TB := tb_7 106 rfl rfl
theorem w7_107 : (Jvm.Cond.privateMethod ({ cls := "HedgeNewsModel", name := "isBook", desc := "()Z" } : Jvm.MethodName)) ∈ lw_tbl := tz_7 107 rfl
theorem w7_108 : (Jvm.Cond.instanceMethod ({ cls := "HedgeNewsModel", name := "isBook", desc := "()Z" } : Jvm.MethodName)) ∈ TB := tb_7 108 rfl rfl
theorem w7_109 : (Jvm.Cond.code ({ cls := "HedgeNewsModel", name := "isBook", desc := "()Z" } : Jvm.MethodName) prog_15_method_23_code (1 : Nat) (Option.some Jvm.ClassFile.FieldType.boolean)) ∈ TB := tb_7 109 rfl rfl
theorem w7_110 : (Jvm.Cond.methodLink "HedgeNewsModel" (137 : Nat) ({ cls := "HedgeNewsModel", name := "is", desc := "(I)Z" } : Jvm.MethodName)) ∈ TB := tb_7 110 rfl rfl
theorem w7_111 : (Jvm.Cond.privateMethod ({ cls := "HedgeNewsModel", name := "is", desc := "(I)Z" } : Jvm.MethodName)) ∈ lw_tbl := tz_7 111 rfl
theorem w7_112 : (Jvm.Cond.instanceMethod ({ cls := "HedgeNewsModel", name := "is", desc := "(I)Z" } : Jvm.MethodName)) ∈ TB := tb_7 112 rfl rfl
theorem w7_113 : (Jvm.Cond.code ({ cls := "HedgeNewsModel", name := "is", desc := "(I)Z" } : Jvm.MethodName) prog_15_method_17_code (2 : Nat) (Option.some Jvm.ClassFile.FieldType.boolean)) ∈ TB := tb_7 113 rfl rfl
theorem w7_114 : (Jvm.Cond.methodLink "HedgeNewsModel" (147 : Nat) ({ cls := "HedgeNewsModel", name := "isLine", desc := "()Z" } : Jvm.MethodName)) ∈ TB := tb_7 114 rfl rfl
theorem w7_115 : (Jvm.Cond.privateMethod ({ cls := "HedgeNewsModel", name := "isLine", desc := "()Z" } : Jvm.MethodName)) ∈ lw_tbl := tz_7 115 rfl
theorem w7_116 : (Jvm.Cond.instanceMethod ({ cls := "HedgeNewsModel", name := "isLine", desc := "()Z" } : Jvm.MethodName)) ∈ TB := tb_7 116 rfl rfl
theorem w7_117 : (Jvm.Cond.code ({ cls := "HedgeNewsModel", name := "isLine", desc := "()Z" } : Jvm.MethodName) prog_15_method_24_code (2 : Nat) (Option.some Jvm.ClassFile.FieldType.boolean)) ∈ TB := tb_7 117 rfl rfl
theorem w7_118 : (Jvm.Cond.methodLink "HedgeNewsModel" (155 : Nat) ({ cls := "HedgeNewsModel", name := "isOrder", desc := "(I)Z" } : Jvm.MethodName)) ∈ TB := tb_7 118 rfl rfl
theorem w7_119 : (Jvm.Cond.privateMethod ({ cls := "HedgeNewsModel", name := "isOrder", desc := "(I)Z" } : Jvm.MethodName)) ∈ lw_tbl := tz_7 119 rfl
theorem w7_120 : (Jvm.Cond.instanceMethod ({ cls := "HedgeNewsModel", name := "isOrder", desc := "(I)Z" } : Jvm.MethodName)) ∈ TB := tb_7 120 rfl rfl
theorem w7_121 : (Jvm.Cond.code ({ cls := "HedgeNewsModel", name := "isOrder", desc := "(I)Z" } : Jvm.MethodName) prog_15_method_25_code (3 : Nat) (Option.some Jvm.ClassFile.FieldType.boolean)) ∈ TB := tb_7 121 rfl rfl
theorem w7_122 : (Jvm.Cond.methodLink "HedgeNewsModel" (86 : Nat) ({ cls := "java/lang/Math", name := "min", desc := "(II)I" } : Jvm.MethodName)) ∈ TB := tb_7 122 rfl rfl
theorem w7_123 : (Jvm.Cond.methodLink "HedgeNewsModel" (158 : Nat) ({ cls := "HedgeNewsModel", name := "eatAs", desc := "(II)Z" } : Jvm.MethodName)) ∈ TB := tb_7 123 rfl rfl
theorem w7_124 : (Jvm.Cond.privateMethod ({ cls := "HedgeNewsModel", name := "eatAs", desc := "(II)Z" } : Jvm.MethodName)) ∈ lw_tbl := tz_7 124 rfl
theorem w7_125 : (Jvm.Cond.instanceMethod ({ cls := "HedgeNewsModel", name := "eatAs", desc := "(II)Z" } : Jvm.MethodName)) ∈ TB := tb_7 125 rfl rfl
theorem w7_126 : (Jvm.Cond.code ({ cls := "HedgeNewsModel", name := "eatAs", desc := "(II)Z" } : Jvm.MethodName) prog_15_method_21_code (3 : Nat) (Option.some Jvm.ClassFile.FieldType.boolean)) ∈ TB := tb_7 126 rfl rfl
theorem w7_127 : (Jvm.Cond.methodLink "HedgeNewsModel" (140 : Nat) ({ cls := "HedgeNewsModel", name := "eat", desc := "(I)Z" } : Jvm.MethodName)) ∈ TB := tb_7 127 rfl rfl
theorem w7_128 : (Jvm.Cond.privateMethod ({ cls := "HedgeNewsModel", name := "eat", desc := "(I)Z" } : Jvm.MethodName)) ∈ lw_tbl := tz_7 128 rfl
theorem w7_129 : (Jvm.Cond.instanceMethod ({ cls := "HedgeNewsModel", name := "eat", desc := "(I)Z" } : Jvm.MethodName)) ∈ TB := tb_7 129 rfl rfl
theorem w7_130 : (Jvm.Cond.code ({ cls := "HedgeNewsModel", name := "eat", desc := "(I)Z" } : Jvm.MethodName) prog_15_method_19_code (2 : Nat) (Option.some Jvm.ClassFile.FieldType.boolean)) ∈ TB := tb_7 130 rfl rfl
theorem w7_131 : (Jvm.Cond.methodLink "HedgeNewsModel" (168 : Nat) ({ cls := "HedgeNewsModel", name := "isSum", desc := "()Z" } : Jvm.MethodName)) ∈ TB := tb_7 131 rfl rfl
theorem w7_132 : (Jvm.Cond.privateMethod ({ cls := "HedgeNewsModel", name := "isSum", desc := "()Z" } : Jvm.MethodName)) ∈ lw_tbl := tz_7 132 rfl
theorem w7_133 : (Jvm.Cond.instanceMethod ({ cls := "HedgeNewsModel", name := "isSum", desc := "()Z" } : Jvm.MethodName)) ∈ TB := tb_7 133 rfl rfl
theorem w7_134 : (Jvm.Cond.code ({ cls := "HedgeNewsModel", name := "isSum", desc := "()Z" } : Jvm.MethodName) prog_15_method_32_code (2 : Nat) (Option.some Jvm.ClassFile.FieldType.boolean)) ∈ TB := tb_7 134 rfl rfl
theorem w7_135 : (Jvm.Cond.methodLink "HedgeNewsModel" (211 : Nat) ({ cls := "HedgeNewsModel", name := "isProduct", desc := "()Z" } : Jvm.MethodName)) ∈ TB := tb_7 135 rfl rfl
theorem w7_136 : (Jvm.Cond.privateMethod ({ cls := "HedgeNewsModel", name := "isProduct", desc := "()Z" } : Jvm.MethodName)) ∈ lw_tbl := tz_7 136 rfl
theorem w7_137 : (Jvm.Cond.instanceMethod ({ cls := "HedgeNewsModel", name := "isProduct", desc := "()Z" } : Jvm.MethodName)) ∈ TB := tb_7 137 rfl rfl
theorem w7_138 : (Jvm.Cond.code ({ cls := "HedgeNewsModel", name := "isProduct", desc := "()Z" } : Jvm.MethodName) prog_15_method_33_code (2 : Nat) (Option.some Jvm.ClassFile.FieldType.boolean)) ∈ TB := tb_7 138 rfl rfl
theorem w7_139 : (Jvm.Cond.methodLink "HedgeNewsModel" (214 : Nat) ({ cls := "HedgeNewsModel", name := "isValue", desc := "()Z" } : Jvm.MethodName)) ∈ TB := tb_7 139 rfl rfl
theorem w7_140 : (Jvm.Cond.privateMethod ({ cls := "HedgeNewsModel", name := "isValue", desc := "()Z" } : Jvm.MethodName)) ∈ lw_tbl := tz_7 140 rfl
theorem w7_141 : (Jvm.Cond.instanceMethod ({ cls := "HedgeNewsModel", name := "isValue", desc := "()Z" } : Jvm.MethodName)) ∈ TB := tb_7 141 rfl rfl
theorem w7_142 : (Jvm.Cond.code ({ cls := "HedgeNewsModel", name := "isValue", desc := "()Z" } : Jvm.MethodName) prog_15_method_35_code (2 : Nat) (Option.some Jvm.ClassFile.FieldType.boolean)) ∈ TB := tb_7 142 rfl rfl
theorem w7_143 : (Jvm.Cond.methodLink "HedgeNewsModel" (183 : Nat) ({ cls := "HedgeNewsModel", name := "put", desc := "(I)V" } : Jvm.MethodName)) ∈ TB := tb_7 143 rfl rfl
theorem w7_144 : (Jvm.Cond.privateMethod ({ cls := "HedgeNewsModel", name := "put", desc := "(I)V" } : Jvm.MethodName)) ∈ lw_tbl := tz_7 144 rfl
theorem w7_145 : (Jvm.Cond.instanceMethod ({ cls := "HedgeNewsModel", name := "put", desc := "(I)V" } : Jvm.MethodName)) ∈ TB := tb_7 145 rfl rfl
theorem w7_146 : (Jvm.Cond.code ({ cls := "HedgeNewsModel", name := "put", desc := "(I)V" } : Jvm.MethodName) prog_15_method_22_code (2 : Nat) (Option.none : Option Jvm.ClassFile.FieldType)) ∈ TB := tb_7 146 rfl rfl
theorem w7_147 : (Jvm.Cond.methodLink "HedgeNewsModel" (217 : Nat) ({ cls := "HedgeNewsModel", name := "numberAt", desc := "(I)I" } : Jvm.MethodName)) ∈ TB := tb_7 147 rfl rfl
theorem w7_148 : (Jvm.Cond.privateMethod ({ cls := "HedgeNewsModel", name := "numberAt", desc := "(I)I" } : Jvm.MethodName)) ∈ lw_tbl := tz_7 148 rfl
theorem w7_149 : (Jvm.Cond.instanceMethod ({ cls := "HedgeNewsModel", name := "numberAt", desc := "(I)I" } : Jvm.MethodName)) ∈ TB := tb_7 149 rfl rfl
theorem w7_150 : (Jvm.Cond.code ({ cls := "HedgeNewsModel", name := "numberAt", desc := "(I)I" } : Jvm.MethodName) prog_15_method_36_code (4 : Nat) (Option.some Jvm.ClassFile.FieldType.int)) ∈ TB := tb_7 150 rfl rfl
theorem w7_151 : (Jvm.Cond.methodLink "HedgeNewsModel" (199 : Nat) ({ cls := "HedgeNewsModel", name := "isName", desc := "(I)Z" } : Jvm.MethodName)) ∈ TB := tb_7 151 rfl rfl
theorem w7_152 : (Jvm.Cond.privateMethod ({ cls := "HedgeNewsModel", name := "isName", desc := "(I)Z" } : Jvm.MethodName)) ∈ lw_tbl := tz_7 152 rfl
theorem w7_153 : (Jvm.Cond.instanceMethod ({ cls := "HedgeNewsModel", name := "isName", desc := "(I)Z" } : Jvm.MethodName)) ∈ TB := tb_7 153 rfl rfl
theorem w7_154 : (Jvm.Cond.code ({ cls := "HedgeNewsModel", name := "isName", desc := "(I)Z" } : Jvm.MethodName) prog_15_method_29_code (2 : Nat) (Option.some Jvm.ClassFile.FieldType.boolean)) ∈ TB := tb_7 154 rfl rfl
theorem w7_155 : (Jvm.Cond.methodLink "HedgeNewsModel" (205 : Nat) ({ cls := "HedgeNewsModel", name := "isSign", desc := "(C)Z" } : Jvm.MethodName)) ∈ TB := tb_7 155 rfl rfl
theorem w7_156 : (Jvm.Cond.privateMethod ({ cls := "HedgeNewsModel", name := "isSign", desc := "(C)Z" } : Jvm.MethodName)) ∈ lw_tbl := tz_7 156 rfl
theorem w7_157 : (Jvm.Cond.instanceMethod ({ cls := "HedgeNewsModel", name := "isSign", desc := "(C)Z" } : Jvm.MethodName)) ∈ TB := tb_7 157 rfl rfl
theorem w7_158 : (Jvm.Cond.code ({ cls := "HedgeNewsModel", name := "isSign", desc := "(C)Z" } : Jvm.MethodName) prog_15_method_18_code (2 : Nat) (Option.some Jvm.ClassFile.FieldType.boolean)) ∈ TB := tb_7 158 rfl rfl
theorem w7_159 : (Jvm.Cond.methodLink "HedgeNewsModel" (202 : Nat) ({ cls := "HedgeNewsModel", name := "isDeeper", desc := "()Z" } : Jvm.MethodName)) ∈ TB := tb_7 159 rfl rfl
theorem w7_160 : (Jvm.Cond.privateMethod ({ cls := "HedgeNewsModel", name := "isDeeper", desc := "()Z" } : Jvm.MethodName)) ∈ lw_tbl := tz_7 160 rfl
theorem w7_161 : (Jvm.Cond.instanceMethod ({ cls := "HedgeNewsModel", name := "isDeeper", desc := "()Z" } : Jvm.MethodName)) ∈ TB := tb_7 161 rfl rfl
theorem w7_162 : (Jvm.Cond.code ({ cls := "HedgeNewsModel", name := "isDeeper", desc := "()Z" } : Jvm.MethodName) prog_15_method_28_code (1 : Nat) (Option.some Jvm.ClassFile.FieldType.boolean)) ∈ TB := tb_7 162 rfl rfl
theorem w7_163 : (Jvm.Cond.methodLink "HedgeNewsModel" (220 : Nat) ({ cls := "HedgeNewsModel", name := "isInside", desc := "(IZ)Z" } : Jvm.MethodName)) ∈ TB := tb_7 163 rfl rfl
theorem w7_164 : (Jvm.Cond.privateMethod ({ cls := "HedgeNewsModel", name := "isInside", desc := "(IZ)Z" } : Jvm.MethodName)) ∈ lw_tbl := tz_7 164 rfl
theorem w7_165 : (Jvm.Cond.instanceMethod ({ cls := "HedgeNewsModel", name := "isInside", desc := "(IZ)Z" } : Jvm.MethodName)) ∈ TB := tb_7 165 rfl rfl
theorem w7_166 : (Jvm.Cond.code ({ cls := "HedgeNewsModel", name := "isInside", desc := "(IZ)Z" } : Jvm.MethodName) prog_15_method_34_code (3 : Nat) (Option.some Jvm.ClassFile.FieldType.boolean)) ∈ TB := tb_7 166 rfl rfl
theorem w7_167 : (Jvm.Cond.methodLink "HedgeNewsModel" (151 : Nat) ({ cls := "HedgeNewsModel", name := "eatSign", desc := "(C)Z" } : Jvm.MethodName)) ∈ TB := tb_7 167 rfl rfl
theorem w7_168 : (Jvm.Cond.privateMethod ({ cls := "HedgeNewsModel", name := "eatSign", desc := "(C)Z" } : Jvm.MethodName)) ∈ lw_tbl := tz_7 168 rfl
theorem w7_169 : (Jvm.Cond.instanceMethod ({ cls := "HedgeNewsModel", name := "eatSign", desc := "(C)Z" } : Jvm.MethodName)) ∈ TB := tb_7 169 rfl rfl
theorem w7_170 : (Jvm.Cond.code ({ cls := "HedgeNewsModel", name := "eatSign", desc := "(C)Z" } : Jvm.MethodName) prog_15_method_20_code (2 : Nat) (Option.some Jvm.ClassFile.FieldType.boolean)) ∈ TB := tb_7 170 rfl rfl
theorem w7_171 : (Jvm.Cond.methodLink "HedgeNewsModel" (174 : Nat) ({ cls := "HedgeNewsModel", name := "isTest", desc := "()Z" } : Jvm.MethodName)) ∈ TB := tb_7 171 rfl rfl
theorem w7_172 : (Jvm.Cond.privateMethod ({ cls := "HedgeNewsModel", name := "isTest", desc := "()Z" } : Jvm.MethodName)) ∈ lw_tbl := tz_7 172 rfl
theorem w7_173 : (Jvm.Cond.instanceMethod ({ cls := "HedgeNewsModel", name := "isTest", desc := "()Z" } : Jvm.MethodName)) ∈ TB := tb_7 173 rfl rfl
theorem w7_174 : (Jvm.Cond.code ({ cls := "HedgeNewsModel", name := "isTest", desc := "()Z" } : Jvm.MethodName) prog_15_method_26_code (1 : Nat) (Option.some Jvm.ClassFile.FieldType.boolean)) ∈ TB := tb_7 174 rfl rfl
theorem w7_175 : (Jvm.Cond.methodLink "HedgeNewsModel" (180 : Nat) ({ cls := "HedgeNewsModel", name := "isBoth", desc := "()Z" } : Jvm.MethodName)) ∈ TB := tb_7 175 rfl rfl
theorem w7_176 : (Jvm.Cond.privateMethod ({ cls := "HedgeNewsModel", name := "isBoth", desc := "()Z" } : Jvm.MethodName)) ∈ lw_tbl := tz_7 176 rfl
theorem w7_177 : (Jvm.Cond.instanceMethod ({ cls := "HedgeNewsModel", name := "isBoth", desc := "()Z" } : Jvm.MethodName)) ∈ TB := tb_7 177 rfl rfl
theorem w7_178 : (Jvm.Cond.code ({ cls := "HedgeNewsModel", name := "isBoth", desc := "()Z" } : Jvm.MethodName) prog_15_method_27_code (1 : Nat) (Option.some Jvm.ClassFile.FieldType.boolean)) ∈ TB := tb_7 178 rfl rfl
theorem w7_179 : (Jvm.Cond.methodLink "HedgeNewsModel" (187 : Nat) ({ cls := "HedgeNewsModel", name := "isSingle", desc := "()Z" } : Jvm.MethodName)) ∈ TB := tb_7 179 rfl rfl
theorem w7_180 : (Jvm.Cond.privateMethod ({ cls := "HedgeNewsModel", name := "isSingle", desc := "()Z" } : Jvm.MethodName)) ∈ lw_tbl := tz_7 180 rfl
theorem w7_181 : (Jvm.Cond.instanceMethod ({ cls := "HedgeNewsModel", name := "isSingle", desc := "()Z" } : Jvm.MethodName)) ∈ TB := tb_7 181 rfl rfl
theorem w7_182 : (Jvm.Cond.code ({ cls := "HedgeNewsModel", name := "isSingle", desc := "()Z" } : Jvm.MethodName) prog_15_method_31_code (2 : Nat) (Option.some Jvm.ClassFile.FieldType.boolean)) ∈ TB := tb_7 182 rfl rfl
theorem w7_183 : (Jvm.Cond.methodLink "HedgeNewsModel" (208 : Nat) ({ cls := "HedgeNewsModel", name := "isNamed", desc := "(I)Z" } : Jvm.MethodName)) ∈ TB := tb_7 183 rfl rfl
theorem w7_184 : (Jvm.Cond.privateMethod ({ cls := "HedgeNewsModel", name := "isNamed", desc := "(I)Z" } : Jvm.MethodName)) ∈ lw_tbl := tz_7 184 rfl
theorem w7_185 : (Jvm.Cond.instanceMethod ({ cls := "HedgeNewsModel", name := "isNamed", desc := "(I)Z" } : Jvm.MethodName)) ∈ TB := tb_7 185 rfl rfl
theorem w7_186 : (Jvm.Cond.code ({ cls := "HedgeNewsModel", name := "isNamed", desc := "(I)Z" } : Jvm.MethodName) prog_15_method_30_code (2 : Nat) (Option.some Jvm.ClassFile.FieldType.boolean)) ∈ TB := tb_7 186 rfl rfl
theorem w7_187 : (Jvm.Cond.methodLink "HedgeNewsModel" (278 : Nat) ({ cls := "HedgeNewsModel", name := "errorOf", desc := "(I)I" } : Jvm.MethodName)) ∈ TB := tb_7 187 rfl rfl
theorem w7_188 : (Jvm.Cond.privateMethod ({ cls := "HedgeNewsModel", name := "errorOf", desc := "(I)I" } : Jvm.MethodName)) ∈ lw_tbl := tz_7 188 rfl
theorem w7_189 : (Jvm.Cond.instanceMethod ({ cls := "HedgeNewsModel", name := "errorOf", desc := "(I)I" } : Jvm.MethodName)) ∈ TB := tb_7 189 rfl rfl
theorem w7_190 : (Jvm.Cond.code ({ cls := "HedgeNewsModel", name := "errorOf", desc := "(I)I" } : Jvm.MethodName) prog_15_method_46_code (2 : Nat) (Option.some Jvm.ClassFile.FieldType.int)) ∈ TB := tb_7 190 rfl rfl
theorem w7_191 : (Jvm.Cond.methodLink "HedgeNewsModel" (256 : Nat) ({ cls := "HedgeNewsModel", name := "newHedge", desc := "(I)I" } : Jvm.MethodName)) ∈ TB := tb_7 191 rfl rfl
theorem w7_192 : (Jvm.Cond.privateMethod ({ cls := "HedgeNewsModel", name := "newHedge", desc := "(I)I" } : Jvm.MethodName)) ∈ lw_tbl := tz_7 192 rfl
theorem w7_193 : (Jvm.Cond.instanceMethod ({ cls := "HedgeNewsModel", name := "newHedge", desc := "(I)I" } : Jvm.MethodName)) ∈ TB := tb_7 193 rfl rfl
theorem w7_194 : (Jvm.Cond.code ({ cls := "HedgeNewsModel", name := "newHedge", desc := "(I)I" } : Jvm.MethodName) prog_15_method_42_code (3 : Nat) (Option.some Jvm.ClassFile.FieldType.int)) ∈ TB := tb_7 194 rfl rfl
theorem w7_195 : (Jvm.Cond.methodLink "HedgeNewsModel" (230 : Nat) ({ cls := "HedgeNewsModel", name := "isNew", desc := "(III)I" } : Jvm.MethodName)) ∈ TB := tb_7 195 rfl rfl
theorem w7_196 : (Jvm.Cond.privateMethod ({ cls := "HedgeNewsModel", name := "isNew", desc := "(III)I" } : Jvm.MethodName)) ∈ lw_tbl := tz_7 196 rfl
theorem w7_197 : (Jvm.Cond.instanceMethod ({ cls := "HedgeNewsModel", name := "isNew", desc := "(III)I" } : Jvm.MethodName)) ∈ TB := tb_7 197 rfl rfl
theorem w7_198 : (Jvm.Cond.code ({ cls := "HedgeNewsModel", name := "isNew", desc := "(III)I" } : Jvm.MethodName) prog_15_method_41_code (4 : Nat) (Option.some Jvm.ClassFile.FieldType.int)) ∈ TB := tb_7 198 rfl rfl
theorem w7_199 : (Jvm.Cond.methodLink "HedgeNewsModel" (227 : Nat) ({ cls := "HedgeNewsModel", name := "told", desc := "(II)I" } : Jvm.MethodName)) ∈ TB := tb_7 199 rfl rfl
theorem w7_200 : (Jvm.Cond.privateMethod ({ cls := "HedgeNewsModel", name := "told", desc := "(II)I" } : Jvm.MethodName)) ∈ lw_tbl := tz_7 200 rfl
theorem w7_201 : (Jvm.Cond.instanceMethod ({ cls := "HedgeNewsModel", name := "told", desc := "(II)I" } : Jvm.MethodName)) ∈ TB := tb_7 201 rfl rfl
theorem w7_202 : (Jvm.Cond.code ({ cls := "HedgeNewsModel", name := "told", desc := "(II)I" } : Jvm.MethodName) prog_15_method_38_code (5 : Nat) (Option.some Jvm.ClassFile.FieldType.int)) ∈ TB := tb_7 202 rfl rfl
theorem w7_203 : (Jvm.Cond.methodLink "HedgeNewsModel" (224 : Nat) ({ cls := "HedgeNewsModel", name := "isSame", desc := "(II)Z" } : Jvm.MethodName)) ∈ TB := tb_7 203 rfl rfl
theorem w7_204 : (Jvm.Cond.privateMethod ({ cls := "HedgeNewsModel", name := "isSame", desc := "(II)Z" } : Jvm.MethodName)) ∈ lw_tbl := tz_7 204 rfl
theorem w7_205 : (Jvm.Cond.instanceMethod ({ cls := "HedgeNewsModel", name := "isSame", desc := "(II)Z" } : Jvm.MethodName)) ∈ TB := tb_7 205 rfl rfl
theorem w7_206 : (Jvm.Cond.code ({ cls := "HedgeNewsModel", name := "isSame", desc := "(II)Z" } : Jvm.MethodName) prog_15_method_37_code (4 : Nat) (Option.some Jvm.ClassFile.FieldType.boolean)) ∈ TB := tb_7 206 rfl rfl
theorem w7_207 : (Jvm.Cond.methodLink "HedgeNewsModel" (259 : Nat) ({ cls := "HedgeNewsModel", name := "newRose", desc := "(I)I" } : Jvm.MethodName)) ∈ TB := tb_7 207 rfl rfl
theorem w7_208 : (Jvm.Cond.privateMethod ({ cls := "HedgeNewsModel", name := "newRose", desc := "(I)I" } : Jvm.MethodName)) ∈ lw_tbl := tz_7 208 rfl
theorem w7_209 : (Jvm.Cond.instanceMethod ({ cls := "HedgeNewsModel", name := "newRose", desc := "(I)I" } : Jvm.MethodName)) ∈ TB := tb_7 209 rfl rfl
theorem w7_210 : (Jvm.Cond.code ({ cls := "HedgeNewsModel", name := "newRose", desc := "(I)I" } : Jvm.MethodName) prog_15_method_43_code (3 : Nat) (Option.some Jvm.ClassFile.FieldType.int)) ∈ TB := tb_7 210 rfl rfl
theorem w7_211 : (Jvm.Cond.methodLink "HedgeNewsModel" (262 : Nat) ({ cls := "HedgeNewsModel", name := "newOrder", desc := "(I)I" } : Jvm.MethodName)) ∈ TB := tb_7 211 rfl rfl
theorem w7_212 : (Jvm.Cond.privateMethod ({ cls := "HedgeNewsModel", name := "newOrder", desc := "(I)I" } : Jvm.MethodName)) ∈ lw_tbl := tz_7 212 rfl
theorem w7_213 : (Jvm.Cond.instanceMethod ({ cls := "HedgeNewsModel", name := "newOrder", desc := "(I)I" } : Jvm.MethodName)) ∈ TB := tb_7 213 rfl rfl
theorem w7_214 : (Jvm.Cond.code ({ cls := "HedgeNewsModel", name := "newOrder", desc := "(I)I" } : Jvm.MethodName) prog_15_method_44_code (2 : Nat) (Option.some Jvm.ClassFile.FieldType.int)) ∈ TB := tb_7 214 rfl rfl
theorem w7_215 : (Jvm.Cond.methodLink "HedgeNewsModel" (265 : Nat) ({ cls := "HedgeNewsModel", name := "ofOrder", desc := "(IZ)I" } : Jvm.MethodName)) ∈ TB := tb_7 215 rfl rfl
theorem w7_216 : (Jvm.Cond.privateMethod ({ cls := "HedgeNewsModel", name := "ofOrder", desc := "(IZ)I" } : Jvm.MethodName)) ∈ lw_tbl := tz_7 216 rfl
theorem w7_217 : (Jvm.Cond.instanceMethod ({ cls := "HedgeNewsModel", name := "ofOrder", desc := "(IZ)I" } : Jvm.MethodName)) ∈ TB := tb_7 217 rfl rfl
theorem w7_218 : (Jvm.Cond.code ({ cls := "HedgeNewsModel", name := "ofOrder", desc := "(IZ)I" } : Jvm.MethodName) prog_15_method_45_code (4 : Nat) (Option.some Jvm.ClassFile.FieldType.int)) ∈ TB := tb_7 218 rfl rfl
theorem w7_219 : (Jvm.Cond.methodLink "HedgeNewsModel" (246 : Nat) ({ cls := "HedgeNewsModel", name := "look", desc := "(IZZ)I" } : Jvm.MethodName)) ∈ TB := tb_7 219 rfl rfl
theorem w7_220 : (Jvm.Cond.privateMethod ({ cls := "HedgeNewsModel", name := "look", desc := "(IZZ)I" } : Jvm.MethodName)) ∈ lw_tbl := tz_7 220 rfl
theorem w7_221 : (Jvm.Cond.instanceMethod ({ cls := "HedgeNewsModel", name := "look", desc := "(IZZ)I" } : Jvm.MethodName)) ∈ TB := tb_7 221 rfl rfl
theorem w7_222 : (Jvm.Cond.code ({ cls := "HedgeNewsModel", name := "look", desc := "(IZZ)I" } : Jvm.MethodName) prog_15_method_40_code (5 : Nat) (Option.some Jvm.ClassFile.FieldType.int)) ∈ TB := tb_7 222 rfl rfl
theorem w7_223 : (Jvm.Cond.methodLink "HedgeNewsModel" (269 : Nat) ({ cls := "HedgeNewsModel", name := "inRange", desc := "(III)I" } : Jvm.MethodName)) ∈ TB := tb_7 223 rfl rfl
theorem w7_224 : (Jvm.Cond.privateMethod ({ cls := "HedgeNewsModel", name := "inRange", desc := "(III)I" } : Jvm.MethodName)) ∈ lw_tbl := tz_7 224 rfl
theorem w7_225 : (Jvm.Cond.instanceMethod ({ cls := "HedgeNewsModel", name := "inRange", desc := "(III)I" } : Jvm.MethodName)) ∈ TB := tb_7 225 rfl rfl
theorem w7_226 : (Jvm.Cond.code ({ cls := "HedgeNewsModel", name := "inRange", desc := "(III)I" } : Jvm.MethodName) prog_15_method_39_code (4 : Nat) (Option.some Jvm.ClassFile.FieldType.int)) ∈ TB := tb_7 226 rfl rfl
theorem w7_227 : (Jvm.Cond.methodLink "HedgeNewsModel" (287 : Nat) ({ cls := "HedgeNewsModel$State", name := "begin", desc := "()V" } : Jvm.MethodName)) ∈ TB := tb_7 227 rfl rfl
theorem w7_228 : (Jvm.Cond.instanceMethod ({ cls := "HedgeNewsModel$State", name := "begin", desc := "()V" } : Jvm.MethodName)) ∈ TB := tb_7 228 rfl rfl
theorem w7_229 : (Jvm.Cond.selects "HedgeNewsModel$State" ({ cls := "HedgeNewsModel$State", name := "begin", desc := "()V" } : Jvm.MethodName) ({ cls := "HedgeNewsModel$State", name := "begin", desc := "()V" } : Jvm.MethodName)) ∈ TB := tb_7 229 rfl rfl
theorem w7_230 : (Jvm.Cond.code ({ cls := "HedgeNewsModel$State", name := "begin", desc := "()V" } : Jvm.MethodName) prog_17_method_3_code (1 : Nat) (Option.none : Option Jvm.ClassFile.FieldType)) ∈ TB := tb_7 230 rfl rfl
theorem w7_231 : (Jvm.Cond.classLink "HedgeNewsModel$State" (4 : Nat) "HedgeNewsModel$State") ∈ TB := tb_7 231 rfl rfl
theorem w7_232 : (Jvm.Cond.methodLink "HedgeNewsModel$State" (56 : Nat) ({ cls := "HedgeNewsModel$State", name := "<init>", desc := "(LHedgeNewsModel;)V" } : Jvm.MethodName)) ∈ TB := tb_7 232 rfl rfl
theorem w7_233 : (Jvm.Cond.methodLink "HedgeNewsModel$State" (59 : Nat) ({ cls := "HedgeNewsModel$State", name := "become", desc := "(LHedgeNewsModel$State;)LHedgeNewsModel$State;" } : Jvm.MethodName)) ∈ TB := tb_7 233 rfl rfl
theorem w7_234 : (Jvm.Cond.instanceMethod ({ cls := "HedgeNewsModel$State", name := "become", desc := "(LHedgeNewsModel$State;)LHedgeNewsModel$State;" } : Jvm.MethodName)) ∈ TB := tb_7 234 rfl rfl
theorem w7_235 : (Jvm.Cond.selects "HedgeNewsModel$State" ({ cls := "HedgeNewsModel$State", name := "become", desc := "(LHedgeNewsModel$State;)LHedgeNewsModel$State;" } : Jvm.MethodName) ({ cls := "HedgeNewsModel$State", name := "become", desc := "(LHedgeNewsModel$State;)LHedgeNewsModel$State;" } : Jvm.MethodName)) ∈ TB := tb_7 235 rfl rfl
theorem w7_236 : (Jvm.Cond.code ({ cls := "HedgeNewsModel$State", name := "become", desc := "(LHedgeNewsModel$State;)LHedgeNewsModel$State;" } : Jvm.MethodName) prog_17_method_2_code (2 : Nat) (Option.some (Jvm.ClassFile.FieldType.object "HedgeNewsModel$State"))) ∈ TB := tb_7 236 rfl rfl
theorem w7_237 : (Jvm.Cond.methodLink "HedgeNewsModel$State" (50 : Nat) ({ cls := "java/lang/System", name := "arraycopy", desc := "(Ljava/lang/Object;ILjava/lang/Object;II)V" } : Jvm.MethodName)) ∈ TB := tb_7 237 rfl rfl
theorem w7_238 : (Jvm.Cond.static ({ cls := "java/lang/System", name := "arraycopy", desc := "(Ljava/lang/Object;ILjava/lang/Object;II)V" } : Jvm.MethodName)) ∈ TB := tb_7 238 rfl rfl
theorem w7_239 : (Jvm.Cond.native ({ cls := "java/lang/System", name := "arraycopy", desc := "(Ljava/lang/Object;ILjava/lang/Object;II)V" } : Jvm.MethodName)) ∈ TB := tb_7 239 rfl rfl
theorem w8_0 : (Jvm.Cond.methodLink "HedgeNewsLaw" (116 : Nat) ({ cls := "HedgeNewsModel", name := "errorAt", desc := "()I" } : Jvm.MethodName)) ∈ TB := tb_8 0 rfl rfl
theorem w8_1 : (Jvm.Cond.instanceMethod ({ cls := "HedgeNewsModel", name := "errorAt", desc := "()I" } : Jvm.MethodName)) ∈ TB := tb_8 1 rfl rfl
theorem w8_2 : (Jvm.Cond.selects "HedgeNewsModel" ({ cls := "HedgeNewsModel", name := "errorAt", desc := "()I" } : Jvm.MethodName) ({ cls := "HedgeNewsModel", name := "errorAt", desc := "()I" } : Jvm.MethodName)) ∈ TB := tb_8 2 rfl rfl
theorem w8_3 : (Jvm.Cond.code ({ cls := "HedgeNewsModel", name := "errorAt", desc := "()I" } : Jvm.MethodName) prog_15_method_51_code (1 : Nat) (Option.some Jvm.ClassFile.FieldType.int)) ∈ TB := tb_8 3 rfl rfl
theorem w8_4 : (Jvm.Cond.methodLink "HedgeNewsModel" (290 : Nat) ({ cls := "HedgeNewsModel", name := "ok", desc := "(I)I" } : Jvm.MethodName)) ∈ TB := tb_8 4 rfl rfl
theorem w8_5 : (Jvm.Cond.privateMethod ({ cls := "HedgeNewsModel", name := "ok", desc := "(I)I" } : Jvm.MethodName)) ∈ lw_tbl := tz_8 5 rfl
theorem w8_6 : (Jvm.Cond.instanceMethod ({ cls := "HedgeNewsModel", name := "ok", desc := "(I)I" } : Jvm.MethodName)) ∈ TB := tb_8 6 rfl rfl
theorem w8_7 : (Jvm.Cond.code ({ cls := "HedgeNewsModel", name := "ok", desc := "(I)I" } : Jvm.MethodName) prog_15_method_5_code (2 : Nat) (Option.some Jvm.ClassFile.FieldType.int)) ∈ TB := tb_8 7 rfl rfl
theorem w8_8 : (Jvm.Cond.methodLink "HedgeNewsLaw" (120 : Nat) ({ cls := "HedgeNewsModel", name := "hedges", desc := "()I" } : Jvm.MethodName)) ∈ TB := tb_8 8 rfl rfl
theorem w8_9 : (Jvm.Cond.instanceMethod ({ cls := "HedgeNewsModel", name := "hedges", desc := "()I" } : Jvm.MethodName)) ∈ TB := tb_8 9 rfl rfl
theorem w8_10 : (Jvm.Cond.selects "HedgeNewsModel" ({ cls := "HedgeNewsModel", name := "hedges", desc := "()I" } : Jvm.MethodName) ({ cls := "HedgeNewsModel", name := "hedges", desc := "()I" } : Jvm.MethodName)) ∈ TB := tb_8 10 rfl rfl
theorem w8_11 : (Jvm.Cond.code ({ cls := "HedgeNewsModel", name := "hedges", desc := "()I" } : Jvm.MethodName) prog_15_method_52_code (1 : Nat) (Option.some Jvm.ClassFile.FieldType.int)) ∈ TB := tb_8 11 rfl rfl
theorem w8_12 : (Jvm.Cond.methodLink "HedgeNewsLaw" (124 : Nat) ({ cls := "HedgeNewsModel", name := "roses", desc := "()I" } : Jvm.MethodName)) ∈ TB := tb_8 12 rfl rfl
theorem w8_13 : (Jvm.Cond.instanceMethod ({ cls := "HedgeNewsModel", name := "roses", desc := "()I" } : Jvm.MethodName)) ∈ TB := tb_8 13 rfl rfl
theorem w8_14 : (Jvm.Cond.selects "HedgeNewsModel" ({ cls := "HedgeNewsModel", name := "roses", desc := "()I" } : Jvm.MethodName) ({ cls := "HedgeNewsModel", name := "roses", desc := "()I" } : Jvm.MethodName)) ∈ TB := tb_8 14 rfl rfl
theorem w8_15 : (Jvm.Cond.code ({ cls := "HedgeNewsModel", name := "roses", desc := "()I" } : Jvm.MethodName) prog_15_method_53_code (1 : Nat) (Option.some Jvm.ClassFile.FieldType.int)) ∈ TB := tb_8 15 rfl rfl
theorem w8_16 : (Jvm.Cond.methodLink "HedgeNewsLaw" (128 : Nat) ({ cls := "HedgeNewsModel", name := "day", desc := "()I" } : Jvm.MethodName)) ∈ TB := tb_8 16 rfl rfl
theorem w8_17 : (Jvm.Cond.instanceMethod ({ cls := "HedgeNewsModel", name := "day", desc := "()I" } : Jvm.MethodName)) ∈ TB := tb_8 17 rfl rfl
theorem w8_18 : (Jvm.Cond.selects "HedgeNewsModel" ({ cls := "HedgeNewsModel", name := "day", desc := "()I" } : Jvm.MethodName) ({ cls := "HedgeNewsModel", name := "day", desc := "()I" } : Jvm.MethodName)) ∈ TB := tb_8 18 rfl rfl
theorem w8_19 : (Jvm.Cond.code ({ cls := "HedgeNewsModel", name := "day", desc := "()I" } : Jvm.MethodName) prog_15_method_54_code (1 : Nat) (Option.some Jvm.ClassFile.FieldType.int)) ∈ TB := tb_8 19 rfl rfl
theorem w8_20 : (Jvm.Cond.methodLink "HedgeNewsLaw" (132 : Nat) ({ cls := "HedgeNewsModel", name := "ordersCarriedOut", desc := "()I" } : Jvm.MethodName)) ∈ TB := tb_8 20 rfl rfl
theorem w8_21 : (Jvm.Cond.instanceMethod ({ cls := "HedgeNewsModel", name := "ordersCarriedOut", desc := "()I" } : Jvm.MethodName)) ∈ TB := tb_8 21 rfl rfl
theorem w8_22 : (Jvm.Cond.selects "HedgeNewsModel" ({ cls := "HedgeNewsModel", name := "ordersCarriedOut", desc := "()I" } : Jvm.MethodName) ({ cls := "HedgeNewsModel", name := "ordersCarriedOut", desc := "()I" } : Jvm.MethodName)) ∈ TB := tb_8 22 rfl rfl
theorem w8_23 : (Jvm.Cond.code ({ cls := "HedgeNewsModel", name := "ordersCarriedOut", desc := "()I" } : Jvm.MethodName) prog_15_method_55_code (1 : Nat) (Option.some Jvm.ClassFile.FieldType.int)) ∈ TB := tb_8 23 rfl rfl
theorem w8_24 : (Jvm.Cond.methodLink "HedgeNewsLaw" (136 : Nat) ({ cls := "HedgeNewsModel", name := "whispers", desc := "()I" } : Jvm.MethodName)) ∈ TB := tb_8 24 rfl rfl
theorem w8_25 : (Jvm.Cond.instanceMethod ({ cls := "HedgeNewsModel", name := "whispers", desc := "()I" } : Jvm.MethodName)) ∈ TB := tb_8 25 rfl rfl
theorem w8_26 : (Jvm.Cond.selects "HedgeNewsModel" ({ cls := "HedgeNewsModel", name := "whispers", desc := "()I" } : Jvm.MethodName) ({ cls := "HedgeNewsModel", name := "whispers", desc := "()I" } : Jvm.MethodName)) ∈ TB := tb_8 26 rfl rfl
theorem w8_27 : (Jvm.Cond.code ({ cls := "HedgeNewsModel", name := "whispers", desc := "()I" } : Jvm.MethodName) prog_15_method_56_code (1 : Nat) (Option.some Jvm.ClassFile.FieldType.int)) ∈ TB := tb_8 27 rfl rfl
theorem w8_28 : (Jvm.Cond.methodLink "HedgeNewsLaw" (140 : Nat) ({ cls := "HedgeNewsModel", name := "cycles", desc := "()I" } : Jvm.MethodName)) ∈ TB := tb_8 28 rfl rfl
theorem w8_29 : (Jvm.Cond.instanceMethod ({ cls := "HedgeNewsModel", name := "cycles", desc := "()I" } : Jvm.MethodName)) ∈ TB := tb_8 29 rfl rfl
theorem w8_30 : (Jvm.Cond.selects "HedgeNewsModel" ({ cls := "HedgeNewsModel", name := "cycles", desc := "()I" } : Jvm.MethodName) ({ cls := "HedgeNewsModel", name := "cycles", desc := "()I" } : Jvm.MethodName)) ∈ TB := tb_8 30 rfl rfl
theorem w8_31 : (Jvm.Cond.code ({ cls := "HedgeNewsModel", name := "cycles", desc := "()I" } : Jvm.MethodName) prog_15_method_57_code (1 : Nat) (Option.some Jvm.ClassFile.FieldType.int)) ∈ TB := tb_8 31 rfl rfl
theorem w8_32 : (Jvm.Cond.methodLink "HedgeNewsLaw" (144 : Nat) ({ cls := "HedgeNewsModel", name := "departures", desc := "()I" } : Jvm.MethodName)) ∈ TB := tb_8 32 rfl rfl
theorem w8_33 : (Jvm.Cond.instanceMethod ({ cls := "HedgeNewsModel", name := "departures", desc := "()I" } : Jvm.MethodName)) ∈ TB := tb_8 33 rfl rfl
theorem w8_34 : (Jvm.Cond.selects "HedgeNewsModel" ({ cls := "HedgeNewsModel", name := "departures", desc := "()I" } : Jvm.MethodName) ({ cls := "HedgeNewsModel", name := "departures", desc := "()I" } : Jvm.MethodName)) ∈ TB := tb_8 34 rfl rfl
theorem w8_35 : (Jvm.Cond.code ({ cls := "HedgeNewsModel", name := "departures", desc := "()I" } : Jvm.MethodName) prog_15_method_58_code (1 : Nat) (Option.some Jvm.ClassFile.FieldType.int)) ∈ TB := tb_8 35 rfl rfl
theorem w8_36 : (Jvm.Cond.methodLink "HedgeNewsModel" (305 : Nat) ({ cls := "HedgeNewsModel$State", name := "allLeft", desc := "()I" } : Jvm.MethodName)) ∈ TB := tb_8 36 rfl rfl
theorem w8_37 : (Jvm.Cond.instanceMethod ({ cls := "HedgeNewsModel$State", name := "allLeft", desc := "()I" } : Jvm.MethodName)) ∈ TB := tb_8 37 rfl rfl
theorem w8_38 : (Jvm.Cond.selects "HedgeNewsModel$State" ({ cls := "HedgeNewsModel$State", name := "allLeft", desc := "()I" } : Jvm.MethodName) ({ cls := "HedgeNewsModel$State", name := "allLeft", desc := "()I" } : Jvm.MethodName)) ∈ TB := tb_8 38 rfl rfl
theorem w8_39 : (Jvm.Cond.code ({ cls := "HedgeNewsModel$State", name := "allLeft", desc := "()I" } : Jvm.MethodName) prog_17_method_13_code (3 : Nat) (Option.some Jvm.ClassFile.FieldType.int)) ∈ TB := tb_8 39 rfl rfl
theorem w8_40 : (Jvm.Cond.methodLink "HedgeNewsLaw" (147 : Nat) ({ cls := "HedgeNewsModel", name := "hushOf", desc := "(I)I" } : Jvm.MethodName)) ∈ TB := tb_8 40 rfl rfl
theorem w8_41 : (Jvm.Cond.instanceMethod ({ cls := "HedgeNewsModel", name := "hushOf", desc := "(I)I" } : Jvm.MethodName)) ∈ TB := tb_8 41 rfl rfl
theorem w8_42 : (Jvm.Cond.selects "HedgeNewsModel" ({ cls := "HedgeNewsModel", name := "hushOf", desc := "(I)I" } : Jvm.MethodName) ({ cls := "HedgeNewsModel", name := "hushOf", desc := "(I)I" } : Jvm.MethodName)) ∈ TB := tb_8 42 rfl rfl
theorem w8_43 : (Jvm.Cond.code ({ cls := "HedgeNewsModel", name := "hushOf", desc := "(I)I" } : Jvm.MethodName) prog_15_method_60_code (2 : Nat) (Option.some Jvm.ClassFile.FieldType.int)) ∈ TB := tb_8 43 rfl rfl
theorem w8_44 : (Jvm.Cond.methodLink "HedgeNewsModel" (308 : Nat) ({ cls := "HedgeNewsModel", name := "isHedge", desc := "(I)Z" } : Jvm.MethodName)) ∈ TB := tb_8 44 rfl rfl
theorem w8_45 : (Jvm.Cond.privateMethod ({ cls := "HedgeNewsModel", name := "isHedge", desc := "(I)Z" } : Jvm.MethodName)) ∈ lw_tbl := tz_8 45 rfl
theorem w8_46 : (Jvm.Cond.instanceMethod ({ cls := "HedgeNewsModel", name := "isHedge", desc := "(I)Z" } : Jvm.MethodName)) ∈ TB := tb_8 46 rfl rfl
theorem w8_47 : (Jvm.Cond.code ({ cls := "HedgeNewsModel", name := "isHedge", desc := "(I)Z" } : Jvm.MethodName) prog_15_method_7_code (2 : Nat) (Option.some Jvm.ClassFile.FieldType.boolean)) ∈ TB := tb_8 47 rfl rfl
theorem w8_48 : (Jvm.Cond.methodLink "HedgeNewsModel" (311 : Nat) ({ cls := "HedgeNewsModel", name := "isKnown", desc := "(Z)Z" } : Jvm.MethodName)) ∈ TB := tb_8 48 rfl rfl
theorem w8_49 : (Jvm.Cond.privateMethod ({ cls := "HedgeNewsModel", name := "isKnown", desc := "(Z)Z" } : Jvm.MethodName)) ∈ lw_tbl := tz_8 49 rfl
theorem w8_50 : (Jvm.Cond.instanceMethod ({ cls := "HedgeNewsModel", name := "isKnown", desc := "(Z)Z" } : Jvm.MethodName)) ∈ TB := tb_8 50 rfl rfl
theorem w8_51 : (Jvm.Cond.code ({ cls := "HedgeNewsModel", name := "isKnown", desc := "(Z)Z" } : Jvm.MethodName) prog_15_method_59_code (2 : Nat) (Option.some Jvm.ClassFile.FieldType.boolean)) ∈ TB := tb_8 51 rfl rfl
theorem w8_52 : (Jvm.Cond.methodLink "HedgeNewsLaw" (150 : Nat) ({ cls := "HedgeNewsModel", name := "heardBy", desc := "(I)I" } : Jvm.MethodName)) ∈ TB := tb_8 52 rfl rfl
theorem w8_53 : (Jvm.Cond.instanceMethod ({ cls := "HedgeNewsModel", name := "heardBy", desc := "(I)I" } : Jvm.MethodName)) ∈ TB := tb_8 53 rfl rfl
theorem w8_54 : (Jvm.Cond.selects "HedgeNewsModel" ({ cls := "HedgeNewsModel", name := "heardBy", desc := "(I)I" } : Jvm.MethodName) ({ cls := "HedgeNewsModel", name := "heardBy", desc := "(I)I" } : Jvm.MethodName)) ∈ TB := tb_8 54 rfl rfl
theorem w8_55 : (Jvm.Cond.code ({ cls := "HedgeNewsModel", name := "heardBy", desc := "(I)I" } : Jvm.MethodName) prog_15_method_61_code (2 : Nat) (Option.some Jvm.ClassFile.FieldType.int)) ∈ TB := tb_8 55 rfl rfl
theorem w8_56 : (Jvm.Cond.methodLink "HedgeNewsLaw" (153 : Nat) ({ cls := "HedgeNewsModel", name := "latestOf", desc := "(I)I" } : Jvm.MethodName)) ∈ TB := tb_8 56 rfl rfl
theorem w8_57 : (Jvm.Cond.instanceMethod ({ cls := "HedgeNewsModel", name := "latestOf", desc := "(I)I" } : Jvm.MethodName)) ∈ TB := tb_8 57 rfl rfl
theorem w8_58 : (Jvm.Cond.selects "HedgeNewsModel" ({ cls := "HedgeNewsModel", name := "latestOf", desc := "(I)I" } : Jvm.MethodName) ({ cls := "HedgeNewsModel", name := "latestOf", desc := "(I)I" } : Jvm.MethodName)) ∈ TB := tb_8 58 rfl rfl
theorem w8_59 : (Jvm.Cond.code ({ cls := "HedgeNewsModel", name := "latestOf", desc := "(I)I" } : Jvm.MethodName) prog_15_method_62_code (2 : Nat) (Option.some Jvm.ClassFile.FieldType.int)) ∈ TB := tb_8 59 rfl rfl
theorem w8_60 : (Jvm.Cond.methodLink "HedgeNewsLaw" (156 : Nat) ({ cls := "HedgeNewsModel", name := "listenersOf", desc := "(I)I" } : Jvm.MethodName)) ∈ TB := tb_8 60 rfl rfl
theorem w8_61 : (Jvm.Cond.instanceMethod ({ cls := "HedgeNewsModel", name := "listenersOf", desc := "(I)I" } : Jvm.MethodName)) ∈ TB := tb_8 61 rfl rfl
theorem w8_62 : (Jvm.Cond.selects "HedgeNewsModel" ({ cls := "HedgeNewsModel", name := "listenersOf", desc := "(I)I" } : Jvm.MethodName) ({ cls := "HedgeNewsModel", name := "listenersOf", desc := "(I)I" } : Jvm.MethodName)) ∈ TB := tb_8 62 rfl rfl
theorem w8_63 : (Jvm.Cond.code ({ cls := "HedgeNewsModel", name := "listenersOf", desc := "(I)I" } : Jvm.MethodName) prog_15_method_63_code (2 : Nat) (Option.some Jvm.ClassFile.FieldType.int)) ∈ TB := tb_8 63 rfl rfl
theorem w8_64 : (Jvm.Cond.methodLink "HedgeNewsLaw" (160 : Nat) ({ cls := "HedgeNewsModel", name := "hedgeInRow", desc := "(II)I" } : Jvm.MethodName)) ∈ TB := tb_8 64 rfl rfl
theorem w8_65 : (Jvm.Cond.instanceMethod ({ cls := "HedgeNewsModel", name := "hedgeInRow", desc := "(II)I" } : Jvm.MethodName)) ∈ TB := tb_8 65 rfl rfl
theorem w8_66 : (Jvm.Cond.selects "HedgeNewsModel" ({ cls := "HedgeNewsModel", name := "hedgeInRow", desc := "(II)I" } : Jvm.MethodName) ({ cls := "HedgeNewsModel", name := "hedgeInRow", desc := "(II)I" } : Jvm.MethodName)) ∈ TB := tb_8 66 rfl rfl
theorem w8_67 : (Jvm.Cond.code ({ cls := "HedgeNewsModel", name := "hedgeInRow", desc := "(II)I" } : Jvm.MethodName) prog_15_method_64_code (3 : Nat) (Option.some Jvm.ClassFile.FieldType.int)) ∈ TB := tb_8 67 rfl rfl
theorem w8_68 : (Jvm.Cond.methodLink "HedgeNewsModel" (324 : Nat) ({ cls := "HedgeNewsModel$State", name := "placeIn", desc := "(II)I" } : Jvm.MethodName)) ∈ TB := tb_8 68 rfl rfl
theorem w8_69 : (Jvm.Cond.instanceMethod ({ cls := "HedgeNewsModel$State", name := "placeIn", desc := "(II)I" } : Jvm.MethodName)) ∈ TB := tb_8 69 rfl rfl
theorem w8_70 : (Jvm.Cond.selects "HedgeNewsModel$State" ({ cls := "HedgeNewsModel$State", name := "placeIn", desc := "(II)I" } : Jvm.MethodName) ({ cls := "HedgeNewsModel$State", name := "placeIn", desc := "(II)I" } : Jvm.MethodName)) ∈ TB := tb_8 70 rfl rfl
theorem w8_71 : (Jvm.Cond.code ({ cls := "HedgeNewsModel$State", name := "placeIn", desc := "(II)I" } : Jvm.MethodName) prog_17_method_5_code (4 : Nat) (Option.some Jvm.ClassFile.FieldType.int)) ∈ TB := tb_8 71 rfl rfl
theorem w8_72 : (Jvm.Cond.methodLink "HedgeNewsModel$State" (63 : Nat) ({ cls := "HedgeNewsModel$State", name := "at", desc := "(II)I" } : Jvm.MethodName)) ∈ TB := tb_8 72 rfl rfl
theorem w8_73 : (Jvm.Cond.privateMethod ({ cls := "HedgeNewsModel$State", name := "at", desc := "(II)I" } : Jvm.MethodName)) ∈ lw_tbl := tz_8 73 rfl
theorem w8_74 : (Jvm.Cond.instanceMethod ({ cls := "HedgeNewsModel$State", name := "at", desc := "(II)I" } : Jvm.MethodName)) ∈ TB := tb_8 74 rfl rfl
theorem w8_75 : (Jvm.Cond.code ({ cls := "HedgeNewsModel$State", name := "at", desc := "(II)I" } : Jvm.MethodName) prog_17_method_4_code (3 : Nat) (Option.some Jvm.ClassFile.FieldType.int)) ∈ TB := tb_8 75 rfl rfl
theorem w8_76 : (Jvm.Cond.methodLink "HedgeNewsLaw" (163 : Nat) ({ cls := "HedgeNewsModel", name := "roseInRow", desc := "(II)I" } : Jvm.MethodName)) ∈ TB := tb_8 76 rfl rfl
theorem w8_77 : (Jvm.Cond.instanceMethod ({ cls := "HedgeNewsModel", name := "roseInRow", desc := "(II)I" } : Jvm.MethodName)) ∈ TB := tb_8 77 rfl rfl
theorem w8_78 : (Jvm.Cond.selects "HedgeNewsModel" ({ cls := "HedgeNewsModel", name := "roseInRow", desc := "(II)I" } : Jvm.MethodName) ({ cls := "HedgeNewsModel", name := "roseInRow", desc := "(II)I" } : Jvm.MethodName)) ∈ TB := tb_8 78 rfl rfl
theorem w8_79 : (Jvm.Cond.code ({ cls := "HedgeNewsModel", name := "roseInRow", desc := "(II)I" } : Jvm.MethodName) prog_15_method_65_code (3 : Nat) (Option.some Jvm.ClassFile.FieldType.int)) ∈ TB := tb_8 79 rfl rfl
theorem w8_80 : (Jvm.Cond.methodLink "HedgeNewsModel" (327 : Nat) ({ cls := "HedgeNewsModel", name := "isRose", desc := "(I)Z" } : Jvm.MethodName)) ∈ TB := tb_8 80 rfl rfl
theorem w8_81 : (Jvm.Cond.privateMethod ({ cls := "HedgeNewsModel", name := "isRose", desc := "(I)Z" } : Jvm.MethodName)) ∈ lw_tbl := tz_8 81 rfl
theorem w8_82 : (Jvm.Cond.instanceMethod ({ cls := "HedgeNewsModel", name := "isRose", desc := "(I)Z" } : Jvm.MethodName)) ∈ TB := tb_8 82 rfl rfl
theorem w8_83 : (Jvm.Cond.code ({ cls := "HedgeNewsModel", name := "isRose", desc := "(I)Z" } : Jvm.MethodName) prog_15_method_8_code (2 : Nat) (Option.some Jvm.ClassFile.FieldType.boolean)) ∈ TB := tb_8 83 rfl rfl
theorem w8_84 : (Jvm.Cond.methodLink "HedgeNewsLaw" (166 : Nat) ({ cls := "HedgeNewsModel", name := "patienceOf", desc := "(I)I" } : Jvm.MethodName)) ∈ TB := tb_8 84 rfl rfl
theorem w8_85 : (Jvm.Cond.instanceMethod ({ cls := "HedgeNewsModel", name := "patienceOf", desc := "(I)I" } : Jvm.MethodName)) ∈ TB := tb_8 85 rfl rfl
theorem w8_86 : (Jvm.Cond.selects "HedgeNewsModel" ({ cls := "HedgeNewsModel", name := "patienceOf", desc := "(I)I" } : Jvm.MethodName) ({ cls := "HedgeNewsModel", name := "patienceOf", desc := "(I)I" } : Jvm.MethodName)) ∈ TB := tb_8 86 rfl rfl
theorem w8_87 : (Jvm.Cond.code ({ cls := "HedgeNewsModel", name := "patienceOf", desc := "(I)I" } : Jvm.MethodName) prog_15_method_66_code (2 : Nat) (Option.some Jvm.ClassFile.FieldType.int)) ∈ TB := tb_8 87 rfl rfl
theorem w8_88 : (Jvm.Cond.methodLink "HedgeNewsLaw" (169 : Nat) ({ cls := "HedgeNewsModel", name := "petalsOf", desc := "(I)I" } : Jvm.MethodName)) ∈ TB := tb_8 88 rfl rfl
theorem w8_89 : (Jvm.Cond.instanceMethod ({ cls := "HedgeNewsModel", name := "petalsOf", desc := "(I)I" } : Jvm.MethodName)) ∈ TB := tb_8 89 rfl rfl
theorem w8_90 : (Jvm.Cond.selects "HedgeNewsModel" ({ cls := "HedgeNewsModel", name := "petalsOf", desc := "(I)I" } : Jvm.MethodName) ({ cls := "HedgeNewsModel", name := "petalsOf", desc := "(I)I" } : Jvm.MethodName)) ∈ TB := tb_8 90 rfl rfl
theorem w8_91 : (Jvm.Cond.code ({ cls := "HedgeNewsModel", name := "petalsOf", desc := "(I)I" } : Jvm.MethodName) prog_15_method_67_code (2 : Nat) (Option.some Jvm.ClassFile.FieldType.int)) ∈ TB := tb_8 91 rfl rfl
theorem w8_92 : (Jvm.Cond.methodLink "HedgeNewsLaw" (172 : Nat) ({ cls := "HedgeNewsModel", name := "countOf", desc := "(I)I" } : Jvm.MethodName)) ∈ TB := tb_8 92 rfl rfl
theorem w8_93 : (Jvm.Cond.instanceMethod ({ cls := "HedgeNewsModel", name := "countOf", desc := "(I)I" } : Jvm.MethodName)) ∈ TB := tb_8 93 rfl rfl
theorem w8_94 : (Jvm.Cond.selects "HedgeNewsModel" ({ cls := "HedgeNewsModel", name := "countOf", desc := "(I)I" } : Jvm.MethodName) ({ cls := "HedgeNewsModel", name := "countOf", desc := "(I)I" } : Jvm.MethodName)) ∈ TB := tb_8 94 rfl rfl
theorem w8_95 : (Jvm.Cond.code ({ cls := "HedgeNewsModel", name := "countOf", desc := "(I)I" } : Jvm.MethodName) prog_15_method_68_code (2 : Nat) (Option.some Jvm.ClassFile.FieldType.int)) ∈ TB := tb_8 95 rfl rfl
theorem w8_96 : (Jvm.Cond.methodLink "HedgeNewsLaw" (175 : Nat) ({ cls := "HedgeNewsModel", name := "hedgesOf", desc := "(I)I" } : Jvm.MethodName)) ∈ TB := tb_8 96 rfl rfl
theorem w8_97 : (Jvm.Cond.instanceMethod ({ cls := "HedgeNewsModel", name := "hedgesOf", desc := "(I)I" } : Jvm.MethodName)) ∈ TB := tb_8 97 rfl rfl
theorem w8_98 : (Jvm.Cond.selects "HedgeNewsModel" ({ cls := "HedgeNewsModel", name := "hedgesOf", desc := "(I)I" } : Jvm.MethodName) ({ cls := "HedgeNewsModel", name := "hedgesOf", desc := "(I)I" } : Jvm.MethodName)) ∈ TB := tb_8 98 rfl rfl
theorem w8_99 : (Jvm.Cond.code ({ cls := "HedgeNewsModel", name := "hedgesOf", desc := "(I)I" } : Jvm.MethodName) prog_15_method_69_code (2 : Nat) (Option.some Jvm.ClassFile.FieldType.int)) ∈ TB := tb_8 99 rfl rfl
theorem w8_100 : (Jvm.Cond.methodLink "HedgeNewsModel" (336 : Nat) ({ cls := "HedgeNewsModel$State", name := "manyOf", desc := "(I)I" } : Jvm.MethodName)) ∈ TB := tb_8 100 rfl rfl
theorem w8_101 : (Jvm.Cond.instanceMethod ({ cls := "HedgeNewsModel$State", name := "manyOf", desc := "(I)I" } : Jvm.MethodName)) ∈ TB := tb_8 101 rfl rfl
theorem w8_102 : (Jvm.Cond.selects "HedgeNewsModel$State" ({ cls := "HedgeNewsModel$State", name := "manyOf", desc := "(I)I" } : Jvm.MethodName) ({ cls := "HedgeNewsModel$State", name := "manyOf", desc := "(I)I" } : Jvm.MethodName)) ∈ TB := tb_8 102 rfl rfl
theorem w8_103 : (Jvm.Cond.code ({ cls := "HedgeNewsModel$State", name := "manyOf", desc := "(I)I" } : Jvm.MethodName) prog_17_method_9_code (4 : Nat) (Option.some Jvm.ClassFile.FieldType.int)) ∈ TB := tb_8 103 rfl rfl
theorem w8_104 : (Jvm.Cond.methodLink "HedgeNewsModel$State" (67 : Nat) ({ cls := "HedgeNewsModel$State", name := "placeIn", desc := "(II)I" } : Jvm.MethodName)) ∈ TB := tb_8 104 rfl rfl
theorem w8_105 : (Jvm.Cond.methodLink "HedgeNewsLaw" (179 : Nat) ({ cls := "HedgeNewsModel", name := "fullest", desc := "()I" } : Jvm.MethodName)) ∈ TB := tb_8 105 rfl rfl
theorem w8_106 : (Jvm.Cond.instanceMethod ({ cls := "HedgeNewsModel", name := "fullest", desc := "()I" } : Jvm.MethodName)) ∈ TB := tb_8 106 rfl rfl
theorem w8_107 : (Jvm.Cond.selects "HedgeNewsModel" ({ cls := "HedgeNewsModel", name := "fullest", desc := "()I" } : Jvm.MethodName) ({ cls := "HedgeNewsModel", name := "fullest", desc := "()I" } : Jvm.MethodName)) ∈ TB := tb_8 107 rfl rfl
theorem w8_108 : (Jvm.Cond.code ({ cls := "HedgeNewsModel", name := "fullest", desc := "()I" } : Jvm.MethodName) prog_15_method_70_code (1 : Nat) (Option.some Jvm.ClassFile.FieldType.int)) ∈ TB := tb_8 108 rfl rfl
theorem w8_109 : (Jvm.Cond.methodLink "HedgeNewsModel" (339 : Nat) ({ cls := "HedgeNewsModel$State", name := "full", desc := "()I" } : Jvm.MethodName)) ∈ TB := tb_8 109 rfl rfl
theorem w8_110 : (Jvm.Cond.instanceMethod ({ cls := "HedgeNewsModel$State", name := "full", desc := "()I" } : Jvm.MethodName)) ∈ TB := tb_8 110 rfl rfl
theorem w8_111 : (Jvm.Cond.selects "HedgeNewsModel$State" ({ cls := "HedgeNewsModel$State", name := "full", desc := "()I" } : Jvm.MethodName) ({ cls := "HedgeNewsModel$State", name := "full", desc := "()I" } : Jvm.MethodName)) ∈ TB := tb_8 111 rfl rfl
theorem w8_112 : (Jvm.Cond.code ({ cls := "HedgeNewsModel$State", name := "full", desc := "()I" } : Jvm.MethodName) prog_17_method_15_code (3 : Nat) (Option.some Jvm.ClassFile.FieldType.int)) ∈ TB := tb_8 112 rfl rfl
theorem w8_113 : (Jvm.Cond.methodLink "HedgeNewsLaw" (182 : Nat) ({ cls := "HedgeNewsModel", name := "hedgeListens", desc := "(II)I" } : Jvm.MethodName)) ∈ TB := tb_8 113 rfl rfl
theorem w8_114 : (Jvm.Cond.instanceMethod ({ cls := "HedgeNewsModel", name := "hedgeListens", desc := "(II)I" } : Jvm.MethodName)) ∈ TB := tb_8 114 rfl rfl
theorem w8_115 : (Jvm.Cond.selects "HedgeNewsModel" ({ cls := "HedgeNewsModel", name := "hedgeListens", desc := "(II)I" } : Jvm.MethodName) ({ cls := "HedgeNewsModel", name := "hedgeListens", desc := "(II)I" } : Jvm.MethodName)) ∈ TB := tb_8 115 rfl rfl
theorem w8_116 : (Jvm.Cond.code ({ cls := "HedgeNewsModel", name := "hedgeListens", desc := "(II)I" } : Jvm.MethodName) prog_15_method_73_code (3 : Nat) (Option.some Jvm.ClassFile.FieldType.int)) ∈ TB := tb_8 116 rfl rfl
theorem w8_117 : (Jvm.Cond.methodLink "HedgeNewsModel" (351 : Nat) ({ cls := "HedgeNewsModel", name := "listens", desc := "(II)I" } : Jvm.MethodName)) ∈ TB := tb_8 117 rfl rfl
theorem w8_118 : (Jvm.Cond.privateMethod ({ cls := "HedgeNewsModel", name := "listens", desc := "(II)I" } : Jvm.MethodName)) ∈ lw_tbl := tz_8 118 rfl
theorem w8_119 : (Jvm.Cond.instanceMethod ({ cls := "HedgeNewsModel", name := "listens", desc := "(II)I" } : Jvm.MethodName)) ∈ TB := tb_8 119 rfl rfl
theorem w8_120 : (Jvm.Cond.code ({ cls := "HedgeNewsModel", name := "listens", desc := "(II)I" } : Jvm.MethodName) prog_15_method_71_code (3 : Nat) (Option.some Jvm.ClassFile.FieldType.int)) ∈ TB := tb_8 120 rfl rfl
theorem w8_121 : (Jvm.Cond.methodLink "HedgeNewsModel" (342 : Nat) ({ cls := "HedgeNewsModel$State", name := "canListen", desc := "(II)Z" } : Jvm.MethodName)) ∈ TB := tb_8 121 rfl rfl
theorem w8_122 : (Jvm.Cond.instanceMethod ({ cls := "HedgeNewsModel$State", name := "canListen", desc := "(II)Z" } : Jvm.MethodName)) ∈ TB := tb_8 122 rfl rfl
theorem w8_123 : (Jvm.Cond.selects "HedgeNewsModel$State" ({ cls := "HedgeNewsModel$State", name := "canListen", desc := "(II)Z" } : Jvm.MethodName) ({ cls := "HedgeNewsModel$State", name := "canListen", desc := "(II)Z" } : Jvm.MethodName)) ∈ TB := tb_8 123 rfl rfl
theorem w8_124 : (Jvm.Cond.code ({ cls := "HedgeNewsModel$State", name := "canListen", desc := "(II)Z" } : Jvm.MethodName) prog_17_method_6_code (3 : Nat) (Option.some Jvm.ClassFile.FieldType.boolean)) ∈ TB := tb_8 124 rfl rfl
theorem w8_125 : (Jvm.Cond.methodLink "HedgeNewsModel" (345 : Nat) ({ cls := "HedgeNewsModel$State", name := "listens", desc := "(II)I" } : Jvm.MethodName)) ∈ TB := tb_8 125 rfl rfl
theorem w8_126 : (Jvm.Cond.instanceMethod ({ cls := "HedgeNewsModel$State", name := "listens", desc := "(II)I" } : Jvm.MethodName)) ∈ TB := tb_8 126 rfl rfl
theorem w8_127 : (Jvm.Cond.selects "HedgeNewsModel$State" ({ cls := "HedgeNewsModel$State", name := "listens", desc := "(II)I" } : Jvm.MethodName) ({ cls := "HedgeNewsModel$State", name := "listens", desc := "(II)I" } : Jvm.MethodName)) ∈ TB := tb_8 127 rfl rfl
theorem w8_128 : (Jvm.Cond.code ({ cls := "HedgeNewsModel$State", name := "listens", desc := "(II)I" } : Jvm.MethodName) prog_17_method_7_code (3 : Nat) (Option.some Jvm.ClassFile.FieldType.int)) ∈ TB := tb_8 128 rfl rfl
theorem w8_129 : (Jvm.Cond.methodLink "HedgeNewsLaw" (185 : Nat) ({ cls := "HedgeNewsModel", name := "roseListens", desc := "(II)I" } : Jvm.MethodName)) ∈ TB := tb_8 129 rfl rfl
theorem w8_130 : (Jvm.Cond.instanceMethod ({ cls := "HedgeNewsModel", name := "roseListens", desc := "(II)I" } : Jvm.MethodName)) ∈ TB := tb_8 130 rfl rfl
theorem w8_131 : (Jvm.Cond.selects "HedgeNewsModel" ({ cls := "HedgeNewsModel", name := "roseListens", desc := "(II)I" } : Jvm.MethodName) ({ cls := "HedgeNewsModel", name := "roseListens", desc := "(II)I" } : Jvm.MethodName)) ∈ TB := tb_8 131 rfl rfl
theorem w8_132 : (Jvm.Cond.code ({ cls := "HedgeNewsModel", name := "roseListens", desc := "(II)I" } : Jvm.MethodName) prog_15_method_74_code (3 : Nat) (Option.some Jvm.ClassFile.FieldType.int)) ∈ TB := tb_8 132 rfl rfl
theorem w8_133 : (Jvm.Cond.methodLink "HedgeNewsLaw" (188 : Nat) ({ cls := "HedgeNewsModel", name := "hedgeLeaves", desc := "(II)I" } : Jvm.MethodName)) ∈ TB := tb_8 133 rfl rfl
theorem w8_134 : (Jvm.Cond.instanceMethod ({ cls := "HedgeNewsModel", name := "hedgeLeaves", desc := "(II)I" } : Jvm.MethodName)) ∈ TB := tb_8 134 rfl rfl
theorem w8_135 : (Jvm.Cond.selects "HedgeNewsModel" ({ cls := "HedgeNewsModel", name := "hedgeLeaves", desc := "(II)I" } : Jvm.MethodName) ({ cls := "HedgeNewsModel", name := "hedgeLeaves", desc := "(II)I" } : Jvm.MethodName)) ∈ TB := tb_8 135 rfl rfl
theorem w8_136 : (Jvm.Cond.code ({ cls := "HedgeNewsModel", name := "hedgeLeaves", desc := "(II)I" } : Jvm.MethodName) prog_15_method_75_code (3 : Nat) (Option.some Jvm.ClassFile.FieldType.int)) ∈ TB := tb_8 136 rfl rfl
theorem w8_137 : (Jvm.Cond.methodLink "HedgeNewsModel" (352 : Nat) ({ cls := "HedgeNewsModel", name := "leaves", desc := "(II)I" } : Jvm.MethodName)) ∈ TB := tb_8 137 rfl rfl
theorem w8_138 : (Jvm.Cond.privateMethod ({ cls := "HedgeNewsModel", name := "leaves", desc := "(II)I" } : Jvm.MethodName)) ∈ lw_tbl := tz_8 138 rfl
theorem w8_139 : (Jvm.Cond.instanceMethod ({ cls := "HedgeNewsModel", name := "leaves", desc := "(II)I" } : Jvm.MethodName)) ∈ TB := tb_8 139 rfl rfl
theorem w8_140 : (Jvm.Cond.code ({ cls := "HedgeNewsModel", name := "leaves", desc := "(II)I" } : Jvm.MethodName) prog_15_method_72_code (3 : Nat) (Option.some Jvm.ClassFile.FieldType.int)) ∈ TB := tb_8 140 rfl rfl
theorem w8_141 : (Jvm.Cond.methodLink "HedgeNewsModel" (348 : Nat) ({ cls := "HedgeNewsModel$State", name := "leaves", desc := "(II)I" } : Jvm.MethodName)) ∈ TB := tb_8 141 rfl rfl
theorem w8_142 : (Jvm.Cond.instanceMethod ({ cls := "HedgeNewsModel$State", name := "leaves", desc := "(II)I" } : Jvm.MethodName)) ∈ TB := tb_8 142 rfl rfl
theorem w8_143 : (Jvm.Cond.selects "HedgeNewsModel$State" ({ cls := "HedgeNewsModel$State", name := "leaves", desc := "(II)I" } : Jvm.MethodName) ({ cls := "HedgeNewsModel$State", name := "leaves", desc := "(II)I" } : Jvm.MethodName)) ∈ TB := tb_8 143 rfl rfl
theorem w8_144 : (Jvm.Cond.code ({ cls := "HedgeNewsModel$State", name := "leaves", desc := "(II)I" } : Jvm.MethodName) prog_17_method_8_code (5 : Nat) (Option.some Jvm.ClassFile.FieldType.int)) ∈ TB := tb_8 144 rfl rfl
theorem w8_145 : (Jvm.Cond.methodLink "HedgeNewsLaw" (191 : Nat) ({ cls := "HedgeNewsModel", name := "roseLeaves", desc := "(II)I" } : Jvm.MethodName)) ∈ TB := tb_8 145 rfl rfl
theorem w8_146 : (Jvm.Cond.instanceMethod ({ cls := "HedgeNewsModel", name := "roseLeaves", desc := "(II)I" } : Jvm.MethodName)) ∈ TB := tb_8 146 rfl rfl
theorem w8_147 : (Jvm.Cond.selects "HedgeNewsModel" ({ cls := "HedgeNewsModel", name := "roseLeaves", desc := "(II)I" } : Jvm.MethodName) ({ cls := "HedgeNewsModel", name := "roseLeaves", desc := "(II)I" } : Jvm.MethodName)) ∈ TB := tb_8 147 rfl rfl
theorem w8_148 : (Jvm.Cond.code ({ cls := "HedgeNewsModel", name := "roseLeaves", desc := "(II)I" } : Jvm.MethodName) prog_15_method_76_code (3 : Nat) (Option.some Jvm.ClassFile.FieldType.int)) ∈ TB := tb_8 148 rfl rfl
theorem w8_149 : (Jvm.Cond.methodLink "HedgeNewsLaw" (194 : Nat) ({ cls := "HedgeNewsModel", name := "tell", desc := "(II)I" } : Jvm.MethodName)) ∈ TB := tb_8 149 rfl rfl
theorem w8_150 : (Jvm.Cond.instanceMethod ({ cls := "HedgeNewsModel", name := "tell", desc := "(II)I" } : Jvm.MethodName)) ∈ TB := tb_8 150 rfl rfl
theorem w8_151 : (Jvm.Cond.selects "HedgeNewsModel" ({ cls := "HedgeNewsModel", name := "tell", desc := "(II)I" } : Jvm.MethodName) ({ cls := "HedgeNewsModel", name := "tell", desc := "(II)I" } : Jvm.MethodName)) ∈ TB := tb_8 151 rfl rfl
theorem w8_152 : (Jvm.Cond.code ({ cls := "HedgeNewsModel", name := "tell", desc := "(II)I" } : Jvm.MethodName) prog_15_method_78_code (3 : Nat) (Option.some Jvm.ClassFile.FieldType.int)) ∈ TB := tb_8 152 rfl rfl
theorem w8_153 : (Jvm.Cond.methodLink "HedgeNewsModel" (353 : Nat) ({ cls := "HedgeNewsModel", name := "isNews", desc := "(II)Z" } : Jvm.MethodName)) ∈ TB := tb_8 153 rfl rfl
theorem w8_154 : (Jvm.Cond.privateMethod ({ cls := "HedgeNewsModel", name := "isNews", desc := "(II)Z" } : Jvm.MethodName)) ∈ lw_tbl := tz_8 154 rfl
theorem w8_155 : (Jvm.Cond.instanceMethod ({ cls := "HedgeNewsModel", name := "isNews", desc := "(II)Z" } : Jvm.MethodName)) ∈ TB := tb_8 155 rfl rfl
theorem w8_156 : (Jvm.Cond.code ({ cls := "HedgeNewsModel", name := "isNews", desc := "(II)Z" } : Jvm.MethodName) prog_15_method_77_code (3 : Nat) (Option.some Jvm.ClassFile.FieldType.boolean)) ∈ TB := tb_8 156 rfl rfl
theorem w8_157 : (Jvm.Cond.methodLink "HedgeNewsModel" (356 : Nat) ({ cls := "HedgeNewsModel$State", name := "news", desc := "(II)I" } : Jvm.MethodName)) ∈ TB := tb_8 157 rfl rfl
theorem w8_158 : (Jvm.Cond.instanceMethod ({ cls := "HedgeNewsModel$State", name := "news", desc := "(II)I" } : Jvm.MethodName)) ∈ TB := tb_8 158 rfl rfl
theorem w8_159 : (Jvm.Cond.selects "HedgeNewsModel$State" ({ cls := "HedgeNewsModel$State", name := "news", desc := "(II)I" } : Jvm.MethodName) ({ cls := "HedgeNewsModel$State", name := "news", desc := "(II)I" } : Jvm.MethodName)) ∈ TB := tb_8 159 rfl rfl
theorem w8_160 : (Jvm.Cond.code ({ cls := "HedgeNewsModel$State", name := "news", desc := "(II)I" } : Jvm.MethodName) prog_17_method_12_code (4 : Nat) (Option.some Jvm.ClassFile.FieldType.int)) ∈ TB := tb_8 160 rfl rfl
theorem w8_161 : (Jvm.Cond.methodLink "HedgeNewsModel$State" (110 : Nat) ({ cls := "HedgeNewsModel$State", name := "hedgeHears", desc := "(II)V" } : Jvm.MethodName)) ∈ TB := tb_8 161 rfl rfl
theorem w8_162 : (Jvm.Cond.privateMethod ({ cls := "HedgeNewsModel$State", name := "hedgeHears", desc := "(II)V" } : Jvm.MethodName)) ∈ lw_tbl := tz_8 162 rfl
theorem w8_163 : (Jvm.Cond.instanceMethod ({ cls := "HedgeNewsModel$State", name := "hedgeHears", desc := "(II)V" } : Jvm.MethodName)) ∈ TB := tb_8 163 rfl rfl
theorem w8_164 : (Jvm.Cond.code ({ cls := "HedgeNewsModel$State", name := "hedgeHears", desc := "(II)V" } : Jvm.MethodName) prog_17_method_10_code (4 : Nat) (Option.none : Option Jvm.ClassFile.FieldType)) ∈ TB := tb_8 164 rfl rfl
theorem w8_165 : (Jvm.Cond.methodLink "HedgeNewsModel$State" (114 : Nat) ({ cls := "HedgeNewsModel$State", name := "roseHears", desc := "(III)V" } : Jvm.MethodName)) ∈ TB := tb_8 165 rfl rfl
theorem w8_166 : (Jvm.Cond.privateMethod ({ cls := "HedgeNewsModel$State", name := "roseHears", desc := "(III)V" } : Jvm.MethodName)) ∈ lw_tbl := tz_8 166 rfl
theorem w8_167 : (Jvm.Cond.instanceMethod ({ cls := "HedgeNewsModel$State", name := "roseHears", desc := "(III)V" } : Jvm.MethodName)) ∈ TB := tb_8 167 rfl rfl
theorem w8_168 : (Jvm.Cond.code ({ cls := "HedgeNewsModel$State", name := "roseHears", desc := "(III)V" } : Jvm.MethodName) prog_17_method_11_code (4 : Nat) (Option.none : Option Jvm.ClassFile.FieldType)) ∈ TB := tb_8 168 rfl rfl
theorem w8_169 : (Jvm.Cond.methodLink "HedgeNewsModel$State" (107 : Nat) ({ cls := "HedgeNewsModel$State", name := "leaves", desc := "(II)I" } : Jvm.MethodName)) ∈ TB := tb_8 169 rfl rfl
theorem w8_170 : (Jvm.Cond.methodLink "HedgeNewsLaw" (197 : Nat) ({ cls := "HedgeNewsModel", name := "passDays", desc := "(I)I" } : Jvm.MethodName)) ∈ TB := tb_8 170 rfl rfl
theorem w8_171 : (Jvm.Cond.instanceMethod ({ cls := "HedgeNewsModel", name := "passDays", desc := "(I)I" } : Jvm.MethodName)) ∈ TB := tb_8 171 rfl rfl
theorem w8_172 : (Jvm.Cond.selects "HedgeNewsModel" ({ cls := "HedgeNewsModel", name := "passDays", desc := "(I)I" } : Jvm.MethodName) ({ cls := "HedgeNewsModel", name := "passDays", desc := "(I)I" } : Jvm.MethodName)) ∈ TB := tb_8 172 rfl rfl
theorem w8_173 : (Jvm.Cond.code ({ cls := "HedgeNewsModel", name := "passDays", desc := "(I)I" } : Jvm.MethodName) prog_15_method_79_code (3 : Nat) (Option.some Jvm.ClassFile.FieldType.int)) ∈ TB := tb_8 173 rfl rfl
theorem w8_174 : (Jvm.Cond.methodLink "HedgeNewsModel" (359 : Nat) ({ cls := "HedgeNewsModel$State", name := "pass", desc := "(I)LHedgeNewsModel$State;" } : Jvm.MethodName)) ∈ TB := tb_8 174 rfl rfl
theorem w8_175 : (Jvm.Cond.instanceMethod ({ cls := "HedgeNewsModel$State", name := "pass", desc := "(I)LHedgeNewsModel$State;" } : Jvm.MethodName)) ∈ TB := tb_8 175 rfl rfl
theorem w8_176 : (Jvm.Cond.selects "HedgeNewsModel$State" ({ cls := "HedgeNewsModel$State", name := "pass", desc := "(I)LHedgeNewsModel$State;" } : Jvm.MethodName) ({ cls := "HedgeNewsModel$State", name := "pass", desc := "(I)LHedgeNewsModel$State;" } : Jvm.MethodName)) ∈ TB := tb_8 176 rfl rfl
theorem w8_177 : (Jvm.Cond.code ({ cls := "HedgeNewsModel$State", name := "pass", desc := "(I)LHedgeNewsModel$State;" } : Jvm.MethodName) prog_17_method_19_code (5 : Nat) (Option.some (Jvm.ClassFile.FieldType.object "HedgeNewsModel$State"))) ∈ TB := tb_8 177 rfl rfl
theorem w8_178 : (Jvm.Cond.methodLink "HedgeNewsModel$State" (149 : Nat) ({ cls := "HedgeNewsModel$State", name := "reckon", desc := "(II)I" } : Jvm.MethodName)) ∈ TB := tb_8 178 rfl rfl
theorem w8_179 : (Jvm.Cond.privateMethod ({ cls := "HedgeNewsModel$State", name := "reckon", desc := "(II)I" } : Jvm.MethodName)) ∈ lw_tbl := tz_8 179 rfl
theorem w8_180 : (Jvm.Cond.instanceMethod ({ cls := "HedgeNewsModel$State", name := "reckon", desc := "(II)I" } : Jvm.MethodName)) ∈ TB := tb_8 180 rfl rfl
theorem w8_181 : (Jvm.Cond.code ({ cls := "HedgeNewsModel$State", name := "reckon", desc := "(II)I" } : Jvm.MethodName) prog_17_method_17_code (7 : Nat) (Option.some Jvm.ClassFile.FieldType.int)) ∈ TB := tb_8 181 rfl rfl
theorem w8_182 : (Jvm.Cond.methodLink "HedgeNewsModel$State" (127 : Nat) ({ cls := "HedgeNewsModel$State", name := "told", desc := "(II)I" } : Jvm.MethodName)) ∈ TB := tb_8 182 rfl rfl
theorem w8_183 : (Jvm.Cond.privateMethod ({ cls := "HedgeNewsModel$State", name := "told", desc := "(II)I" } : Jvm.MethodName)) ∈ lw_tbl := tz_8 183 rfl
theorem w8_184 : (Jvm.Cond.instanceMethod ({ cls := "HedgeNewsModel$State", name := "told", desc := "(II)I" } : Jvm.MethodName)) ∈ TB := tb_8 184 rfl rfl
theorem w8_185 : (Jvm.Cond.code ({ cls := "HedgeNewsModel$State", name := "told", desc := "(II)I" } : Jvm.MethodName) prog_17_method_16_code (3 : Nat) (Option.some Jvm.ClassFile.FieldType.int)) ∈ TB := tb_8 185 rfl rfl
theorem w8_186 : (Jvm.Cond.methodLinkNest "HedgeNewsModel$State" (130 : Nat) ({ cls := "HedgeNewsModel", name := "both", desc := "(III)I" } : Jvm.MethodName) "HedgeNewsModel") ∈ lw_tbl := tz_8 186 rfl
theorem w8_187 : (Jvm.Cond.static ({ cls := "HedgeNewsModel", name := "both", desc := "(III)I" } : Jvm.MethodName)) ∈ TB := tb_8 187 rfl rfl
theorem w8_188 : (Jvm.Cond.code ({ cls := "HedgeNewsModel", name := "both", desc := "(III)I" } : Jvm.MethodName) prog_15_method_10_code (3 : Nat) (Option.some Jvm.ClassFile.FieldType.int)) ∈ TB := tb_8 188 rfl rfl
theorem w8_189 : (Jvm.Cond.methodLink "HedgeNewsModel" (92 : Nat) ({ cls := "java/lang/Math", name := "max", desc := "(II)I" } : Jvm.MethodName)) ∈ TB := tb_8 189 rfl rfl
theorem w8_190 : (Jvm.Cond.methodLink "HedgeNewsModel$State" (176 : Nat) ({ cls := "HedgeNewsModel$State", name := "carry", desc := "(I)Z" } : Jvm.MethodName)) ∈ TB := tb_8 190 rfl rfl
theorem w8_191 : (Jvm.Cond.privateMethod ({ cls := "HedgeNewsModel$State", name := "carry", desc := "(I)Z" } : Jvm.MethodName)) ∈ lw_tbl := tz_8 191 rfl
theorem w8_192 : (Jvm.Cond.instanceMethod ({ cls := "HedgeNewsModel$State", name := "carry", desc := "(I)Z" } : Jvm.MethodName)) ∈ TB := tb_8 192 rfl rfl
theorem w8_193 : (Jvm.Cond.code ({ cls := "HedgeNewsModel$State", name := "carry", desc := "(I)Z" } : Jvm.MethodName) prog_17_method_18_code (6 : Nat) (Option.some Jvm.ClassFile.FieldType.boolean)) ∈ TB := tb_8 193 rfl rfl
theorem w8_194 : (Jvm.Cond.methodLink "HedgeNewsModel$State" (152 : Nat) ({ cls := "java/lang/Math", name := "min", desc := "(II)I" } : Jvm.MethodName)) ∈ TB := tb_8 194 rfl rfl
theorem w8_195 : (Jvm.Cond.methodLink "HedgeNewsModel$State" (157 : Nat) ({ cls := "java/lang/Math", name := "max", desc := "(II)I" } : Jvm.MethodName)) ∈ TB := tb_8 195 rfl rfl
theorem w8_196 : (Jvm.Cond.methodLink "HedgeNewsModel$State" (160 : Nat) ({ cls := "HedgeNewsModel$State", name := "news", desc := "(II)I" } : Jvm.MethodName)) ∈ TB := tb_8 196 rfl rfl
theorem w8_197 : (Jvm.Cond.methodLink "HedgeNewsModel$State" (163 : Nat) ({ cls := "HedgeNewsModel$State", name := "canListen", desc := "(II)Z" } : Jvm.MethodName)) ∈ TB := tb_8 197 rfl rfl
theorem w8_198 : (Jvm.Cond.methodLink "HedgeNewsModel$State" (167 : Nat) ({ cls := "HedgeNewsModel$State", name := "listens", desc := "(II)I" } : Jvm.MethodName)) ∈ TB := tb_8 198 rfl rfl
theorem w8_199 : (Jvm.Cond.methodLink "HedgeNewsLaw" (200 : Nat) ({ cls := "HedgeNewsModel", name := "reach", desc := "(II)I" } : Jvm.MethodName)) ∈ TB := tb_8 199 rfl rfl
theorem w8_200 : (Jvm.Cond.instanceMethod ({ cls := "HedgeNewsModel", name := "reach", desc := "(II)I" } : Jvm.MethodName)) ∈ TB := tb_8 200 rfl rfl
theorem w8_201 : (Jvm.Cond.selects "HedgeNewsModel" ({ cls := "HedgeNewsModel", name := "reach", desc := "(II)I" } : Jvm.MethodName) ({ cls := "HedgeNewsModel", name := "reach", desc := "(II)I" } : Jvm.MethodName)) ∈ TB := tb_8 201 rfl rfl
theorem w8_202 : (Jvm.Cond.code ({ cls := "HedgeNewsModel", name := "reach", desc := "(II)I" } : Jvm.MethodName) prog_15_method_80_code (5 : Nat) (Option.some Jvm.ClassFile.FieldType.int)) ∈ TB := tb_8 202 rfl rfl
theorem w8_203 : (Jvm.Cond.methodLink "HedgeNewsModel" (363 : Nat) ({ cls := "HedgeNewsModel", name := "ahead", desc := "()LHedgeNewsModel$State;" } : Jvm.MethodName)) ∈ TB := tb_8 203 rfl rfl
theorem w8_204 : (Jvm.Cond.privateMethod ({ cls := "HedgeNewsModel", name := "ahead", desc := "()LHedgeNewsModel$State;" } : Jvm.MethodName)) ∈ lw_tbl := tz_8 204 rfl
theorem w8_205 : (Jvm.Cond.instanceMethod ({ cls := "HedgeNewsModel", name := "ahead", desc := "()LHedgeNewsModel$State;" } : Jvm.MethodName)) ∈ TB := tb_8 205 rfl rfl
theorem w8_206 : (Jvm.Cond.code ({ cls := "HedgeNewsModel", name := "ahead", desc := "()LHedgeNewsModel$State;" } : Jvm.MethodName) prog_15_method_9_code (1 : Nat) (Option.some (Jvm.ClassFile.FieldType.object "HedgeNewsModel$State"))) ∈ TB := tb_8 206 rfl rfl
theorem w8_207 : (Jvm.Cond.methodLink "HedgeNewsModel" (82 : Nat) ({ cls := "HedgeNewsModel$State", name := "become", desc := "(LHedgeNewsModel$State;)LHedgeNewsModel$State;" } : Jvm.MethodName)) ∈ TB := tb_8 207 rfl rfl
theorem w8_208 : (Jvm.Cond.methodLink "HedgeNewsLaw" (203 : Nat) ({ cls := "HedgeNewsModel", name := "loudnessAt", desc := "(II)I" } : Jvm.MethodName)) ∈ TB := tb_8 208 rfl rfl
theorem w8_209 : (Jvm.Cond.instanceMethod ({ cls := "HedgeNewsModel", name := "loudnessAt", desc := "(II)I" } : Jvm.MethodName)) ∈ TB := tb_8 209 rfl rfl
theorem w8_210 : (Jvm.Cond.selects "HedgeNewsModel" ({ cls := "HedgeNewsModel", name := "loudnessAt", desc := "(II)I" } : Jvm.MethodName) ({ cls := "HedgeNewsModel", name := "loudnessAt", desc := "(II)I" } : Jvm.MethodName)) ∈ TB := tb_8 210 rfl rfl
theorem w8_211 : (Jvm.Cond.code ({ cls := "HedgeNewsModel", name := "loudnessAt", desc := "(II)I" } : Jvm.MethodName) prog_15_method_81_code (3 : Nat) (Option.some Jvm.ClassFile.FieldType.int)) ∈ TB := tb_8 211 rfl rfl
theorem w8_212 : (Jvm.Cond.methodLink "HedgeNewsLaw" (206 : Nat) ({ cls := "HedgeNewsModel", name := "comesBack", desc := "(I)Z" } : Jvm.MethodName)) ∈ TB := tb_8 212 rfl rfl
theorem w8_213 : (Jvm.Cond.instanceMethod ({ cls := "HedgeNewsModel", name := "comesBack", desc := "(I)Z" } : Jvm.MethodName)) ∈ TB := tb_8 213 rfl rfl
theorem w8_214 : (Jvm.Cond.selects "HedgeNewsModel" ({ cls := "HedgeNewsModel", name := "comesBack", desc := "(I)Z" } : Jvm.MethodName) ({ cls := "HedgeNewsModel", name := "comesBack", desc := "(I)Z" } : Jvm.MethodName)) ∈ TB := tb_8 214 rfl rfl
theorem w8_215 : (Jvm.Cond.code ({ cls := "HedgeNewsModel", name := "comesBack", desc := "(I)Z" } : Jvm.MethodName) prog_15_method_82_code (2 : Nat) (Option.some Jvm.ClassFile.FieldType.boolean)) ∈ TB := tb_8 215 rfl rfl
theorem w8_216 : (Jvm.Cond.methodLink "HedgeNewsModel" (367 : Nat) ({ cls := "HedgeNewsModel", name := "isNot", desc := "(I)Z" } : Jvm.MethodName)) ∈ TB := tb_8 216 rfl rfl
theorem w8_217 : (Jvm.Cond.privateMethod ({ cls := "HedgeNewsModel", name := "isNot", desc := "(I)Z" } : Jvm.MethodName)) ∈ lw_tbl := tz_8 217 rfl
theorem w8_218 : (Jvm.Cond.instanceMethod ({ cls := "HedgeNewsModel", name := "isNot", desc := "(I)Z" } : Jvm.MethodName)) ∈ TB := tb_8 218 rfl rfl
theorem w8_219 : (Jvm.Cond.code ({ cls := "HedgeNewsModel", name := "isNot", desc := "(I)Z" } : Jvm.MethodName) prog_15_method_4_code (2 : Nat) (Option.some Jvm.ClassFile.FieldType.boolean)) ∈ TB := tb_8 219 rfl rfl
theorem w8_220 : (Jvm.Cond.methodLink "HedgeNewsLaw" (209 : Nat) ({ cls := "HedgeNewsModel", name := "petalsAfter", desc := "(II)I" } : Jvm.MethodName)) ∈ TB := tb_8 220 rfl rfl
theorem w8_221 : (Jvm.Cond.instanceMethod ({ cls := "HedgeNewsModel", name := "petalsAfter", desc := "(II)I" } : Jvm.MethodName)) ∈ TB := tb_8 221 rfl rfl
theorem w8_222 : (Jvm.Cond.selects "HedgeNewsModel" ({ cls := "HedgeNewsModel", name := "petalsAfter", desc := "(II)I" } : Jvm.MethodName) ({ cls := "HedgeNewsModel", name := "petalsAfter", desc := "(II)I" } : Jvm.MethodName)) ∈ TB := tb_8 222 rfl rfl
theorem w8_223 : (Jvm.Cond.code ({ cls := "HedgeNewsModel", name := "petalsAfter", desc := "(II)I" } : Jvm.MethodName) prog_15_method_83_code (3 : Nat) (Option.some Jvm.ClassFile.FieldType.int)) ∈ TB := tb_8 223 rfl rfl
theorem w8_224 : (Jvm.Cond.methodLink "HedgeNewsLaw" (212 : Nat) ({ cls := "HedgeNewsModel", name := "daysUntilLeft", desc := "(I)I" } : Jvm.MethodName)) ∈ TB := tb_8 224 rfl rfl
theorem w8_225 : (Jvm.Cond.instanceMethod ({ cls := "HedgeNewsModel", name := "daysUntilLeft", desc := "(I)I" } : Jvm.MethodName)) ∈ TB := tb_8 225 rfl rfl
theorem w8_226 : (Jvm.Cond.selects "HedgeNewsModel" ({ cls := "HedgeNewsModel", name := "daysUntilLeft", desc := "(I)I" } : Jvm.MethodName) ({ cls := "HedgeNewsModel", name := "daysUntilLeft", desc := "(I)I" } : Jvm.MethodName)) ∈ TB := tb_8 226 rfl rfl
theorem w8_227 : (Jvm.Cond.code ({ cls := "HedgeNewsModel", name := "daysUntilLeft", desc := "(I)I" } : Jvm.MethodName) prog_15_method_84_code (2 : Nat) (Option.some Jvm.ClassFile.FieldType.int)) ∈ TB := tb_8 227 rfl rfl
theorem w8_228 : (Jvm.Cond.methodLink "HedgeNewsModel" (374 : Nat) ({ cls := "HedgeNewsModel$State", name := "untilLeft", desc := "(I)I" } : Jvm.MethodName)) ∈ TB := tb_8 228 rfl rfl
theorem w8_229 : (Jvm.Cond.instanceMethod ({ cls := "HedgeNewsModel$State", name := "untilLeft", desc := "(I)I" } : Jvm.MethodName)) ∈ TB := tb_8 229 rfl rfl
theorem w8_230 : (Jvm.Cond.selects "HedgeNewsModel$State" ({ cls := "HedgeNewsModel$State", name := "untilLeft", desc := "(I)I" } : Jvm.MethodName) ({ cls := "HedgeNewsModel$State", name := "untilLeft", desc := "(I)I" } : Jvm.MethodName)) ∈ TB := tb_8 230 rfl rfl
theorem w8_231 : (Jvm.Cond.code ({ cls := "HedgeNewsModel$State", name := "untilLeft", desc := "(I)I" } : Jvm.MethodName) prog_17_method_20_code (4 : Nat) (Option.some Jvm.ClassFile.FieldType.int)) ∈ TB := tb_8 231 rfl rfl
theorem w8_232 : (Jvm.Cond.methodLink "HedgeNewsModel$State" (180 : Nat) ({ cls := "HedgeNewsModel$State", name := "pass", desc := "(I)LHedgeNewsModel$State;" } : Jvm.MethodName)) ∈ TB := tb_8 232 rfl rfl
theorem w8_233 : (Jvm.Cond.methodLink "HedgeNewsLaw" (215 : Nat) ({ cls := "HedgeNewsModel", name := "bestToTell", desc := "(I)I" } : Jvm.MethodName)) ∈ TB := tb_8 233 rfl rfl
theorem w8_234 : (Jvm.Cond.instanceMethod ({ cls := "HedgeNewsModel", name := "bestToTell", desc := "(I)I" } : Jvm.MethodName)) ∈ TB := tb_8 234 rfl rfl
theorem w8_235 : (Jvm.Cond.selects "HedgeNewsModel" ({ cls := "HedgeNewsModel", name := "bestToTell", desc := "(I)I" } : Jvm.MethodName) ({ cls := "HedgeNewsModel", name := "bestToTell", desc := "(I)I" } : Jvm.MethodName)) ∈ TB := tb_8 235 rfl rfl
theorem w8_236 : (Jvm.Cond.code ({ cls := "HedgeNewsModel", name := "bestToTell", desc := "(I)I" } : Jvm.MethodName) prog_15_method_86_code (2 : Nat) (Option.some Jvm.ClassFile.FieldType.int)) ∈ TB := tb_8 236 rfl rfl
theorem w8_237 : (Jvm.Cond.methodLink "HedgeNewsModel" (380 : Nat) ({ cls := "HedgeNewsModel", name := "best", desc := "(I)I" } : Jvm.MethodName)) ∈ TB := tb_8 237 rfl rfl
theorem w8_238 : (Jvm.Cond.privateMethod ({ cls := "HedgeNewsModel", name := "best", desc := "(I)I" } : Jvm.MethodName)) ∈ lw_tbl := tz_8 238 rfl
theorem w8_239 : (Jvm.Cond.instanceMethod ({ cls := "HedgeNewsModel", name := "best", desc := "(I)I" } : Jvm.MethodName)) ∈ TB := tb_8 239 rfl rfl
theorem w9_0 : (Jvm.Cond.code ({ cls := "HedgeNewsModel", name := "best", desc := "(I)I" } : Jvm.MethodName) prog_15_method_85_code (5 : Nat) (Option.some Jvm.ClassFile.FieldType.int)) ∈ TB := tb_9 0 rfl rfl
theorem w9_1 : (Jvm.Cond.methodLink "HedgeNewsModel" (377 : Nat) ({ cls := "HedgeNewsModel$State", name := "allPetals", desc := "()I" } : Jvm.MethodName)) ∈ TB := tb_9 1 rfl rfl
theorem w9_2 : (Jvm.Cond.instanceMethod ({ cls := "HedgeNewsModel$State", name := "allPetals", desc := "()I" } : Jvm.MethodName)) ∈ TB := tb_9 2 rfl rfl
theorem w9_3 : (Jvm.Cond.selects "HedgeNewsModel$State" ({ cls := "HedgeNewsModel$State", name := "allPetals", desc := "()I" } : Jvm.MethodName) ({ cls := "HedgeNewsModel$State", name := "allPetals", desc := "()I" } : Jvm.MethodName)) ∈ TB := tb_9 3 rfl rfl
theorem w9_4 : (Jvm.Cond.code ({ cls := "HedgeNewsModel$State", name := "allPetals", desc := "()I" } : Jvm.MethodName) prog_17_method_14_code (3 : Nat) (Option.some Jvm.ClassFile.FieldType.int)) ∈ TB := tb_9 4 rfl rfl
theorem w9_5 : (Jvm.Cond.methodLink "HedgeNewsLaw" (220 : Nat) ({ cls := "HedgeNewsModel", name := "meanPetals", desc := "()D" } : Jvm.MethodName)) ∈ TB := tb_9 5 rfl rfl
theorem w9_6 : (Jvm.Cond.instanceMethod ({ cls := "HedgeNewsModel", name := "meanPetals", desc := "()D" } : Jvm.MethodName)) ∈ TB := tb_9 6 rfl rfl
theorem w9_7 : (Jvm.Cond.selects "HedgeNewsModel" ({ cls := "HedgeNewsModel", name := "meanPetals", desc := "()D" } : Jvm.MethodName) ({ cls := "HedgeNewsModel", name := "meanPetals", desc := "()D" } : Jvm.MethodName)) ∈ TB := tb_9 7 rfl rfl
theorem w9_8 : (Jvm.Cond.code ({ cls := "HedgeNewsModel", name := "meanPetals", desc := "()D" } : Jvm.MethodName) prog_15_method_87_code (1 : Nat) (Option.some Jvm.ClassFile.FieldType.double)) ∈ TB := tb_9 8 rfl rfl
theorem w9_9 : (Jvm.Cond.methodLink "HedgeNewsLaw" (225 : Nat) ({ cls := "HedgeNewsModel", name := "digest", desc := "()J" } : Jvm.MethodName)) ∈ TB := tb_9 9 rfl rfl
theorem w9_10 : (Jvm.Cond.instanceMethod ({ cls := "HedgeNewsModel", name := "digest", desc := "()J" } : Jvm.MethodName)) ∈ TB := tb_9 10 rfl rfl
theorem w9_11 : (Jvm.Cond.selects "HedgeNewsModel" ({ cls := "HedgeNewsModel", name := "digest", desc := "()J" } : Jvm.MethodName) ({ cls := "HedgeNewsModel", name := "digest", desc := "()J" } : Jvm.MethodName)) ∈ TB := tb_9 11 rfl rfl
theorem w9_12 : (Jvm.Cond.code ({ cls := "HedgeNewsModel", name := "digest", desc := "()J" } : Jvm.MethodName) prog_15_method_88_code (8 : Nat) (Option.some Jvm.ClassFile.FieldType.long)) ∈ TB := tb_9 12 rfl rfl
theorem w9_13 : (Jvm.Cond.constantLong "HedgeNewsModel" (383 : Nat) (1063 : Int64)) ∈ TB := tb_9 13 rfl rfl
theorem w9_14 : (Jvm.Cond.constantLong "HedgeNewsModel" (385 : Nat) (31 : Int64)) ∈ TB := tb_9 14 rfl rfl
theorem w9_15 : (Jvm.Cond.sameMethod "java/lang/Throwable" "java/lang/Throwable" "fillInStackTrace" "(I)Ljava/lang/Throwable;") ∈ TB := tb_9 15 rfl rfl
theorem w9_16 : (Jvm.Cond.fieldLink "HedgeNews$Kind" (155 : Nat) "HedgeNews$Kind" "key" "J") ∈ TB := tb_9 16 rfl rfl
theorem w9_17 : (Jvm.Cond.fieldLink "java/lang/Enum" (7 : Nat) "java/lang/Enum" "ordinal" "I") ∈ TB := tb_9 17 rfl rfl
theorem w9_18 : (Jvm.Cond.fieldLink "java/lang/String" (9 : Nat) "java/lang/String" "value" "[B") ∈ TB := tb_9 18 rfl rfl
theorem w9_19 : (Jvm.Cond.fieldLink "java/lang/String" (15 : Nat) "java/lang/String" "coder" "B") ∈ TB := tb_9 19 rfl rfl
theorem w9_20 : (Jvm.Cond.laysStatic "HedgeNews$Kind" "DAY" "LHedgeNews$Kind;") ∈ lw_tbl := tz_9 20 rfl
theorem w9_21 : (Jvm.Cond.laysStatic "HedgeNews$Kind" "CYCLES" "LHedgeNews$Kind;") ∈ lw_tbl := tz_9 21 rfl
theorem w9_22 : (Jvm.Cond.laysStatic "HedgeNews$Kind" "WHISPERS" "LHedgeNews$Kind;") ∈ lw_tbl := tz_9 22 rfl
theorem w9_23 : (Jvm.Cond.laysStatic "HedgeNews$Kind" "HEARD" "LHedgeNews$Kind;") ∈ lw_tbl := tz_9 23 rfl
theorem w9_24 : (Jvm.Cond.laysStatic "HedgeNews$Kind" "LATEST" "LHedgeNews$Kind;") ∈ lw_tbl := tz_9 24 rfl
theorem w9_25 : (Jvm.Cond.laysStatic "HedgeNews$Kind" "MIN" "LHedgeNews$Kind;") ∈ lw_tbl := tz_9 25 rfl
theorem w9_26 : (Jvm.Cond.laysStatic "HedgeNews$Kind" "MAX" "LHedgeNews$Kind;") ∈ lw_tbl := tz_9 26 rfl
theorem w9_27 : (Jvm.Cond.stringRef "HedgeNewsModel" (387 : Nat) "hedge") ∈ lw_tbl := tz_9 27 rfl
theorem w9_28 : (Jvm.Cond.stringRef "HedgeNewsModel" (389 : Nat) "hush") ∈ lw_tbl := tz_9 28 rfl
theorem w9_29 : (Jvm.Cond.stringRef "HedgeNewsModel" (390 : Nat) "rose") ∈ lw_tbl := tz_9 29 rfl
theorem w9_30 : (Jvm.Cond.stringRef "HedgeNewsModel" (392 : Nat) "patience") ∈ lw_tbl := tz_9 30 rfl
theorem w9_31 : (Jvm.Cond.stringRef "HedgeNewsModel" (393 : Nat) "listen") ∈ lw_tbl := tz_9 31 rfl
theorem w9_32 : (Jvm.Cond.stringRef "HedgeNewsModel" (394 : Nat) "leave") ∈ lw_tbl := tz_9 32 rfl
theorem w9_33 : (Jvm.Cond.stringRef "HedgeNewsModel" (396 : Nat) "to") ∈ lw_tbl := tz_9 33 rfl
theorem w9_34 : (Jvm.Cond.stringRef "HedgeNewsModel" (397 : Nat) "tell") ∈ lw_tbl := tz_9 34 rfl
theorem w9_35 : (Jvm.Cond.stringRef "HedgeNewsModel" (399 : Nat) "with") ∈ lw_tbl := tz_9 35 rfl
theorem w9_36 : (Jvm.Cond.stringRef "HedgeNewsModel" (401 : Nat) "when") ∈ lw_tbl := tz_9 36 rfl
theorem w9_37 : (Jvm.Cond.stringRef "HedgeNewsModel" (403 : Nat) "day") ∈ lw_tbl := tz_9 37 rfl
theorem w9_38 : (Jvm.Cond.stringRef "HedgeNewsModel" (404 : Nat) "cycles") ∈ lw_tbl := tz_9 38 rfl
theorem w9_39 : (Jvm.Cond.stringRef "HedgeNewsModel" (405 : Nat) "whispers") ∈ lw_tbl := tz_9 39 rfl
theorem w9_40 : (Jvm.Cond.stringRef "HedgeNewsModel" (406 : Nat) "heard") ∈ lw_tbl := tz_9 40 rfl
theorem w9_41 : (Jvm.Cond.stringRef "HedgeNewsModel" (407 : Nat) "latest") ∈ lw_tbl := tz_9 41 rfl
theorem w9_42 : (Jvm.Cond.stringRef "HedgeNewsModel" (408 : Nat) "petals") ∈ lw_tbl := tz_9 42 rfl
theorem w9_43 : (Jvm.Cond.stringRef "HedgeNewsModel" (409 : Nat) "of") ∈ lw_tbl := tz_9 43 rfl
theorem w9_44 : (Jvm.Cond.stringRef "HedgeNewsModel" (411 : Nat) "hears") ∈ lw_tbl := tz_9 44 rfl
theorem w9_45 : (Jvm.Cond.stringRef "HedgeNewsModel" (413 : Nat) "not") ∈ lw_tbl := tz_9 45 rfl
theorem w9_46 : (Jvm.Cond.stringRef "HedgeNewsModel" (415 : Nat) "and") ∈ lw_tbl := tz_9 46 rfl
theorem w9_47 : (Jvm.Cond.stringRef "HedgeNewsModel" (417 : Nat) "or") ∈ lw_tbl := tz_9 47 rfl
theorem w9_48 : (Jvm.Cond.stringRef "HedgeNewsModel" (419 : Nat) "min") ∈ lw_tbl := tz_9 48 rfl
theorem w9_49 : (Jvm.Cond.stringRef "HedgeNewsModel" (420 : Nat) "max") ∈ lw_tbl := tz_9 49 rfl
theorem w9_50 : (Jvm.Cond.arrayOver (Jvm.ClassFile.FieldType.object "java/lang/String")) ∈ lw_tbl := tz_9 50 rfl
