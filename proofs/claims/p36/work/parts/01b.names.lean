/-! ===== BEGIN printed: names, fields, word lists, decode rows ===== -/
def RX0 : String := "TwinSets$Cursor"
def TX0 : u_T := fun k => match k with
  | 0 => ("TwinSets$Cursor", "isInUse", "Z", false)
  | 1 => ("TwinSets$Cursor", "isOpen", "Z", false)
  | 2 => ("TwinSets$Cursor", "isStrict", "Z", false)
  | 3 => ("TwinSets$Cursor", "set", "I", false)
  | 4 => ("TwinSets$Cursor", "position", "I", false)
  | 5 => ("TwinSets$Cursor", "madeAt", "I", false)
  | 6 => ("TwinSets$Cursor", "metCount", "I", false)
  | _ => ("TwinSets$Cursor", "lastMet", "I", false)
def tyX0 : Nat → FieldType := fun k => match k with
  | 0 => .boolean
  | 1 => .boolean
  | 2 => .boolean
  | 3 => .int
  | 4 => .int
  | 5 => .int
  | 6 => .int
  | _ => .int
theorem nmX0 : ∀ a, a < 8 → ∀ b, b < 8 → a ≠ b → (TX0 a).2.1 ≠ (TX0 b).2.1 := by decide +kernel
theorem tyX0_ok : ∀ k, k < 8 → parseFieldDescriptor (TX0 k).2.2.1 = some (tyX0 k) := by decide +kernel
abbrev cX0_init : ByteArray := prog_2_method_1_code
def yX0_init : MethodName := ⟨RX0, "<init>", "()V"⟩
abbrev cX0_begin : ByteArray := prog_2_method_2_code
def yX0_begin : MethodName := ⟨RX0, "begin", "(IZI)V"⟩
abbrev cX0_copyFrom : ByteArray := prog_2_method_3_code
def yX0_copyFrom : MethodName := ⟨RX0, "copyFrom", "(LTwinSets$Cursor;)V"⟩
abbrev cX0_isOpenOn : ByteArray := prog_2_method_4_code
def yX0_isOpenOn : MethodName := ⟨RX0, "isOpenOn", "(I)Z"⟩
abbrev cX0_meets : ByteArray := prog_2_method_5_code
def yX0_meets : MethodName := ⟨RX0, "meets", "(I)Z"⟩
def RX1 : String := "TwinSets$Input"
def TX1 : u_T := fun k => match k with
  | 0 => ("TwinSets$Input", "bytes", "[B", true)
  | _ => ("TwinSets$Input", "length", "I", false)
def tyX1 : Nat → FieldType := fun k => match k with
  | 0 => .array .byte
  | _ => .int
theorem nmX1 : ∀ a, a < 2 → ∀ b, b < 2 → a ≠ b → (TX1 a).2.1 ≠ (TX1 b).2.1 := by decide +kernel
theorem tyX1_ok : ∀ k, k < 2 → parseFieldDescriptor (TX1 k).2.2.1 = some (tyX1 k) := by decide +kernel
abbrev cX1_init : ByteArray := prog_3_method_1_code
def yX1_init : MethodName := ⟨RX1, "<init>", "()V"⟩
abbrev cX1_takeFourBytes : ByteArray := prog_3_method_2_code
def yX1_takeFourBytes : MethodName := ⟨RX1, "takeFourBytes", "(I)V"⟩
abbrev cX1_holds : ByteArray := prog_3_method_4_code
def yX1_holds : MethodName := ⟨RX1, "holds", "(IILjava/lang/String;)Z"⟩
abbrev cX1_isBlank : ByteArray := prog_3_method_5_code
def yX1_isBlank : MethodName := ⟨RX1, "isBlank", "(I)Z"⟩
abbrev cX1_isLetter : ByteArray := prog_3_method_6_code
def yX1_isLetter : MethodName := ⟨RX1, "isLetter", "(I)Z"⟩
abbrev cX1_isDigit : ByteArray := prog_3_method_7_code
def yX1_isDigit : MethodName := ⟨RX1, "isDigit", "(I)Z"⟩
def RX2 : String := "TwinSets$Log"
def TX2 : u_T := fun k => match k with
  | 0 => ("TwinSets$Log", "stamps", "[I", true)
  | 1 => ("TwinSets$Log", "numbers", "[I", true)
  | 2 => ("TwinSets$Log", "kinds", "[I", true)
  | 3 => ("TwinSets$Log", "count", "I", false)
  | 4 => ("TwinSets$Log", "firstStamp", "I", false)
  | _ => ("TwinSets$Log", "bitsAtFirst", "J", false)
def tyX2 : Nat → FieldType := fun k => match k with
  | 0 => .array .int
  | 1 => .array .int
  | 2 => .array .int
  | 3 => .int
  | 4 => .int
  | _ => .long
theorem nmX2 : ∀ a, a < 6 → ∀ b, b < 6 → a ≠ b → (TX2 a).2.1 ≠ (TX2 b).2.1 := by decide +kernel
theorem tyX2_ok : ∀ k, k < 6 → parseFieldDescriptor (TX2 k).2.2.1 = some (tyX2 k) := by decide +kernel
abbrev cX2_init : ByteArray := prog_4_method_1_code
def yX2_init : MethodName := ⟨RX2, "<init>", "()V"⟩
abbrev cX2_begin : ByteArray := prog_4_method_2_code
def yX2_begin : MethodName := ⟨RX2, "begin", "()V"⟩
abbrev cX2_copyFrom : ByteArray := prog_4_method_3_code
def yX2_copyFrom : MethodName := ⟨RX2, "copyFrom", "(LTwinSets$Log;)V"⟩
abbrev cX2_note : ByteArray := prog_4_method_4_code
def yX2_note : MethodName := ⟨RX2, "note", "(IIII)V"⟩
abbrev cX2_bitsBehind : ByteArray := prog_4_method_5_code
def yX2_bitsBehind : MethodName := ⟨RX2, "bitsBehind", "(JI)J"⟩
abbrev cX2_bitsAt : ByteArray := prog_4_method_6_code
def yX2_bitsAt : MethodName := ⟨RX2, "bitsAt", "(I)J"⟩
abbrev cX2_latestChangeOf : ByteArray := prog_4_method_7_code
def yX2_latestChangeOf : MethodName := ⟨RX2, "latestChangeOf", "(I)I"⟩
abbrev cX2_stampOfMostMembers : ByteArray := prog_4_method_8_code
def yX2_stampOfMostMembers : MethodName := ⟨RX2, "stampOfMostMembers", "()I"⟩
def RX3 : String := "TwinSets$Parser"
def TX3 : u_T := fun k => match k with
  | 0 => ("TwinSets$Parser", "input", "LTwinSets$Input;", true)
  | 1 => ("TwinSets$Parser", "length", "I", true)
  | 2 => ("TwinSets$Parser", "state", "LTwinSets$State;", true)
  | 3 => ("TwinSets$Parser", "token", "LTwinSets$Token;", false)
  | 4 => ("TwinSets$Parser", "start", "I", false)
  | 5 => ("TwinSets$Parser", "end", "I", false)
  | 6 => ("TwinSets$Parser", "number", "I", false)
  | 7 => ("TwinSets$Parser", "errorCode", "I", false)
  | _ => ("TwinSets$Parser", "errorAt", "I", false)
def tyX3 : Nat → FieldType := fun k => match k with
  | 0 => .object "TwinSets$Input"
  | 1 => .int
  | 2 => .object "TwinSets$State"
  | 3 => .object "TwinSets$Token"
  | 4 => .int
  | 5 => .int
  | 6 => .int
  | 7 => .int
  | _ => .int
theorem nmX3 : ∀ a, a < 9 → ∀ b, b < 9 → a ≠ b → (TX3 a).2.1 ≠ (TX3 b).2.1 := by decide +kernel
theorem tyX3_ok : ∀ k, k < 9 → parseFieldDescriptor (TX3 k).2.2.1 = some (tyX3 k) := by decide +kernel
abbrev cX3_init : ByteArray := prog_5_method_1_code
def yX3_init : MethodName := ⟨RX3, "<init>", "(LTwinSets$Input;ILTwinSets$State;)V"⟩
abbrev cX3_readText : ByteArray := prog_5_method_2_code
def yX3_readText : MethodName := ⟨RX3, "readText", "()Z"⟩
abbrev cX3_readStatement : ByteArray := prog_5_method_3_code
def yX3_readStatement : MethodName := ⟨RX3, "readStatement", "()Z"⟩
abbrev cX3_readSet : ByteArray := prog_5_method_4_code
def yX3_readSet : MethodName := ⟨RX3, "readSet", "()Z"⟩
abbrev cX3_readMembers : ByteArray := prog_5_method_5_code
def yX3_readMembers : MethodName := ⟨RX3, "readMembers", "(Z)Z"⟩
abbrev cX3_readClear : ByteArray := prog_5_method_6_code
def yX3_readClear : MethodName := ⟨RX3, "readClear", "()Z"⟩
abbrev cX3_readMark : ByteArray := prog_5_method_7_code
def yX3_readMark : MethodName := ⟨RX3, "readMark", "()Z"⟩
abbrev cX3_readEarlierSet : ByteArray := prog_5_method_8_code
def yX3_readEarlierSet : MethodName := ⟨RX3, "readEarlierSet", "()I"⟩
abbrev cX3_isNumber : ByteArray := prog_5_method_9_code
def yX3_isNumber : MethodName := ⟨RX3, "isNumber", "(II)Z"⟩
abbrev cX3_passWord : ByteArray := prog_5_method_10_code
def yX3_passWord : MethodName := ⟨RX3, "passWord", "(Ljava/lang/String;)Z"⟩
abbrev cX3_passSemicolon : ByteArray := prog_5_method_11_code
def yX3_passSemicolon : MethodName := ⟨RX3, "passSemicolon", "()Z"⟩
abbrev cX3_fail : ByteArray := prog_5_method_12_code
def yX3_fail : MethodName := ⟨RX3, "fail", "(I)Z"⟩
abbrev cX3_isWord : ByteArray := prog_5_method_13_code
def yX3_isWord : MethodName := ⟨RX3, "isWord", "(Ljava/lang/String;)Z"⟩
abbrev cX3_wordText : ByteArray := prog_5_method_14_code
def yX3_wordText : MethodName := ⟨RX3, "wordText", "()Ljava/lang/String;"⟩
abbrev cX3_toNextToken : ByteArray := prog_5_method_15_code
def yX3_toNextToken : MethodName := ⟨RX3, "toNextToken", "()V"⟩
abbrev cX3_passLetters : ByteArray := prog_5_method_16_code
def yX3_passLetters : MethodName := ⟨RX3, "passLetters", "()V"⟩
abbrev cX3_passDigits : ByteArray := prog_5_method_17_code
def yX3_passDigits : MethodName := ⟨RX3, "passDigits", "()V"⟩
def RX4 : String := "TwinSets$SnapshotSlots"
def TX4 : u_T := fun k => match k with
  | 0 => ("TwinSets$SnapshotSlots", "states", "[LTwinSets$State;", true)
  | _ => ("TwinSets$SnapshotSlots", "isFull", "[Z", true)
def tyX4 : Nat → FieldType := fun k => match k with
  | 0 => .array (.object "TwinSets$State")
  | _ => .array .boolean
theorem nmX4 : ∀ a, a < 2 → ∀ b, b < 2 → a ≠ b → (TX4 a).2.1 ≠ (TX4 b).2.1 := by decide +kernel
theorem tyX4_ok : ∀ k, k < 2 → parseFieldDescriptor (TX4 k).2.2.1 = some (tyX4 k) := by decide +kernel
abbrev cX4_init : ByteArray := prog_6_method_1_code
def yX4_init : MethodName := ⟨RX4, "<init>", "()V"⟩
abbrev cX4_emptyAll : ByteArray := prog_6_method_4_code
def yX4_emptyAll : MethodName := ⟨RX4, "emptyAll", "()V"⟩
def RX5 : String := "TwinSets$State"
def TX5 : u_T := fun k => match k with
  | 0 => ("TwinSets$State", "sets", "[LTwinSets$TwinRows;", true)
  | 1 => ("TwinSets$State", "cursors", "[LTwinSets$Cursor;", true)
  | 2 => ("TwinSets$State", "marks", "[I", true)
  | 3 => ("TwinSets$State", "universe", "I", false)
  | 4 => ("TwinSets$State", "horizon", "I", false)
  | 5 => ("TwinSets$State", "setCount", "I", false)
  | 6 => ("TwinSets$State", "markCount", "I", false)
  | 7 => ("TwinSets$State", "clock", "I", false)
  | _ => ("TwinSets$State", "cost", "I", false)
def tyX5 : Nat → FieldType := fun k => match k with
  | 0 => .array (.object "TwinSets$TwinRows")
  | 1 => .array (.object "TwinSets$Cursor")
  | 2 => .array .int
  | 3 => .int
  | 4 => .int
  | 5 => .int
  | 6 => .int
  | 7 => .int
  | _ => .int
theorem nmX5 : ∀ a, a < 9 → ∀ b, b < 9 → a ≠ b → (TX5 a).2.1 ≠ (TX5 b).2.1 := by decide +kernel
theorem tyX5_ok : ∀ k, k < 9 → parseFieldDescriptor (TX5 k).2.2.1 = some (tyX5 k) := by decide +kernel
abbrev cX5_init : ByteArray := prog_7_method_1_code
def yX5_init : MethodName := ⟨RX5, "<init>", "()V"⟩
abbrev cX5_begin : ByteArray := prog_7_method_2_code
def yX5_begin : MethodName := ⟨RX5, "begin", "(II)V"⟩
abbrev cX5_beginSet : ByteArray := prog_7_method_3_code
def yX5_beginSet : MethodName := ⟨RX5, "beginSet", "(Ljava/lang/String;)V"⟩
abbrev cX5_copyFrom : ByteArray := prog_7_method_4_code
def yX5_copyFrom : MethodName := ⟨RX5, "copyFrom", "(LTwinSets$State;)V"⟩
abbrev cX5_hasNumber : ByteArray := prog_7_method_5_code
def yX5_hasNumber : MethodName := ⟨RX5, "hasNumber", "(I)Z"⟩
abbrev cX5_setNamed : ByteArray := prog_7_method_6_code
def yX5_setNamed : MethodName := ⟨RX5, "setNamed", "(LTwinSets$Input;II)I"⟩
abbrev cX5_bringIn : ByteArray := prog_7_method_7_code
def yX5_bringIn : MethodName := ⟨RX5, "bringIn", "(LTwinSets$TwinRows;I)Z"⟩
abbrev cX5_takeOut : ByteArray := prog_7_method_8_code
def yX5_takeOut : MethodName := ⟨RX5, "takeOut", "(II)Z"⟩
abbrev cX5_pullCursorsBack : ByteArray := prog_7_method_9_code
def yX5_pullCursorsBack : MethodName := ⟨RX5, "pullCursorsBack", "(II)Z"⟩
abbrev cX5_moveMember : ByteArray := prog_7_method_10_code
def yX5_moveMember : MethodName := ⟨RX5, "moveMember", "(LTwinSets$TwinRows;II)V"⟩
abbrev cX5_writeMember : ByteArray := prog_7_method_11_code
def yX5_writeMember : MethodName := ⟨RX5, "writeMember", "(LTwinSets$TwinRows;II)V"⟩
abbrev cX5_emptySet : ByteArray := prog_7_method_12_code
def yX5_emptySet : MethodName := ⟨RX5, "emptySet", "(I)V"⟩
abbrev cX5_makeMark : ByteArray := prog_7_method_13_code
def yX5_makeMark : MethodName := ⟨RX5, "makeMark", "()V"⟩
abbrev cX5_keepCommon : ByteArray := prog_7_method_14_code
def yX5_keepCommon : MethodName := ⟨RX5, "keepCommon", "(II)I"⟩
abbrev cX5_bringAll : ByteArray := prog_7_method_15_code
def yX5_bringAll : MethodName := ⟨RX5, "bringAll", "(II)I"⟩
abbrev cX5_freeCursor : ByteArray := prog_7_method_16_code
def yX5_freeCursor : MethodName := ⟨RX5, "freeCursor", "()I"⟩
abbrev cX5_countCursors : ByteArray := prog_7_method_17_code
def yX5_countCursors : MethodName := ⟨RX5, "countCursors", "()I"⟩
abbrev cX5_countOpenCursors : ByteArray := prog_7_method_18_code
def yX5_countOpenCursors : MethodName := ⟨RX5, "countOpenCursors", "(I)I"⟩
abbrev cX5_countAhead : ByteArray := prog_7_method_19_code
def yX5_countAhead : MethodName := ⟨RX5, "countAhead", "(LTwinSets$Cursor;)I"⟩
abbrev cX5_meetNext : ByteArray := prog_7_method_20_code
def yX5_meetNext : MethodName := ⟨RX5, "meetNext", "(LTwinSets$Cursor;)I"⟩
def RX6 : String := "TwinSets$Token"
def TX6 : u_T := fun k => match k with
  | _ => ("", "", "", false)
def tyX6 : Nat → FieldType := fun k => match k with
  | _ => .int
theorem nmX6 : ∀ a, a < 0 → ∀ b, b < 0 → a ≠ b → (TX6 a).2.1 ≠ (TX6 b).2.1 := by decide +kernel
theorem tyX6_ok : ∀ k, k < 0 → parseFieldDescriptor (TX6 k).2.2.1 = some (tyX6 k) := by decide +kernel
def RX7 : String := "TwinSets$TwinRows"
def TX7 : u_T := fun k => match k with
  | 0 => ("TwinSets$TwinRows", "members", "[I", true)
  | 1 => ("TwinSets$TwinRows", "places", "[I", true)
  | 2 => ("TwinSets$TwinRows", "stamps", "[I", true)
  | 3 => ("TwinSets$TwinRows", "log", "LTwinSets$Log;", true)
  | 4 => ("TwinSets$TwinRows", "name", "Ljava/lang/String;", false)
  | 5 => ("TwinSets$TwinRows", "size", "I", false)
  | _ => ("TwinSets$TwinRows", "generation", "I", false)
def tyX7 : Nat → FieldType := fun k => match k with
  | 0 => .array .int
  | 1 => .array .int
  | 2 => .array .int
  | 3 => .object "TwinSets$Log"
  | 4 => .object "java/lang/String"
  | 5 => .int
  | _ => .int
theorem nmX7 : ∀ a, a < 7 → ∀ b, b < 7 → a ≠ b → (TX7 a).2.1 ≠ (TX7 b).2.1 := by decide +kernel
theorem tyX7_ok : ∀ k, k < 7 → parseFieldDescriptor (TX7 k).2.2.1 = some (tyX7 k) := by decide +kernel
abbrev cX7_init : ByteArray := prog_9_method_1_code
def yX7_init : MethodName := ⟨RX7, "<init>", "()V"⟩
abbrev cX7_begin : ByteArray := prog_9_method_2_code
def yX7_begin : MethodName := ⟨RX7, "begin", "(Ljava/lang/String;)V"⟩
abbrev cX7_copyFrom : ByteArray := prog_9_method_3_code
def yX7_copyFrom : MethodName := ⟨RX7, "copyFrom", "(LTwinSets$TwinRows;)V"⟩
abbrev cX7_placeOf : ByteArray := prog_9_method_4_code
def yX7_placeOf : MethodName := ⟨RX7, "placeOf", "(I)I"⟩
abbrev cX7_has : ByteArray := prog_9_method_5_code
def yX7_has : MethodName := ⟨RX7, "has", "(I)Z"⟩
abbrev cX7_stampAt : ByteArray := prog_9_method_6_code
def yX7_stampAt : MethodName := ⟨RX7, "stampAt", "(I)I"⟩
abbrev cX7_bits : ByteArray := prog_9_method_7_code
def yX7_bits : MethodName := ⟨RX7, "bits", "()J"⟩
def RX8 : String := "TwinSets$UndoHistory"
def TX8 : u_T := fun k => match k with
  | 0 => ("TwinSets$UndoHistory", "states", "[LTwinSets$State;", true)
  | 1 => ("TwinSets$UndoHistory", "next", "I", false)
  | _ => ("TwinSets$UndoHistory", "count", "I", false)
def tyX8 : Nat → FieldType := fun k => match k with
  | 0 => .array (.object "TwinSets$State")
  | 1 => .int
  | _ => .int
theorem nmX8 : ∀ a, a < 3 → ∀ b, b < 3 → a ≠ b → (TX8 a).2.1 ≠ (TX8 b).2.1 := by decide +kernel
theorem tyX8_ok : ∀ k, k < 3 → parseFieldDescriptor (TX8 k).2.2.1 = some (tyX8 k) := by decide +kernel
abbrev cX8_init : ByteArray := prog_10_method_1_code
def yX8_init : MethodName := ⟨RX8, "<init>", "()V"⟩
abbrev cX8_remember : ByteArray := prog_10_method_2_code
def yX8_remember : MethodName := ⟨RX8, "remember", "(LTwinSets$State;)V"⟩
abbrev cX8_forgetAll : ByteArray := prog_10_method_4_code
def yX8_forgetAll : MethodName := ⟨RX8, "forgetAll", "()V"⟩
def RX9 : String := "TwinSets"
def TX9 : u_T := fun k => match k with
  | 0 => ("TwinSets", "input", "LTwinSets$Input;", true)
  | 1 => ("TwinSets", "history", "LTwinSets$UndoHistory;", true)
  | 2 => ("TwinSets", "slots", "LTwinSets$SnapshotSlots;", true)
  | 3 => ("TwinSets", "now", "LTwinSets$State;", false)
  | 4 => ("TwinSets", "draft", "LTwinSets$State;", false)
  | _ => ("TwinSets", "errorAt", "I", false)
def tyX9 : Nat → FieldType := fun k => match k with
  | 0 => .object "TwinSets$Input"
  | 1 => .object "TwinSets$UndoHistory"
  | 2 => .object "TwinSets$SnapshotSlots"
  | 3 => .object "TwinSets$State"
  | 4 => .object "TwinSets$State"
  | _ => .int
theorem nmX9 : ∀ a, a < 6 → ∀ b, b < 6 → a ≠ b → (TX9 a).2.1 ≠ (TX9 b).2.1 := by decide +kernel
theorem tyX9_ok : ∀ k, k < 6 → parseFieldDescriptor (TX9 k).2.2.1 = some (tyX9 k) := by decide +kernel
abbrev cX9_init : ByteArray := prog_1_method_1_code
def yX9_init : MethodName := ⟨RX9, "<init>", "()V"⟩
abbrev cX9_append : ByteArray := prog_1_method_2_code
def yX9_append : MethodName := ⟨RX9, "append", "(IIIII)I"⟩
abbrev cX9_parse : ByteArray := prog_1_method_3_code
def yX9_parse : MethodName := ⟨RX9, "parse", "(I)I"⟩
abbrev cX9_beginWithDraft : ByteArray := prog_1_method_4_code
def yX9_beginWithDraft : MethodName := ⟨RX9, "beginWithDraft", "()V"⟩
abbrev cX9_size : ByteArray := prog_1_method_6_code
def yX9_size : MethodName := ⟨RX9, "size", "(I)I"⟩
abbrev cX9_marked : ByteArray := prog_1_method_8_code
def yX9_marked : MethodName := ⟨RX9, "marked", "(I)I"⟩
abbrev cX9_set : ByteArray := prog_1_method_9_code
def yX9_set : MethodName := ⟨RX9, "set", "(II)I"⟩
abbrev cX9_cell : ByteArray := prog_1_method_10_code
def yX9_cell : MethodName := ⟨RX9, "cell", "(IIZ)I"⟩
abbrev cX9_place : ByteArray := prog_1_method_11_code
def yX9_place : MethodName := ⟨RX9, "place", "(II)I"⟩
abbrev cX9_stampOf : ByteArray := prog_1_method_12_code
def yX9_stampOf : MethodName := ⟨RX9, "stampOf", "(II)I"⟩
abbrev cX9_event : ByteArray := prog_1_method_13_code
def yX9_event : MethodName := ⟨RX9, "event", "(III)I"⟩
abbrev cX9_at : ByteArray := prog_1_method_14_code
def yX9_at : MethodName := ⟨RX9, "at", "(II)J"⟩
abbrev cX9_differs : ByteArray := prog_1_method_15_code
def yX9_differs : MethodName := ⟨RX9, "differs", "(IIIZ)I"⟩
abbrev cX9_since : ByteArray := prog_1_method_16_code
def yX9_since : MethodName := ⟨RX9, "since", "(II)I"⟩
abbrev cX9_fullest : ByteArray := prog_1_method_17_code
def yX9_fullest : MethodName := ⟨RX9, "fullest", "(I)I"⟩
abbrev cX9_cursor : ByteArray := prog_1_method_18_code
def yX9_cursor : MethodName := ⟨RX9, "cursor", "(II)I"⟩
abbrev cX9_ahead : ByteArray := prog_1_method_19_code
def yX9_ahead : MethodName := ⟨RX9, "ahead", "(I)I"⟩
abbrev cX9_common : ByteArray := prog_1_method_20_code
def yX9_common : MethodName := ⟨RX9, "common", "(II)I"⟩
abbrev cX9_isWithin : ByteArray := prog_1_method_21_code
def yX9_isWithin : MethodName := ⟨RX9, "isWithin", "(II)Z"⟩
abbrev cX9_likeness : ByteArray := prog_1_method_22_code
def yX9_likeness : MethodName := ⟨RX9, "likeness", "(II)D"⟩
abbrev cX9_add : ByteArray := prog_1_method_23_code
def yX9_add : MethodName := ⟨RX9, "add", "(II)I"⟩
abbrev cX9_remove : ByteArray := prog_1_method_24_code
def yX9_remove : MethodName := ⟨RX9, "remove", "(II)Z"⟩
abbrev cX9_clear : ByteArray := prog_1_method_25_code
def yX9_clear : MethodName := ⟨RX9, "clear", "(I)I"⟩
abbrev cX9_mark : ByteArray := prog_1_method_26_code
def yX9_mark : MethodName := ⟨RX9, "mark", "()I"⟩
abbrev cX9_open : ByteArray := prog_1_method_27_code
def yX9_open : MethodName := ⟨RX9, "open", "(IZ)I"⟩
abbrev cX9_close : ByteArray := prog_1_method_28_code
def yX9_close : MethodName := ⟨RX9, "close", "(I)I"⟩
abbrev cX9_step : ByteArray := prog_1_method_29_code
def yX9_step : MethodName := ⟨RX9, "step", "(I)I"⟩
abbrev cX9_removeMet : ByteArray := prog_1_method_30_code
def yX9_removeMet : MethodName := ⟨RX9, "removeMet", "(I)I"⟩
abbrev cX9_keep : ByteArray := prog_1_method_31_code
def yX9_keep : MethodName := ⟨RX9, "keep", "(II)I"⟩
abbrev cX9_unite : ByteArray := prog_1_method_32_code
def yX9_unite : MethodName := ⟨RX9, "unite", "(II)I"⟩
abbrev cX9_checkSet : ByteArray := prog_1_method_36_code
def yX9_checkSet : MethodName := ⟨RX9, "checkSet", "(I)V"⟩
abbrev cX9_rowsOf : ByteArray := prog_1_method_37_code
def yX9_rowsOf : MethodName := ⟨RX9, "rowsOf", "(I)LTwinSets$TwinRows;"⟩
abbrev cX9_cursorOf : ByteArray := prog_1_method_38_code
def yX9_cursorOf : MethodName := ⟨RX9, "cursorOf", "(I)LTwinSets$Cursor;"⟩
abbrev cX9_checkNumber : ByteArray := prog_1_method_39_code
def yX9_checkNumber : MethodName := ⟨RX9, "checkNumber", "(I)V"⟩
abbrev cX9_checkStamp : ByteArray := prog_1_method_40_code
def yX9_checkStamp : MethodName := ⟨RX9, "checkStamp", "(LTwinSets$Log;I)V"⟩
def RX10 : String := "TwinSetsLaw$Box"
def TX10 : u_T := fun k => match k with
  | 0 => ("TwinSetsLaw$Box", "size", "I", false)
  | 1 => ("TwinSetsLaw$Box", "generation", "I", false)
  | 2 => ("TwinSetsLaw$Box", "events", "I", false)
  | 3 => ("TwinSetsLaw$Box", "members", "[I", true)
  | 4 => ("TwinSetsLaw$Box", "places", "[I", true)
  | 5 => ("TwinSetsLaw$Box", "stamps", "[I", true)
  | 6 => ("TwinSetsLaw$Box", "stamp", "[I", true)
  | 7 => ("TwinSetsLaw$Box", "number", "[I", true)
  | 8 => ("TwinSetsLaw$Box", "kind", "[I", true)
  | _ => ("TwinSetsLaw$Box", "then", "[J", true)
def tyX10 : Nat → FieldType := fun k => match k with
  | 0 => .int
  | 1 => .int
  | 2 => .int
  | 3 => .array .int
  | 4 => .array .int
  | 5 => .array .int
  | 6 => .array .int
  | 7 => .array .int
  | 8 => .array .int
  | _ => .array .long
theorem nmX10 : ∀ a, a < 10 → ∀ b, b < 10 → a ≠ b → (TX10 a).2.1 ≠ (TX10 b).2.1 := by decide +kernel
theorem tyX10_ok : ∀ k, k < 10 → parseFieldDescriptor (TX10 k).2.2.1 = some (tyX10 k) := by decide +kernel
abbrev cX10_init : ByteArray := prog_12_method_1_code
def yX10_init : MethodName := ⟨RX10, "<init>", "()V"⟩
abbrev cX10_has : ByteArray := prog_12_method_2_code
def yX10_has : MethodName := ⟨RX10, "has", "(I)Z"⟩
abbrev cX10_bits : ByteArray := prog_12_method_3_code
def yX10_bits : MethodName := ⟨RX10, "bits", "()J"⟩
abbrev cX10_note : ByteArray := prog_12_method_4_code
def yX10_note : MethodName := ⟨RX10, "note", "(III)V"⟩
abbrev cX10_kept : ByteArray := prog_12_method_5_code
def yX10_kept : MethodName := ⟨RX10, "kept", "(I)I"⟩
abbrev cX10_first : ByteArray := prog_12_method_6_code
def yX10_first : MethodName := ⟨RX10, "first", "(I)I"⟩
abbrev cX10_at : ByteArray := prog_12_method_7_code
def yX10_at : MethodName := ⟨RX10, "at", "(I)J"⟩
def RX11 : String := "TwinSetsLaw$Cursor"
def TX11 : u_T := fun k => match k with
  | 0 => ("TwinSetsLaw$Cursor", "of", "LTwinSetsLaw$Box;", false)
  | 1 => ("TwinSetsLaw$Cursor", "set", "I", false)
  | 2 => ("TwinSetsLaw$Cursor", "position", "I", false)
  | 3 => ("TwinSetsLaw$Cursor", "made", "I", false)
  | 4 => ("TwinSetsLaw$Cursor", "met", "I", false)
  | 5 => ("TwinSetsLaw$Cursor", "last", "I", false)
  | 6 => ("TwinSetsLaw$Cursor", "open", "Z", false)
  | _ => ("TwinSetsLaw$Cursor", "strict", "Z", false)
def tyX11 : Nat → FieldType := fun k => match k with
  | 0 => .object "TwinSetsLaw$Box"
  | 1 => .int
  | 2 => .int
  | 3 => .int
  | 4 => .int
  | 5 => .int
  | 6 => .boolean
  | _ => .boolean
theorem nmX11 : ∀ a, a < 8 → ∀ b, b < 8 → a ≠ b → (TX11 a).2.1 ≠ (TX11 b).2.1 := by decide +kernel
theorem tyX11_ok : ∀ k, k < 8 → parseFieldDescriptor (TX11 k).2.2.1 = some (tyX11 k) := by decide +kernel
abbrev cX11_init : ByteArray := prog_13_method_1_code
def yX11_init : MethodName := ⟨RX11, "<init>", "()V"⟩
abbrev cX11_meets : ByteArray := prog_13_method_2_code
def yX11_meets : MethodName := ⟨RX11, "meets", "(I)Z"⟩
def RX12 : String := "TwinSetsLaw$Sets"
def TX12 : u_T := fun k => match k with
  | 0 => ("TwinSetsLaw$Sets", "many", "I", false)
  | 1 => ("TwinSetsLaw$Sets", "universe", "I", false)
  | 2 => ("TwinSetsLaw$Sets", "horizon", "I", false)
  | 3 => ("TwinSetsLaw$Sets", "clock", "I", false)
  | 4 => ("TwinSetsLaw$Sets", "cost", "I", false)
  | 5 => ("TwinSetsLaw$Sets", "marks", "I", false)
  | 6 => ("TwinSetsLaw$Sets", "box", "[LTwinSetsLaw$Box;", true)
  | 7 => ("TwinSetsLaw$Sets", "cursor", "[LTwinSetsLaw$Cursor;", true)
  | _ => ("TwinSetsLaw$Sets", "mark", "[I", true)
def tyX12 : Nat → FieldType := fun k => match k with
  | 0 => .int
  | 1 => .int
  | 2 => .int
  | 3 => .int
  | 4 => .int
  | 5 => .int
  | 6 => .array (.object "TwinSetsLaw$Box")
  | 7 => .array (.object "TwinSetsLaw$Cursor")
  | _ => .array .int
theorem nmX12 : ∀ a, a < 9 → ∀ b, b < 9 → a ≠ b → (TX12 a).2.1 ≠ (TX12 b).2.1 := by decide +kernel
theorem tyX12_ok : ∀ k, k < 9 → parseFieldDescriptor (TX12 k).2.2.1 = some (tyX12 k) := by decide +kernel
abbrev cX12_init : ByteArray := prog_14_method_1_code
def yX12_init : MethodName := ⟨RX12, "<init>", "()V"⟩
abbrev cX12_put : ByteArray := prog_14_method_2_code
def yX12_put : MethodName := ⟨RX12, "put", "(LTwinSetsLaw$Box;II)V"⟩
abbrev cX12_add : ByteArray := prog_14_method_3_code
def yX12_add : MethodName := ⟨RX12, "add", "(LTwinSetsLaw$Box;I)V"⟩
abbrev cX12_remove : ByteArray := prog_14_method_4_code
def yX12_remove : MethodName := ⟨RX12, "remove", "(LTwinSetsLaw$Box;I)Z"⟩
abbrev cX12_clear : ByteArray := prog_14_method_5_code
def yX12_clear : MethodName := ⟨RX12, "clear", "(LTwinSetsLaw$Box;)I"⟩
abbrev cX12_step : ByteArray := prog_14_method_6_code
def yX12_step : MethodName := ⟨RX12, "step", "(LTwinSetsLaw$Cursor;)I"⟩
abbrev cX12_cursors : ByteArray := prog_14_method_7_code
def yX12_cursors : MethodName := ⟨RX12, "cursors", "()I"⟩
def RX13 : String := "TwinSetsModel"
def TX13 : u_T := fun k => match k with
  | _ => ("", "", "", false)
def tyX13 : Nat → FieldType := fun k => match k with
  | _ => .int
theorem nmX13 : ∀ a, a < 0 → ∀ b, b < 0 → a ≠ b → (TX13 a).2.1 ≠ (TX13 b).2.1 := by decide +kernel
theorem tyX13_ok : ∀ k, k < 0 → parseFieldDescriptor (TX13 k).2.2.1 = some (tyX13 k) := by decide +kernel
def RJx145de : String := "java/io/Serializable"
def TJx145de : u_T := fun k => match k with
  | _ => ("", "", "", false)
def tyJx145de : Nat → FieldType := fun k => match k with
  | _ => .int
theorem nmJx145de : ∀ a, a < 0 → ∀ b, b < 0 → a ≠ b → (TJx145de a).2.1 ≠ (TJx145de b).2.1 := by decide +kernel
theorem tyJx145de_ok : ∀ k, k < 0 → parseFieldDescriptor (TJx145de k).2.2.1 = some (tyJx145de k) := by decide +kernel
def RJ5 : String := "java/lang/AbstractStringBuilder"
def TJ5 : u_T := fun k => match k with
  | _ => ("", "", "", false)
def tyJ5 : Nat → FieldType := fun k => match k with
  | _ => .int
theorem nmJ5 : ∀ a, a < 0 → ∀ b, b < 0 → a ≠ b → (TJ5 a).2.1 ≠ (TJ5 b).2.1 := by decide +kernel
theorem tyJ5_ok : ∀ k, k < 0 → parseFieldDescriptor (TJ5 k).2.2.1 = some (tyJ5 k) := by decide +kernel
abbrev cJ5_init_d00df : ByteArray := prog_16_method_2_code
def yJ5_init_d00df : MethodName := ⟨RJ5, "<init>", "(I)V"⟩
abbrev cJ5_init_a7421 : ByteArray := prog_16_method_3_code
def yJ5_init_a7421 : MethodName := ⟨RJ5, "<init>", "(Ljava/lang/String;)V"⟩
abbrev cJ5_length_8abf5 : ByteArray := prog_16_method_6_code
def yJ5_length_8abf5 : MethodName := ⟨RJ5, "length", "()I"⟩
abbrev cJ5_ensureCapacityInternal_d00df : ByteArray := prog_16_method_9_code
def yJ5_ensureCapacityInternal_d00df : MethodName := ⟨RJ5, "ensureCapacityInternal", "(I)V"⟩
abbrev cJ5_newCapacity_0f7a4 : ByteArray := prog_16_method_10_code
def yJ5_newCapacity_0f7a4 : MethodName := ⟨RJ5, "newCapacity", "(I)I"⟩
abbrev cJ5_inflate_da8c8 : ByteArray := prog_16_method_11_code
def yJ5_inflate_da8c8 : MethodName := ⟨RJ5, "inflate", "()V"⟩
abbrev cJ5_append_cf1ce : ByteArray := prog_16_method_22_code
def yJ5_append_cf1ce : MethodName := ⟨RJ5, "append", "(Ljava/lang/String;)Ljava/lang/AbstractStringBuilder;"⟩
abbrev cJ5_appendNull_278bc : ByteArray := prog_16_method_26_code
def yJ5_appendNull_278bc : MethodName := ⟨RJ5, "appendNull", "()Ljava/lang/AbstractStringBuilder;"⟩
abbrev cJ5_append_3fe6f : ByteArray := prog_16_method_31_code
def yJ5_append_3fe6f : MethodName := ⟨RJ5, "append", "(C)Ljava/lang/AbstractStringBuilder;"⟩
abbrev cJ5_append_c97b9 : ByteArray := prog_16_method_32_code
def yJ5_append_c97b9 : MethodName := ⟨RJ5, "append", "(I)Ljava/lang/AbstractStringBuilder;"⟩
abbrev cJ5_getValue_6d5f1 : ByteArray := prog_16_method_64_code
def yJ5_getValue_6d5f1 : MethodName := ⟨RJ5, "getValue", "()[B"⟩
abbrev cJ5_isLatin1_aae02 : ByteArray := prog_16_method_68_code
def yJ5_isLatin1_aae02 : MethodName := ⟨RJ5, "isLatin1", "()Z"⟩
abbrev cJ5_inflateIfNeededFor_a7421 : ByteArray := prog_16_method_71_code
def yJ5_inflateIfNeededFor_a7421 : MethodName := ⟨RJ5, "inflateIfNeededFor", "(Ljava/lang/String;)V"⟩
abbrev cJ5_putStringAt_47b60 : ByteArray := prog_16_method_73_code
def yJ5_putStringAt_47b60 : MethodName := ⟨RJ5, "putStringAt", "(ILjava/lang/String;)V"⟩
def RJx2cfe8 : String := "java/lang/Appendable"
def TJx2cfe8 : u_T := fun k => match k with
  | _ => ("", "", "", false)
def tyJx2cfe8 : Nat → FieldType := fun k => match k with
  | _ => .int
theorem nmJx2cfe8 : ∀ a, a < 0 → ∀ b, b < 0 → a ≠ b → (TJx2cfe8 a).2.1 ≠ (TJx2cfe8 b).2.1 := by decide +kernel
theorem tyJx2cfe8_ok : ∀ k, k < 0 → parseFieldDescriptor (TJx2cfe8 k).2.2.1 = some (tyJx2cfe8 k) := by decide +kernel
def RJx9f9b0 : String := "java/lang/CharSequence"
def TJx9f9b0 : u_T := fun k => match k with
  | _ => ("", "", "", false)
def tyJx9f9b0 : Nat → FieldType := fun k => match k with
  | _ => .int
theorem nmJx9f9b0 : ∀ a, a < 0 → ∀ b, b < 0 → a ≠ b → (TJx9f9b0 a).2.1 ≠ (TJx9f9b0 b).2.1 := by decide +kernel
theorem tyJx9f9b0_ok : ∀ k, k < 0 → parseFieldDescriptor (TJx9f9b0 k).2.2.1 = some (tyJx9f9b0 k) := by decide +kernel
def RJx8e188 : String := "java/lang/Cloneable"
def TJx8e188 : u_T := fun k => match k with
  | _ => ("", "", "", false)
def tyJx8e188 : Nat → FieldType := fun k => match k with
  | _ => .int
theorem nmJx8e188 : ∀ a, a < 0 → ∀ b, b < 0 → a ≠ b → (TJx8e188 a).2.1 ≠ (TJx8e188 b).2.1 := by decide +kernel
theorem tyJx8e188_ok : ∀ k, k < 0 → parseFieldDescriptor (TJx8e188 k).2.2.1 = some (tyJx8e188 k) := by decide +kernel
def RJxb160c : String := "java/lang/Comparable"
def TJxb160c : u_T := fun k => match k with
  | _ => ("", "", "", false)
def tyJxb160c : Nat → FieldType := fun k => match k with
  | _ => .int
theorem nmJxb160c : ∀ a, a < 0 → ∀ b, b < 0 → a ≠ b → (TJxb160c a).2.1 ≠ (TJxb160c b).2.1 := by decide +kernel
theorem tyJxb160c_ok : ∀ k, k < 0 → parseFieldDescriptor (TJxb160c k).2.2.1 = some (tyJxb160c k) := by decide +kernel
def RJx29ce0 : String := "java/lang/Enum"
def TJx29ce0 : u_T := fun k => match k with
  | _ => ("", "", "", false)
def tyJx29ce0 : Nat → FieldType := fun k => match k with
  | _ => .int
theorem nmJx29ce0 : ∀ a, a < 0 → ∀ b, b < 0 → a ≠ b → (TJx29ce0 a).2.1 ≠ (TJx29ce0 b).2.1 := by decide +kernel
theorem tyJx29ce0_ok : ∀ k, k < 0 → parseFieldDescriptor (TJx29ce0 k).2.2.1 = some (tyJx29ce0 k) := by decide +kernel
def RJ6 : String := "java/lang/Integer"
def TJ6 : u_T := fun k => match k with
  | _ => ("", "", "", false)
def tyJ6 : Nat → FieldType := fun k => match k with
  | _ => .int
theorem nmJ6 : ∀ a, a < 0 → ∀ b, b < 0 → a ≠ b → (TJ6 a).2.1 ≠ (TJ6 b).2.1 := by decide +kernel
theorem tyJ6_ok : ∀ k, k < 0 → parseFieldDescriptor (TJ6 k).2.2.1 = some (tyJ6 k) := by decide +kernel
abbrev cJ6_getChars_ba4f3 : ByteArray := prog_23_method_12_code
def yJ6_getChars_ba4f3 : MethodName := ⟨RJ6, "getChars", "(II[B)I"⟩
abbrev cJ6_stringSize_0f7a4 : ByteArray := prog_23_method_13_code
def yJ6_stringSize_0f7a4 : MethodName := ⟨RJ6, "stringSize", "(I)I"⟩
def RJ13 : String := "java/lang/Long"
def TJ13 : u_T := fun k => match k with
  | _ => ("", "", "", false)
def tyJ13 : Nat → FieldType := fun k => match k with
  | _ => .int
theorem nmJ13 : ∀ a, a < 0 → ∀ b, b < 0 → a ≠ b → (TJ13 a).2.1 ≠ (TJ13 b).2.1 := by decide +kernel
theorem tyJ13_ok : ∀ k, k < 0 → parseFieldDescriptor (TJ13 k).2.2.1 = some (tyJ13 k) := by decide +kernel
abbrev cJ13_bitCount_95d88 : ByteArray := prog_24_method_50_code
def yJ13_bitCount_95d88 : MethodName := ⟨RJ13, "bitCount", "(J)I"⟩
def RJ9 : String := "java/lang/Math"
def TJ9 : u_T := fun k => match k with
  | _ => ("", "", "", false)
def tyJ9 : Nat → FieldType := fun k => match k with
  | _ => .int
theorem nmJ9 : ∀ a, a < 0 → ∀ b, b < 0 → a ≠ b → (TJ9 a).2.1 ≠ (TJ9 b).2.1 := by decide +kernel
theorem tyJ9_ok : ∀ k, k < 0 → parseFieldDescriptor (TJ9 k).2.2.1 = some (tyJ9 k) := by decide +kernel
abbrev cJ9_max_7cf53 : ByteArray := prog_25_method_65_code
def yJ9_max_7cf53 : MethodName := ⟨RJ9, "max", "(II)I"⟩
abbrev cJ9_min_7cf53 : ByteArray := prog_25_method_69_code
def yJ9_min_7cf53 : MethodName := ⟨RJ9, "min", "(II)I"⟩
def RJxd2413 : String := "java/lang/Number"
def TJxd2413 : u_T := fun k => match k with
  | _ => ("", "", "", false)
def tyJxd2413 : Nat → FieldType := fun k => match k with
  | _ => .int
theorem nmJxd2413 : ∀ a, a < 0 → ∀ b, b < 0 → a ≠ b → (TJxd2413 a).2.1 ≠ (TJxd2413 b).2.1 := by decide +kernel
theorem tyJxd2413_ok : ∀ k, k < 0 → parseFieldDescriptor (TJxd2413 k).2.2.1 = some (tyJxd2413 k) := by decide +kernel
def RJ0 : String := "java/lang/String"
def TJ0 : u_T := fun k => match k with
  | 0 => ("java/lang/String", "value", "[B", true)
  | 1 => ("java/lang/String", "coder", "B", true)
  | 2 => ("java/lang/String", "hash", "I", false)
  | _ => ("java/lang/String", "hashIsZero", "Z", false)
def tyJ0 : Nat → FieldType := fun k => match k with
  | 0 => .array .byte
  | 1 => .byte
  | 2 => .int
  | _ => .boolean
theorem nmJ0 : ∀ a, a < 4 → ∀ b, b < 4 → a ≠ b → (TJ0 a).2.1 ≠ (TJ0 b).2.1 := by decide +kernel
theorem tyJ0_ok : ∀ k, k < 4 → parseFieldDescriptor (TJ0 k).2.2.1 = some (tyJ0 k) := by decide +kernel
abbrev cJ0_init_81219 : ByteArray := prog_28_method_53_code
def yJ0_init_81219 : MethodName := ⟨RJ0, "<init>", "(Ljava/lang/StringBuilder;)V"⟩
abbrev cJ0_length_8abf5 : ByteArray := prog_28_method_54_code
def yJ0_length_8abf5 : MethodName := ⟨RJ0, "length", "()I"⟩
abbrev cJ0_charAt_5068e : ByteArray := prog_28_method_56_code
def yJ0_charAt_5068e : MethodName := ⟨RJ0, "charAt", "(I)C"⟩
abbrev cJ0_getBytes_840e7 : ByteArray := prog_28_method_147_code
def yJ0_getBytes_840e7 : MethodName := ⟨RJ0, "getBytes", "([BIB)V"⟩
abbrev cJ0_init_db425 : ByteArray := prog_28_method_150_code
def yJ0_init_db425 : MethodName := ⟨RJ0, "<init>", "(Ljava/lang/AbstractStringBuilder;Ljava/lang/Void;)V"⟩
abbrev cJ0_coder_7d493 : ByteArray := prog_28_method_152_code
def yJ0_coder_7d493 : MethodName := ⟨RJ0, "coder", "()B"⟩
abbrev cJ0_isLatin1_aae02 : ByteArray := prog_28_method_154_code
def yJ0_isLatin1_aae02 : MethodName := ⟨RJ0, "isLatin1", "()Z"⟩
abbrev cJ0_checkIndex_df160 : ByteArray := prog_28_method_155_code
def yJ0_checkIndex_df160 : MethodName := ⟨RJ0, "checkIndex", "(II)V"⟩
abbrev cJ0_checkBoundsOffCount_cabcc : ByteArray := prog_28_method_157_code
def yJ0_checkBoundsOffCount_cabcc : MethodName := ⟨RJ0, "checkBoundsOffCount", "(III)I"⟩
abbrev cJ0_checkBoundsBeginEnd_23922 : ByteArray := prog_28_method_158_code
def yJ0_checkBoundsBeginEnd_23922 : MethodName := ⟨RJ0, "checkBoundsBeginEnd", "(III)V"⟩
def RJ4 : String := "java/lang/StringBuilder"
def TJ4 : u_T := fun k => match k with
  | 0 => ("java/lang/AbstractStringBuilder", "value", "[B", false)
  | 1 => ("java/lang/AbstractStringBuilder", "coder", "B", false)
  | 2 => ("java/lang/AbstractStringBuilder", "maybeLatin1", "Z", false)
  | _ => ("java/lang/AbstractStringBuilder", "count", "I", false)
def tyJ4 : Nat → FieldType := fun k => match k with
  | 0 => .array .byte
  | 1 => .byte
  | 2 => .boolean
  | _ => .int
theorem nmJ4 : ∀ a, a < 4 → ∀ b, b < 4 → a ≠ b → (TJ4 a).2.1 ≠ (TJ4 b).2.1 := by decide +kernel
theorem tyJ4_ok : ∀ k, k < 4 → parseFieldDescriptor (TJ4 k).2.2.1 = some (tyJ4 k) := by decide +kernel
abbrev cJ4_init_da8c8 : ByteArray := prog_29_method_1_code
def yJ4_init_da8c8 : MethodName := ⟨RJ4, "<init>", "()V"⟩
abbrev cJ4_init_a7421 : ByteArray := prog_29_method_3_code
def yJ4_init_a7421 : MethodName := ⟨RJ4, "<init>", "(Ljava/lang/String;)V"⟩
abbrev cJ4_append_15ec4 : ByteArray := prog_29_method_7_code
def yJ4_append_15ec4 : MethodName := ⟨RJ4, "append", "(Ljava/lang/String;)Ljava/lang/StringBuilder;"⟩
abbrev cJ4_append_cf468 : ByteArray := prog_29_method_14_code
def yJ4_append_cf468 : MethodName := ⟨RJ4, "append", "(C)Ljava/lang/StringBuilder;"⟩
abbrev cJ4_append_bf812 : ByteArray := prog_29_method_15_code
def yJ4_append_bf812 : MethodName := ⟨RJ4, "append", "(I)Ljava/lang/StringBuilder;"⟩
abbrev cJ4_toString_0e30d : ByteArray := prog_29_method_42_code
def yJ4_toString_0e30d : MethodName := ⟨RJ4, "toString", "()Ljava/lang/String;"⟩
abbrev cJ4_append_cf1ce : ByteArray := prog_29_method_80_code
def yJ4_append_cf1ce : MethodName := ⟨RJ4, "append", "(Ljava/lang/String;)Ljava/lang/AbstractStringBuilder;"⟩
abbrev cJ4_length_8abf5 : ByteArray := prog_29_method_93_code
def yJ4_length_8abf5 : MethodName := ⟨RJ4, "length", "()I"⟩
def RJ1 : String := "java/lang/StringLatin1"
def TJ1 : u_T := fun k => match k with
  | _ => ("", "", "", false)
def tyJ1 : Nat → FieldType := fun k => match k with
  | _ => .int
theorem nmJ1 : ∀ a, a < 0 → ∀ b, b < 0 → a ≠ b → (TJ1 a).2.1 ≠ (TJ1 b).2.1 := by decide +kernel
theorem tyJ1_ok : ∀ k, k < 0 → parseFieldDescriptor (TJ1 k).2.2.1 = some (tyJ1 k) := by decide +kernel
abbrev cJ1_charAt_3b067 : ByteArray := prog_30_method_2_code
def yJ1_charAt_3b067 : MethodName := ⟨RJ1, "charAt", "([BI)C"⟩
abbrev cJ1_canEncode_fc78d : ByteArray := prog_30_method_3_code
def yJ1_canEncode_fc78d : MethodName := ⟨RJ1, "canEncode", "(C)Z"⟩
abbrev cJ1_inflate_0e8fd : ByteArray := prog_30_method_50_code
def yJ1_inflate_0e8fd : MethodName := ⟨RJ1, "inflate", "([BI[BII)V"⟩
def RJ2 : String := "java/lang/StringUTF16"
def TJ2 : u_T := fun k => match k with
  | _ => ("", "", "", false)
def tyJ2 : Nat → FieldType := fun k => match k with
  | _ => .int
theorem nmJ2 : ∀ a, a < 0 → ∀ b, b < 0 → a ≠ b → (TJ2 a).2.1 ≠ (TJ2 b).2.1 := by decide +kernel
theorem tyJ2_ok : ∀ k, k < 0 → parseFieldDescriptor (TJ2 k).2.2.1 = some (tyJ2 k) := by decide +kernel
abbrev cJ2_newBytesFor_77867 : ByteArray := prog_31_method_2_code
def yJ2_newBytesFor_77867 : MethodName := ⟨RJ2, "newBytesFor", "(I)[B"⟩
abbrev cJ2_newBytesLength_0f7a4 : ByteArray := prog_31_method_3_code
def yJ2_newBytesLength_0f7a4 : MethodName := ⟨RJ2, "newBytesLength", "(I)I"⟩
abbrev cJ2_putChar_b72d1 : ByteArray := prog_31_method_4_code
def yJ2_putChar_b72d1 : MethodName := ⟨RJ2, "putChar", "([BII)V"⟩
abbrev cJ2_getChar_3b067 : ByteArray := prog_31_method_5_code
def yJ2_getChar_3b067 : MethodName := ⟨RJ2, "getChar", "([BI)C"⟩
abbrev cJ2_length_9d52b : ByteArray := prog_31_method_6_code
def yJ2_length_9d52b : MethodName := ⟨RJ2, "length", "([B)I"⟩
abbrev cJ2_coderFromArrayLen_85cad : ByteArray := prog_31_method_15_code
def yJ2_coderFromArrayLen_85cad : MethodName := ⟨RJ2, "coderFromArrayLen", "([BI)B"⟩
abbrev cJ2_compress_39247 : ByteArray := prog_31_method_17_code
def yJ2_compress_39247 : MethodName := ⟨RJ2, "compress", "([BII)[B"⟩
abbrev cJ2_compress_5af95 : ByteArray := prog_31_method_22_code
def yJ2_compress_5af95 : MethodName := ⟨RJ2, "compress", "([BI[BII)I"⟩
abbrev cJ2_putCharSB_b72d1 : ByteArray := prog_31_method_71_code
def yJ2_putCharSB_b72d1 : MethodName := ⟨RJ2, "putCharSB", "([BII)V"⟩
abbrev cJ2_getChars_46870 : ByteArray := prog_31_method_77_code
def yJ2_getChars_46870 : MethodName := ⟨RJ2, "getChars", "(III[B)I"⟩
abbrev cJ2_putCharsAt_cd4e5 : ByteArray := prog_31_method_81_code
def yJ2_putCharsAt_cd4e5 : MethodName := ⟨RJ2, "putCharsAt", "([BICCCC)I"⟩
abbrev cJ2_charAt_3b067 : ByteArray := prog_31_method_83_code
def yJ2_charAt_3b067 : MethodName := ⟨RJ2, "charAt", "([BI)C"⟩
abbrev cJ2_inflate_0e8fd : ByteArray := prog_31_method_86_code
def yJ2_inflate_0e8fd : MethodName := ⟨RJ2, "inflate", "([BI[BII)V"⟩
abbrev cJ2_getChars_ba4f3 : ByteArray := prog_31_method_89_code
def yJ2_getChars_ba4f3 : MethodName := ⟨RJ2, "getChars", "(II[B)I"⟩
abbrev cJ2_checkIndex_2214a : ByteArray := prog_31_method_91_code
def yJ2_checkIndex_2214a : MethodName := ⟨RJ2, "checkIndex", "(I[B)V"⟩
abbrev cJ2_checkBoundsBeginEnd_d044e : ByteArray := prog_31_method_93_code
def yJ2_checkBoundsBeginEnd_d044e : MethodName := ⟨RJ2, "checkBoundsBeginEnd", "(II[B)V"⟩
abbrev cJ2_checkBoundsOffCount_d044e : ByteArray := prog_31_method_94_code
def yJ2_checkBoundsOffCount_d044e : MethodName := ⟨RJ2, "checkBoundsOffCount", "(II[B)V"⟩
def RJ10 : String := "java/lang/System"
def TJ10 : u_T := fun k => match k with
  | _ => ("", "", "", false)
def tyJ10 : Nat → FieldType := fun k => match k with
  | _ => .int
theorem nmJ10 : ∀ a, a < 0 → ∀ b, b < 0 → a ≠ b → (TJ10 a).2.1 ≠ (TJ10 b).2.1 := by decide +kernel
theorem tyJ10_ok : ∀ k, k < 0 → parseFieldDescriptor (TJ10 k).2.2.1 = some (tyJ10 k) := by decide +kernel
def RJxfd54e : String := "java/lang/constant/Constable"
def TJxfd54e : u_T := fun k => match k with
  | _ => ("", "", "", false)
def tyJxfd54e : Nat → FieldType := fun k => match k with
  | _ => .int
theorem nmJxfd54e : ∀ a, a < 0 → ∀ b, b < 0 → a ≠ b → (TJxfd54e a).2.1 ≠ (TJxfd54e b).2.1 := by decide +kernel
theorem tyJxfd54e_ok : ∀ k, k < 0 → parseFieldDescriptor (TJxfd54e k).2.2.1 = some (tyJxfd54e k) := by decide +kernel
def RJx3cf43 : String := "java/lang/constant/ConstantDesc"
def TJx3cf43 : u_T := fun k => match k with
  | _ => ("", "", "", false)
def tyJx3cf43 : Nat → FieldType := fun k => match k with
  | _ => .int
theorem nmJx3cf43 : ∀ a, a < 0 → ∀ b, b < 0 → a ≠ b → (TJx3cf43 a).2.1 ≠ (TJx3cf43 b).2.1 := by decide +kernel
theorem tyJx3cf43_ok : ∀ k, k < 0 → parseFieldDescriptor (TJx3cf43 k).2.2.1 = some (tyJx3cf43 k) := by decide +kernel
def RJ7 : String := "java/util/Arrays"
def TJ7 : u_T := fun k => match k with
  | _ => ("", "", "", false)
def tyJ7 : Nat → FieldType := fun k => match k with
  | _ => .int
theorem nmJ7 : ∀ a, a < 0 → ∀ b, b < 0 → a ≠ b → (TJ7 a).2.1 ≠ (TJ7 b).2.1 := by decide +kernel
theorem tyJ7_ok : ∀ k, k < 0 → parseFieldDescriptor (TJ7 k).2.2.1 = some (tyJ7 k) := by decide +kernel
abbrev cJ7_fill_53178 : ByteArray := prog_34_method_103_code
def yJ7_fill_53178 : MethodName := ⟨RJ7, "fill", "([II)V"⟩
abbrev cJ7_copyOf_9075b : ByteArray := prog_34_method_121_code
def yJ7_copyOf_9075b : MethodName := ⟨RJ7, "copyOf", "([BI)[B"⟩
abbrev cJ7_checkLength_df160 : ByteArray := prog_34_method_131_code
def yJ7_checkLength_df160 : MethodName := ⟨RJ7, "checkLength", "(II)V"⟩
abbrev cJ7_copyOfRange_39247 : ByteArray := prog_34_method_132_code
def yJ7_copyOfRange_39247 : MethodName := ⟨RJ7, "copyOfRange", "([BII)[B"⟩
abbrev cJ7_copyOfRangeByte_39247 : ByteArray := prog_34_method_133_code
def yJ7_copyOfRangeByte_39247 : MethodName := ⟨RJ7, "copyOfRangeByte", "([BII)[B"⟩
def RJ8 : String := "jdk/internal/util/ArraysSupport"
def TJ8 : u_T := fun k => match k with
  | _ => ("", "", "", false)
def tyJ8 : Nat → FieldType := fun k => match k with
  | _ => .int
theorem nmJ8 : ∀ a, a < 0 → ∀ b, b < 0 → a ≠ b → (TJ8 a).2.1 ≠ (TJ8 b).2.1 := by decide +kernel
theorem tyJ8_ok : ∀ k, k < 0 → parseFieldDescriptor (TJ8 k).2.2.1 = some (tyJ8 k) := by decide +kernel
abbrev cJ8_newLength_cabcc : ByteArray := prog_35_method_27_code
def yJ8_newLength_cabcc : MethodName := ⟨RJ8, "newLength", "(III)I"⟩
abbrev cJ8_hugeLength_7cf53 : ByteArray := prog_35_method_28_code
def yJ8_hugeLength_7cf53 : MethodName := ⟨RJ8, "hugeLength", "(II)I"⟩
def RJ3 : String := "jdk/internal/util/Preconditions"
def TJ3 : u_T := fun k => match k with
  | _ => ("", "", "", false)
def tyJ3 : Nat → FieldType := fun k => match k with
  | _ => .int
theorem nmJ3 : ∀ a, a < 0 → ∀ b, b < 0 → a ≠ b → (TJ3 a).2.1 ≠ (TJ3 b).2.1 := by decide +kernel
theorem tyJ3_ok : ∀ k, k < 0 → parseFieldDescriptor (TJ3 k).2.2.1 = some (tyJ3 k) := by decide +kernel
abbrev cJ3_checkIndex_8e157 : ByteArray := prog_36_method_11_code
def yJ3_checkIndex_8e157 : MethodName := ⟨RJ3, "checkIndex", "(IILjava/util/function/BiFunction;)I"⟩
abbrev cJ3_checkFromToIndex_8c36e : ByteArray := prog_36_method_12_code
def yJ3_checkFromToIndex_8c36e : MethodName := ⟨RJ3, "checkFromToIndex", "(IIILjava/util/function/BiFunction;)I"⟩
abbrev cJ3_checkFromIndexSize_8c36e : ByteArray := prog_36_method_13_code
def yJ3_checkFromIndexSize_8c36e : MethodName := ⟨RJ3, "checkFromIndexSize", "(IIILjava/util/function/BiFunction;)I"⟩
def RL : String := "TwinSetsLaw"
abbrev cL_feeds : ByteArray := method_2_code
def yL_feeds : MethodName := ⟨RL, "feeds", "(LTwinSets;Ljava/lang/String;)Z"⟩
abbrev cL_draw : ByteArray := method_3_code
def yL_draw : MethodName := ⟨RL, "draw", "([II)I"⟩
abbrev cL_law : ByteArray := code
def yL_law : MethodName := ⟨RL, "law", "([I)Z"⟩
abbrev cL_plays : ByteArray := method_5_code
def yL_plays : MethodName := ⟨RL, "plays", "(LTwinSets;[I)Z"⟩
abbrev cL_state : ByteArray := method_6_code
def yL_state : MethodName := ⟨RL, "state", "(LTwinSets;LTwinSetsLaw$Sets;)Z"⟩
abbrev cL_asks : ByteArray := method_7_code
def yL_asks : MethodName := ⟨RL, "asks", "(LTwinSets;LTwinSetsLaw$Sets;[I)Z"⟩
abbrev cL_changes : ByteArray := method_8_code
def yL_changes : MethodName := ⟨RL, "changes", "(LTwinSets;LTwinSetsLaw$Sets;[I)Z"⟩
