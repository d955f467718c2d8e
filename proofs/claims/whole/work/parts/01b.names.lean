/-! ===== BEGIN printed: names, fields, word lists, decode rows ===== -/
def RX0 : String := "TwinSets$Cursor"
def TX0 : u_T := fun k => match k with
  | 0 => ("TwinSets$Cursor", "isInUse", "Z", false)
  | 1 => ("TwinSets$Cursor", "isOpen", "Z", false)
  | 2 => ("TwinSets$Cursor", "isStrict", "Z", false)
  | 3 => ("TwinSets$Cursor", "set", "I", false)
  | 4 => ("TwinSets$Cursor", "position", "I", false)
  | 5 => ("TwinSets$Cursor", "madeAt", "I", false)
  | 6 => ("TwinSets$Cursor", "metCount", "I", false)
  | _ => ("TwinSets$Cursor", "lastMet", "I", false)
def tyX0 : Nat → FieldType := fun k => match k with
  | 0 => .boolean
  | 1 => .boolean
  | 2 => .boolean
  | 3 => .int
  | 4 => .int
  | 5 => .int
  | 6 => .int
  | _ => .int
theorem nmX0 : ∀ a, a < 8 → ∀ b, b < 8 → a ≠ b → (TX0 a).2.1 ≠ (TX0 b).2.1 := by decide +kernel
theorem tyX0_ok : ∀ k, k < 8 → parseFieldDescriptor (TX0 k).2.2.1 = some (tyX0 k) := by decide +kernel
abbrev cX0_init : ByteArray := prog_2_method_1_code
def yX0_init : MethodName := ⟨RX0, "<init>", "()V"⟩
abbrev cX0_begin : ByteArray := prog_2_method_2_code
def yX0_begin : MethodName := ⟨RX0, "begin", "(IZI)V"⟩
abbrev cX0_copyFrom : ByteArray := prog_2_method_3_code
def yX0_copyFrom : MethodName := ⟨RX0, "copyFrom", "(LTwinSets$Cursor;)V"⟩
abbrev cX0_isOpenOn : ByteArray := prog_2_method_4_code
def yX0_isOpenOn : MethodName := ⟨RX0, "isOpenOn", "(I)Z"⟩
abbrev cX0_meets : ByteArray := prog_2_method_5_code
def yX0_meets : MethodName := ⟨RX0, "meets", "(I)Z"⟩
def RX1 : String := "TwinSets$Input"
def TX1 : u_T := fun k => match k with
  | 0 => ("TwinSets$Input", "bytes", "[B", true)
  | _ => ("TwinSets$Input", "length", "I", false)
def tyX1 : Nat → FieldType := fun k => match k with
  | 0 => .array .byte
  | _ => .int
theorem nmX1 : ∀ a, a < 2 → ∀ b, b < 2 → a ≠ b → (TX1 a).2.1 ≠ (TX1 b).2.1 := by decide +kernel
theorem tyX1_ok : ∀ k, k < 2 → parseFieldDescriptor (TX1 k).2.2.1 = some (tyX1 k) := by decide +kernel
abbrev cX1_init : ByteArray := prog_3_method_1_code
def yX1_init : MethodName := ⟨RX1, "<init>", "()V"⟩
abbrev cX1_takeFourBytes : ByteArray := prog_3_method_2_code
def yX1_takeFourBytes : MethodName := ⟨RX1, "takeFourBytes", "(I)V"⟩
abbrev cX1_lengthWithoutLastSpaces : ByteArray := prog_3_method_3_code
def yX1_lengthWithoutLastSpaces : MethodName := ⟨RX1, "lengthWithoutLastSpaces", "()I"⟩
abbrev cX1_holds : ByteArray := prog_3_method_4_code
def yX1_holds : MethodName := ⟨RX1, "holds", "(IILjava/lang/String;)Z"⟩
abbrev cX1_isBlank : ByteArray := prog_3_method_5_code
def yX1_isBlank : MethodName := ⟨RX1, "isBlank", "(I)Z"⟩
abbrev cX1_isLetter : ByteArray := prog_3_method_6_code
def yX1_isLetter : MethodName := ⟨RX1, "isLetter", "(I)Z"⟩
abbrev cX1_isDigit : ByteArray := prog_3_method_7_code
def yX1_isDigit : MethodName := ⟨RX1, "isDigit", "(I)Z"⟩
def RX2 : String := "TwinSets$Log"
def TX2 : u_T := fun k => match k with
  | 0 => ("TwinSets$Log", "stamps", "[I", true)
  | 1 => ("TwinSets$Log", "numbers", "[I", true)
  | 2 => ("TwinSets$Log", "kinds", "[I", true)
  | 3 => ("TwinSets$Log", "count", "I", false)
  | 4 => ("TwinSets$Log", "firstStamp", "I", false)
  | _ => ("TwinSets$Log", "bitsAtFirst", "J", false)
def tyX2 : Nat → FieldType := fun k => match k with
  | 0 => .array .int
  | 1 => .array .int
  | 2 => .array .int
  | 3 => .int
  | 4 => .int
  | _ => .long
theorem nmX2 : ∀ a, a < 6 → ∀ b, b < 6 → a ≠ b → (TX2 a).2.1 ≠ (TX2 b).2.1 := by decide +kernel
theorem tyX2_ok : ∀ k, k < 6 → parseFieldDescriptor (TX2 k).2.2.1 = some (tyX2 k) := by decide +kernel
abbrev cX2_init : ByteArray := prog_4_method_1_code
def yX2_init : MethodName := ⟨RX2, "<init>", "()V"⟩
abbrev cX2_begin : ByteArray := prog_4_method_2_code
def yX2_begin : MethodName := ⟨RX2, "begin", "()V"⟩
abbrev cX2_copyFrom : ByteArray := prog_4_method_3_code
def yX2_copyFrom : MethodName := ⟨RX2, "copyFrom", "(LTwinSets$Log;)V"⟩
abbrev cX2_note : ByteArray := prog_4_method_4_code
def yX2_note : MethodName := ⟨RX2, "note", "(IIII)V"⟩
abbrev cX2_bitsBehind : ByteArray := prog_4_method_5_code
def yX2_bitsBehind : MethodName := ⟨RX2, "bitsBehind", "(JI)J"⟩
abbrev cX2_bitsAt : ByteArray := prog_4_method_6_code
def yX2_bitsAt : MethodName := ⟨RX2, "bitsAt", "(I)J"⟩
abbrev cX2_latestChangeOf : ByteArray := prog_4_method_7_code
def yX2_latestChangeOf : MethodName := ⟨RX2, "latestChangeOf", "(I)I"⟩
abbrev cX2_stampOfMostMembers : ByteArray := prog_4_method_8_code
def yX2_stampOfMostMembers : MethodName := ⟨RX2, "stampOfMostMembers", "()I"⟩
def RX3 : String := "TwinSets$Parser"
def TX3 : u_T := fun k => match k with
  | 0 => ("TwinSets$Parser", "input", "LTwinSets$Input;", true)
  | 1 => ("TwinSets$Parser", "length", "I", true)
  | 2 => ("TwinSets$Parser", "state", "LTwinSets$State;", true)
  | 3 => ("TwinSets$Parser", "token", "LTwinSets$Token;", false)
  | 4 => ("TwinSets$Parser", "start", "I", false)
  | 5 => ("TwinSets$Parser", "end", "I", false)
  | 6 => ("TwinSets$Parser", "number", "I", false)
  | 7 => ("TwinSets$Parser", "errorCode", "I", false)
  | _ => ("TwinSets$Parser", "errorAt", "I", false)
def tyX3 : Nat → FieldType := fun k => match k with
  | 0 => .object "TwinSets$Input"
  | 1 => .int
  | 2 => .object "TwinSets$State"
  | 3 => .object "TwinSets$Token"
  | 4 => .int
  | 5 => .int
  | 6 => .int
  | 7 => .int
  | _ => .int
theorem nmX3 : ∀ a, a < 9 → ∀ b, b < 9 → a ≠ b → (TX3 a).2.1 ≠ (TX3 b).2.1 := by decide +kernel
theorem tyX3_ok : ∀ k, k < 9 → parseFieldDescriptor (TX3 k).2.2.1 = some (tyX3 k) := by decide +kernel
abbrev cX3_init : ByteArray := prog_5_method_1_code
def yX3_init : MethodName := ⟨RX3, "<init>", "(LTwinSets$Input;ILTwinSets$State;)V"⟩
abbrev cX3_readText : ByteArray := prog_5_method_2_code
def yX3_readText : MethodName := ⟨RX3, "readText", "()Z"⟩
abbrev cX3_readStatement : ByteArray := prog_5_method_3_code
def yX3_readStatement : MethodName := ⟨RX3, "readStatement", "()Z"⟩
abbrev cX3_readSet : ByteArray := prog_5_method_4_code
def yX3_readSet : MethodName := ⟨RX3, "readSet", "()Z"⟩
abbrev cX3_readMembers : ByteArray := prog_5_method_5_code
def yX3_readMembers : MethodName := ⟨RX3, "readMembers", "(Z)Z"⟩
abbrev cX3_readClear : ByteArray := prog_5_method_6_code
def yX3_readClear : MethodName := ⟨RX3, "readClear", "()Z"⟩
abbrev cX3_readMark : ByteArray := prog_5_method_7_code
def yX3_readMark : MethodName := ⟨RX3, "readMark", "()Z"⟩
abbrev cX3_readEarlierSet : ByteArray := prog_5_method_8_code
def yX3_readEarlierSet : MethodName := ⟨RX3, "readEarlierSet", "()I"⟩
abbrev cX3_isNumber : ByteArray := prog_5_method_9_code
def yX3_isNumber : MethodName := ⟨RX3, "isNumber", "(II)Z"⟩
abbrev cX3_passWord : ByteArray := prog_5_method_10_code
def yX3_passWord : MethodName := ⟨RX3, "passWord", "(Ljava/lang/String;)Z"⟩
abbrev cX3_passSemicolon : ByteArray := prog_5_method_11_code
def yX3_passSemicolon : MethodName := ⟨RX3, "passSemicolon", "()Z"⟩
abbrev cX3_fail : ByteArray := prog_5_method_12_code
def yX3_fail : MethodName := ⟨RX3, "fail", "(I)Z"⟩
abbrev cX3_isWord : ByteArray := prog_5_method_13_code
def yX3_isWord : MethodName := ⟨RX3, "isWord", "(Ljava/lang/String;)Z"⟩
abbrev cX3_wordText : ByteArray := prog_5_method_14_code
def yX3_wordText : MethodName := ⟨RX3, "wordText", "()Ljava/lang/String;"⟩
abbrev cX3_toNextToken : ByteArray := prog_5_method_15_code
def yX3_toNextToken : MethodName := ⟨RX3, "toNextToken", "()V"⟩
abbrev cX3_passLetters : ByteArray := prog_5_method_16_code
def yX3_passLetters : MethodName := ⟨RX3, "passLetters", "()V"⟩
abbrev cX3_passDigits : ByteArray := prog_5_method_17_code
def yX3_passDigits : MethodName := ⟨RX3, "passDigits", "()V"⟩
def RX4 : String := "TwinSets$SnapshotSlots"
def TX4 : u_T := fun k => match k with
  | 0 => ("TwinSets$SnapshotSlots", "states", "[LTwinSets$State;", true)
  | _ => ("TwinSets$SnapshotSlots", "isFull", "[Z", true)
def tyX4 : Nat → FieldType := fun k => match k with
  | 0 => .array (.object "TwinSets$State")
  | _ => .array .boolean
theorem nmX4 : ∀ a, a < 2 → ∀ b, b < 2 → a ≠ b → (TX4 a).2.1 ≠ (TX4 b).2.1 := by decide +kernel
theorem tyX4_ok : ∀ k, k < 2 → parseFieldDescriptor (TX4 k).2.2.1 = some (tyX4 k) := by decide +kernel
abbrev cX4_init : ByteArray := prog_6_method_1_code
def yX4_init : MethodName := ⟨RX4, "<init>", "()V"⟩
abbrev cX4_store : ByteArray := prog_6_method_2_code
def yX4_store : MethodName := ⟨RX4, "store", "(ILTwinSets$State;)V"⟩
abbrev cX4_storedIn : ByteArray := prog_6_method_3_code
def yX4_storedIn : MethodName := ⟨RX4, "storedIn", "(I)LTwinSets$State;"⟩
abbrev cX4_emptyAll : ByteArray := prog_6_method_4_code
def yX4_emptyAll : MethodName := ⟨RX4, "emptyAll", "()V"⟩
def RX5 : String := "TwinSets$State"
def TX5 : u_T := fun k => match k with
  | 0 => ("TwinSets$State", "sets", "[LTwinSets$TwinRows;", true)
  | 1 => ("TwinSets$State", "cursors", "[LTwinSets$Cursor;", true)
  | 2 => ("TwinSets$State", "marks", "[I", true)
  | 3 => ("TwinSets$State", "universe", "I", false)
  | 4 => ("TwinSets$State", "horizon", "I", false)
  | 5 => ("TwinSets$State", "setCount", "I", false)
  | 6 => ("TwinSets$State", "markCount", "I", false)
  | 7 => ("TwinSets$State", "clock", "I", false)
  | _ => ("TwinSets$State", "cost", "I", false)
def tyX5 : Nat → FieldType := fun k => match k with
  | 0 => .array (.object "TwinSets$TwinRows")
  | 1 => .array (.object "TwinSets$Cursor")
  | 2 => .array .int
  | 3 => .int
  | 4 => .int
  | 5 => .int
  | 6 => .int
  | 7 => .int
  | _ => .int
theorem nmX5 : ∀ a, a < 9 → ∀ b, b < 9 → a ≠ b → (TX5 a).2.1 ≠ (TX5 b).2.1 := by decide +kernel
theorem tyX5_ok : ∀ k, k < 9 → parseFieldDescriptor (TX5 k).2.2.1 = some (tyX5 k) := by decide +kernel
abbrev cX5_init : ByteArray := prog_7_method_1_code
def yX5_init : MethodName := ⟨RX5, "<init>", "()V"⟩
abbrev cX5_begin : ByteArray := prog_7_method_2_code
def yX5_begin : MethodName := ⟨RX5, "begin", "(II)V"⟩
abbrev cX5_beginSet : ByteArray := prog_7_method_3_code
def yX5_beginSet : MethodName := ⟨RX5, "beginSet", "(Ljava/lang/String;)V"⟩
abbrev cX5_copyFrom : ByteArray := prog_7_method_4_code
def yX5_copyFrom : MethodName := ⟨RX5, "copyFrom", "(LTwinSets$State;)V"⟩
abbrev cX5_hasNumber : ByteArray := prog_7_method_5_code
def yX5_hasNumber : MethodName := ⟨RX5, "hasNumber", "(I)Z"⟩
abbrev cX5_setNamed : ByteArray := prog_7_method_6_code
def yX5_setNamed : MethodName := ⟨RX5, "setNamed", "(LTwinSets$Input;II)I"⟩
abbrev cX5_bringIn : ByteArray := prog_7_method_7_code
def yX5_bringIn : MethodName := ⟨RX5, "bringIn", "(LTwinSets$TwinRows;I)Z"⟩
abbrev cX5_takeOut : ByteArray := prog_7_method_8_code
def yX5_takeOut : MethodName := ⟨RX5, "takeOut", "(II)Z"⟩
abbrev cX5_pullCursorsBack : ByteArray := prog_7_method_9_code
def yX5_pullCursorsBack : MethodName := ⟨RX5, "pullCursorsBack", "(II)Z"⟩
abbrev cX5_moveMember : ByteArray := prog_7_method_10_code
def yX5_moveMember : MethodName := ⟨RX5, "moveMember", "(LTwinSets$TwinRows;II)V"⟩
abbrev cX5_writeMember : ByteArray := prog_7_method_11_code
def yX5_writeMember : MethodName := ⟨RX5, "writeMember", "(LTwinSets$TwinRows;II)V"⟩
abbrev cX5_emptySet : ByteArray := prog_7_method_12_code
def yX5_emptySet : MethodName := ⟨RX5, "emptySet", "(I)V"⟩
abbrev cX5_makeMark : ByteArray := prog_7_method_13_code
def yX5_makeMark : MethodName := ⟨RX5, "makeMark", "()V"⟩
abbrev cX5_keepCommon : ByteArray := prog_7_method_14_code
def yX5_keepCommon : MethodName := ⟨RX5, "keepCommon", "(II)I"⟩
abbrev cX5_bringAll : ByteArray := prog_7_method_15_code
def yX5_bringAll : MethodName := ⟨RX5, "bringAll", "(II)I"⟩
abbrev cX5_freeCursor : ByteArray := prog_7_method_16_code
def yX5_freeCursor : MethodName := ⟨RX5, "freeCursor", "()I"⟩
abbrev cX5_countCursors : ByteArray := prog_7_method_17_code
def yX5_countCursors : MethodName := ⟨RX5, "countCursors", "()I"⟩
abbrev cX5_countOpenCursors : ByteArray := prog_7_method_18_code
def yX5_countOpenCursors : MethodName := ⟨RX5, "countOpenCursors", "(I)I"⟩
abbrev cX5_countAhead : ByteArray := prog_7_method_19_code
def yX5_countAhead : MethodName := ⟨RX5, "countAhead", "(LTwinSets$Cursor;)I"⟩
abbrev cX5_meetNext : ByteArray := prog_7_method_20_code
def yX5_meetNext : MethodName := ⟨RX5, "meetNext", "(LTwinSets$Cursor;)I"⟩
def RX6 : String := "TwinSets$Token"
def TX6 : u_T := fun k => match k with
  | _ => ("", "", "", false)
def tyX6 : Nat → FieldType := fun k => match k with
  | _ => .int
theorem nmX6 : ∀ a, a < 0 → ∀ b, b < 0 → a ≠ b → (TX6 a).2.1 ≠ (TX6 b).2.1 := by decide +kernel
theorem tyX6_ok : ∀ k, k < 0 → parseFieldDescriptor (TX6 k).2.2.1 = some (tyX6 k) := by decide +kernel
def RX7 : String := "TwinSets$TwinRows"
def TX7 : u_T := fun k => match k with
  | 0 => ("TwinSets$TwinRows", "members", "[I", true)
  | 1 => ("TwinSets$TwinRows", "places", "[I", true)
  | 2 => ("TwinSets$TwinRows", "stamps", "[I", true)
  | 3 => ("TwinSets$TwinRows", "log", "LTwinSets$Log;", true)
  | 4 => ("TwinSets$TwinRows", "name", "Ljava/lang/String;", false)
  | 5 => ("TwinSets$TwinRows", "size", "I", false)
  | _ => ("TwinSets$TwinRows", "generation", "I", false)
def tyX7 : Nat → FieldType := fun k => match k with
  | 0 => .array .int
  | 1 => .array .int
  | 2 => .array .int
  | 3 => .object "TwinSets$Log"
  | 4 => .object "java/lang/String"
  | 5 => .int
  | _ => .int
theorem nmX7 : ∀ a, a < 7 → ∀ b, b < 7 → a ≠ b → (TX7 a).2.1 ≠ (TX7 b).2.1 := by decide +kernel
theorem tyX7_ok : ∀ k, k < 7 → parseFieldDescriptor (TX7 k).2.2.1 = some (tyX7 k) := by decide +kernel
abbrev cX7_init : ByteArray := prog_9_method_1_code
def yX7_init : MethodName := ⟨RX7, "<init>", "()V"⟩
abbrev cX7_begin : ByteArray := prog_9_method_2_code
def yX7_begin : MethodName := ⟨RX7, "begin", "(Ljava/lang/String;)V"⟩
abbrev cX7_copyFrom : ByteArray := prog_9_method_3_code
def yX7_copyFrom : MethodName := ⟨RX7, "copyFrom", "(LTwinSets$TwinRows;)V"⟩
abbrev cX7_placeOf : ByteArray := prog_9_method_4_code
def yX7_placeOf : MethodName := ⟨RX7, "placeOf", "(I)I"⟩
abbrev cX7_has : ByteArray := prog_9_method_5_code
def yX7_has : MethodName := ⟨RX7, "has", "(I)Z"⟩
abbrev cX7_stampAt : ByteArray := prog_9_method_6_code
def yX7_stampAt : MethodName := ⟨RX7, "stampAt", "(I)I"⟩
abbrev cX7_bits : ByteArray := prog_9_method_7_code
def yX7_bits : MethodName := ⟨RX7, "bits", "()J"⟩
def RX8 : String := "TwinSets$UndoHistory"
def TX8 : u_T := fun k => match k with
  | 0 => ("TwinSets$UndoHistory", "states", "[LTwinSets$State;", true)
  | 1 => ("TwinSets$UndoHistory", "next", "I", false)
  | _ => ("TwinSets$UndoHistory", "count", "I", false)
def tyX8 : Nat → FieldType := fun k => match k with
  | 0 => .array (.object "TwinSets$State")
  | 1 => .int
  | _ => .int
theorem nmX8 : ∀ a, a < 3 → ∀ b, b < 3 → a ≠ b → (TX8 a).2.1 ≠ (TX8 b).2.1 := by decide +kernel
theorem tyX8_ok : ∀ k, k < 3 → parseFieldDescriptor (TX8 k).2.2.1 = some (tyX8 k) := by decide +kernel
abbrev cX8_init : ByteArray := prog_10_method_1_code
def yX8_init : MethodName := ⟨RX8, "<init>", "()V"⟩
abbrev cX8_remember : ByteArray := prog_10_method_2_code
def yX8_remember : MethodName := ⟨RX8, "remember", "(LTwinSets$State;)V"⟩
abbrev cX8_takeBack : ByteArray := prog_10_method_3_code
def yX8_takeBack : MethodName := ⟨RX8, "takeBack", "(LTwinSets$State;)Z"⟩
abbrev cX8_forgetAll : ByteArray := prog_10_method_4_code
def yX8_forgetAll : MethodName := ⟨RX8, "forgetAll", "()V"⟩
def RX9 : String := "TwinSets"
def TX9 : u_T := fun k => match k with
  | 0 => ("TwinSets", "input", "LTwinSets$Input;", true)
  | 1 => ("TwinSets", "history", "LTwinSets$UndoHistory;", true)
  | 2 => ("TwinSets", "slots", "LTwinSets$SnapshotSlots;", true)
  | 3 => ("TwinSets", "now", "LTwinSets$State;", false)
  | 4 => ("TwinSets", "draft", "LTwinSets$State;", false)
  | _ => ("TwinSets", "errorAt", "I", false)
def tyX9 : Nat → FieldType := fun k => match k with
  | 0 => .object "TwinSets$Input"
  | 1 => .object "TwinSets$UndoHistory"
  | 2 => .object "TwinSets$SnapshotSlots"
  | 3 => .object "TwinSets$State"
  | 4 => .object "TwinSets$State"
  | _ => .int
theorem nmX9 : ∀ a, a < 6 → ∀ b, b < 6 → a ≠ b → (TX9 a).2.1 ≠ (TX9 b).2.1 := by decide +kernel
theorem tyX9_ok : ∀ k, k < 6 → parseFieldDescriptor (TX9 k).2.2.1 = some (tyX9 k) := by decide +kernel
abbrev cX9_init : ByteArray := prog_1_method_1_code
def yX9_init : MethodName := ⟨RX9, "<init>", "()V"⟩
abbrev cX9_append : ByteArray := prog_1_method_2_code
def yX9_append : MethodName := ⟨RX9, "append", "(IIIII)I"⟩
abbrev cX9_parse : ByteArray := prog_1_method_3_code
def yX9_parse : MethodName := ⟨RX9, "parse", "(I)I"⟩
abbrev cX9_beginWithDraft : ByteArray := prog_1_method_4_code
def yX9_beginWithDraft : MethodName := ⟨RX9, "beginWithDraft", "()V"⟩
abbrev cX9_errorPosition : ByteArray := prog_1_method_5_code
def yX9_errorPosition : MethodName := ⟨RX9, "errorPosition", "()I"⟩
abbrev cX9_size : ByteArray := prog_1_method_6_code
def yX9_size : MethodName := ⟨RX9, "size", "(I)I"⟩
abbrev cX9_find : ByteArray := prog_1_method_7_code
def yX9_find : MethodName := ⟨RX9, "find", "()I"⟩
abbrev cX9_marked : ByteArray := prog_1_method_8_code
def yX9_marked : MethodName := ⟨RX9, "marked", "(I)I"⟩
abbrev cX9_set : ByteArray := prog_1_method_9_code
def yX9_set : MethodName := ⟨RX9, "set", "(II)I"⟩
abbrev cX9_cell : ByteArray := prog_1_method_10_code
def yX9_cell : MethodName := ⟨RX9, "cell", "(IIZ)I"⟩
abbrev cX9_place : ByteArray := prog_1_method_11_code
def yX9_place : MethodName := ⟨RX9, "place", "(II)I"⟩
abbrev cX9_stampOf : ByteArray := prog_1_method_12_code
def yX9_stampOf : MethodName := ⟨RX9, "stampOf", "(II)I"⟩
abbrev cX9_event : ByteArray := prog_1_method_13_code
def yX9_event : MethodName := ⟨RX9, "event", "(III)I"⟩
abbrev cX9_at : ByteArray := prog_1_method_14_code
def yX9_at : MethodName := ⟨RX9, "at", "(II)J"⟩
abbrev cX9_differs : ByteArray := prog_1_method_15_code
def yX9_differs : MethodName := ⟨RX9, "differs", "(IIIZ)I"⟩
abbrev cX9_since : ByteArray := prog_1_method_16_code
def yX9_since : MethodName := ⟨RX9, "since", "(II)I"⟩
abbrev cX9_fullest : ByteArray := prog_1_method_17_code
def yX9_fullest : MethodName := ⟨RX9, "fullest", "(I)I"⟩
abbrev cX9_cursor : ByteArray := prog_1_method_18_code
def yX9_cursor : MethodName := ⟨RX9, "cursor", "(II)I"⟩
abbrev cX9_ahead : ByteArray := prog_1_method_19_code
def yX9_ahead : MethodName := ⟨RX9, "ahead", "(I)I"⟩
abbrev cX9_common : ByteArray := prog_1_method_20_code
def yX9_common : MethodName := ⟨RX9, "common", "(II)I"⟩
abbrev cX9_isWithin : ByteArray := prog_1_method_21_code
def yX9_isWithin : MethodName := ⟨RX9, "isWithin", "(II)Z"⟩
abbrev cX9_likeness : ByteArray := prog_1_method_22_code
def yX9_likeness : MethodName := ⟨RX9, "likeness", "(II)D"⟩
abbrev cX9_add : ByteArray := prog_1_method_23_code
def yX9_add : MethodName := ⟨RX9, "add", "(II)I"⟩
abbrev cX9_remove : ByteArray := prog_1_method_24_code
def yX9_remove : MethodName := ⟨RX9, "remove", "(II)Z"⟩
abbrev cX9_clear : ByteArray := prog_1_method_25_code
def yX9_clear : MethodName := ⟨RX9, "clear", "(I)I"⟩
abbrev cX9_mark : ByteArray := prog_1_method_26_code
def yX9_mark : MethodName := ⟨RX9, "mark", "()I"⟩
abbrev cX9_open : ByteArray := prog_1_method_27_code
def yX9_open : MethodName := ⟨RX9, "open", "(IZ)I"⟩
abbrev cX9_close : ByteArray := prog_1_method_28_code
def yX9_close : MethodName := ⟨RX9, "close", "(I)I"⟩
abbrev cX9_step : ByteArray := prog_1_method_29_code
def yX9_step : MethodName := ⟨RX9, "step", "(I)I"⟩
abbrev cX9_removeMet : ByteArray := prog_1_method_30_code
def yX9_removeMet : MethodName := ⟨RX9, "removeMet", "(I)I"⟩
abbrev cX9_keep : ByteArray := prog_1_method_31_code
def yX9_keep : MethodName := ⟨RX9, "keep", "(II)I"⟩
abbrev cX9_unite : ByteArray := prog_1_method_32_code
def yX9_unite : MethodName := ⟨RX9, "unite", "(II)I"⟩
abbrev cX9_undo : ByteArray := prog_1_method_33_code
def yX9_undo : MethodName := ⟨RX9, "undo", "()I"⟩
abbrev cX9_saveSnapshot : ByteArray := prog_1_method_34_code
def yX9_saveSnapshot : MethodName := ⟨RX9, "saveSnapshot", "(I)Z"⟩
abbrev cX9_restoreSnapshot : ByteArray := prog_1_method_35_code
def yX9_restoreSnapshot : MethodName := ⟨RX9, "restoreSnapshot", "(I)I"⟩
abbrev cX9_checkSet : ByteArray := prog_1_method_36_code
def yX9_checkSet : MethodName := ⟨RX9, "checkSet", "(I)V"⟩
abbrev cX9_rowsOf : ByteArray := prog_1_method_37_code
def yX9_rowsOf : MethodName := ⟨RX9, "rowsOf", "(I)LTwinSets$TwinRows;"⟩
abbrev cX9_cursorOf : ByteArray := prog_1_method_38_code
def yX9_cursorOf : MethodName := ⟨RX9, "cursorOf", "(I)LTwinSets$Cursor;"⟩
abbrev cX9_checkNumber : ByteArray := prog_1_method_39_code
def yX9_checkNumber : MethodName := ⟨RX9, "checkNumber", "(I)V"⟩
abbrev cX9_checkStamp : ByteArray := prog_1_method_40_code
def yX9_checkStamp : MethodName := ⟨RX9, "checkStamp", "(LTwinSets$Log;I)V"⟩
abbrev cX9_checkSlot : ByteArray := prog_1_method_41_code
def yX9_checkSlot : MethodName := ⟨RX9, "checkSlot", "(I)V"⟩
def RX10 : String := "TwinSetsModel"
def TX10 : u_T := fun k => match k with
  | 0 => ("TwinSetsModel", "thrown", "I", false)
  | 1 => ("TwinSetsModel", "now", "[I", true)
  | 2 => ("TwinSetsModel", "names", "[J", true)
  | 3 => ("TwinSetsModel", "text", "[B", true)
  | 4 => ("TwinSetsModel", "length", "I", false)
  | 5 => ("TwinSetsModel", "textSize", "I", false)
  | 6 => ("TwinSetsModel", "start", "I", false)
  | 7 => ("TwinSetsModel", "next", "I", false)
  | 8 => ("TwinSetsModel", "token", "I", false)
  | 9 => ("TwinSetsModel", "value", "I", false)
  | 10 => ("TwinSetsModel", "letters", "J", false)
  | 11 => ("TwinSetsModel", "error", "I", false)
  | 12 => ("TwinSetsModel", "errorAt", "I", false)
  | 13 => ("TwinSetsModel", "number", "I", false)
  | 14 => ("TwinSetsModel", "waiting", "[I", true)
  | 15 => ("TwinSetsModel", "readNames", "[J", true)
  | 16 => ("TwinSetsModel", "setRead", "I", false)
  | 17 => ("TwinSetsModel", "order", "[I", true)
  | 18 => ("TwinSetsModel", "undos", "I", false)
  | 19 => ("TwinSetsModel", "undo", "[I", true)
  | 20 => ("TwinSetsModel", "slots", "[I", true)
  | _ => ("TwinSetsModel", "isSaved", "[Z", true)
def tyX10 : Nat → FieldType := fun k => match k with
  | 0 => .int
  | 1 => .array .int
  | 2 => .array .long
  | 3 => .array .byte
  | 4 => .int
  | 5 => .int
  | 6 => .int
  | 7 => .int
  | 8 => .int
  | 9 => .int
  | 10 => .long
  | 11 => .int
  | 12 => .int
  | 13 => .int
  | 14 => .array .int
  | 15 => .array .long
  | 16 => .int
  | 17 => .array .int
  | 18 => .int
  | 19 => .array .int
  | 20 => .array .int
  | _ => .array .boolean
theorem nmX10 : ∀ a, a < 22 → ∀ b, b < 22 → a ≠ b → (TX10 a).2.1 ≠ (TX10 b).2.1 := by decide +kernel
theorem tyX10_ok : ∀ k, k < 22 → parseFieldDescriptor (TX10 k).2.2.1 = some (tyX10 k) := by decide +kernel
abbrev cX10_init : ByteArray := prog_12_method_1_code
def yX10_init : MethodName := ⟨RX10, "<init>", "()V"⟩
abbrev cX10_thrown : ByteArray := prog_12_method_2_code
def yX10_thrown : MethodName := ⟨RX10, "thrown", "()I"⟩
abbrev cX10_within : ByteArray := prog_12_method_3_code
def yX10_within : MethodName := ⟨RX10, "within", "(III)Z"⟩
abbrev cX10_throwsIf : ByteArray := prog_12_method_4_code
def yX10_throwsIf : MethodName := ⟨RX10, "throwsIf", "(ZI)Z"⟩
abbrev cX10_append : ByteArray := prog_12_method_5_code
def yX10_append : MethodName := ⟨RX10, "append", "(IIIII)I"⟩
abbrev cX10_bytesOf : ByteArray := prog_12_method_6_code
def yX10_bytesOf : MethodName := ⟨RX10, "bytesOf", "(I)V"⟩
abbrev cX10_byteAt : ByteArray := prog_12_method_7_code
def yX10_byteAt : MethodName := ⟨RX10, "byteAt", "(I)I"⟩
abbrev cX10_takesLetters : ByteArray := prog_12_method_8_code
def yX10_takesLetters : MethodName := ⟨RX10, "takesLetters", "()V"⟩
abbrev cX10_advance : ByteArray := prog_12_method_9_code
def yX10_advance : MethodName := ⟨RX10, "advance", "()V"⟩
abbrev cX10_isWord : ByteArray := prog_12_method_10_code
def yX10_isWord : MethodName := ⟨RX10, "isWord", "(Ljava/lang/String;)Z"⟩
abbrev cX10_fails : ByteArray := prog_12_method_11_code
def yX10_fails : MethodName := ⟨RX10, "fails", "(I)Z"⟩
abbrev cX10_starts : ByteArray := prog_12_method_12_code
def yX10_starts : MethodName := ⟨RX10, "starts", "(IZ)Z"⟩
abbrev cX10_takes : ByteArray := prog_12_method_13_code
def yX10_takes : MethodName := ⟨RX10, "takes", "(II)Z"⟩
abbrev cX10_lays : ByteArray := prog_12_method_14_code
def yX10_lays : MethodName := ⟨RX10, "lays", "(III)Z"⟩
abbrev cX10_closes : ByteArray := prog_12_method_15_code
def yX10_closes : MethodName := ⟨RX10, "closes", "()Z"⟩
abbrev cX10_named : ByteArray := prog_12_method_16_code
def yX10_named : MethodName := ⟨RX10, "named", "([JIJ)I"⟩
abbrev cX10_setLine : ByteArray := prog_12_method_17_code
def yX10_setLine : MethodName := ⟨RX10, "setLine", "()Z"⟩
abbrev cX10_takesSet : ByteArray := prog_12_method_18_code
def yX10_takesSet : MethodName := ⟨RX10, "takesSet", "()Z"⟩
abbrev cX10_membersLine : ByteArray := prog_12_method_19_code
def yX10_membersLine : MethodName := ⟨RX10, "membersLine", "(Z)Z"⟩
abbrev cX10_clearLine : ByteArray := prog_12_method_20_code
def yX10_clearLine : MethodName := ⟨RX10, "clearLine", "()Z"⟩
abbrev cX10_markLine : ByteArray := prog_12_method_21_code
def yX10_markLine : MethodName := ⟨RX10, "markLine", "()Z"⟩
abbrev cX10_statement : ByteArray := prog_12_method_22_code
def yX10_statement : MethodName := ⟨RX10, "statement", "()Z"⟩
abbrev cX10_parse : ByteArray := prog_12_method_23_code
def yX10_parse : MethodName := ⟨RX10, "parse", "(I)I"⟩
abbrev cX10_errorPosition : ByteArray := prog_12_method_24_code
def yX10_errorPosition : MethodName := ⟨RX10, "errorPosition", "()I"⟩
abbrev cX10_find : ByteArray := prog_12_method_25_code
def yX10_find : MethodName := ⟨RX10, "find", "()I"⟩
abbrev cX10_of : ByteArray := prog_12_method_26_code
def yX10_of : MethodName := ⟨RX10, "of", "(II)I"⟩
abbrev cX10_sets : ByteArray := prog_12_method_27_code
def yX10_sets : MethodName := ⟨RX10, "sets", "(III)V"⟩
abbrev cX10_isMember : ByteArray := prog_12_method_28_code
def yX10_isMember : MethodName := ⟨RX10, "isMember", "(II)Z"⟩
abbrev cX10_lay : ByteArray := prog_12_method_29_code
def yX10_lay : MethodName := ⟨RX10, "lay", "(III)V"⟩
abbrev cX10_ofEvent : ByteArray := prog_12_method_30_code
def yX10_ofEvent : MethodName := ⟨RX10, "ofEvent", "(III)I"⟩
abbrev cX10_setsEvent : ByteArray := prog_12_method_31_code
def yX10_setsEvent : MethodName := ⟨RX10, "setsEvent", "(IIIII)V"⟩
abbrev cX10_behind : ByteArray := prog_12_method_32_code
def yX10_behind : MethodName := ⟨RX10, "behind", "(JII)J"⟩
abbrev cX10_base : ByteArray := prog_12_method_33_code
def yX10_base : MethodName := ⟨RX10, "base", "(I)J"⟩
abbrev cX10_forgets : ByteArray := prog_12_method_34_code
def yX10_forgets : MethodName := ⟨RX10, "forgets", "(I)V"⟩
abbrev cX10_happens : ByteArray := prog_12_method_35_code
def yX10_happens : MethodName := ⟨RX10, "happens", "(III)V"⟩
abbrev cX10_contentAt : ByteArray := prog_12_method_36_code
def yX10_contentAt : MethodName := ⟨RX10, "contentAt", "(II)J"⟩
abbrev cX10_ones : ByteArray := prog_12_method_37_code
def yX10_ones : MethodName := ⟨RX10, "ones", "(J)I"⟩
abbrev cX10_comes : ByteArray := prog_12_method_38_code
def yX10_comes : MethodName := ⟨RX10, "comes", "(II)V"⟩
abbrev cX10_ofCursor : ByteArray := prog_12_method_39_code
def yX10_ofCursor : MethodName := ⟨RX10, "ofCursor", "(II)I"⟩
abbrev cX10_setsCursor : ByteArray := prog_12_method_40_code
def yX10_setsCursor : MethodName := ⟨RX10, "setsCursor", "(III)V"⟩
abbrev cX10_isOn : ByteArray := prog_12_method_41_code
def yX10_isOn : MethodName := ⟨RX10, "isOn", "(II)Z"⟩
abbrev cX10_orders : ByteArray := prog_12_method_42_code
def yX10_orders : MethodName := ⟨RX10, "orders", "(I)I"⟩
abbrev cX10_goes : ByteArray := prog_12_method_43_code
def yX10_goes : MethodName := ⟨RX10, "goes", "(II)V"⟩
abbrev cX10_fills : ByteArray := prog_12_method_44_code
def yX10_fills : MethodName := ⟨RX10, "fills", "(III)V"⟩
abbrev cX10_clears : ByteArray := prog_12_method_45_code
def yX10_clears : MethodName := ⟨RX10, "clears", "(I)V"⟩
abbrev cX10_marks : ByteArray := prog_12_method_46_code
def yX10_marks : MethodName := ⟨RX10, "marks", "()I"⟩
abbrev cX10_cursorsMany : ByteArray := prog_12_method_47_code
def yX10_cursorsMany : MethodName := ⟨RX10, "cursorsMany", "()I"⟩
abbrev cX10_size : ByteArray := prog_12_method_48_code
def yX10_size : MethodName := ⟨RX10, "size", "(I)I"⟩
abbrev cX10_marked : ByteArray := prog_12_method_49_code
def yX10_marked : MethodName := ⟨RX10, "marked", "(I)I"⟩
abbrev cX10_no : ByteArray := prog_12_method_50_code
def yX10_no : MethodName := ⟨RX10, "no", "(II)Z"⟩
abbrev cX10_noSet : ByteArray := prog_12_method_51_code
def yX10_noSet : MethodName := ⟨RX10, "noSet", "(I)Z"⟩
abbrev cX10_noCursor : ByteArray := prog_12_method_52_code
def yX10_noCursor : MethodName := ⟨RX10, "noCursor", "(I)Z"⟩
abbrev cX10_openOn : ByteArray := prog_12_method_53_code
def yX10_openOn : MethodName := ⟨RX10, "openOn", "(I)I"⟩
abbrev cX10_set : ByteArray := prog_12_method_54_code
def yX10_set : MethodName := ⟨RX10, "set", "(II)I"⟩
abbrev cX10_isInside : ByteArray := prog_12_method_55_code
def yX10_isInside : MethodName := ⟨RX10, "isInside", "(I)Z"⟩
abbrev cX10_cell : ByteArray := prog_12_method_56_code
def yX10_cell : MethodName := ⟨RX10, "cell", "(IIZ)I"⟩
abbrev cX10_place : ByteArray := prog_12_method_57_code
def yX10_place : MethodName := ⟨RX10, "place", "(II)I"⟩
abbrev cX10_stampOf : ByteArray := prog_12_method_58_code
def yX10_stampOf : MethodName := ⟨RX10, "stampOf", "(II)I"⟩
abbrev cX10_event : ByteArray := prog_12_method_59_code
def yX10_event : MethodName := ⟨RX10, "event", "(III)I"⟩
abbrev cX10_noStamp : ByteArray := prog_12_method_60_code
def yX10_noStamp : MethodName := ⟨RX10, "noStamp", "(II)Z"⟩
abbrev cX10_at : ByteArray := prog_12_method_61_code
def yX10_at : MethodName := ⟨RX10, "at", "(II)J"⟩
abbrev cX10_differs : ByteArray := prog_12_method_62_code
def yX10_differs : MethodName := ⟨RX10, "differs", "(IIIZ)I"⟩
abbrev cX10_since : ByteArray := prog_12_method_63_code
def yX10_since : MethodName := ⟨RX10, "since", "(II)I"⟩
abbrev cX10_fullest : ByteArray := prog_12_method_64_code
def yX10_fullest : MethodName := ⟨RX10, "fullest", "(I)I"⟩
abbrev cX10_cursor : ByteArray := prog_12_method_65_code
def yX10_cursor : MethodName := ⟨RX10, "cursor", "(II)I"⟩
abbrev cX10_meets : ByteArray := prog_12_method_66_code
def yX10_meets : MethodName := ⟨RX10, "meets", "(II)Z"⟩
abbrev cX10_ahead : ByteArray := prog_12_method_67_code
def yX10_ahead : MethodName := ⟨RX10, "ahead", "(I)I"⟩
abbrev cX10_noSets : ByteArray := prog_12_method_68_code
def yX10_noSets : MethodName := ⟨RX10, "noSets", "(II)Z"⟩
abbrev cX10_commonOf : ByteArray := prog_12_method_69_code
def yX10_commonOf : MethodName := ⟨RX10, "commonOf", "(II)I"⟩
abbrev cX10_common : ByteArray := prog_12_method_70_code
def yX10_common : MethodName := ⟨RX10, "common", "(II)I"⟩
abbrev cX10_isWithin : ByteArray := prog_12_method_71_code
def yX10_isWithin : MethodName := ⟨RX10, "isWithin", "(II)Z"⟩
abbrev cX10_likeness : ByteArray := prog_12_method_72_code
def yX10_likeness : MethodName := ⟨RX10, "likeness", "(II)D"⟩
abbrev cX10_add : ByteArray := prog_12_method_73_code
def yX10_add : MethodName := ⟨RX10, "add", "(II)I"⟩
abbrev cX10_remove : ByteArray := prog_12_method_74_code
def yX10_remove : MethodName := ⟨RX10, "remove", "(II)Z"⟩
abbrev cX10_clear : ByteArray := prog_12_method_75_code
def yX10_clear : MethodName := ⟨RX10, "clear", "(I)I"⟩
abbrev cX10_mark : ByteArray := prog_12_method_76_code
def yX10_mark : MethodName := ⟨RX10, "mark", "()I"⟩
abbrev cX10_open : ByteArray := prog_12_method_77_code
def yX10_open : MethodName := ⟨RX10, "open", "(IZ)I"⟩
abbrev cX10_close : ByteArray := prog_12_method_78_code
def yX10_close : MethodName := ⟨RX10, "close", "(I)I"⟩
abbrev cX10_step : ByteArray := prog_12_method_79_code
def yX10_step : MethodName := ⟨RX10, "step", "(I)I"⟩
abbrev cX10_removeMet : ByteArray := prog_12_method_80_code
def yX10_removeMet : MethodName := ⟨RX10, "removeMet", "(I)I"⟩
abbrev cX10_keep : ByteArray := prog_12_method_81_code
def yX10_keep : MethodName := ⟨RX10, "keep", "(II)I"⟩
abbrev cX10_unite : ByteArray := prog_12_method_82_code
def yX10_unite : MethodName := ⟨RX10, "unite", "(II)I"⟩
abbrev cX10_copies : ByteArray := prog_12_method_83_code
def yX10_copies : MethodName := ⟨RX10, "copies", "([II[II)V"⟩
abbrev cX10_keeps : ByteArray := prog_12_method_84_code
def yX10_keeps : MethodName := ⟨RX10, "keeps", "()V"⟩
abbrev cX10_undo : ByteArray := prog_12_method_85_code
def yX10_undo : MethodName := ⟨RX10, "undo", "()I"⟩
abbrev cX10_noSlot : ByteArray := prog_12_method_86_code
def yX10_noSlot : MethodName := ⟨RX10, "noSlot", "(I)Z"⟩
abbrev cX10_saveSnapshot : ByteArray := prog_12_method_87_code
def yX10_saveSnapshot : MethodName := ⟨RX10, "saveSnapshot", "(I)Z"⟩
abbrev cX10_restoreSnapshot : ByteArray := prog_12_method_88_code
def yX10_restoreSnapshot : MethodName := ⟨RX10, "restoreSnapshot", "(I)I"⟩
def RJx145de : String := "java/io/Serializable"
def TJx145de : u_T := fun k => match k with
  | _ => ("", "", "", false)
def tyJx145de : Nat → FieldType := fun k => match k with
  | _ => .int
theorem nmJx145de : ∀ a, a < 0 → ∀ b, b < 0 → a ≠ b → (TJx145de a).2.1 ≠ (TJx145de b).2.1 := by decide +kernel
theorem tyJx145de_ok : ∀ k, k < 0 → parseFieldDescriptor (TJx145de k).2.2.1 = some (tyJx145de k) := by decide +kernel
def RJ5 : String := "java/lang/AbstractStringBuilder"
def TJ5 : u_T := fun k => match k with
  | _ => ("", "", "", false)
def tyJ5 : Nat → FieldType := fun k => match k with
  | _ => .int
theorem nmJ5 : ∀ a, a < 0 → ∀ b, b < 0 → a ≠ b → (TJ5 a).2.1 ≠ (TJ5 b).2.1 := by decide +kernel
theorem tyJ5_ok : ∀ k, k < 0 → parseFieldDescriptor (TJ5 k).2.2.1 = some (tyJ5 k) := by decide +kernel
abbrev cJ5_init_d00df : ByteArray := prog_13_method_2_code
def yJ5_init_d00df : MethodName := ⟨RJ5, "<init>", "(I)V"⟩
abbrev cJ5_length_8abf5 : ByteArray := prog_13_method_6_code
def yJ5_length_8abf5 : MethodName := ⟨RJ5, "length", "()I"⟩
abbrev cJ5_ensureCapacityInternal_d00df : ByteArray := prog_13_method_9_code
def yJ5_ensureCapacityInternal_d00df : MethodName := ⟨RJ5, "ensureCapacityInternal", "(I)V"⟩
abbrev cJ5_newCapacity_0f7a4 : ByteArray := prog_13_method_10_code
def yJ5_newCapacity_0f7a4 : MethodName := ⟨RJ5, "newCapacity", "(I)I"⟩
abbrev cJ5_inflate_da8c8 : ByteArray := prog_13_method_11_code
def yJ5_inflate_da8c8 : MethodName := ⟨RJ5, "inflate", "()V"⟩
abbrev cJ5_append_cf1ce : ByteArray := prog_13_method_22_code
def yJ5_append_cf1ce : MethodName := ⟨RJ5, "append", "(Ljava/lang/String;)Ljava/lang/AbstractStringBuilder;"⟩
abbrev cJ5_appendNull_278bc : ByteArray := prog_13_method_26_code
def yJ5_appendNull_278bc : MethodName := ⟨RJ5, "appendNull", "()Ljava/lang/AbstractStringBuilder;"⟩
abbrev cJ5_append_3fe6f : ByteArray := prog_13_method_31_code
def yJ5_append_3fe6f : MethodName := ⟨RJ5, "append", "(C)Ljava/lang/AbstractStringBuilder;"⟩
abbrev cJ5_append_c97b9 : ByteArray := prog_13_method_32_code
def yJ5_append_c97b9 : MethodName := ⟨RJ5, "append", "(I)Ljava/lang/AbstractStringBuilder;"⟩
abbrev cJ5_getValue_6d5f1 : ByteArray := prog_13_method_64_code
def yJ5_getValue_6d5f1 : MethodName := ⟨RJ5, "getValue", "()[B"⟩
abbrev cJ5_isLatin1_aae02 : ByteArray := prog_13_method_68_code
def yJ5_isLatin1_aae02 : MethodName := ⟨RJ5, "isLatin1", "()Z"⟩
abbrev cJ5_inflateIfNeededFor_a7421 : ByteArray := prog_13_method_71_code
def yJ5_inflateIfNeededFor_a7421 : MethodName := ⟨RJ5, "inflateIfNeededFor", "(Ljava/lang/String;)V"⟩
abbrev cJ5_putStringAt_47b60 : ByteArray := prog_13_method_73_code
def yJ5_putStringAt_47b60 : MethodName := ⟨RJ5, "putStringAt", "(ILjava/lang/String;)V"⟩
def RJx2cfe8 : String := "java/lang/Appendable"
def TJx2cfe8 : u_T := fun k => match k with
  | _ => ("", "", "", false)
def tyJx2cfe8 : Nat → FieldType := fun k => match k with
  | _ => .int
theorem nmJx2cfe8 : ∀ a, a < 0 → ∀ b, b < 0 → a ≠ b → (TJx2cfe8 a).2.1 ≠ (TJx2cfe8 b).2.1 := by decide +kernel
theorem tyJx2cfe8_ok : ∀ k, k < 0 → parseFieldDescriptor (TJx2cfe8 k).2.2.1 = some (tyJx2cfe8 k) := by decide +kernel
def RJx9f9b0 : String := "java/lang/CharSequence"
def TJx9f9b0 : u_T := fun k => match k with
  | _ => ("", "", "", false)
def tyJx9f9b0 : Nat → FieldType := fun k => match k with
  | _ => .int
theorem nmJx9f9b0 : ∀ a, a < 0 → ∀ b, b < 0 → a ≠ b → (TJx9f9b0 a).2.1 ≠ (TJx9f9b0 b).2.1 := by decide +kernel
theorem tyJx9f9b0_ok : ∀ k, k < 0 → parseFieldDescriptor (TJx9f9b0 k).2.2.1 = some (tyJx9f9b0 k) := by decide +kernel
def RJx8e188 : String := "java/lang/Cloneable"
def TJx8e188 : u_T := fun k => match k with
  | _ => ("", "", "", false)
def tyJx8e188 : Nat → FieldType := fun k => match k with
  | _ => .int
theorem nmJx8e188 : ∀ a, a < 0 → ∀ b, b < 0 → a ≠ b → (TJx8e188 a).2.1 ≠ (TJx8e188 b).2.1 := by decide +kernel
theorem tyJx8e188_ok : ∀ k, k < 0 → parseFieldDescriptor (TJx8e188 k).2.2.1 = some (tyJx8e188 k) := by decide +kernel
def RJxb160c : String := "java/lang/Comparable"
def TJxb160c : u_T := fun k => match k with
  | _ => ("", "", "", false)
def tyJxb160c : Nat → FieldType := fun k => match k with
  | _ => .int
theorem nmJxb160c : ∀ a, a < 0 → ∀ b, b < 0 → a ≠ b → (TJxb160c a).2.1 ≠ (TJxb160c b).2.1 := by decide +kernel
theorem tyJxb160c_ok : ∀ k, k < 0 → parseFieldDescriptor (TJxb160c k).2.2.1 = some (tyJxb160c k) := by decide +kernel
def RJx29ce0 : String := "java/lang/Enum"
def TJx29ce0 : u_T := fun k => match k with
  | _ => ("", "", "", false)
def tyJx29ce0 : Nat → FieldType := fun k => match k with
  | _ => .int
theorem nmJx29ce0 : ∀ a, a < 0 → ∀ b, b < 0 → a ≠ b → (TJx29ce0 a).2.1 ≠ (TJx29ce0 b).2.1 := by decide +kernel
theorem tyJx29ce0_ok : ∀ k, k < 0 → parseFieldDescriptor (TJx29ce0 k).2.2.1 = some (tyJx29ce0 k) := by decide +kernel
def RJ6 : String := "java/lang/Integer"
def TJ6 : u_T := fun k => match k with
  | _ => ("", "", "", false)
def tyJ6 : Nat → FieldType := fun k => match k with
  | _ => .int
theorem nmJ6 : ∀ a, a < 0 → ∀ b, b < 0 → a ≠ b → (TJ6 a).2.1 ≠ (TJ6 b).2.1 := by decide +kernel
theorem tyJ6_ok : ∀ k, k < 0 → parseFieldDescriptor (TJ6 k).2.2.1 = some (tyJ6 k) := by decide +kernel
abbrev cJ6_getChars_ba4f3 : ByteArray := prog_20_method_12_code
def yJ6_getChars_ba4f3 : MethodName := ⟨RJ6, "getChars", "(II[B)I"⟩
abbrev cJ6_stringSize_0f7a4 : ByteArray := prog_20_method_13_code
def yJ6_stringSize_0f7a4 : MethodName := ⟨RJ6, "stringSize", "(I)I"⟩
def RJ13 : String := "java/lang/Long"
def TJ13 : u_T := fun k => match k with
  | _ => ("", "", "", false)
def tyJ13 : Nat → FieldType := fun k => match k with
  | _ => .int
theorem nmJ13 : ∀ a, a < 0 → ∀ b, b < 0 → a ≠ b → (TJ13 a).2.1 ≠ (TJ13 b).2.1 := by decide +kernel
theorem tyJ13_ok : ∀ k, k < 0 → parseFieldDescriptor (TJ13 k).2.2.1 = some (tyJ13 k) := by decide +kernel
abbrev cJ13_bitCount_95d88 : ByteArray := prog_21_method_50_code
def yJ13_bitCount_95d88 : MethodName := ⟨RJ13, "bitCount", "(J)I"⟩
def RJ9 : String := "java/lang/Math"
def TJ9 : u_T := fun k => match k with
  | _ => ("", "", "", false)
def tyJ9 : Nat → FieldType := fun k => match k with
  | _ => .int
theorem nmJ9 : ∀ a, a < 0 → ∀ b, b < 0 → a ≠ b → (TJ9 a).2.1 ≠ (TJ9 b).2.1 := by decide +kernel
theorem tyJ9_ok : ∀ k, k < 0 → parseFieldDescriptor (TJ9 k).2.2.1 = some (tyJ9 k) := by decide +kernel
abbrev cJ9_max_7cf53 : ByteArray := prog_22_method_65_code
def yJ9_max_7cf53 : MethodName := ⟨RJ9, "max", "(II)I"⟩
abbrev cJ9_min_7cf53 : ByteArray := prog_22_method_69_code
def yJ9_min_7cf53 : MethodName := ⟨RJ9, "min", "(II)I"⟩
def RJxd2413 : String := "java/lang/Number"
def TJxd2413 : u_T := fun k => match k with
  | _ => ("", "", "", false)
def tyJxd2413 : Nat → FieldType := fun k => match k with
  | _ => .int
theorem nmJxd2413 : ∀ a, a < 0 → ∀ b, b < 0 → a ≠ b → (TJxd2413 a).2.1 ≠ (TJxd2413 b).2.1 := by decide +kernel
theorem tyJxd2413_ok : ∀ k, k < 0 → parseFieldDescriptor (TJxd2413 k).2.2.1 = some (tyJxd2413 k) := by decide +kernel
def RJ0 : String := "java/lang/String"
def TJ0 : u_T := fun k => match k with
  | 0 => ("java/lang/String", "value", "[B", true)
  | 1 => ("java/lang/String", "coder", "B", true)
  | 2 => ("java/lang/String", "hash", "I", false)
  | _ => ("java/lang/String", "hashIsZero", "Z", false)
def tyJ0 : Nat → FieldType := fun k => match k with
  | 0 => .array .byte
  | 1 => .byte
  | 2 => .int
  | _ => .boolean
theorem nmJ0 : ∀ a, a < 4 → ∀ b, b < 4 → a ≠ b → (TJ0 a).2.1 ≠ (TJ0 b).2.1 := by decide +kernel
theorem tyJ0_ok : ∀ k, k < 4 → parseFieldDescriptor (TJ0 k).2.2.1 = some (tyJ0 k) := by decide +kernel
abbrev cJ0_init_81219 : ByteArray := prog_25_method_53_code
def yJ0_init_81219 : MethodName := ⟨RJ0, "<init>", "(Ljava/lang/StringBuilder;)V"⟩
abbrev cJ0_length_8abf5 : ByteArray := prog_25_method_54_code
def yJ0_length_8abf5 : MethodName := ⟨RJ0, "length", "()I"⟩
abbrev cJ0_charAt_5068e : ByteArray := prog_25_method_56_code
def yJ0_charAt_5068e : MethodName := ⟨RJ0, "charAt", "(I)C"⟩
abbrev cJ0_getBytes_840e7 : ByteArray := prog_25_method_147_code
def yJ0_getBytes_840e7 : MethodName := ⟨RJ0, "getBytes", "([BIB)V"⟩
abbrev cJ0_init_db425 : ByteArray := prog_25_method_150_code
def yJ0_init_db425 : MethodName := ⟨RJ0, "<init>", "(Ljava/lang/AbstractStringBuilder;Ljava/lang/Void;)V"⟩
abbrev cJ0_coder_7d493 : ByteArray := prog_25_method_152_code
def yJ0_coder_7d493 : MethodName := ⟨RJ0, "coder", "()B"⟩
abbrev cJ0_isLatin1_aae02 : ByteArray := prog_25_method_154_code
def yJ0_isLatin1_aae02 : MethodName := ⟨RJ0, "isLatin1", "()Z"⟩
abbrev cJ0_checkIndex_df160 : ByteArray := prog_25_method_155_code
def yJ0_checkIndex_df160 : MethodName := ⟨RJ0, "checkIndex", "(II)V"⟩
abbrev cJ0_checkBoundsOffCount_cabcc : ByteArray := prog_25_method_157_code
def yJ0_checkBoundsOffCount_cabcc : MethodName := ⟨RJ0, "checkBoundsOffCount", "(III)I"⟩
abbrev cJ0_checkBoundsBeginEnd_23922 : ByteArray := prog_25_method_158_code
def yJ0_checkBoundsBeginEnd_23922 : MethodName := ⟨RJ0, "checkBoundsBeginEnd", "(III)V"⟩
def RJ4 : String := "java/lang/StringBuilder"
def TJ4 : u_T := fun k => match k with
  | 0 => ("java/lang/AbstractStringBuilder", "value", "[B", false)
  | 1 => ("java/lang/AbstractStringBuilder", "coder", "B", false)
  | 2 => ("java/lang/AbstractStringBuilder", "maybeLatin1", "Z", false)
  | _ => ("java/lang/AbstractStringBuilder", "count", "I", false)
def tyJ4 : Nat → FieldType := fun k => match k with
  | 0 => .array .byte
  | 1 => .byte
  | 2 => .boolean
  | _ => .int
theorem nmJ4 : ∀ a, a < 4 → ∀ b, b < 4 → a ≠ b → (TJ4 a).2.1 ≠ (TJ4 b).2.1 := by decide +kernel
theorem tyJ4_ok : ∀ k, k < 4 → parseFieldDescriptor (TJ4 k).2.2.1 = some (tyJ4 k) := by decide +kernel
abbrev cJ4_init_da8c8 : ByteArray := prog_26_method_1_code
def yJ4_init_da8c8 : MethodName := ⟨RJ4, "<init>", "()V"⟩
abbrev cJ4_append_15ec4 : ByteArray := prog_26_method_7_code
def yJ4_append_15ec4 : MethodName := ⟨RJ4, "append", "(Ljava/lang/String;)Ljava/lang/StringBuilder;"⟩
abbrev cJ4_append_cf468 : ByteArray := prog_26_method_14_code
def yJ4_append_cf468 : MethodName := ⟨RJ4, "append", "(C)Ljava/lang/StringBuilder;"⟩
abbrev cJ4_append_bf812 : ByteArray := prog_26_method_15_code
def yJ4_append_bf812 : MethodName := ⟨RJ4, "append", "(I)Ljava/lang/StringBuilder;"⟩
abbrev cJ4_toString_0e30d : ByteArray := prog_26_method_42_code
def yJ4_toString_0e30d : MethodName := ⟨RJ4, "toString", "()Ljava/lang/String;"⟩
abbrev cJ4_length_8abf5 : ByteArray := prog_26_method_93_code
def yJ4_length_8abf5 : MethodName := ⟨RJ4, "length", "()I"⟩
def RJ1 : String := "java/lang/StringLatin1"
def TJ1 : u_T := fun k => match k with
  | _ => ("", "", "", false)
def tyJ1 : Nat → FieldType := fun k => match k with
  | _ => .int
theorem nmJ1 : ∀ a, a < 0 → ∀ b, b < 0 → a ≠ b → (TJ1 a).2.1 ≠ (TJ1 b).2.1 := by decide +kernel
theorem tyJ1_ok : ∀ k, k < 0 → parseFieldDescriptor (TJ1 k).2.2.1 = some (tyJ1 k) := by decide +kernel
abbrev cJ1_charAt_3b067 : ByteArray := prog_27_method_2_code
def yJ1_charAt_3b067 : MethodName := ⟨RJ1, "charAt", "([BI)C"⟩
abbrev cJ1_canEncode_fc78d : ByteArray := prog_27_method_3_code
def yJ1_canEncode_fc78d : MethodName := ⟨RJ1, "canEncode", "(C)Z"⟩
abbrev cJ1_inflate_0e8fd : ByteArray := prog_27_method_50_code
def yJ1_inflate_0e8fd : MethodName := ⟨RJ1, "inflate", "([BI[BII)V"⟩
def RJ2 : String := "java/lang/StringUTF16"
def TJ2 : u_T := fun k => match k with
  | _ => ("", "", "", false)
def tyJ2 : Nat → FieldType := fun k => match k with
  | _ => .int
theorem nmJ2 : ∀ a, a < 0 → ∀ b, b < 0 → a ≠ b → (TJ2 a).2.1 ≠ (TJ2 b).2.1 := by decide +kernel
theorem tyJ2_ok : ∀ k, k < 0 → parseFieldDescriptor (TJ2 k).2.2.1 = some (tyJ2 k) := by decide +kernel
abbrev cJ2_newBytesFor_77867 : ByteArray := prog_28_method_2_code
def yJ2_newBytesFor_77867 : MethodName := ⟨RJ2, "newBytesFor", "(I)[B"⟩
abbrev cJ2_newBytesLength_0f7a4 : ByteArray := prog_28_method_3_code
def yJ2_newBytesLength_0f7a4 : MethodName := ⟨RJ2, "newBytesLength", "(I)I"⟩
abbrev cJ2_putChar_b72d1 : ByteArray := prog_28_method_4_code
def yJ2_putChar_b72d1 : MethodName := ⟨RJ2, "putChar", "([BII)V"⟩
abbrev cJ2_getChar_3b067 : ByteArray := prog_28_method_5_code
def yJ2_getChar_3b067 : MethodName := ⟨RJ2, "getChar", "([BI)C"⟩
abbrev cJ2_length_9d52b : ByteArray := prog_28_method_6_code
def yJ2_length_9d52b : MethodName := ⟨RJ2, "length", "([B)I"⟩
abbrev cJ2_coderFromArrayLen_85cad : ByteArray := prog_28_method_15_code
def yJ2_coderFromArrayLen_85cad : MethodName := ⟨RJ2, "coderFromArrayLen", "([BI)B"⟩
abbrev cJ2_compress_39247 : ByteArray := prog_28_method_17_code
def yJ2_compress_39247 : MethodName := ⟨RJ2, "compress", "([BII)[B"⟩
abbrev cJ2_compress_5af95 : ByteArray := prog_28_method_22_code
def yJ2_compress_5af95 : MethodName := ⟨RJ2, "compress", "([BI[BII)I"⟩
abbrev cJ2_putCharSB_b72d1 : ByteArray := prog_28_method_71_code
def yJ2_putCharSB_b72d1 : MethodName := ⟨RJ2, "putCharSB", "([BII)V"⟩
abbrev cJ2_getChars_46870 : ByteArray := prog_28_method_77_code
def yJ2_getChars_46870 : MethodName := ⟨RJ2, "getChars", "(III[B)I"⟩
abbrev cJ2_putCharsAt_cd4e5 : ByteArray := prog_28_method_81_code
def yJ2_putCharsAt_cd4e5 : MethodName := ⟨RJ2, "putCharsAt", "([BICCCC)I"⟩
abbrev cJ2_charAt_3b067 : ByteArray := prog_28_method_83_code
def yJ2_charAt_3b067 : MethodName := ⟨RJ2, "charAt", "([BI)C"⟩
abbrev cJ2_inflate_0e8fd : ByteArray := prog_28_method_86_code
def yJ2_inflate_0e8fd : MethodName := ⟨RJ2, "inflate", "([BI[BII)V"⟩
abbrev cJ2_getChars_ba4f3 : ByteArray := prog_28_method_89_code
def yJ2_getChars_ba4f3 : MethodName := ⟨RJ2, "getChars", "(II[B)I"⟩
abbrev cJ2_checkIndex_2214a : ByteArray := prog_28_method_91_code
def yJ2_checkIndex_2214a : MethodName := ⟨RJ2, "checkIndex", "(I[B)V"⟩
abbrev cJ2_checkBoundsBeginEnd_d044e : ByteArray := prog_28_method_93_code
def yJ2_checkBoundsBeginEnd_d044e : MethodName := ⟨RJ2, "checkBoundsBeginEnd", "(II[B)V"⟩
abbrev cJ2_checkBoundsOffCount_d044e : ByteArray := prog_28_method_94_code
def yJ2_checkBoundsOffCount_d044e : MethodName := ⟨RJ2, "checkBoundsOffCount", "(II[B)V"⟩
def RJ10 : String := "java/lang/System"
def TJ10 : u_T := fun k => match k with
  | _ => ("", "", "", false)
def tyJ10 : Nat → FieldType := fun k => match k with
  | _ => .int
theorem nmJ10 : ∀ a, a < 0 → ∀ b, b < 0 → a ≠ b → (TJ10 a).2.1 ≠ (TJ10 b).2.1 := by decide +kernel
theorem tyJ10_ok : ∀ k, k < 0 → parseFieldDescriptor (TJ10 k).2.2.1 = some (tyJ10 k) := by decide +kernel
def RJxfd54e : String := "java/lang/constant/Constable"
def TJxfd54e : u_T := fun k => match k with
  | _ => ("", "", "", false)
def tyJxfd54e : Nat → FieldType := fun k => match k with
  | _ => .int
theorem nmJxfd54e : ∀ a, a < 0 → ∀ b, b < 0 → a ≠ b → (TJxfd54e a).2.1 ≠ (TJxfd54e b).2.1 := by decide +kernel
theorem tyJxfd54e_ok : ∀ k, k < 0 → parseFieldDescriptor (TJxfd54e k).2.2.1 = some (tyJxfd54e k) := by decide +kernel
def RJx3cf43 : String := "java/lang/constant/ConstantDesc"
def TJx3cf43 : u_T := fun k => match k with
  | _ => ("", "", "", false)
def tyJx3cf43 : Nat → FieldType := fun k => match k with
  | _ => .int
theorem nmJx3cf43 : ∀ a, a < 0 → ∀ b, b < 0 → a ≠ b → (TJx3cf43 a).2.1 ≠ (TJx3cf43 b).2.1 := by decide +kernel
theorem tyJx3cf43_ok : ∀ k, k < 0 → parseFieldDescriptor (TJx3cf43 k).2.2.1 = some (tyJx3cf43 k) := by decide +kernel
def RJ7 : String := "java/util/Arrays"
def TJ7 : u_T := fun k => match k with
  | _ => ("", "", "", false)
def tyJ7 : Nat → FieldType := fun k => match k with
  | _ => .int
theorem nmJ7 : ∀ a, a < 0 → ∀ b, b < 0 → a ≠ b → (TJ7 a).2.1 ≠ (TJ7 b).2.1 := by decide +kernel
theorem tyJ7_ok : ∀ k, k < 0 → parseFieldDescriptor (TJ7 k).2.2.1 = some (tyJ7 k) := by decide +kernel
abbrev cJ7_fill_53178 : ByteArray := prog_31_method_103_code
def yJ7_fill_53178 : MethodName := ⟨RJ7, "fill", "([II)V"⟩
abbrev cJ7_copyOf_9075b : ByteArray := prog_31_method_121_code
def yJ7_copyOf_9075b : MethodName := ⟨RJ7, "copyOf", "([BI)[B"⟩
abbrev cJ7_checkLength_df160 : ByteArray := prog_31_method_131_code
def yJ7_checkLength_df160 : MethodName := ⟨RJ7, "checkLength", "(II)V"⟩
abbrev cJ7_copyOfRange_39247 : ByteArray := prog_31_method_132_code
def yJ7_copyOfRange_39247 : MethodName := ⟨RJ7, "copyOfRange", "([BII)[B"⟩
abbrev cJ7_copyOfRangeByte_39247 : ByteArray := prog_31_method_133_code
def yJ7_copyOfRangeByte_39247 : MethodName := ⟨RJ7, "copyOfRangeByte", "([BII)[B"⟩
def RJ8 : String := "jdk/internal/util/ArraysSupport"
def TJ8 : u_T := fun k => match k with
  | _ => ("", "", "", false)
def tyJ8 : Nat → FieldType := fun k => match k with
  | _ => .int
theorem nmJ8 : ∀ a, a < 0 → ∀ b, b < 0 → a ≠ b → (TJ8 a).2.1 ≠ (TJ8 b).2.1 := by decide +kernel
theorem tyJ8_ok : ∀ k, k < 0 → parseFieldDescriptor (TJ8 k).2.2.1 = some (tyJ8 k) := by decide +kernel
abbrev cJ8_newLength_cabcc : ByteArray := prog_32_method_27_code
def yJ8_newLength_cabcc : MethodName := ⟨RJ8, "newLength", "(III)I"⟩
abbrev cJ8_hugeLength_7cf53 : ByteArray := prog_32_method_28_code
def yJ8_hugeLength_7cf53 : MethodName := ⟨RJ8, "hugeLength", "(II)I"⟩
def RJ3 : String := "jdk/internal/util/Preconditions"
def TJ3 : u_T := fun k => match k with
  | _ => ("", "", "", false)
def tyJ3 : Nat → FieldType := fun k => match k with
  | _ => .int
theorem nmJ3 : ∀ a, a < 0 → ∀ b, b < 0 → a ≠ b → (TJ3 a).2.1 ≠ (TJ3 b).2.1 := by decide +kernel
theorem tyJ3_ok : ∀ k, k < 0 → parseFieldDescriptor (TJ3 k).2.2.1 = some (tyJ3 k) := by decide +kernel
abbrev cJ3_checkIndex_8e157 : ByteArray := prog_33_method_11_code
def yJ3_checkIndex_8e157 : MethodName := ⟨RJ3, "checkIndex", "(IILjava/util/function/BiFunction;)I"⟩
abbrev cJ3_checkFromToIndex_8c36e : ByteArray := prog_33_method_12_code
def yJ3_checkFromToIndex_8c36e : MethodName := ⟨RJ3, "checkFromToIndex", "(IIILjava/util/function/BiFunction;)I"⟩
abbrev cJ3_checkFromIndexSize_8c36e : ByteArray := prog_33_method_13_code
def yJ3_checkFromIndexSize_8c36e : MethodName := ⟨RJ3, "checkFromIndexSize", "(IIILjava/util/function/BiFunction;)I"⟩
def RL : String := "TwinSetsLaw"
abbrev cL_parse : ByteArray := method_3_code
def yL_parse : MethodName := ⟨RL, "parse", "(LTwinSets;I[J)I"⟩
abbrev cL_size : ByteArray := method_4_code
def yL_size : MethodName := ⟨RL, "size", "(LTwinSets;I[J)I"⟩
abbrev cL_set : ByteArray := method_5_code
def yL_set : MethodName := ⟨RL, "set", "(LTwinSets;II[J)I"⟩
abbrev cL_cell : ByteArray := method_6_code
def yL_cell : MethodName := ⟨RL, "cell", "(LTwinSets;IIZ[J)I"⟩
abbrev cL_place : ByteArray := method_7_code
def yL_place : MethodName := ⟨RL, "place", "(LTwinSets;II[J)I"⟩
abbrev cL_stampOf : ByteArray := method_8_code
def yL_stampOf : MethodName := ⟨RL, "stampOf", "(LTwinSets;II[J)I"⟩
abbrev cL_event : ByteArray := method_9_code
def yL_event : MethodName := ⟨RL, "event", "(LTwinSets;III[J)I"⟩
abbrev cL_at : ByteArray := method_10_code
def yL_at : MethodName := ⟨RL, "at", "(LTwinSets;II[J)I"⟩
abbrev cL_differs : ByteArray := method_11_code
def yL_differs : MethodName := ⟨RL, "differs", "(LTwinSets;IIIZ[J)I"⟩
abbrev cL_since : ByteArray := method_12_code
def yL_since : MethodName := ⟨RL, "since", "(LTwinSets;II[J)I"⟩
abbrev cL_fullest : ByteArray := method_13_code
def yL_fullest : MethodName := ⟨RL, "fullest", "(LTwinSets;I[J)I"⟩
abbrev cL_cursor : ByteArray := method_14_code
def yL_cursor : MethodName := ⟨RL, "cursor", "(LTwinSets;II[J)I"⟩
abbrev cL_ahead : ByteArray := method_15_code
def yL_ahead : MethodName := ⟨RL, "ahead", "(LTwinSets;I[J)I"⟩
abbrev cL_common : ByteArray := method_16_code
def yL_common : MethodName := ⟨RL, "common", "(LTwinSets;II[J)I"⟩
abbrev cL_isWithin : ByteArray := method_17_code
def yL_isWithin : MethodName := ⟨RL, "isWithin", "(LTwinSets;II[J)I"⟩
abbrev cL_likeness : ByteArray := method_18_code
def yL_likeness : MethodName := ⟨RL, "likeness", "(LTwinSets;II[D)I"⟩
abbrev cL_add : ByteArray := method_19_code
def yL_add : MethodName := ⟨RL, "add", "(LTwinSets;II[J)I"⟩
abbrev cL_remove : ByteArray := method_20_code
def yL_remove : MethodName := ⟨RL, "remove", "(LTwinSets;II[J)I"⟩
abbrev cL_clear : ByteArray := method_21_code
def yL_clear : MethodName := ⟨RL, "clear", "(LTwinSets;I[J)I"⟩
abbrev cL_mark : ByteArray := method_22_code
def yL_mark : MethodName := ⟨RL, "mark", "(LTwinSets;[J)I"⟩
abbrev cL_open : ByteArray := method_23_code
def yL_open : MethodName := ⟨RL, "open", "(LTwinSets;IZ[J)I"⟩
abbrev cL_close : ByteArray := method_24_code
def yL_close : MethodName := ⟨RL, "close", "(LTwinSets;I[J)I"⟩
abbrev cL_step : ByteArray := method_25_code
def yL_step : MethodName := ⟨RL, "step", "(LTwinSets;I[J)I"⟩
abbrev cL_removeMet : ByteArray := method_26_code
def yL_removeMet : MethodName := ⟨RL, "removeMet", "(LTwinSets;I[J)I"⟩
abbrev cL_keep : ByteArray := method_27_code
def yL_keep : MethodName := ⟨RL, "keep", "(LTwinSets;II[J)I"⟩
abbrev cL_unite : ByteArray := method_28_code
def yL_unite : MethodName := ⟨RL, "unite", "(LTwinSets;II[J)I"⟩
abbrev cL_saveSnapshot : ByteArray := method_29_code
def yL_saveSnapshot : MethodName := ⟨RL, "saveSnapshot", "(LTwinSets;I[J)I"⟩
abbrev cL_restoreSnapshot : ByteArray := method_30_code
def yL_restoreSnapshot : MethodName := ⟨RL, "restoreSnapshot", "(LTwinSets;I[J)I"⟩
abbrev cL_law : ByteArray := code
def yL_law : MethodName := ⟨RL, "law", "([I)Z"⟩
