theorem va_Nw.useF {a : String} {i : Nat} {b n d h : String} {A : Array Value} {U : State} (hZ : va_Nw (.fieldLinkNest a i b n d h) U) : (Cond.fieldLinkNest a i b n d h).before A U = true := va_Nw.use rfl hZ
theorem ko0 : vNF[0]? = some (RX3, 163, "TwinSets$Input", "bytes", "[B", "TwinSets") := rfl
theorem kn0 {D : vD} {s : State} (h : vS D s) (args : Array Value) : (Cond.fieldLinkNest RX3 163 "TwinSets$Input" "bytes" "[B" "TwinSets").before args s = true := va_Nw.useF (h.2.2.2.2.2.1 0 (RX3, 163, "TwinSets$Input", "bytes", "[B", "TwinSets") ko0)
theorem ko1 : vNF[1]? = some (RX9, 48, "TwinSets$Input", "length", "I", "TwinSets") := rfl
theorem kn1 {D : vD} {s : State} (h : vS D s) (args : Array Value) : (Cond.fieldLinkNest RX9 48 "TwinSets$Input" "length" "I" "TwinSets").before args s = true := va_Nw.useF (h.2.2.2.2.2.1 1 (RX9, 48, "TwinSets$Input", "length", "I", "TwinSets") ko1)
theorem ko2 : vNF[2]? = some (RX9, 106, "TwinSets$UndoHistory", "count", "I", "TwinSets") := rfl
theorem kn2 {D : vD} {s : State} (h : vS D s) (args : Array Value) : (Cond.fieldLinkNest RX9 106 "TwinSets$UndoHistory" "count" "I" "TwinSets").before args s = true := va_Nw.useF (h.2.2.2.2.2.1 2 (RX9, 106, "TwinSets$UndoHistory", "count", "I", "TwinSets") ko2)
theorem ko3 : vNF[3]? = some (RX9, 303, "TwinSets$SnapshotSlots", "isFull", "[Z", "TwinSets") := rfl
theorem kn3 {D : vD} {s : State} (h : vS D s) (args : Array Value) : (Cond.fieldLinkNest RX9 303 "TwinSets$SnapshotSlots" "isFull" "[Z" "TwinSets").before args s = true := va_Nw.useF (h.2.2.2.2.2.1 3 (RX9, 303, "TwinSets$SnapshotSlots", "isFull", "[Z", "TwinSets") ko3)
theorem ko4 : vNF[4]? = some (RX9, 171, "TwinSets$Log", "stamps", "[I", "TwinSets") := rfl
theorem kn4 {D : vD} {s : State} (h : vS D s) (args : Array Value) : (Cond.fieldLinkNest RX9 171 "TwinSets$Log" "stamps" "[I" "TwinSets").before args s = true := va_Nw.useF (h.2.2.2.2.2.1 4 (RX9, 171, "TwinSets$Log", "stamps", "[I", "TwinSets") ko4)
theorem ko5 : vNF[5]? = some (RX9, 172, "TwinSets$Log", "numbers", "[I", "TwinSets") := rfl
theorem kn5 {D : vD} {s : State} (h : vS D s) (args : Array Value) : (Cond.fieldLinkNest RX9 172 "TwinSets$Log" "numbers" "[I" "TwinSets").before args s = true := va_Nw.useF (h.2.2.2.2.2.1 5 (RX9, 172, "TwinSets$Log", "numbers", "[I", "TwinSets") ko5)
theorem ko6 : vNF[6]? = some (RX9, 175, "TwinSets$Log", "kinds", "[I", "TwinSets") := rfl
theorem kn6 {D : vD} {s : State} (h : vS D s) (args : Array Value) : (Cond.fieldLinkNest RX9 175 "TwinSets$Log" "kinds" "[I" "TwinSets").before args s = true := va_Nw.useF (h.2.2.2.2.2.1 6 (RX9, 175, "TwinSets$Log", "kinds", "[I", "TwinSets") ko6)
theorem ko7 : vNF[7]? = some (RX9, 143, "TwinSets$Log", "count", "I", "TwinSets") := rfl
theorem kn7 {D : vD} {s : State} (h : vS D s) (args : Array Value) : (Cond.fieldLinkNest RX9 143 "TwinSets$Log" "count" "I" "TwinSets").before args s = true := va_Nw.useF (h.2.2.2.2.2.1 7 (RX9, 143, "TwinSets$Log", "count", "I", "TwinSets") ko7)
theorem ko8 : vNF[8]? = some (RX9, 138, "TwinSets$Log", "firstStamp", "I", "TwinSets") := rfl
theorem kn8 {D : vD} {s : State} (h : vS D s) (args : Array Value) : (Cond.fieldLinkNest RX9 138 "TwinSets$Log" "firstStamp" "I" "TwinSets").before args s = true := va_Nw.useF (h.2.2.2.2.2.1 8 (RX9, 138, "TwinSets$Log", "firstStamp", "I", "TwinSets") ko8)
theorem ko9 : vNF[9]? = some (RX5, 123, "TwinSets$TwinRows", "members", "[I", "TwinSets") := rfl
theorem kn9 {D : vD} {s : State} (h : vS D s) (args : Array Value) : (Cond.fieldLinkNest RX5 123 "TwinSets$TwinRows" "members" "[I" "TwinSets").before args s = true := va_Nw.useF (h.2.2.2.2.2.1 9 (RX5, 123, "TwinSets$TwinRows", "members", "[I", "TwinSets") ko9)
theorem ko10 : vNF[10]? = some (RX9, 157, "TwinSets$TwinRows", "members", "[I", "TwinSets") := rfl
theorem kn10 {D : vD} {s : State} (h : vS D s) (args : Array Value) : (Cond.fieldLinkNest RX9 157 "TwinSets$TwinRows" "members" "[I" "TwinSets").before args s = true := va_Nw.useF (h.2.2.2.2.2.1 10 (RX9, 157, "TwinSets$TwinRows", "members", "[I", "TwinSets") ko10)
theorem ko11 : vNF[11]? = some (RX9, 154, "TwinSets$TwinRows", "places", "[I", "TwinSets") := rfl
theorem kn11 {D : vD} {s : State} (h : vS D s) (args : Array Value) : (Cond.fieldLinkNest RX9 154 "TwinSets$TwinRows" "places" "[I" "TwinSets").before args s = true := va_Nw.useF (h.2.2.2.2.2.1 11 (RX9, 154, "TwinSets$TwinRows", "places", "[I", "TwinSets") ko11)
theorem ko12 : vNF[12]? = some (RX5, 126, "TwinSets$TwinRows", "places", "[I", "TwinSets") := rfl
theorem kn12 {D : vD} {s : State} (h : vS D s) (args : Array Value) : (Cond.fieldLinkNest RX5 126 "TwinSets$TwinRows" "places" "[I" "TwinSets").before args s = true := va_Nw.useF (h.2.2.2.2.2.1 12 (RX5, 126, "TwinSets$TwinRows", "places", "[I", "TwinSets") ko12)
theorem ko13 : vNF[13]? = some (RX5, 93, "TwinSets$TwinRows", "stamps", "[I", "TwinSets") := rfl
theorem kn13 {D : vD} {s : State} (h : vS D s) (args : Array Value) : (Cond.fieldLinkNest RX5 93 "TwinSets$TwinRows" "stamps" "[I" "TwinSets").before args s = true := va_Nw.useF (h.2.2.2.2.2.1 13 (RX5, 93, "TwinSets$TwinRows", "stamps", "[I", "TwinSets") ko13)
theorem ko14 : vNF[14]? = some (RX9, 166, "TwinSets$TwinRows", "stamps", "[I", "TwinSets") := rfl
theorem kn14 {D : vD} {s : State} (h : vS D s) (args : Array Value) : (Cond.fieldLinkNest RX9 166 "TwinSets$TwinRows" "stamps" "[I" "TwinSets").before args s = true := va_Nw.useF (h.2.2.2.2.2.1 14 (RX9, 166, "TwinSets$TwinRows", "stamps", "[I", "TwinSets") ko14)
theorem ko15 : vNF[15]? = some (RX5, 96, "TwinSets$TwinRows", "log", "LTwinSets$Log;", "TwinSets") := rfl
theorem kn15 {D : vD} {s : State} (h : vS D s) (args : Array Value) : (Cond.fieldLinkNest RX5 96 "TwinSets$TwinRows" "log" "LTwinSets$Log;" "TwinSets").before args s = true := va_Nw.useF (h.2.2.2.2.2.1 15 (RX5, 96, "TwinSets$TwinRows", "log", "LTwinSets$Log;", "TwinSets") ko15)
theorem ko16 : vNF[16]? = some (RX9, 134, "TwinSets$TwinRows", "log", "LTwinSets$Log;", "TwinSets") := rfl
theorem kn16 {D : vD} {s : State} (h : vS D s) (args : Array Value) : (Cond.fieldLinkNest RX9 134 "TwinSets$TwinRows" "log" "LTwinSets$Log;" "TwinSets").before args s = true := va_Nw.useF (h.2.2.2.2.2.1 16 (RX9, 134, "TwinSets$TwinRows", "log", "LTwinSets$Log;", "TwinSets") ko16)
theorem ko17 : vNF[17]? = some (RX5, 72, "TwinSets$TwinRows", "name", "Ljava/lang/String;", "TwinSets") := rfl
theorem kn17 {D : vD} {s : State} (h : vS D s) (args : Array Value) : (Cond.fieldLinkNest RX5 72 "TwinSets$TwinRows" "name" "Ljava/lang/String;" "TwinSets").before args s = true := va_Nw.useF (h.2.2.2.2.2.1 17 (RX5, 72, "TwinSets$TwinRows", "name", "Ljava/lang/String;", "TwinSets") ko17)
theorem ko18 : vNF[18]? = some (RX5, 86, "TwinSets$TwinRows", "size", "I", "TwinSets") := rfl
theorem kn18 {D : vD} {s : State} (h : vS D s) (args : Array Value) : (Cond.fieldLinkNest RX5 86 "TwinSets$TwinRows" "size" "I" "TwinSets").before args s = true := va_Nw.useF (h.2.2.2.2.2.1 18 (RX5, 86, "TwinSets$TwinRows", "size", "I", "TwinSets") ko18)
theorem ko19 : vNF[19]? = some (RX9, 126, "TwinSets$TwinRows", "size", "I", "TwinSets") := rfl
theorem kn19 {D : vD} {s : State} (h : vS D s) (args : Array Value) : (Cond.fieldLinkNest RX9 126 "TwinSets$TwinRows" "size" "I" "TwinSets").before args s = true := va_Nw.useF (h.2.2.2.2.2.1 19 (RX9, 126, "TwinSets$TwinRows", "size", "I", "TwinSets") ko19)
theorem ko20 : vNF[20]? = some (RX9, 131, "TwinSets$TwinRows", "generation", "I", "TwinSets") := rfl
theorem kn20 {D : vD} {s : State} (h : vS D s) (args : Array Value) : (Cond.fieldLinkNest RX9 131 "TwinSets$TwinRows" "generation" "I" "TwinSets").before args s = true := va_Nw.useF (h.2.2.2.2.2.1 20 (RX9, 131, "TwinSets$TwinRows", "generation", "I", "TwinSets") ko20)
theorem ko21 : vNF[21]? = some (RX5, 129, "TwinSets$TwinRows", "generation", "I", "TwinSets") := rfl
theorem kn21 {D : vD} {s : State} (h : vS D s) (args : Array Value) : (Cond.fieldLinkNest RX5 129 "TwinSets$TwinRows" "generation" "I" "TwinSets").before args s = true := va_Nw.useF (h.2.2.2.2.2.1 21 (RX5, 129, "TwinSets$TwinRows", "generation", "I", "TwinSets") ko21)
theorem ko22 : vNF[22]? = some (RX5, 48, "TwinSets$Cursor", "isInUse", "Z", "TwinSets") := rfl
theorem kn22 {D : vD} {s : State} (h : vS D s) (args : Array Value) : (Cond.fieldLinkNest RX5 48 "TwinSets$Cursor" "isInUse" "Z" "TwinSets").before args s = true := va_Nw.useF (h.2.2.2.2.2.1 22 (RX5, 48, "TwinSets$Cursor", "isInUse", "Z", "TwinSets") ko22)
theorem ko23 : vNF[23]? = some (RX9, 277, "TwinSets$Cursor", "isInUse", "Z", "TwinSets") := rfl
theorem kn23 {D : vD} {s : State} (h : vS D s) (args : Array Value) : (Cond.fieldLinkNest RX9 277 "TwinSets$Cursor" "isInUse" "Z" "TwinSets").before args s = true := va_Nw.useF (h.2.2.2.2.2.1 23 (RX9, 277, "TwinSets$Cursor", "isInUse", "Z", "TwinSets") ko23)
theorem ko24 : vNF[24]? = some (RX5, 52, "TwinSets$Cursor", "isOpen", "Z", "TwinSets") := rfl
theorem kn24 {D : vD} {s : State} (h : vS D s) (args : Array Value) : (Cond.fieldLinkNest RX5 52 "TwinSets$Cursor" "isOpen" "Z" "TwinSets").before args s = true := va_Nw.useF (h.2.2.2.2.2.1 24 (RX5, 52, "TwinSets$Cursor", "isOpen", "Z", "TwinSets") ko24)
theorem ko25 : vNF[25]? = some (RX9, 215, "TwinSets$Cursor", "isOpen", "Z", "TwinSets") := rfl
theorem kn25 {D : vD} {s : State} (h : vS D s) (args : Array Value) : (Cond.fieldLinkNest RX9 215 "TwinSets$Cursor" "isOpen" "Z" "TwinSets").before args s = true := va_Nw.useF (h.2.2.2.2.2.1 25 (RX9, 215, "TwinSets$Cursor", "isOpen", "Z", "TwinSets") ko25)
theorem ko26 : vNF[26]? = some (RX9, 219, "TwinSets$Cursor", "isStrict", "Z", "TwinSets") := rfl
theorem kn26 {D : vD} {s : State} (h : vS D s) (args : Array Value) : (Cond.fieldLinkNest RX9 219 "TwinSets$Cursor" "isStrict" "Z" "TwinSets").before args s = true := va_Nw.useF (h.2.2.2.2.2.1 26 (RX9, 219, "TwinSets$Cursor", "isStrict", "Z", "TwinSets") ko26)
theorem ko27 : vNF[27]? = some (RX9, 207, "TwinSets$Cursor", "set", "I", "TwinSets") := rfl
theorem kn27 {D : vD} {s : State} (h : vS D s) (args : Array Value) : (Cond.fieldLinkNest RX9 207 "TwinSets$Cursor" "set" "I" "TwinSets").before args s = true := va_Nw.useF (h.2.2.2.2.2.1 27 (RX9, 207, "TwinSets$Cursor", "set", "I", "TwinSets") ko27)
theorem ko28 : vNF[28]? = some (RX5, 139, "TwinSets$Cursor", "set", "I", "TwinSets") := rfl
theorem kn28 {D : vD} {s : State} (h : vS D s) (args : Array Value) : (Cond.fieldLinkNest RX5 139 "TwinSets$Cursor" "set" "I" "TwinSets").before args s = true := va_Nw.useF (h.2.2.2.2.2.1 28 (RX5, 139, "TwinSets$Cursor", "set", "I", "TwinSets") ko28)
theorem ko29 : vNF[29]? = some (RX5, 120, "TwinSets$Cursor", "position", "I", "TwinSets") := rfl
theorem kn29 {D : vD} {s : State} (h : vS D s) (args : Array Value) : (Cond.fieldLinkNest RX5 120 "TwinSets$Cursor" "position" "I" "TwinSets").before args s = true := va_Nw.useF (h.2.2.2.2.2.1 29 (RX5, 120, "TwinSets$Cursor", "position", "I", "TwinSets") ko29)
theorem ko30 : vNF[30]? = some (RX9, 212, "TwinSets$Cursor", "position", "I", "TwinSets") := rfl
theorem kn30 {D : vD} {s : State} (h : vS D s) (args : Array Value) : (Cond.fieldLinkNest RX9 212 "TwinSets$Cursor" "position" "I" "TwinSets").before args s = true := va_Nw.useF (h.2.2.2.2.2.1 30 (RX9, 212, "TwinSets$Cursor", "position", "I", "TwinSets") ko30)
theorem ko31 : vNF[31]? = some (RX9, 222, "TwinSets$Cursor", "madeAt", "I", "TwinSets") := rfl
theorem kn31 {D : vD} {s : State} (h : vS D s) (args : Array Value) : (Cond.fieldLinkNest RX9 222 "TwinSets$Cursor" "madeAt" "I" "TwinSets").before args s = true := va_Nw.useF (h.2.2.2.2.2.1 31 (RX9, 222, "TwinSets$Cursor", "madeAt", "I", "TwinSets") ko31)
theorem ko32 : vNF[32]? = some (RX9, 225, "TwinSets$Cursor", "metCount", "I", "TwinSets") := rfl
theorem kn32 {D : vD} {s : State} (h : vS D s) (args : Array Value) : (Cond.fieldLinkNest RX9 225 "TwinSets$Cursor" "metCount" "I" "TwinSets").before args s = true := va_Nw.useF (h.2.2.2.2.2.1 32 (RX9, 225, "TwinSets$Cursor", "metCount", "I", "TwinSets") ko32)
theorem ko33 : vNF[33]? = some (RX5, 148, "TwinSets$Cursor", "metCount", "I", "TwinSets") := rfl
theorem kn33 {D : vD} {s : State} (h : vS D s) (args : Array Value) : (Cond.fieldLinkNest RX5 148 "TwinSets$Cursor" "metCount" "I" "TwinSets").before args s = true := va_Nw.useF (h.2.2.2.2.2.1 33 (RX5, 148, "TwinSets$Cursor", "metCount", "I", "TwinSets") ko33)
theorem ko34 : vNF[34]? = some (RX9, 228, "TwinSets$Cursor", "lastMet", "I", "TwinSets") := rfl
theorem kn34 {D : vD} {s : State} (h : vS D s) (args : Array Value) : (Cond.fieldLinkNest RX9 228 "TwinSets$Cursor" "lastMet" "I" "TwinSets").before args s = true := va_Nw.useF (h.2.2.2.2.2.1 34 (RX9, 228, "TwinSets$Cursor", "lastMet", "I", "TwinSets") ko34)
theorem ko35 : vNF[35]? = some (RX5, 151, "TwinSets$Cursor", "lastMet", "I", "TwinSets") := rfl
theorem kn35 {D : vD} {s : State} (h : vS D s) (args : Array Value) : (Cond.fieldLinkNest RX5 151 "TwinSets$Cursor" "lastMet" "I" "TwinSets").before args s = true := va_Nw.useF (h.2.2.2.2.2.1 35 (RX5, 151, "TwinSets$Cursor", "lastMet", "I", "TwinSets") ko35)
theorem ko36 : vNF[36]? = some (RX3, 128, "TwinSets$State", "sets", "[LTwinSets$TwinRows;", "TwinSets") := rfl
theorem kn36 {D : vD} {s : State} (h : vS D s) (args : Array Value) : (Cond.fieldLinkNest RX3 128 "TwinSets$State" "sets" "[LTwinSets$TwinRows;" "TwinSets").before args s = true := va_Nw.useF (h.2.2.2.2.2.1 36 (RX3, 128, "TwinSets$State", "sets", "[LTwinSets$TwinRows;", "TwinSets") ko36)
theorem ko37 : vNF[37]? = some (RX9, 283, "TwinSets$State", "sets", "[LTwinSets$TwinRows;", "TwinSets") := rfl
theorem kn37 {D : vD} {s : State} (h : vS D s) (args : Array Value) : (Cond.fieldLinkNest RX9 283 "TwinSets$State" "sets" "[LTwinSets$TwinRows;" "TwinSets").before args s = true := va_Nw.useF (h.2.2.2.2.2.1 37 (RX9, 283, "TwinSets$State", "sets", "[LTwinSets$TwinRows;", "TwinSets") ko37)
theorem ko38 : vNF[38]? = some (RX9, 270, "TwinSets$State", "cursors", "[LTwinSets$Cursor;", "TwinSets") := rfl
theorem kn38 {D : vD} {s : State} (h : vS D s) (args : Array Value) : (Cond.fieldLinkNest RX9 270 "TwinSets$State" "cursors" "[LTwinSets$Cursor;" "TwinSets").before args s = true := va_Nw.useF (h.2.2.2.2.2.1 38 (RX9, 270, "TwinSets$State", "cursors", "[LTwinSets$Cursor;", "TwinSets") ko38)
theorem ko39 : vNF[39]? = some (RX9, 118, "TwinSets$State", "marks", "[I", "TwinSets") := rfl
theorem kn39 {D : vD} {s : State} (h : vS D s) (args : Array Value) : (Cond.fieldLinkNest RX9 118 "TwinSets$State" "marks" "[I" "TwinSets").before args s = true := va_Nw.useF (h.2.2.2.2.2.1 39 (RX9, 118, "TwinSets$State", "marks", "[I", "TwinSets") ko39)
theorem ko40 : vNF[40]? = some (RX3, 125, "TwinSets$State", "universe", "I", "TwinSets") := rfl
theorem kn40 {D : vD} {s : State} (h : vS D s) (args : Array Value) : (Cond.fieldLinkNest RX3 125 "TwinSets$State" "universe" "I" "TwinSets").before args s = true := va_Nw.useF (h.2.2.2.2.2.1 40 (RX3, 125, "TwinSets$State", "universe", "I", "TwinSets") ko40)
theorem ko41 : vNF[41]? = some (RX9, 87, "TwinSets$State", "universe", "I", "TwinSets") := rfl
theorem kn41 {D : vD} {s : State} (h : vS D s) (args : Array Value) : (Cond.fieldLinkNest RX9 87 "TwinSets$State" "universe" "I" "TwinSets").before args s = true := va_Nw.useF (h.2.2.2.2.2.1 41 (RX9, 87, "TwinSets$State", "universe", "I", "TwinSets") ko41)
theorem ko42 : vNF[42]? = some (RX9, 90, "TwinSets$State", "horizon", "I", "TwinSets") := rfl
theorem kn42 {D : vD} {s : State} (h : vS D s) (args : Array Value) : (Cond.fieldLinkNest RX9 90 "TwinSets$State" "horizon" "I" "TwinSets").before args s = true := va_Nw.useF (h.2.2.2.2.2.1 42 (RX9, 90, "TwinSets$State", "horizon", "I", "TwinSets") ko42)
theorem ko43 : vNF[43]? = some (RX3, 94, "TwinSets$State", "setCount", "I", "TwinSets") := rfl
theorem kn43 {D : vD} {s : State} (h : vS D s) (args : Array Value) : (Cond.fieldLinkNest RX3 94 "TwinSets$State" "setCount" "I" "TwinSets").before args s = true := va_Nw.useF (h.2.2.2.2.2.1 43 (RX3, 94, "TwinSets$State", "setCount", "I", "TwinSets") ko43)
theorem ko44 : vNF[44]? = some (RX9, 84, "TwinSets$State", "setCount", "I", "TwinSets") := rfl
theorem kn44 {D : vD} {s : State} (h : vS D s) (args : Array Value) : (Cond.fieldLinkNest RX9 84 "TwinSets$State" "setCount" "I" "TwinSets").before args s = true := va_Nw.useF (h.2.2.2.2.2.1 44 (RX9, 84, "TwinSets$State", "setCount", "I", "TwinSets") ko44)
theorem ko45 : vNF[45]? = some (RX9, 96, "TwinSets$State", "markCount", "I", "TwinSets") := rfl
theorem kn45 {D : vD} {s : State} (h : vS D s) (args : Array Value) : (Cond.fieldLinkNest RX9 96 "TwinSets$State" "markCount" "I" "TwinSets").before args s = true := va_Nw.useF (h.2.2.2.2.2.1 45 (RX9, 96, "TwinSets$State", "markCount", "I", "TwinSets") ko45)
theorem ko46 : vNF[46]? = some (RX3, 142, "TwinSets$State", "markCount", "I", "TwinSets") := rfl
theorem kn46 {D : vD} {s : State} (h : vS D s) (args : Array Value) : (Cond.fieldLinkNest RX3 142 "TwinSets$State" "markCount" "I" "TwinSets").before args s = true := va_Nw.useF (h.2.2.2.2.2.1 46 (RX3, 142, "TwinSets$State", "markCount", "I", "TwinSets") ko46)
theorem ko47 : vNF[47]? = some (RX9, 93, "TwinSets$State", "clock", "I", "TwinSets") := rfl
theorem kn47 {D : vD} {s : State} (h : vS D s) (args : Array Value) : (Cond.fieldLinkNest RX9 93 "TwinSets$State" "clock" "I" "TwinSets").before args s = true := va_Nw.useF (h.2.2.2.2.2.1 47 (RX9, 93, "TwinSets$State", "clock", "I", "TwinSets") ko47)
theorem ko48 : vNF[48]? = some (RX9, 103, "TwinSets$State", "cost", "I", "TwinSets") := rfl
theorem kn48 {D : vD} {s : State} (h : vS D s) (args : Array Value) : (Cond.fieldLinkNest RX9 103 "TwinSets$State" "cost" "I" "TwinSets").before args s = true := va_Nw.useF (h.2.2.2.2.2.1 48 (RX9, 103, "TwinSets$State", "cost", "I", "TwinSets") ko48)
theorem ko49 : vNF[49]? = some (RX9, 75, "TwinSets$Parser", "errorCode", "I", "TwinSets") := rfl
theorem kn49 {D : vD} {s : State} (h : vS D s) (args : Array Value) : (Cond.fieldLinkNest RX9 75 "TwinSets$Parser" "errorCode" "I" "TwinSets").before args s = true := va_Nw.useF (h.2.2.2.2.2.1 49 (RX9, 75, "TwinSets$Parser", "errorCode", "I", "TwinSets") ko49)
theorem ko50 : vNF[50]? = some (RX9, 71, "TwinSets$Parser", "errorAt", "I", "TwinSets") := rfl
theorem kn50 {D : vD} {s : State} (h : vS D s) (args : Array Value) : (Cond.fieldLinkNest RX9 71 "TwinSets$Parser" "errorAt" "I" "TwinSets").before args s = true := va_Nw.useF (h.2.2.2.2.2.1 50 (RX9, 71, "TwinSets$Parser", "errorAt", "I", "TwinSets") ko50)
theorem kp0 : vNM[0]? = some (RX9, 9, yX1_init, "TwinSets") := rfl
theorem km0 {D : vD} {s : State} (h : vS D s) : va_Nw (.methodLinkNest RX9 9 yX1_init "TwinSets") s := h.2.2.2.2.2.2.1 0 (RX9, 9, yX1_init, "TwinSets") kp0
theorem kp1 : vNM[1]? = some (RX9, 18, yX8_init, "TwinSets") := rfl
theorem km1 {D : vD} {s : State} (h : vS D s) : va_Nw (.methodLinkNest RX9 18 yX8_init "TwinSets") s := h.2.2.2.2.2.2.1 1 (RX9, 18, yX8_init, "TwinSets") kp1
theorem kp2 : vNM[2]? = some (RX9, 25, yX4_init, "TwinSets") := rfl
theorem km2 {D : vD} {s : State} (h : vS D s) : va_Nw (.methodLinkNest RX9 25 yX4_init "TwinSets") s := h.2.2.2.2.2.2.1 2 (RX9, 25, yX4_init, "TwinSets") kp2
theorem kp3 : vNM[3]? = some (RX5, 27, yX7_init, "TwinSets") := rfl
theorem km3 {D : vD} {s : State} (h : vS D s) : va_Nw (.methodLinkNest RX5 27 yX7_init "TwinSets") s := h.2.2.2.2.2.2.1 3 (RX5, 27, yX7_init, "TwinSets") kp3
theorem kp4 : vNM[4]? = some (RX7, 23, yX2_init, "TwinSets") := rfl
theorem km4 {D : vD} {s : State} (h : vS D s) : va_Nw (.methodLinkNest RX7 23 yX2_init "TwinSets") s := h.2.2.2.2.2.2.1 4 (RX7, 23, yX2_init, "TwinSets") kp4
theorem kp5 : vNM[5]? = some (RX5, 28, yX0_init, "TwinSets") := rfl
theorem km5 {D : vD} {s : State} (h : vS D s) : va_Nw (.methodLinkNest RX5 28 yX0_init "TwinSets") s := h.2.2.2.2.2.2.1 5 (RX5, 28, yX0_init, "TwinSets") kp5
