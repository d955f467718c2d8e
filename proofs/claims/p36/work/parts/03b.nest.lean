theorem va_Nw.useF {a : String} {i : Nat} {b n d h : String} {A : Array Value} {U : State} (hZ : va_Nw (.fieldLinkNest a i b n d h) U) : (Cond.fieldLinkNest a i b n d h).before A U = true := va_Nw.use rfl hZ
theorem ko0 : vNF[0]? = some (RX3, 163, "TwinSets$Input", "bytes", "[B", "TwinSets") := rfl
theorem kn0 {D : vD} {s : State} (h : vS D s) (args : Array Value) : (Cond.fieldLinkNest RX3 163 "TwinSets$Input" "bytes" "[B" "TwinSets").before args s = true := va_Nw.useF (h.2.2.2.2.2.1 0 (RX3, 163, "TwinSets$Input", "bytes", "[B", "TwinSets") ko0)
theorem ko1 : vNF[1]? = some (RX9, 48, "TwinSets$Input", "length", "I", "TwinSets") := rfl
theorem kn1 {D : vD} {s : State} (h : vS D s) (args : Array Value) : (Cond.fieldLinkNest RX9 48 "TwinSets$Input" "length" "I" "TwinSets").before args s = true := va_Nw.useF (h.2.2.2.2.2.1 1 (RX9, 48, "TwinSets$Input", "length", "I", "TwinSets") ko1)
theorem ko2 : vNF[2]? = some (RX9, 106, "TwinSets$UndoHistory", "count", "I", "TwinSets") := rfl
theorem kn2 {D : vD} {s : State} (h : vS D s) (args : Array Value) : (Cond.fieldLinkNest RX9 106 "TwinSets$UndoHistory" "count" "I" "TwinSets").before args s = true := va_Nw.useF (h.2.2.2.2.2.1 2 (RX9, 106, "TwinSets$UndoHistory", "count", "I", "TwinSets") ko2)
theorem ko3 : vNF[3]? = some (RX9, 171, "TwinSets$Log", "stamps", "[I", "TwinSets") := rfl
theorem kn3 {D : vD} {s : State} (h : vS D s) (args : Array Value) : (Cond.fieldLinkNest RX9 171 "TwinSets$Log" "stamps" "[I" "TwinSets").before args s = true := va_Nw.useF (h.2.2.2.2.2.1 3 (RX9, 171, "TwinSets$Log", "stamps", "[I", "TwinSets") ko3)
theorem ko4 : vNF[4]? = some (RX9, 172, "TwinSets$Log", "numbers", "[I", "TwinSets") := rfl
theorem kn4 {D : vD} {s : State} (h : vS D s) (args : Array Value) : (Cond.fieldLinkNest RX9 172 "TwinSets$Log" "numbers" "[I" "TwinSets").before args s = true := va_Nw.useF (h.2.2.2.2.2.1 4 (RX9, 172, "TwinSets$Log", "numbers", "[I", "TwinSets") ko4)
theorem ko5 : vNF[5]? = some (RX9, 175, "TwinSets$Log", "kinds", "[I", "TwinSets") := rfl
theorem kn5 {D : vD} {s : State} (h : vS D s) (args : Array Value) : (Cond.fieldLinkNest RX9 175 "TwinSets$Log" "kinds" "[I" "TwinSets").before args s = true := va_Nw.useF (h.2.2.2.2.2.1 5 (RX9, 175, "TwinSets$Log", "kinds", "[I", "TwinSets") ko5)
theorem ko6 : vNF[6]? = some (RX9, 143, "TwinSets$Log", "count", "I", "TwinSets") := rfl
theorem kn6 {D : vD} {s : State} (h : vS D s) (args : Array Value) : (Cond.fieldLinkNest RX9 143 "TwinSets$Log" "count" "I" "TwinSets").before args s = true := va_Nw.useF (h.2.2.2.2.2.1 6 (RX9, 143, "TwinSets$Log", "count", "I", "TwinSets") ko6)
theorem ko7 : vNF[7]? = some (RX9, 138, "TwinSets$Log", "firstStamp", "I", "TwinSets") := rfl
theorem kn7 {D : vD} {s : State} (h : vS D s) (args : Array Value) : (Cond.fieldLinkNest RX9 138 "TwinSets$Log" "firstStamp" "I" "TwinSets").before args s = true := va_Nw.useF (h.2.2.2.2.2.1 7 (RX9, 138, "TwinSets$Log", "firstStamp", "I", "TwinSets") ko7)
theorem ko8 : vNF[8]? = some (RX5, 123, "TwinSets$TwinRows", "members", "[I", "TwinSets") := rfl
theorem kn8 {D : vD} {s : State} (h : vS D s) (args : Array Value) : (Cond.fieldLinkNest RX5 123 "TwinSets$TwinRows" "members" "[I" "TwinSets").before args s = true := va_Nw.useF (h.2.2.2.2.2.1 8 (RX5, 123, "TwinSets$TwinRows", "members", "[I", "TwinSets") ko8)
theorem ko9 : vNF[9]? = some (RX9, 157, "TwinSets$TwinRows", "members", "[I", "TwinSets") := rfl
theorem kn9 {D : vD} {s : State} (h : vS D s) (args : Array Value) : (Cond.fieldLinkNest RX9 157 "TwinSets$TwinRows" "members" "[I" "TwinSets").before args s = true := va_Nw.useF (h.2.2.2.2.2.1 9 (RX9, 157, "TwinSets$TwinRows", "members", "[I", "TwinSets") ko9)
theorem ko10 : vNF[10]? = some (RX9, 154, "TwinSets$TwinRows", "places", "[I", "TwinSets") := rfl
theorem kn10 {D : vD} {s : State} (h : vS D s) (args : Array Value) : (Cond.fieldLinkNest RX9 154 "TwinSets$TwinRows" "places" "[I" "TwinSets").before args s = true := va_Nw.useF (h.2.2.2.2.2.1 10 (RX9, 154, "TwinSets$TwinRows", "places", "[I", "TwinSets") ko10)
theorem ko11 : vNF[11]? = some (RX5, 126, "TwinSets$TwinRows", "places", "[I", "TwinSets") := rfl
theorem kn11 {D : vD} {s : State} (h : vS D s) (args : Array Value) : (Cond.fieldLinkNest RX5 126 "TwinSets$TwinRows" "places" "[I" "TwinSets").before args s = true := va_Nw.useF (h.2.2.2.2.2.1 11 (RX5, 126, "TwinSets$TwinRows", "places", "[I", "TwinSets") ko11)
theorem ko12 : vNF[12]? = some (RX5, 93, "TwinSets$TwinRows", "stamps", "[I", "TwinSets") := rfl
theorem kn12 {D : vD} {s : State} (h : vS D s) (args : Array Value) : (Cond.fieldLinkNest RX5 93 "TwinSets$TwinRows" "stamps" "[I" "TwinSets").before args s = true := va_Nw.useF (h.2.2.2.2.2.1 12 (RX5, 93, "TwinSets$TwinRows", "stamps", "[I", "TwinSets") ko12)
theorem ko13 : vNF[13]? = some (RX9, 166, "TwinSets$TwinRows", "stamps", "[I", "TwinSets") := rfl
theorem kn13 {D : vD} {s : State} (h : vS D s) (args : Array Value) : (Cond.fieldLinkNest RX9 166 "TwinSets$TwinRows" "stamps" "[I" "TwinSets").before args s = true := va_Nw.useF (h.2.2.2.2.2.1 13 (RX9, 166, "TwinSets$TwinRows", "stamps", "[I", "TwinSets") ko13)
theorem ko14 : vNF[14]? = some (RX5, 96, "TwinSets$TwinRows", "log", "LTwinSets$Log;", "TwinSets") := rfl
theorem kn14 {D : vD} {s : State} (h : vS D s) (args : Array Value) : (Cond.fieldLinkNest RX5 96 "TwinSets$TwinRows" "log" "LTwinSets$Log;" "TwinSets").before args s = true := va_Nw.useF (h.2.2.2.2.2.1 14 (RX5, 96, "TwinSets$TwinRows", "log", "LTwinSets$Log;", "TwinSets") ko14)
theorem ko15 : vNF[15]? = some (RX9, 134, "TwinSets$TwinRows", "log", "LTwinSets$Log;", "TwinSets") := rfl
theorem kn15 {D : vD} {s : State} (h : vS D s) (args : Array Value) : (Cond.fieldLinkNest RX9 134 "TwinSets$TwinRows" "log" "LTwinSets$Log;" "TwinSets").before args s = true := va_Nw.useF (h.2.2.2.2.2.1 15 (RX9, 134, "TwinSets$TwinRows", "log", "LTwinSets$Log;", "TwinSets") ko15)
theorem ko16 : vNF[16]? = some (RX5, 72, "TwinSets$TwinRows", "name", "Ljava/lang/String;", "TwinSets") := rfl
theorem kn16 {D : vD} {s : State} (h : vS D s) (args : Array Value) : (Cond.fieldLinkNest RX5 72 "TwinSets$TwinRows" "name" "Ljava/lang/String;" "TwinSets").before args s = true := va_Nw.useF (h.2.2.2.2.2.1 16 (RX5, 72, "TwinSets$TwinRows", "name", "Ljava/lang/String;", "TwinSets") ko16)
theorem ko17 : vNF[17]? = some (RX5, 86, "TwinSets$TwinRows", "size", "I", "TwinSets") := rfl
theorem kn17 {D : vD} {s : State} (h : vS D s) (args : Array Value) : (Cond.fieldLinkNest RX5 86 "TwinSets$TwinRows" "size" "I" "TwinSets").before args s = true := va_Nw.useF (h.2.2.2.2.2.1 17 (RX5, 86, "TwinSets$TwinRows", "size", "I", "TwinSets") ko17)
theorem ko18 : vNF[18]? = some (RX9, 126, "TwinSets$TwinRows", "size", "I", "TwinSets") := rfl
theorem kn18 {D : vD} {s : State} (h : vS D s) (args : Array Value) : (Cond.fieldLinkNest RX9 126 "TwinSets$TwinRows" "size" "I" "TwinSets").before args s = true := va_Nw.useF (h.2.2.2.2.2.1 18 (RX9, 126, "TwinSets$TwinRows", "size", "I", "TwinSets") ko18)
theorem ko19 : vNF[19]? = some (RX9, 131, "TwinSets$TwinRows", "generation", "I", "TwinSets") := rfl
theorem kn19 {D : vD} {s : State} (h : vS D s) (args : Array Value) : (Cond.fieldLinkNest RX9 131 "TwinSets$TwinRows" "generation" "I" "TwinSets").before args s = true := va_Nw.useF (h.2.2.2.2.2.1 19 (RX9, 131, "TwinSets$TwinRows", "generation", "I", "TwinSets") ko19)
theorem ko20 : vNF[20]? = some (RX5, 129, "TwinSets$TwinRows", "generation", "I", "TwinSets") := rfl
theorem kn20 {D : vD} {s : State} (h : vS D s) (args : Array Value) : (Cond.fieldLinkNest RX5 129 "TwinSets$TwinRows" "generation" "I" "TwinSets").before args s = true := va_Nw.useF (h.2.2.2.2.2.1 20 (RX5, 129, "TwinSets$TwinRows", "generation", "I", "TwinSets") ko20)
theorem ko21 : vNF[21]? = some (RX5, 48, "TwinSets$Cursor", "isInUse", "Z", "TwinSets") := rfl
theorem kn21 {D : vD} {s : State} (h : vS D s) (args : Array Value) : (Cond.fieldLinkNest RX5 48 "TwinSets$Cursor" "isInUse" "Z" "TwinSets").before args s = true := va_Nw.useF (h.2.2.2.2.2.1 21 (RX5, 48, "TwinSets$Cursor", "isInUse", "Z", "TwinSets") ko21)
theorem ko22 : vNF[22]? = some (RX9, 277, "TwinSets$Cursor", "isInUse", "Z", "TwinSets") := rfl
theorem kn22 {D : vD} {s : State} (h : vS D s) (args : Array Value) : (Cond.fieldLinkNest RX9 277 "TwinSets$Cursor" "isInUse" "Z" "TwinSets").before args s = true := va_Nw.useF (h.2.2.2.2.2.1 22 (RX9, 277, "TwinSets$Cursor", "isInUse", "Z", "TwinSets") ko22)
theorem ko23 : vNF[23]? = some (RX5, 52, "TwinSets$Cursor", "isOpen", "Z", "TwinSets") := rfl
theorem kn23 {D : vD} {s : State} (h : vS D s) (args : Array Value) : (Cond.fieldLinkNest RX5 52 "TwinSets$Cursor" "isOpen" "Z" "TwinSets").before args s = true := va_Nw.useF (h.2.2.2.2.2.1 23 (RX5, 52, "TwinSets$Cursor", "isOpen", "Z", "TwinSets") ko23)
theorem ko24 : vNF[24]? = some (RX9, 215, "TwinSets$Cursor", "isOpen", "Z", "TwinSets") := rfl
theorem kn24 {D : vD} {s : State} (h : vS D s) (args : Array Value) : (Cond.fieldLinkNest RX9 215 "TwinSets$Cursor" "isOpen" "Z" "TwinSets").before args s = true := va_Nw.useF (h.2.2.2.2.2.1 24 (RX9, 215, "TwinSets$Cursor", "isOpen", "Z", "TwinSets") ko24)
theorem ko25 : vNF[25]? = some (RX9, 219, "TwinSets$Cursor", "isStrict", "Z", "TwinSets") := rfl
theorem kn25 {D : vD} {s : State} (h : vS D s) (args : Array Value) : (Cond.fieldLinkNest RX9 219 "TwinSets$Cursor" "isStrict" "Z" "TwinSets").before args s = true := va_Nw.useF (h.2.2.2.2.2.1 25 (RX9, 219, "TwinSets$Cursor", "isStrict", "Z", "TwinSets") ko25)
theorem ko26 : vNF[26]? = some (RX9, 207, "TwinSets$Cursor", "set", "I", "TwinSets") := rfl
theorem kn26 {D : vD} {s : State} (h : vS D s) (args : Array Value) : (Cond.fieldLinkNest RX9 207 "TwinSets$Cursor" "set" "I" "TwinSets").before args s = true := va_Nw.useF (h.2.2.2.2.2.1 26 (RX9, 207, "TwinSets$Cursor", "set", "I", "TwinSets") ko26)
theorem ko27 : vNF[27]? = some (RX5, 139, "TwinSets$Cursor", "set", "I", "TwinSets") := rfl
theorem kn27 {D : vD} {s : State} (h : vS D s) (args : Array Value) : (Cond.fieldLinkNest RX5 139 "TwinSets$Cursor" "set" "I" "TwinSets").before args s = true := va_Nw.useF (h.2.2.2.2.2.1 27 (RX5, 139, "TwinSets$Cursor", "set", "I", "TwinSets") ko27)
theorem ko28 : vNF[28]? = some (RX5, 120, "TwinSets$Cursor", "position", "I", "TwinSets") := rfl
theorem kn28 {D : vD} {s : State} (h : vS D s) (args : Array Value) : (Cond.fieldLinkNest RX5 120 "TwinSets$Cursor" "position" "I" "TwinSets").before args s = true := va_Nw.useF (h.2.2.2.2.2.1 28 (RX5, 120, "TwinSets$Cursor", "position", "I", "TwinSets") ko28)
theorem ko29 : vNF[29]? = some (RX9, 212, "TwinSets$Cursor", "position", "I", "TwinSets") := rfl
theorem kn29 {D : vD} {s : State} (h : vS D s) (args : Array Value) : (Cond.fieldLinkNest RX9 212 "TwinSets$Cursor" "position" "I" "TwinSets").before args s = true := va_Nw.useF (h.2.2.2.2.2.1 29 (RX9, 212, "TwinSets$Cursor", "position", "I", "TwinSets") ko29)
theorem ko30 : vNF[30]? = some (RX9, 222, "TwinSets$Cursor", "madeAt", "I", "TwinSets") := rfl
theorem kn30 {D : vD} {s : State} (h : vS D s) (args : Array Value) : (Cond.fieldLinkNest RX9 222 "TwinSets$Cursor" "madeAt" "I" "TwinSets").before args s = true := va_Nw.useF (h.2.2.2.2.2.1 30 (RX9, 222, "TwinSets$Cursor", "madeAt", "I", "TwinSets") ko30)
theorem ko31 : vNF[31]? = some (RX9, 225, "TwinSets$Cursor", "metCount", "I", "TwinSets") := rfl
theorem kn31 {D : vD} {s : State} (h : vS D s) (args : Array Value) : (Cond.fieldLinkNest RX9 225 "TwinSets$Cursor" "metCount" "I" "TwinSets").before args s = true := va_Nw.useF (h.2.2.2.2.2.1 31 (RX9, 225, "TwinSets$Cursor", "metCount", "I", "TwinSets") ko31)
theorem ko32 : vNF[32]? = some (RX5, 148, "TwinSets$Cursor", "metCount", "I", "TwinSets") := rfl
theorem kn32 {D : vD} {s : State} (h : vS D s) (args : Array Value) : (Cond.fieldLinkNest RX5 148 "TwinSets$Cursor" "metCount" "I" "TwinSets").before args s = true := va_Nw.useF (h.2.2.2.2.2.1 32 (RX5, 148, "TwinSets$Cursor", "metCount", "I", "TwinSets") ko32)
theorem ko33 : vNF[33]? = some (RX9, 228, "TwinSets$Cursor", "lastMet", "I", "TwinSets") := rfl
theorem kn33 {D : vD} {s : State} (h : vS D s) (args : Array Value) : (Cond.fieldLinkNest RX9 228 "TwinSets$Cursor" "lastMet" "I" "TwinSets").before args s = true := va_Nw.useF (h.2.2.2.2.2.1 33 (RX9, 228, "TwinSets$Cursor", "lastMet", "I", "TwinSets") ko33)
theorem ko34 : vNF[34]? = some (RX5, 151, "TwinSets$Cursor", "lastMet", "I", "TwinSets") := rfl
theorem kn34 {D : vD} {s : State} (h : vS D s) (args : Array Value) : (Cond.fieldLinkNest RX5 151 "TwinSets$Cursor" "lastMet" "I" "TwinSets").before args s = true := va_Nw.useF (h.2.2.2.2.2.1 34 (RX5, 151, "TwinSets$Cursor", "lastMet", "I", "TwinSets") ko34)
theorem ko35 : vNF[35]? = some (RX3, 128, "TwinSets$State", "sets", "[LTwinSets$TwinRows;", "TwinSets") := rfl
theorem kn35 {D : vD} {s : State} (h : vS D s) (args : Array Value) : (Cond.fieldLinkNest RX3 128 "TwinSets$State" "sets" "[LTwinSets$TwinRows;" "TwinSets").before args s = true := va_Nw.useF (h.2.2.2.2.2.1 35 (RX3, 128, "TwinSets$State", "sets", "[LTwinSets$TwinRows;", "TwinSets") ko35)
theorem ko36 : vNF[36]? = some (RX9, 283, "TwinSets$State", "sets", "[LTwinSets$TwinRows;", "TwinSets") := rfl
theorem kn36 {D : vD} {s : State} (h : vS D s) (args : Array Value) : (Cond.fieldLinkNest RX9 283 "TwinSets$State" "sets" "[LTwinSets$TwinRows;" "TwinSets").before args s = true := va_Nw.useF (h.2.2.2.2.2.1 36 (RX9, 283, "TwinSets$State", "sets", "[LTwinSets$TwinRows;", "TwinSets") ko36)
theorem ko37 : vNF[37]? = some (RX9, 270, "TwinSets$State", "cursors", "[LTwinSets$Cursor;", "TwinSets") := rfl
theorem kn37 {D : vD} {s : State} (h : vS D s) (args : Array Value) : (Cond.fieldLinkNest RX9 270 "TwinSets$State" "cursors" "[LTwinSets$Cursor;" "TwinSets").before args s = true := va_Nw.useF (h.2.2.2.2.2.1 37 (RX9, 270, "TwinSets$State", "cursors", "[LTwinSets$Cursor;", "TwinSets") ko37)
theorem ko38 : vNF[38]? = some (RX9, 118, "TwinSets$State", "marks", "[I", "TwinSets") := rfl
theorem kn38 {D : vD} {s : State} (h : vS D s) (args : Array Value) : (Cond.fieldLinkNest RX9 118 "TwinSets$State" "marks" "[I" "TwinSets").before args s = true := va_Nw.useF (h.2.2.2.2.2.1 38 (RX9, 118, "TwinSets$State", "marks", "[I", "TwinSets") ko38)
theorem ko39 : vNF[39]? = some (RX3, 125, "TwinSets$State", "universe", "I", "TwinSets") := rfl
theorem kn39 {D : vD} {s : State} (h : vS D s) (args : Array Value) : (Cond.fieldLinkNest RX3 125 "TwinSets$State" "universe" "I" "TwinSets").before args s = true := va_Nw.useF (h.2.2.2.2.2.1 39 (RX3, 125, "TwinSets$State", "universe", "I", "TwinSets") ko39)
theorem ko40 : vNF[40]? = some (RX9, 87, "TwinSets$State", "universe", "I", "TwinSets") := rfl
theorem kn40 {D : vD} {s : State} (h : vS D s) (args : Array Value) : (Cond.fieldLinkNest RX9 87 "TwinSets$State" "universe" "I" "TwinSets").before args s = true := va_Nw.useF (h.2.2.2.2.2.1 40 (RX9, 87, "TwinSets$State", "universe", "I", "TwinSets") ko40)
theorem ko41 : vNF[41]? = some (RX9, 90, "TwinSets$State", "horizon", "I", "TwinSets") := rfl
theorem kn41 {D : vD} {s : State} (h : vS D s) (args : Array Value) : (Cond.fieldLinkNest RX9 90 "TwinSets$State" "horizon" "I" "TwinSets").before args s = true := va_Nw.useF (h.2.2.2.2.2.1 41 (RX9, 90, "TwinSets$State", "horizon", "I", "TwinSets") ko41)
theorem ko42 : vNF[42]? = some (RX3, 94, "TwinSets$State", "setCount", "I", "TwinSets") := rfl
theorem kn42 {D : vD} {s : State} (h : vS D s) (args : Array Value) : (Cond.fieldLinkNest RX3 94 "TwinSets$State" "setCount" "I" "TwinSets").before args s = true := va_Nw.useF (h.2.2.2.2.2.1 42 (RX3, 94, "TwinSets$State", "setCount", "I", "TwinSets") ko42)
theorem ko43 : vNF[43]? = some (RX9, 84, "TwinSets$State", "setCount", "I", "TwinSets") := rfl
theorem kn43 {D : vD} {s : State} (h : vS D s) (args : Array Value) : (Cond.fieldLinkNest RX9 84 "TwinSets$State" "setCount" "I" "TwinSets").before args s = true := va_Nw.useF (h.2.2.2.2.2.1 43 (RX9, 84, "TwinSets$State", "setCount", "I", "TwinSets") ko43)
theorem ko44 : vNF[44]? = some (RX9, 96, "TwinSets$State", "markCount", "I", "TwinSets") := rfl
theorem kn44 {D : vD} {s : State} (h : vS D s) (args : Array Value) : (Cond.fieldLinkNest RX9 96 "TwinSets$State" "markCount" "I" "TwinSets").before args s = true := va_Nw.useF (h.2.2.2.2.2.1 44 (RX9, 96, "TwinSets$State", "markCount", "I", "TwinSets") ko44)
theorem ko45 : vNF[45]? = some (RX3, 142, "TwinSets$State", "markCount", "I", "TwinSets") := rfl
theorem kn45 {D : vD} {s : State} (h : vS D s) (args : Array Value) : (Cond.fieldLinkNest RX3 142 "TwinSets$State" "markCount" "I" "TwinSets").before args s = true := va_Nw.useF (h.2.2.2.2.2.1 45 (RX3, 142, "TwinSets$State", "markCount", "I", "TwinSets") ko45)
theorem ko46 : vNF[46]? = some (RX9, 93, "TwinSets$State", "clock", "I", "TwinSets") := rfl
theorem kn46 {D : vD} {s : State} (h : vS D s) (args : Array Value) : (Cond.fieldLinkNest RX9 93 "TwinSets$State" "clock" "I" "TwinSets").before args s = true := va_Nw.useF (h.2.2.2.2.2.1 46 (RX9, 93, "TwinSets$State", "clock", "I", "TwinSets") ko46)
theorem ko47 : vNF[47]? = some (RX9, 103, "TwinSets$State", "cost", "I", "TwinSets") := rfl
theorem kn47 {D : vD} {s : State} (h : vS D s) (args : Array Value) : (Cond.fieldLinkNest RX9 103 "TwinSets$State" "cost" "I" "TwinSets").before args s = true := va_Nw.useF (h.2.2.2.2.2.1 47 (RX9, 103, "TwinSets$State", "cost", "I", "TwinSets") ko47)
theorem ko48 : vNF[48]? = some (RX12, 40, "TwinSetsLaw$Box", "size", "I", "TwinSetsLaw") := rfl
theorem kn48 {D : vD} {s : State} (h : vS D s) (args : Array Value) : (Cond.fieldLinkNest RX12 40 "TwinSetsLaw$Box" "size" "I" "TwinSetsLaw").before args s = true := va_Nw.useF (h.2.2.2.2.2.1 48 (RX12, 40, "TwinSetsLaw$Box", "size", "I", "TwinSetsLaw") ko48)
theorem ko49 : vNF[49]? = some (RL, 143, "TwinSetsLaw$Box", "size", "I", "TwinSetsLaw") := rfl
theorem kn49 {D : vD} {s : State} (h : vS D s) (args : Array Value) : (Cond.fieldLinkNest RL 143 "TwinSetsLaw$Box" "size" "I" "TwinSetsLaw").before args s = true := va_Nw.useF (h.2.2.2.2.2.1 49 (RL, 143, "TwinSetsLaw$Box", "size", "I", "TwinSetsLaw") ko49)
theorem ko50 : vNF[50]? = some (RX12, 68, "TwinSetsLaw$Box", "generation", "I", "TwinSetsLaw") := rfl
theorem kn50 {D : vD} {s : State} (h : vS D s) (args : Array Value) : (Cond.fieldLinkNest RX12 68 "TwinSetsLaw$Box" "generation" "I" "TwinSetsLaw").before args s = true := va_Nw.useF (h.2.2.2.2.2.1 50 (RX12, 68, "TwinSetsLaw$Box", "generation", "I", "TwinSetsLaw") ko50)
theorem ko51 : vNF[51]? = some (RL, 146, "TwinSetsLaw$Box", "generation", "I", "TwinSetsLaw") := rfl
theorem kn51 {D : vD} {s : State} (h : vS D s) (args : Array Value) : (Cond.fieldLinkNest RL 146 "TwinSetsLaw$Box" "generation" "I" "TwinSetsLaw").before args s = true := va_Nw.useF (h.2.2.2.2.2.1 51 (RL, 146, "TwinSetsLaw$Box", "generation", "I", "TwinSetsLaw") ko51)
theorem ko52 : vNF[52]? = some (RL, 179, "TwinSetsLaw$Box", "events", "I", "TwinSetsLaw") := rfl
theorem kn52 {D : vD} {s : State} (h : vS D s) (args : Array Value) : (Cond.fieldLinkNest RL 179 "TwinSetsLaw$Box" "events" "I" "TwinSetsLaw").before args s = true := va_Nw.useF (h.2.2.2.2.2.1 52 (RL, 179, "TwinSetsLaw$Box", "events", "I", "TwinSetsLaw") ko52)
theorem ko53 : vNF[53]? = some (RX12, 26, "TwinSetsLaw$Box", "members", "[I", "TwinSetsLaw") := rfl
theorem kn53 {D : vD} {s : State} (h : vS D s) (args : Array Value) : (Cond.fieldLinkNest RX12 26 "TwinSetsLaw$Box" "members" "[I" "TwinSetsLaw").before args s = true := va_Nw.useF (h.2.2.2.2.2.1 53 (RX12, 26, "TwinSetsLaw$Box", "members", "[I", "TwinSetsLaw") ko53)
theorem ko54 : vNF[54]? = some (RL, 160, "TwinSetsLaw$Box", "members", "[I", "TwinSetsLaw") := rfl
theorem kn54 {D : vD} {s : State} (h : vS D s) (args : Array Value) : (Cond.fieldLinkNest RL 160 "TwinSetsLaw$Box" "members" "[I" "TwinSetsLaw").before args s = true := va_Nw.useF (h.2.2.2.2.2.1 54 (RL, 160, "TwinSetsLaw$Box", "members", "[I", "TwinSetsLaw") ko54)
theorem ko55 : vNF[55]? = some (RX12, 29, "TwinSetsLaw$Box", "places", "[I", "TwinSetsLaw") := rfl
theorem kn55 {D : vD} {s : State} (h : vS D s) (args : Array Value) : (Cond.fieldLinkNest RX12 29 "TwinSetsLaw$Box" "places" "[I" "TwinSetsLaw").before args s = true := va_Nw.useF (h.2.2.2.2.2.1 55 (RX12, 29, "TwinSetsLaw$Box", "places", "[I", "TwinSetsLaw") ko55)
theorem ko56 : vNF[56]? = some (RL, 163, "TwinSetsLaw$Box", "places", "[I", "TwinSetsLaw") := rfl
theorem kn56 {D : vD} {s : State} (h : vS D s) (args : Array Value) : (Cond.fieldLinkNest RL 163 "TwinSetsLaw$Box" "places" "[I" "TwinSetsLaw").before args s = true := va_Nw.useF (h.2.2.2.2.2.1 56 (RL, 163, "TwinSetsLaw$Box", "places", "[I", "TwinSetsLaw") ko56)
theorem ko57 : vNF[57]? = some (RX11, 24, "TwinSetsLaw$Box", "stamps", "[I", "TwinSetsLaw") := rfl
theorem kn57 {D : vD} {s : State} (h : vS D s) (args : Array Value) : (Cond.fieldLinkNest RX11 24 "TwinSetsLaw$Box" "stamps" "[I" "TwinSetsLaw").before args s = true := va_Nw.useF (h.2.2.2.2.2.1 57 (RX11, 24, "TwinSetsLaw$Box", "stamps", "[I", "TwinSetsLaw") ko57)
theorem ko58 : vNF[58]? = some (RX12, 50, "TwinSetsLaw$Box", "stamps", "[I", "TwinSetsLaw") := rfl
theorem kn58 {D : vD} {s : State} (h : vS D s) (args : Array Value) : (Cond.fieldLinkNest RX12 50 "TwinSetsLaw$Box" "stamps" "[I" "TwinSetsLaw").before args s = true := va_Nw.useF (h.2.2.2.2.2.1 58 (RX12, 50, "TwinSetsLaw$Box", "stamps", "[I", "TwinSetsLaw") ko58)
theorem ko59 : vNF[59]? = some (RL, 176, "TwinSetsLaw$Box", "stamps", "[I", "TwinSetsLaw") := rfl
theorem kn59 {D : vD} {s : State} (h : vS D s) (args : Array Value) : (Cond.fieldLinkNest RL 176 "TwinSetsLaw$Box" "stamps" "[I" "TwinSetsLaw").before args s = true := va_Nw.useF (h.2.2.2.2.2.1 59 (RL, 176, "TwinSetsLaw$Box", "stamps", "[I", "TwinSetsLaw") ko59)
theorem ko60 : vNF[60]? = some (RL, 186, "TwinSetsLaw$Box", "stamp", "[I", "TwinSetsLaw") := rfl
theorem kn60 {D : vD} {s : State} (h : vS D s) (args : Array Value) : (Cond.fieldLinkNest RL 186 "TwinSetsLaw$Box" "stamp" "[I" "TwinSetsLaw").before args s = true := va_Nw.useF (h.2.2.2.2.2.1 60 (RL, 186, "TwinSetsLaw$Box", "stamp", "[I", "TwinSetsLaw") ko60)
theorem ko61 : vNF[61]? = some (RL, 189, "TwinSetsLaw$Box", "number", "[I", "TwinSetsLaw") := rfl
theorem kn61 {D : vD} {s : State} (h : vS D s) (args : Array Value) : (Cond.fieldLinkNest RL 189 "TwinSetsLaw$Box" "number" "[I" "TwinSetsLaw").before args s = true := va_Nw.useF (h.2.2.2.2.2.1 61 (RL, 189, "TwinSetsLaw$Box", "number", "[I", "TwinSetsLaw") ko61)
theorem ko62 : vNF[62]? = some (RL, 192, "TwinSetsLaw$Box", "kind", "[I", "TwinSetsLaw") := rfl
theorem kn62 {D : vD} {s : State} (h : vS D s) (args : Array Value) : (Cond.fieldLinkNest RL 192 "TwinSetsLaw$Box" "kind" "[I" "TwinSetsLaw").before args s = true := va_Nw.useF (h.2.2.2.2.2.1 62 (RL, 192, "TwinSetsLaw$Box", "kind", "[I", "TwinSetsLaw") ko62)
theorem ko63 : vNF[63]? = some (RL, 253, "TwinSetsLaw$Box", "then", "[J", "TwinSetsLaw") := rfl
theorem kn63 {D : vD} {s : State} (h : vS D s) (args : Array Value) : (Cond.fieldLinkNest RL 253 "TwinSetsLaw$Box" "then" "[J" "TwinSetsLaw").before args s = true := va_Nw.useF (h.2.2.2.2.2.1 63 (RL, 253, "TwinSetsLaw$Box", "then", "[J", "TwinSetsLaw") ko63)
theorem ko64 : vNF[64]? = some (RL, 46, "TwinSetsLaw$Sets", "many", "I", "TwinSetsLaw") := rfl
theorem kn64 {D : vD} {s : State} (h : vS D s) (args : Array Value) : (Cond.fieldLinkNest RL 46 "TwinSetsLaw$Sets" "many" "I" "TwinSetsLaw").before args s = true := va_Nw.useF (h.2.2.2.2.2.1 64 (RL, 46, "TwinSetsLaw$Sets", "many", "I", "TwinSetsLaw") ko64)
theorem ko65 : vNF[65]? = some (RL, 39, "TwinSetsLaw$Sets", "universe", "I", "TwinSetsLaw") := rfl
theorem kn65 {D : vD} {s : State} (h : vS D s) (args : Array Value) : (Cond.fieldLinkNest RL 39 "TwinSetsLaw$Sets" "universe" "I" "TwinSetsLaw").before args s = true := va_Nw.useF (h.2.2.2.2.2.1 65 (RL, 39, "TwinSetsLaw$Sets", "universe", "I", "TwinSetsLaw") ko65)
theorem ko66 : vNF[66]? = some (RL, 43, "TwinSetsLaw$Sets", "horizon", "I", "TwinSetsLaw") := rfl
theorem kn66 {D : vD} {s : State} (h : vS D s) (args : Array Value) : (Cond.fieldLinkNest RL 43 "TwinSetsLaw$Sets" "horizon" "I" "TwinSetsLaw").before args s = true := va_Nw.useF (h.2.2.2.2.2.1 66 (RL, 43, "TwinSetsLaw$Sets", "horizon", "I", "TwinSetsLaw") ko66)
theorem ko67 : vNF[67]? = some (RL, 99, "TwinSetsLaw$Sets", "clock", "I", "TwinSetsLaw") := rfl
theorem kn67 {D : vD} {s : State} (h : vS D s) (args : Array Value) : (Cond.fieldLinkNest RL 99 "TwinSetsLaw$Sets" "clock" "I" "TwinSetsLaw").before args s = true := va_Nw.useF (h.2.2.2.2.2.1 67 (RL, 99, "TwinSetsLaw$Sets", "clock", "I", "TwinSetsLaw") ko67)
theorem ko68 : vNF[68]? = some (RL, 223, "TwinSetsLaw$Sets", "cost", "I", "TwinSetsLaw") := rfl
theorem kn68 {D : vD} {s : State} (h : vS D s) (args : Array Value) : (Cond.fieldLinkNest RL 223 "TwinSetsLaw$Sets" "cost" "I" "TwinSetsLaw").before args s = true := va_Nw.useF (h.2.2.2.2.2.1 68 (RL, 223, "TwinSetsLaw$Sets", "cost", "I", "TwinSetsLaw") ko68)
theorem ko69 : vNF[69]? = some (RL, 96, "TwinSetsLaw$Sets", "marks", "I", "TwinSetsLaw") := rfl
theorem kn69 {D : vD} {s : State} (h : vS D s) (args : Array Value) : (Cond.fieldLinkNest RL 96 "TwinSetsLaw$Sets" "marks" "I" "TwinSetsLaw").before args s = true := va_Nw.useF (h.2.2.2.2.2.1 69 (RL, 96, "TwinSetsLaw$Sets", "marks", "I", "TwinSetsLaw") ko69)
theorem ko70 : vNF[70]? = some (RL, 80, "TwinSetsLaw$Sets", "box", "[LTwinSetsLaw$Box;", "TwinSetsLaw") := rfl
theorem kn70 {D : vD} {s : State} (h : vS D s) (args : Array Value) : (Cond.fieldLinkNest RL 80 "TwinSetsLaw$Sets" "box" "[LTwinSetsLaw$Box;" "TwinSetsLaw").before args s = true := va_Nw.useF (h.2.2.2.2.2.1 70 (RL, 80, "TwinSetsLaw$Sets", "box", "[LTwinSetsLaw$Box;", "TwinSetsLaw") ko70)
theorem ko71 : vNF[71]? = some (RL, 124, "TwinSetsLaw$Sets", "cursor", "[LTwinSetsLaw$Cursor;", "TwinSetsLaw") := rfl
theorem kn71 {D : vD} {s : State} (h : vS D s) (args : Array Value) : (Cond.fieldLinkNest RL 124 "TwinSetsLaw$Sets" "cursor" "[LTwinSetsLaw$Cursor;" "TwinSetsLaw").before args s = true := va_Nw.useF (h.2.2.2.2.2.1 71 (RL, 124, "TwinSetsLaw$Sets", "cursor", "[LTwinSetsLaw$Cursor;", "TwinSetsLaw") ko71)
theorem ko72 : vNF[72]? = some (RL, 92, "TwinSetsLaw$Sets", "mark", "[I", "TwinSetsLaw") := rfl
theorem kn72 {D : vD} {s : State} (h : vS D s) (args : Array Value) : (Cond.fieldLinkNest RL 92 "TwinSetsLaw$Sets" "mark" "[I" "TwinSetsLaw").before args s = true := va_Nw.useF (h.2.2.2.2.2.1 72 (RL, 92, "TwinSetsLaw$Sets", "mark", "[I", "TwinSetsLaw") ko72)
theorem ko73 : vNF[73]? = some (RX9, 75, "TwinSets$Parser", "errorCode", "I", "TwinSets") := rfl
theorem kn73 {D : vD} {s : State} (h : vS D s) (args : Array Value) : (Cond.fieldLinkNest RX9 75 "TwinSets$Parser" "errorCode" "I" "TwinSets").before args s = true := va_Nw.useF (h.2.2.2.2.2.1 73 (RX9, 75, "TwinSets$Parser", "errorCode", "I", "TwinSets") ko73)
theorem ko74 : vNF[74]? = some (RX9, 71, "TwinSets$Parser", "errorAt", "I", "TwinSets") := rfl
theorem kn74 {D : vD} {s : State} (h : vS D s) (args : Array Value) : (Cond.fieldLinkNest RX9 71 "TwinSets$Parser" "errorAt" "I" "TwinSets").before args s = true := va_Nw.useF (h.2.2.2.2.2.1 74 (RX9, 71, "TwinSets$Parser", "errorAt", "I", "TwinSets") ko74)
theorem ko75 : vNF[75]? = some (RX12, 61, "TwinSetsLaw$Cursor", "of", "LTwinSetsLaw$Box;", "TwinSetsLaw") := rfl
theorem kn75 {D : vD} {s : State} (h : vS D s) (args : Array Value) : (Cond.fieldLinkNest RX12 61 "TwinSetsLaw$Cursor" "of" "LTwinSetsLaw$Box;" "TwinSetsLaw").before args s = true := va_Nw.useF (h.2.2.2.2.2.1 75 (RX12, 61, "TwinSetsLaw$Cursor", "of", "LTwinSetsLaw$Box;", "TwinSetsLaw") ko75)
theorem ko76 : vNF[76]? = some (RL, 128, "TwinSetsLaw$Cursor", "of", "LTwinSetsLaw$Box;", "TwinSetsLaw") := rfl
theorem kn76 {D : vD} {s : State} (h : vS D s) (args : Array Value) : (Cond.fieldLinkNest RL 128 "TwinSetsLaw$Cursor" "of" "LTwinSetsLaw$Box;" "TwinSetsLaw").before args s = true := va_Nw.useF (h.2.2.2.2.2.1 76 (RL, 128, "TwinSetsLaw$Cursor", "of", "LTwinSetsLaw$Box;", "TwinSetsLaw") ko76)
theorem ko77 : vNF[77]? = some (RL, 195, "TwinSetsLaw$Cursor", "set", "I", "TwinSetsLaw") := rfl
theorem kn77 {D : vD} {s : State} (h : vS D s) (args : Array Value) : (Cond.fieldLinkNest RL 195 "TwinSetsLaw$Cursor" "set" "I" "TwinSetsLaw").before args s = true := va_Nw.useF (h.2.2.2.2.2.1 77 (RL, 195, "TwinSetsLaw$Cursor", "set", "I", "TwinSetsLaw") ko77)
theorem ko78 : vNF[78]? = some (RX12, 65, "TwinSetsLaw$Cursor", "position", "I", "TwinSetsLaw") := rfl
theorem kn78 {D : vD} {s : State} (h : vS D s) (args : Array Value) : (Cond.fieldLinkNest RX12 65 "TwinSetsLaw$Cursor" "position" "I" "TwinSetsLaw").before args s = true := va_Nw.useF (h.2.2.2.2.2.1 78 (RX12, 65, "TwinSetsLaw$Cursor", "position", "I", "TwinSetsLaw") ko78)
theorem ko79 : vNF[79]? = some (RL, 197, "TwinSetsLaw$Cursor", "position", "I", "TwinSetsLaw") := rfl
theorem kn79 {D : vD} {s : State} (h : vS D s) (args : Array Value) : (Cond.fieldLinkNest RL 197 "TwinSetsLaw$Cursor" "position" "I" "TwinSetsLaw").before args s = true := va_Nw.useF (h.2.2.2.2.2.1 79 (RL, 197, "TwinSetsLaw$Cursor", "position", "I", "TwinSetsLaw") ko79)
theorem ko80 : vNF[80]? = some (RL, 203, "TwinSetsLaw$Cursor", "made", "I", "TwinSetsLaw") := rfl
theorem kn80 {D : vD} {s : State} (h : vS D s) (args : Array Value) : (Cond.fieldLinkNest RL 203 "TwinSetsLaw$Cursor" "made" "I" "TwinSetsLaw").before args s = true := va_Nw.useF (h.2.2.2.2.2.1 80 (RL, 203, "TwinSetsLaw$Cursor", "made", "I", "TwinSetsLaw") ko80)
theorem ko81 : vNF[81]? = some (RX12, 74, "TwinSetsLaw$Cursor", "met", "I", "TwinSetsLaw") := rfl
theorem kn81 {D : vD} {s : State} (h : vS D s) (args : Array Value) : (Cond.fieldLinkNest RX12 74 "TwinSetsLaw$Cursor" "met" "I" "TwinSetsLaw").before args s = true := va_Nw.useF (h.2.2.2.2.2.1 81 (RX12, 74, "TwinSetsLaw$Cursor", "met", "I", "TwinSetsLaw") ko81)
theorem ko82 : vNF[82]? = some (RL, 206, "TwinSetsLaw$Cursor", "met", "I", "TwinSetsLaw") := rfl
theorem kn82 {D : vD} {s : State} (h : vS D s) (args : Array Value) : (Cond.fieldLinkNest RL 206 "TwinSetsLaw$Cursor" "met" "I" "TwinSetsLaw").before args s = true := va_Nw.useF (h.2.2.2.2.2.1 82 (RL, 206, "TwinSetsLaw$Cursor", "met", "I", "TwinSetsLaw") ko82)
theorem ko83 : vNF[83]? = some (RX12, 77, "TwinSetsLaw$Cursor", "last", "I", "TwinSetsLaw") := rfl
theorem kn83 {D : vD} {s : State} (h : vS D s) (args : Array Value) : (Cond.fieldLinkNest RX12 77 "TwinSetsLaw$Cursor" "last" "I" "TwinSetsLaw").before args s = true := va_Nw.useF (h.2.2.2.2.2.1 83 (RX12, 77, "TwinSetsLaw$Cursor", "last", "I", "TwinSetsLaw") ko83)
theorem ko84 : vNF[84]? = some (RL, 209, "TwinSetsLaw$Cursor", "last", "I", "TwinSetsLaw") := rfl
theorem kn84 {D : vD} {s : State} (h : vS D s) (args : Array Value) : (Cond.fieldLinkNest RL 209 "TwinSetsLaw$Cursor" "last" "I" "TwinSetsLaw").before args s = true := va_Nw.useF (h.2.2.2.2.2.1 84 (RL, 209, "TwinSetsLaw$Cursor", "last", "I", "TwinSetsLaw") ko84)
theorem ko85 : vNF[85]? = some (RX12, 57, "TwinSetsLaw$Cursor", "open", "Z", "TwinSetsLaw") := rfl
theorem kn85 {D : vD} {s : State} (h : vS D s) (args : Array Value) : (Cond.fieldLinkNest RX12 57 "TwinSetsLaw$Cursor" "open" "Z" "TwinSetsLaw").before args s = true := va_Nw.useF (h.2.2.2.2.2.1 85 (RX12, 57, "TwinSetsLaw$Cursor", "open", "Z", "TwinSetsLaw") ko85)
theorem ko86 : vNF[86]? = some (RL, 134, "TwinSetsLaw$Cursor", "open", "Z", "TwinSetsLaw") := rfl
theorem kn86 {D : vD} {s : State} (h : vS D s) (args : Array Value) : (Cond.fieldLinkNest RL 134 "TwinSetsLaw$Cursor" "open" "Z" "TwinSetsLaw").before args s = true := va_Nw.useF (h.2.2.2.2.2.1 86 (RL, 134, "TwinSetsLaw$Cursor", "open", "Z", "TwinSetsLaw") ko86)
theorem ko87 : vNF[87]? = some (RL, 200, "TwinSetsLaw$Cursor", "strict", "Z", "TwinSetsLaw") := rfl
theorem kn87 {D : vD} {s : State} (h : vS D s) (args : Array Value) : (Cond.fieldLinkNest RL 200 "TwinSetsLaw$Cursor" "strict" "Z" "TwinSetsLaw").before args s = true := va_Nw.useF (h.2.2.2.2.2.1 87 (RL, 200, "TwinSetsLaw$Cursor", "strict", "Z", "TwinSetsLaw") ko87)
theorem kp0 : vNM[0]? = some (RX9, 9, yX1_init, "TwinSets") := rfl
theorem km0 {D : vD} {s : State} (h : vS D s) : va_Nw (.methodLinkNest RX9 9 yX1_init "TwinSets") s := h.2.2.2.2.2.2.1 0 (RX9, 9, yX1_init, "TwinSets") kp0
theorem kp1 : vNM[1]? = some (RX9, 18, yX8_init, "TwinSets") := rfl
theorem km1 {D : vD} {s : State} (h : vS D s) : va_Nw (.methodLinkNest RX9 18 yX8_init "TwinSets") s := h.2.2.2.2.2.2.1 1 (RX9, 18, yX8_init, "TwinSets") kp1
theorem kp2 : vNM[2]? = some (RX9, 25, yX4_init, "TwinSets") := rfl
theorem km2 {D : vD} {s : State} (h : vS D s) : va_Nw (.methodLinkNest RX9 25 yX4_init "TwinSets") s := h.2.2.2.2.2.2.1 2 (RX9, 25, yX4_init, "TwinSets") kp2
theorem kp3 : vNM[3]? = some (RX5, 27, yX7_init, "TwinSets") := rfl
theorem km3 {D : vD} {s : State} (h : vS D s) : va_Nw (.methodLinkNest RX5 27 yX7_init "TwinSets") s := h.2.2.2.2.2.2.1 3 (RX5, 27, yX7_init, "TwinSets") kp3
theorem kp4 : vNM[4]? = some (RX7, 23, yX2_init, "TwinSets") := rfl
theorem km4 {D : vD} {s : State} (h : vS D s) : va_Nw (.methodLinkNest RX7 23 yX2_init "TwinSets") s := h.2.2.2.2.2.2.1 4 (RX7, 23, yX2_init, "TwinSets") kp4
theorem kp5 : vNM[5]? = some (RX5, 28, yX0_init, "TwinSets") := rfl
theorem km5 {D : vD} {s : State} (h : vS D s) : va_Nw (.methodLinkNest RX5 28 yX0_init "TwinSets") s := h.2.2.2.2.2.2.1 5 (RX5, 28, yX0_init, "TwinSets") kp5
theorem kp6 : vNM[6]? = some (RL, 34, yX12_init, "TwinSetsLaw") := rfl
theorem km6 {D : vD} {s : State} (h : vS D s) : va_Nw (.methodLinkNest RL 34 yX12_init "TwinSetsLaw") s := h.2.2.2.2.2.2.1 6 (RL, 34, yX12_init, "TwinSetsLaw") kp6
theorem kp7 : vNM[7]? = some (RX12, 9, yX10_init, "TwinSetsLaw") := rfl
theorem km7 {D : vD} {s : State} (h : vS D s) : va_Nw (.methodLinkNest RX12 9 yX10_init "TwinSetsLaw") s := h.2.2.2.2.2.2.1 7 (RX12, 9, yX10_init, "TwinSetsLaw") kp7
theorem kp8 : vNM[8]? = some (RL, 283, yX11_init, "TwinSetsLaw") := rfl
theorem km8 {D : vD} {s : State} (h : vS D s) : va_Nw (.methodLinkNest RL 283 yX11_init "TwinSetsLaw") s := h.2.2.2.2.2.2.1 8 (RL, 283, yX11_init, "TwinSetsLaw") kp8
