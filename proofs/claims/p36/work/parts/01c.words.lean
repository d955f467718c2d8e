/-! the tables' words that every walk may use, each by its place -/
def TB : List Cond := Cond.selects RJ4 yJ5_ensureCapacityInternal_d00df yJ5_ensureCapacityInternal_d00df :: Cond.selects RJ4 yJ5_newCapacity_0f7a4 yJ5_newCapacity_0f7a4 :: Cond.selects RJ4 yJ5_putStringAt_47b60 yJ5_putStringAt_47b60 :: Cond.selects RJ4 yJ5_inflateIfNeededFor_a7421 yJ5_inflateIfNeededFor_a7421 :: lw_tbl.filter goodWord
theorem mTB {w : Cond} (h : w ∈ lw_tbl) (g : goodWord w = true) : w ∈ TB := List.mem_cons_of_mem _ (List.mem_cons_of_mem _ (List.mem_cons_of_mem _ (List.mem_cons_of_mem _ (List.mem_filter.mpr ⟨h, g⟩))))
theorem kwE0 : Cond.selects RJ4 yJ5_ensureCapacityInternal_d00df yJ5_ensureCapacityInternal_d00df ∈ TB := List.mem_cons_self
theorem kwE1 : Cond.selects RJ4 yJ5_newCapacity_0f7a4 yJ5_newCapacity_0f7a4 ∈ TB := List.mem_cons_of_mem _ (List.mem_cons_self)
theorem kwE2 : Cond.selects RJ4 yJ5_putStringAt_47b60 yJ5_putStringAt_47b60 ∈ TB := List.mem_cons_of_mem _ (List.mem_cons_of_mem _ (List.mem_cons_self))
theorem kwE3 : Cond.selects RJ4 yJ5_inflateIfNeededFor_a7421 yJ5_inflateIfNeededFor_a7421 ∈ TB := List.mem_cons_of_mem _ (List.mem_cons_of_mem _ (List.mem_cons_of_mem _ (List.mem_cons_self)))
theorem TB_good {w : Cond} (h : w ∈ TB) : goodWord w = true := (List.mem_cons.mp h).elim (fun e => e ▸ rfl) (fun h => (List.mem_cons.mp h).elim (fun e => e ▸ rfl) (fun h => (List.mem_cons.mp h).elim (fun e => e ▸ rfl) (fun h => (List.mem_cons.mp h).elim (fun e => e ▸ rfl) (fun h => (List.mem_filter.mp h).2))))
theorem TB_goodIn : GoodIn TB TB := fun w h => ⟨h, good_of_word (TB_good h)⟩
theorem TB1 {w : Cond} (h : w ∈ TB) : w ∈ TB ∧ ((w.onTables && w.keeps) = true ∨ ∃ ty, w = .arrayClass ty) := TB_goodIn w h
theorem gdI {w : Cond} (h5 : w ∈ TB) : GoodIn TB (w :: TB) := fun v hv => (List.mem_cons.mp hv).elim (fun e => e ▸ TB1 h5) (fun h => TB1 h)
theorem gdA {ws : List Cond} {w : Cond} (h : ∀ v ∈ ws, v ∈ TB) (h5 : w ∈ TB) : GoodIn TB (ws ++ (w :: TB)) := fun v hv => (List.mem_append.mp hv).elim (fun q => TB1 (h v q)) (fun q => gdI h5 v q)
theorem gdV {own C : String} {idx : Nat} {y : MethodName} {w : Cond} (h1 : Cond.methodLink own idx y ∈ TB) (h2 : Cond.instanceMethod y ∈ TB) (h3 : Cond.selects C y y ∈ TB) (h4 : Cond.initialized C ∈ TB) (h5 : w ∈ TB) : GoodIn TB (wsV own idx C y (w :: TB)) := gdA (by simp only [List.forall_mem_cons]; exact ⟨h1, h2, h3, h4, fun _ h => nomatch h⟩) h5
theorem gdS {own : String} {idx : Nat} {y : MethodName} {w : Cond} (h1 : Cond.methodLink own idx y ∈ TB) (h2 : Cond.static y ∈ TB) (h4 : Cond.initialized y.cls ∈ TB) (h5 : w ∈ TB) : GoodIn TB (va_wsS own idx y (w :: TB)) := gdA (by simp only [List.forall_mem_cons]; exact ⟨h1, h2, h4, fun _ h => nomatch h⟩) h5
theorem gdU {own C owner : String} {idx : Nat} {x y : MethodName} {w : Cond} (h1 : Cond.methodLink own idx x ∈ TB) (h2 : Cond.sameMethod x.cls owner x.name x.desc ∈ TB) (h3 : Cond.selects C x y ∈ TB) (h4 : Cond.instanceMethod y ∈ TB) (h6 : Cond.initialized y.cls ∈ TB) (h5 : w ∈ TB) : GoodIn TB (va_wsU own idx C owner x y (w :: TB)) := gdA (by simp only [List.forall_mem_cons]; exact ⟨h1, h2, h3, h4, h6, fun _ h => nomatch h⟩) h5
theorem gdO {own C owner : String} {idx : Nat} {x y : MethodName} {w : Cond} (h1 : Cond.methodLink own idx x ∈ TB) (h2 : Cond.sameMethod x.cls owner x.name x.desc ∈ TB) (h7 : Cond.instanceMethod ⟨owner, x.name, x.desc⟩ ∈ TB) (h3 : Cond.selects C x y ∈ TB) (h4 : Cond.instanceMethod y ∈ TB) (h6 : Cond.initialized y.cls ∈ TB) (h5 : w ∈ TB) : GoodIn TB (va_wsO own idx C owner x y (w :: TB)) := gdA (by simp only [List.forall_mem_cons]; exact ⟨h1, h2, h7, h3, h4, h6, fun _ h => nomatch h⟩) h5
theorem gdSU {own : String} {idx : Nat} {y : MethodName} {w : Cond} (h1 : Cond.methodLink own idx y ∈ TB) (h2 : Cond.sameMethod y.cls y.cls y.name y.desc ∈ TB) (h3 : Cond.superclass own y.cls ∈ TB) (h4 : Cond.instanceMethod y ∈ TB) (h6 : Cond.initialized y.cls ∈ TB) (h5 : w ∈ TB) : GoodIn TB (va_wsSU own idx y (w :: TB)) := gdA (by simp only [List.forall_mem_cons]; exact ⟨h1, h2, h3, h4, h6, fun _ h => nomatch h⟩) h5
theorem kw1 : Cond.selects RX3 yX3_toNextToken yX3_toNextToken ∈ TB := mTB (List.mem_of_getElem? (i := 1) (by decide +kernel)) rfl
theorem kw2 : Cond.selects RX3 yX3_passLetters yX3_passLetters ∈ TB := mTB (List.mem_of_getElem? (i := 2) (by decide +kernel)) rfl
theorem kw3 : Cond.selects RX3 yX3_passDigits yX3_passDigits ∈ TB := mTB (List.mem_of_getElem? (i := 3) (by decide +kernel)) rfl
theorem kw4 : Cond.selects RX3 yX3_passWord yX3_passWord ∈ TB := mTB (List.mem_of_getElem? (i := 4) (by decide +kernel)) rfl
theorem kw5 : Cond.selects RX3 yX3_isWord yX3_isWord ∈ TB := mTB (List.mem_of_getElem? (i := 5) (by decide +kernel)) rfl
theorem kw6 : Cond.selects RX3 yX3_fail yX3_fail ∈ TB := mTB (List.mem_of_getElem? (i := 6) (by decide +kernel)) rfl
theorem kw7 : Cond.selects RX3 yX3_isNumber yX3_isNumber ∈ TB := mTB (List.mem_of_getElem? (i := 7) (by decide +kernel)) rfl
theorem kw8 : Cond.selects RX3 yX3_passSemicolon yX3_passSemicolon ∈ TB := mTB (List.mem_of_getElem? (i := 8) (by decide +kernel)) rfl
theorem kw9 : Cond.selects RX3 yX3_readStatement yX3_readStatement ∈ TB := mTB (List.mem_of_getElem? (i := 9) (by decide +kernel)) rfl
theorem kw10 : Cond.selects RX3 yX3_readSet yX3_readSet ∈ TB := mTB (List.mem_of_getElem? (i := 10) (by decide +kernel)) rfl
theorem kw11 : Cond.selects RX3 yX3_wordText yX3_wordText ∈ TB := mTB (List.mem_of_getElem? (i := 11) (by decide +kernel)) rfl
theorem kw12 : Cond.selects RX3 yX3_readMembers yX3_readMembers ∈ TB := mTB (List.mem_of_getElem? (i := 12) (by decide +kernel)) rfl
theorem kw13 : Cond.selects RX3 yX3_readEarlierSet yX3_readEarlierSet ∈ TB := mTB (List.mem_of_getElem? (i := 13) (by decide +kernel)) rfl
theorem kw14 : Cond.selects RX5 yX5_writeMember yX5_writeMember ∈ TB := mTB (List.mem_of_getElem? (i := 14) (by decide +kernel)) rfl
theorem kw15 : Cond.selects RX2 yX2_bitsBehind yX2_bitsBehind ∈ TB := mTB (List.mem_of_getElem? (i := 15) (by decide +kernel)) rfl
theorem kw16 : Cond.selects RX5 yX5_pullCursorsBack yX5_pullCursorsBack ∈ TB := mTB (List.mem_of_getElem? (i := 16) (by decide +kernel)) rfl
theorem kw17 : Cond.selects RX5 yX5_moveMember yX5_moveMember ∈ TB := mTB (List.mem_of_getElem? (i := 17) (by decide +kernel)) rfl
theorem kw18 : Cond.selects RX3 yX3_readClear yX3_readClear ∈ TB := mTB (List.mem_of_getElem? (i := 18) (by decide +kernel)) rfl
theorem kw19 : Cond.selects RX3 yX3_readMark yX3_readMark ∈ TB := mTB (List.mem_of_getElem? (i := 19) (by decide +kernel)) rfl
theorem kw20 : Cond.selects RX9 yX9_beginWithDraft yX9_beginWithDraft ∈ TB := mTB (List.mem_of_getElem? (i := 20) (by decide +kernel)) rfl
theorem kw21 : Cond.selects RX9 yX9_rowsOf yX9_rowsOf ∈ TB := mTB (List.mem_of_getElem? (i := 21) (by decide +kernel)) rfl
theorem kw22 : Cond.selects RX9 yX9_checkSet yX9_checkSet ∈ TB := mTB (List.mem_of_getElem? (i := 22) (by decide +kernel)) rfl
theorem kw23 : Cond.selects RX9 yX9_cursorOf yX9_cursorOf ∈ TB := mTB (List.mem_of_getElem? (i := 23) (by decide +kernel)) rfl
theorem kw24 : Cond.selects RX9 yX9_checkNumber yX9_checkNumber ∈ TB := mTB (List.mem_of_getElem? (i := 24) (by decide +kernel)) rfl
theorem kw25 : Cond.selects RX9 yX9_checkStamp yX9_checkStamp ∈ TB := mTB (List.mem_of_getElem? (i := 25) (by decide +kernel)) rfl
theorem kw26 : Cond.initialized RL ∈ TB := mTB (List.mem_of_getElem? (i := 26) (by decide +kernel)) rfl
theorem kw27 : Cond.initialized RX9 ∈ TB := mTB (List.mem_of_getElem? (i := 27) (by decide +kernel)) rfl
theorem kw28 : Cond.initialized RX1 ∈ TB := mTB (List.mem_of_getElem? (i := 28) (by decide +kernel)) rfl
theorem kw29 : Cond.initialized RX8 ∈ TB := mTB (List.mem_of_getElem? (i := 29) (by decide +kernel)) rfl
theorem kw30 : Cond.initialized RX4 ∈ TB := mTB (List.mem_of_getElem? (i := 30) (by decide +kernel)) rfl
theorem kw31 : Cond.initialized RX5 ∈ TB := mTB (List.mem_of_getElem? (i := 31) (by decide +kernel)) rfl
theorem kw32 : Cond.initialized RX7 ∈ TB := mTB (List.mem_of_getElem? (i := 32) (by decide +kernel)) rfl
theorem kw33 : Cond.initialized RX2 ∈ TB := mTB (List.mem_of_getElem? (i := 33) (by decide +kernel)) rfl
theorem kw34 : Cond.initialized RX0 ∈ TB := mTB (List.mem_of_getElem? (i := 34) (by decide +kernel)) rfl
theorem kw35 : Cond.initialized RX12 ∈ TB := mTB (List.mem_of_getElem? (i := 35) (by decide +kernel)) rfl
theorem kw36 : Cond.initialized RX10 ∈ TB := mTB (List.mem_of_getElem? (i := 36) (by decide +kernel)) rfl
theorem kw37 : Cond.initialized RJ5 ∈ TB := mTB (List.mem_of_getElem? (i := 37) (by decide +kernel)) rfl
theorem kw38 : Cond.initialized RJ4 ∈ TB := mTB (List.mem_of_getElem? (i := 38) (by decide +kernel)) rfl
theorem kw39 : Cond.initialized RJ0 ∈ TB := mTB (List.mem_of_getElem? (i := 39) (by decide +kernel)) rfl
theorem kw41 : Cond.initialized RJ8 ∈ TB := mTB (List.mem_of_getElem? (i := 41) (by decide +kernel)) rfl
theorem kw42 : Cond.initialized RJ9 ∈ TB := mTB (List.mem_of_getElem? (i := 42) (by decide +kernel)) rfl
theorem kw43 : Cond.initialized RJ7 ∈ TB := mTB (List.mem_of_getElem? (i := 43) (by decide +kernel)) rfl
theorem kw44 : Cond.initialized RJ10 ∈ TB := mTB (List.mem_of_getElem? (i := 44) (by decide +kernel)) rfl
theorem kw45 : Cond.initialized RJ3 ∈ TB := mTB (List.mem_of_getElem? (i := 45) (by decide +kernel)) rfl
theorem kw46 : Cond.initialized RJ1 ∈ TB := mTB (List.mem_of_getElem? (i := 46) (by decide +kernel)) rfl
theorem kw48 : Cond.initialized RJ6 ∈ TB := mTB (List.mem_of_getElem? (i := 48) (by decide +kernel)) rfl
theorem kw52 : Cond.initialized "java/lang/IllegalArgumentException" ∈ TB := mTB (List.mem_of_getElem? (i := 52) (by decide +kernel)) rfl
theorem kw53 : Cond.initialized RX3 ∈ TB := mTB (List.mem_of_getElem? (i := 53) (by decide +kernel)) rfl
theorem kw56 : Cond.initialized "java/lang/IndexOutOfBoundsException" ∈ TB := mTB (List.mem_of_getElem? (i := 56) (by decide +kernel)) rfl
theorem kw57 : Cond.initialized "java/lang/IllegalStateException" ∈ TB := mTB (List.mem_of_getElem? (i := 57) (by decide +kernel)) rfl
theorem kw58 : Cond.initialized RX11 ∈ TB := mTB (List.mem_of_getElem? (i := 58) (by decide +kernel)) rfl
theorem kw59 : Cond.initialized RJ13 ∈ TB := mTB (List.mem_of_getElem? (i := 59) (by decide +kernel)) rfl
theorem kw65 : Cond.methodLink RX9 1 objectInit ∈ TB := mTB (List.mem_of_getElem? (i := 65) (by decide +kernel)) rfl
theorem kw66 : Cond.instanceMethod objectInit ∈ TB := mTB (List.mem_of_getElem? (i := 66) (by decide +kernel)) rfl
theorem kw67 : Cond.code objectInit ⟨#[0xb1]⟩ 1 none ∈ TB := mTB (List.mem_of_getElem? (i := 67) (by decide +kernel)) rfl
theorem kw68 : Cond.classLink RX9 7 RX1 ∈ TB := mTB (List.mem_of_getElem? (i := 68) (by decide +kernel)) rfl
theorem kw69 : Cond.instantiable RX1 2 ∈ TB := mTB (List.mem_of_getElem? (i := 69) (by decide +kernel)) rfl
theorem kw71 : Cond.instanceMethod yX1_init ∈ TB := mTB (List.mem_of_getElem? (i := 71) (by decide +kernel)) rfl
theorem kw72 : Cond.code yX1_init cX1_init 1 none ∈ TB := mTB (List.mem_of_getElem? (i := 72) (by decide +kernel)) rfl
theorem kw73 : Cond.methodLink RX1 3 objectInit ∈ TB := mTB (List.mem_of_getElem? (i := 73) (by decide +kernel)) rfl
theorem kw74 : Cond.fieldLink RX1 9 "TwinSets$Input" "bytes" "[B" ∈ TB := mTB (List.mem_of_getElem? (i := 74) (by decide +kernel)) rfl
theorem kw77 : Cond.fieldLink RX1 15 "TwinSets$Input" "length" "I" ∈ TB := mTB (List.mem_of_getElem? (i := 77) (by decide +kernel)) rfl
theorem kw83 : Cond.arrayClass .byte ∈ TB := mTB (List.mem_of_getElem? (i := 83) (by decide +kernel)) rfl
theorem kw84 : Cond.classLink RX9 16 RX8 ∈ TB := mTB (List.mem_of_getElem? (i := 84) (by decide +kernel)) rfl
theorem kw85 : Cond.instantiable RX8 3 ∈ TB := mTB (List.mem_of_getElem? (i := 85) (by decide +kernel)) rfl
theorem kw87 : Cond.instanceMethod yX8_init ∈ TB := mTB (List.mem_of_getElem? (i := 87) (by decide +kernel)) rfl
theorem kw88 : Cond.code yX8_init cX8_init 1 none ∈ TB := mTB (List.mem_of_getElem? (i := 88) (by decide +kernel)) rfl
theorem kw89 : Cond.methodLink RX8 3 objectInit ∈ TB := mTB (List.mem_of_getElem? (i := 89) (by decide +kernel)) rfl
theorem kw90 : Cond.classLink RX8 9 RX5 ∈ TB := mTB (List.mem_of_getElem? (i := 90) (by decide +kernel)) rfl
theorem kw92 : Cond.fieldLink RX8 11 "TwinSets$UndoHistory" "states" "[LTwinSets$State;" ∈ TB := mTB (List.mem_of_getElem? (i := 92) (by decide +kernel)) rfl
theorem kw93 : Cond.fieldLink RX8 17 "TwinSets$UndoHistory" "next" "I" ∈ TB := mTB (List.mem_of_getElem? (i := 93) (by decide +kernel)) rfl
theorem kw94 : Cond.fieldLink RX8 26 "TwinSets$UndoHistory" "count" "I" ∈ TB := mTB (List.mem_of_getElem? (i := 94) (by decide +kernel)) rfl
theorem kw103 : Cond.classLink RX9 23 RX4 ∈ TB := mTB (List.mem_of_getElem? (i := 103) (by decide +kernel)) rfl
theorem kw104 : Cond.instantiable RX4 2 ∈ TB := mTB (List.mem_of_getElem? (i := 104) (by decide +kernel)) rfl
theorem kw106 : Cond.instanceMethod yX4_init ∈ TB := mTB (List.mem_of_getElem? (i := 106) (by decide +kernel)) rfl
theorem kw107 : Cond.code yX4_init cX4_init 1 none ∈ TB := mTB (List.mem_of_getElem? (i := 107) (by decide +kernel)) rfl
theorem kw108 : Cond.methodLink RX4 3 objectInit ∈ TB := mTB (List.mem_of_getElem? (i := 108) (by decide +kernel)) rfl
theorem kw109 : Cond.classLink RX4 9 RX5 ∈ TB := mTB (List.mem_of_getElem? (i := 109) (by decide +kernel)) rfl
theorem kw110 : Cond.fieldLink RX4 11 "TwinSets$SnapshotSlots" "states" "[LTwinSets$State;" ∈ TB := mTB (List.mem_of_getElem? (i := 110) (by decide +kernel)) rfl
theorem kw111 : Cond.fieldLink RX4 17 "TwinSets$SnapshotSlots" "isFull" "[Z" ∈ TB := mTB (List.mem_of_getElem? (i := 111) (by decide +kernel)) rfl
theorem kw117 : Cond.arrayClass .boolean ∈ TB := mTB (List.mem_of_getElem? (i := 117) (by decide +kernel)) rfl
theorem kw118 : Cond.classLink RX9 30 RX5 ∈ TB := mTB (List.mem_of_getElem? (i := 118) (by decide +kernel)) rfl
theorem kw119 : Cond.instantiable RX5 9 ∈ TB := mTB (List.mem_of_getElem? (i := 119) (by decide +kernel)) rfl
theorem kw120 : Cond.methodLink RX9 32 yX5_init ∈ TB := mTB (List.mem_of_getElem? (i := 120) (by decide +kernel)) rfl
theorem kw121 : Cond.instanceMethod yX5_init ∈ TB := mTB (List.mem_of_getElem? (i := 121) (by decide +kernel)) rfl
theorem kw122 : Cond.code yX5_init cX5_init 2 none ∈ TB := mTB (List.mem_of_getElem? (i := 122) (by decide +kernel)) rfl
theorem kw123 : Cond.methodLink RX5 3 objectInit ∈ TB := mTB (List.mem_of_getElem? (i := 123) (by decide +kernel)) rfl
theorem kw124 : Cond.classLink RX5 9 RX7 ∈ TB := mTB (List.mem_of_getElem? (i := 124) (by decide +kernel)) rfl
theorem kw126 : Cond.classLink RX5 17 RX0 ∈ TB := mTB (List.mem_of_getElem? (i := 126) (by decide +kernel)) rfl
theorem kw128 : Cond.instantiable RX7 7 ∈ TB := mTB (List.mem_of_getElem? (i := 128) (by decide +kernel)) rfl
theorem kw130 : Cond.instanceMethod yX7_init ∈ TB := mTB (List.mem_of_getElem? (i := 130) (by decide +kernel)) rfl
theorem kw131 : Cond.code yX7_init cX7_init 1 none ∈ TB := mTB (List.mem_of_getElem? (i := 131) (by decide +kernel)) rfl
theorem kw132 : Cond.methodLink RX7 3 objectInit ∈ TB := mTB (List.mem_of_getElem? (i := 132) (by decide +kernel)) rfl
theorem kw133 : Cond.classLink RX7 21 RX2 ∈ TB := mTB (List.mem_of_getElem? (i := 133) (by decide +kernel)) rfl
theorem kw134 : Cond.instantiable RX2 6 ∈ TB := mTB (List.mem_of_getElem? (i := 134) (by decide +kernel)) rfl
theorem kw136 : Cond.instanceMethod yX2_init ∈ TB := mTB (List.mem_of_getElem? (i := 136) (by decide +kernel)) rfl
theorem kw137 : Cond.code yX2_init cX2_init 1 none ∈ TB := mTB (List.mem_of_getElem? (i := 137) (by decide +kernel)) rfl
theorem kw138 : Cond.methodLink RX2 3 objectInit ∈ TB := mTB (List.mem_of_getElem? (i := 138) (by decide +kernel)) rfl
theorem kw139 : Cond.fieldLink RX2 9 "TwinSets$Log" "stamps" "[I" ∈ TB := mTB (List.mem_of_getElem? (i := 139) (by decide +kernel)) rfl
theorem kw141 : Cond.fieldLink RX2 15 "TwinSets$Log" "numbers" "[I" ∈ TB := mTB (List.mem_of_getElem? (i := 141) (by decide +kernel)) rfl
theorem kw143 : Cond.fieldLink RX2 18 "TwinSets$Log" "kinds" "[I" ∈ TB := mTB (List.mem_of_getElem? (i := 143) (by decide +kernel)) rfl
theorem kw145 : Cond.fieldLink RX2 21 "TwinSets$Log" "count" "I" ∈ TB := mTB (List.mem_of_getElem? (i := 145) (by decide +kernel)) rfl
theorem kw147 : Cond.fieldLink RX2 25 "TwinSets$Log" "firstStamp" "I" ∈ TB := mTB (List.mem_of_getElem? (i := 147) (by decide +kernel)) rfl
theorem kw149 : Cond.fieldLink RX2 28 "TwinSets$Log" "bitsAtFirst" "J" ∈ TB := mTB (List.mem_of_getElem? (i := 149) (by decide +kernel)) rfl
theorem kw163 : Cond.arrayClass .int ∈ TB := mTB (List.mem_of_getElem? (i := 163) (by decide +kernel)) rfl
theorem kw165 : Cond.fieldLink RX7 9 "TwinSets$TwinRows" "members" "[I" ∈ TB := mTB (List.mem_of_getElem? (i := 165) (by decide +kernel)) rfl
theorem kw168 : Cond.fieldLink RX7 15 "TwinSets$TwinRows" "places" "[I" ∈ TB := mTB (List.mem_of_getElem? (i := 168) (by decide +kernel)) rfl
theorem kw171 : Cond.fieldLink RX7 18 "TwinSets$TwinRows" "stamps" "[I" ∈ TB := mTB (List.mem_of_getElem? (i := 171) (by decide +kernel)) rfl
theorem kw174 : Cond.fieldLink RX7 24 "TwinSets$TwinRows" "log" "LTwinSets$Log;" ∈ TB := mTB (List.mem_of_getElem? (i := 174) (by decide +kernel)) rfl
theorem kw177 : Cond.fieldLink RX7 30 "TwinSets$TwinRows" "name" "Ljava/lang/String;" ∈ TB := mTB (List.mem_of_getElem? (i := 177) (by decide +kernel)) rfl
theorem kw179 : Cond.fieldLink RX7 34 "TwinSets$TwinRows" "size" "I" ∈ TB := mTB (List.mem_of_getElem? (i := 179) (by decide +kernel)) rfl
theorem kw182 : Cond.fieldLink RX7 38 "TwinSets$TwinRows" "generation" "I" ∈ TB := mTB (List.mem_of_getElem? (i := 182) (by decide +kernel)) rfl
theorem kw200 : Cond.instantiable RX0 8 ∈ TB := mTB (List.mem_of_getElem? (i := 200) (by decide +kernel)) rfl
theorem kw202 : Cond.instanceMethod yX0_init ∈ TB := mTB (List.mem_of_getElem? (i := 202) (by decide +kernel)) rfl
theorem kw203 : Cond.code yX0_init cX0_init 1 none ∈ TB := mTB (List.mem_of_getElem? (i := 203) (by decide +kernel)) rfl
theorem kw204 : Cond.methodLink RX0 3 objectInit ∈ TB := mTB (List.mem_of_getElem? (i := 204) (by decide +kernel)) rfl
theorem kw205 : Cond.fieldLink RX0 9 "TwinSets$Cursor" "isInUse" "Z" ∈ TB := mTB (List.mem_of_getElem? (i := 205) (by decide +kernel)) rfl
theorem kw208 : Cond.fieldLink RX0 15 "TwinSets$Cursor" "isOpen" "Z" ∈ TB := mTB (List.mem_of_getElem? (i := 208) (by decide +kernel)) rfl
theorem kw211 : Cond.fieldLink RX0 18 "TwinSets$Cursor" "isStrict" "Z" ∈ TB := mTB (List.mem_of_getElem? (i := 211) (by decide +kernel)) rfl
theorem kw213 : Cond.fieldLink RX0 21 "TwinSets$Cursor" "set" "I" ∈ TB := mTB (List.mem_of_getElem? (i := 213) (by decide +kernel)) rfl
theorem kw216 : Cond.fieldLink RX0 25 "TwinSets$Cursor" "position" "I" ∈ TB := mTB (List.mem_of_getElem? (i := 216) (by decide +kernel)) rfl
theorem kw219 : Cond.fieldLink RX0 28 "TwinSets$Cursor" "madeAt" "I" ∈ TB := mTB (List.mem_of_getElem? (i := 219) (by decide +kernel)) rfl
theorem kw221 : Cond.fieldLink RX0 31 "TwinSets$Cursor" "metCount" "I" ∈ TB := mTB (List.mem_of_getElem? (i := 221) (by decide +kernel)) rfl
theorem kw224 : Cond.fieldLink RX0 34 "TwinSets$Cursor" "lastMet" "I" ∈ TB := mTB (List.mem_of_getElem? (i := 224) (by decide +kernel)) rfl
theorem kw244 : Cond.fieldLink RX5 11 "TwinSets$State" "sets" "[LTwinSets$TwinRows;" ∈ TB := mTB (List.mem_of_getElem? (i := 244) (by decide +kernel)) rfl
theorem kw247 : Cond.fieldLink RX5 19 "TwinSets$State" "cursors" "[LTwinSets$Cursor;" ∈ TB := mTB (List.mem_of_getElem? (i := 247) (by decide +kernel)) rfl
theorem kw249 : Cond.fieldLink RX5 23 "TwinSets$State" "marks" "[I" ∈ TB := mTB (List.mem_of_getElem? (i := 249) (by decide +kernel)) rfl
theorem kw251 : Cond.fieldLink RX5 29 "TwinSets$State" "universe" "I" ∈ TB := mTB (List.mem_of_getElem? (i := 251) (by decide +kernel)) rfl
theorem kw254 : Cond.fieldLink RX5 33 "TwinSets$State" "horizon" "I" ∈ TB := mTB (List.mem_of_getElem? (i := 254) (by decide +kernel)) rfl
theorem kw256 : Cond.fieldLink RX5 36 "TwinSets$State" "setCount" "I" ∈ TB := mTB (List.mem_of_getElem? (i := 256) (by decide +kernel)) rfl
theorem kw259 : Cond.fieldLink RX5 39 "TwinSets$State" "markCount" "I" ∈ TB := mTB (List.mem_of_getElem? (i := 259) (by decide +kernel)) rfl
theorem kw262 : Cond.fieldLink RX5 42 "TwinSets$State" "clock" "I" ∈ TB := mTB (List.mem_of_getElem? (i := 262) (by decide +kernel)) rfl
theorem kw264 : Cond.fieldLink RX5 45 "TwinSets$State" "cost" "I" ∈ TB := mTB (List.mem_of_getElem? (i := 264) (by decide +kernel)) rfl
theorem kw285 : Cond.methodLink RX9 44 yX5_begin ∈ TB := mTB (List.mem_of_getElem? (i := 285) (by decide +kernel)) rfl
theorem kw286 : Cond.instanceMethod yX5_begin ∈ TB := mTB (List.mem_of_getElem? (i := 286) (by decide +kernel)) rfl
theorem kw287 : Cond.selects RX5 yX5_begin yX5_begin ∈ TB := mTB (List.mem_of_getElem? (i := 287) (by decide +kernel)) rfl
theorem kw288 : Cond.code yX5_begin cX5_begin 4 none ∈ TB := mTB (List.mem_of_getElem? (i := 288) (by decide +kernel)) rfl
theorem kw289 : Cond.fieldLink RX9 10 "TwinSets" "input" "LTwinSets$Input;" ∈ TB := mTB (List.mem_of_getElem? (i := 289) (by decide +kernel)) rfl
theorem kw290 : Cond.fieldLink RX9 19 "TwinSets" "history" "LTwinSets$UndoHistory;" ∈ TB := mTB (List.mem_of_getElem? (i := 290) (by decide +kernel)) rfl
theorem kw291 : Cond.fieldLink RX9 26 "TwinSets" "slots" "LTwinSets$SnapshotSlots;" ∈ TB := mTB (List.mem_of_getElem? (i := 291) (by decide +kernel)) rfl
theorem kw292 : Cond.fieldLink RX9 33 "TwinSets" "now" "LTwinSets$State;" ∈ TB := mTB (List.mem_of_getElem? (i := 292) (by decide +kernel)) rfl
theorem kw293 : Cond.fieldLink RX9 37 "TwinSets" "draft" "LTwinSets$State;" ∈ TB := mTB (List.mem_of_getElem? (i := 293) (by decide +kernel)) rfl
theorem kw294 : Cond.fieldLink RX9 40 "TwinSets" "errorAt" "I" ∈ TB := mTB (List.mem_of_getElem? (i := 294) (by decide +kernel)) rfl
theorem kw311 : Cond.classLink RL 32 RX12 ∈ TB := mTB (List.mem_of_getElem? (i := 311) (by decide +kernel)) rfl
theorem kw312 : Cond.instantiable RX12 9 ∈ TB := mTB (List.mem_of_getElem? (i := 312) (by decide +kernel)) rfl
theorem kw314 : Cond.instanceMethod yX12_init ∈ TB := mTB (List.mem_of_getElem? (i := 314) (by decide +kernel)) rfl
theorem kw315 : Cond.code yX12_init cX12_init 1 none ∈ TB := mTB (List.mem_of_getElem? (i := 315) (by decide +kernel)) rfl
theorem kw316 : Cond.methodLink RX12 1 objectInit ∈ TB := mTB (List.mem_of_getElem? (i := 316) (by decide +kernel)) rfl
theorem kw317 : Cond.classLink RX12 7 RX10 ∈ TB := mTB (List.mem_of_getElem? (i := 317) (by decide +kernel)) rfl
theorem kw319 : Cond.instantiable RX10 10 ∈ TB := mTB (List.mem_of_getElem? (i := 319) (by decide +kernel)) rfl
theorem kw321 : Cond.instanceMethod yX10_init ∈ TB := mTB (List.mem_of_getElem? (i := 321) (by decide +kernel)) rfl
theorem kw322 : Cond.code yX10_init cX10_init 1 none ∈ TB := mTB (List.mem_of_getElem? (i := 322) (by decide +kernel)) rfl
theorem kw323 : Cond.methodLink RX10 1 objectInit ∈ TB := mTB (List.mem_of_getElem? (i := 323) (by decide +kernel)) rfl
theorem kw324 : Cond.fieldLink RX10 32 "TwinSetsLaw$Box" "size" "I" ∈ TB := mTB (List.mem_of_getElem? (i := 324) (by decide +kernel)) rfl
theorem kw329 : Cond.fieldLink RX10 36 "TwinSetsLaw$Box" "events" "I" ∈ TB := mTB (List.mem_of_getElem? (i := 329) (by decide +kernel)) rfl
theorem kw331 : Cond.fieldLink RX10 7 "TwinSetsLaw$Box" "members" "[I" ∈ TB := mTB (List.mem_of_getElem? (i := 331) (by decide +kernel)) rfl
theorem kw334 : Cond.fieldLink RX10 13 "TwinSetsLaw$Box" "places" "[I" ∈ TB := mTB (List.mem_of_getElem? (i := 334) (by decide +kernel)) rfl
theorem kw337 : Cond.fieldLink RX10 16 "TwinSetsLaw$Box" "stamps" "[I" ∈ TB := mTB (List.mem_of_getElem? (i := 337) (by decide +kernel)) rfl
theorem kw341 : Cond.fieldLink RX10 19 "TwinSetsLaw$Box" "stamp" "[I" ∈ TB := mTB (List.mem_of_getElem? (i := 341) (by decide +kernel)) rfl
theorem kw343 : Cond.fieldLink RX10 22 "TwinSetsLaw$Box" "number" "[I" ∈ TB := mTB (List.mem_of_getElem? (i := 343) (by decide +kernel)) rfl
theorem kw345 : Cond.fieldLink RX10 25 "TwinSetsLaw$Box" "kind" "[I" ∈ TB := mTB (List.mem_of_getElem? (i := 345) (by decide +kernel)) rfl
theorem kw347 : Cond.fieldLink RX10 28 "TwinSetsLaw$Box" "then" "[J" ∈ TB := mTB (List.mem_of_getElem? (i := 347) (by decide +kernel)) rfl
theorem kw370 : Cond.arrayClass .long ∈ TB := mTB (List.mem_of_getElem? (i := 370) (by decide +kernel)) rfl
theorem kw371 : Cond.classLink RX12 16 RX11 ∈ TB := mTB (List.mem_of_getElem? (i := 371) (by decide +kernel)) rfl
theorem kw376 : Cond.fieldLink RX12 47 "TwinSetsLaw$Sets" "clock" "I" ∈ TB := mTB (List.mem_of_getElem? (i := 376) (by decide +kernel)) rfl
theorem kw378 : Cond.fieldLink RX12 32 "TwinSetsLaw$Sets" "cost" "I" ∈ TB := mTB (List.mem_of_getElem? (i := 378) (by decide +kernel)) rfl
theorem kw381 : Cond.fieldLink RX12 10 "TwinSetsLaw$Sets" "box" "[LTwinSetsLaw$Box;" ∈ TB := mTB (List.mem_of_getElem? (i := 381) (by decide +kernel)) rfl
theorem kw383 : Cond.fieldLink RX12 18 "TwinSetsLaw$Sets" "cursor" "[LTwinSetsLaw$Cursor;" ∈ TB := mTB (List.mem_of_getElem? (i := 383) (by decide +kernel)) rfl
theorem kw385 : Cond.fieldLink RX12 22 "TwinSetsLaw$Sets" "mark" "[I" ∈ TB := mTB (List.mem_of_getElem? (i := 385) (by decide +kernel)) rfl
theorem kw406 : Cond.methodLink RL 35 yL_draw ∈ TB := mTB (List.mem_of_getElem? (i := 406) (by decide +kernel)) rfl
theorem kw407 : Cond.static yL_draw ∈ TB := mTB (List.mem_of_getElem? (i := 407) (by decide +kernel)) rfl
theorem kw408 : Cond.code yL_draw cL_draw 2 (some .int) ∈ TB := mTB (List.mem_of_getElem? (i := 408) (by decide +kernel)) rfl
theorem kw409 : Cond.constant RL 23 1664525 ∈ TB := mTB (List.mem_of_getElem? (i := 409) (by decide +kernel)) rfl
theorem kw410 : Cond.constant RL 24 1013904223 ∈ TB := mTB (List.mem_of_getElem? (i := 410) (by decide +kernel)) rfl
theorem kw411 : Cond.classLink RL 49 RJ4 ∈ TB := mTB (List.mem_of_getElem? (i := 411) (by decide +kernel)) rfl
theorem kw412 : Cond.instantiable RJ4 4 ∈ TB := mTB (List.mem_of_getElem? (i := 412) (by decide +kernel)) rfl
theorem kw413 : Cond.methodLink RL 51 yJ4_init_da8c8 ∈ TB := mTB (List.mem_of_getElem? (i := 413) (by decide +kernel)) rfl
theorem kw414 : Cond.instanceMethod yJ4_init_da8c8 ∈ TB := mTB (List.mem_of_getElem? (i := 414) (by decide +kernel)) rfl
theorem kw415 : Cond.code yJ4_init_da8c8 cJ4_init_da8c8 1 none ∈ TB := mTB (List.mem_of_getElem? (i := 415) (by decide +kernel)) rfl
theorem kw416 : Cond.methodLink RJ4 1 yJ5_init_d00df ∈ TB := mTB (List.mem_of_getElem? (i := 416) (by decide +kernel)) rfl
theorem kw417 : Cond.instanceMethod yJ5_init_d00df ∈ TB := mTB (List.mem_of_getElem? (i := 417) (by decide +kernel)) rfl
theorem kw418 : Cond.code yJ5_init_d00df cJ5_init_d00df 2 none ∈ TB := mTB (List.mem_of_getElem? (i := 418) (by decide +kernel)) rfl
theorem kw419 : Cond.methodLink RJ5 3 objectInit ∈ TB := mTB (List.mem_of_getElem? (i := 419) (by decide +kernel)) rfl
theorem kw420 : Cond.fieldLink RJ5 18 "java/lang/String" "COMPACT_STRINGS" "Z" ∈ TB := mTB (List.mem_of_getElem? (i := 420) (by decide +kernel)) rfl
theorem kw429 : Cond.fieldLink RJ5 15 "java/lang/AbstractStringBuilder" "value" "[B" ∈ TB := mTB (List.mem_of_getElem? (i := 429) (by decide +kernel)) rfl
theorem kw430 : Cond.fieldLink RJ5 22 "java/lang/AbstractStringBuilder" "coder" "B" ∈ TB := mTB (List.mem_of_getElem? (i := 430) (by decide +kernel)) rfl
theorem kw431 : Cond.fieldLink RJ0 1048 "java/lang/AbstractStringBuilder" "maybeLatin1" "Z" ∈ TB := mTB (List.mem_of_getElem? (i := 431) (by decide +kernel)) rfl
theorem kw432 : Cond.fieldLink RJ5 79 "java/lang/AbstractStringBuilder" "count" "I" ∈ TB := mTB (List.mem_of_getElem? (i := 432) (by decide +kernel)) rfl
theorem kw441 : Cond.superclass RJ4 RJ5 ∈ TB := mTB (List.mem_of_getElem? (i := 441) (by decide +kernel)) rfl
theorem kw443 : Cond.methodLink RL 54 yJ4_append_15ec4 ∈ TB := mTB (List.mem_of_getElem? (i := 443) (by decide +kernel)) rfl
theorem kw444 : Cond.instanceMethod yJ4_append_15ec4 ∈ TB := mTB (List.mem_of_getElem? (i := 444) (by decide +kernel)) rfl
theorem kw445 : Cond.selects RJ4 yJ4_append_15ec4 yJ4_append_15ec4 ∈ TB := mTB (List.mem_of_getElem? (i := 445) (by decide +kernel)) rfl
theorem kw446 : Cond.code yJ4_append_15ec4 cJ4_append_15ec4 2 (some (.object "java/lang/StringBuilder")) ∈ TB := mTB (List.mem_of_getElem? (i := 446) (by decide +kernel)) rfl
theorem kw447 : Cond.methodLink RJ4 29 yJ5_append_cf1ce ∈ TB := mTB (List.mem_of_getElem? (i := 447) (by decide +kernel)) rfl
theorem kw448 : Cond.instanceMethod yJ5_append_cf1ce ∈ TB := mTB (List.mem_of_getElem? (i := 448) (by decide +kernel)) rfl
theorem kw449 : Cond.code yJ5_append_cf1ce cJ5_append_cf1ce 3 (some (.object "java/lang/AbstractStringBuilder")) ∈ TB := mTB (List.mem_of_getElem? (i := 449) (by decide +kernel)) rfl
theorem kw454 : Cond.methodLink RJ5 100 yJ5_ensureCapacityInternal_d00df ∈ TB := mTB (List.mem_of_getElem? (i := 454) (by decide +kernel)) rfl
theorem kw456 : Cond.instanceMethod yJ5_ensureCapacityInternal_d00df ∈ TB := mTB (List.mem_of_getElem? (i := 456) (by decide +kernel)) rfl
theorem kw457 : Cond.code yJ5_ensureCapacityInternal_d00df cJ5_ensureCapacityInternal_d00df 3 none ∈ TB := mTB (List.mem_of_getElem? (i := 457) (by decide +kernel)) rfl
theorem kw458 : Cond.methodLink RJ5 104 yJ5_newCapacity_0f7a4 ∈ TB := mTB (List.mem_of_getElem? (i := 458) (by decide +kernel)) rfl
theorem kw460 : Cond.instanceMethod yJ5_newCapacity_0f7a4 ∈ TB := mTB (List.mem_of_getElem? (i := 460) (by decide +kernel)) rfl
theorem kw461 : Cond.code yJ5_newCapacity_0f7a4 cJ5_newCapacity_0f7a4 6 (some .int) ∈ TB := mTB (List.mem_of_getElem? (i := 461) (by decide +kernel)) rfl
theorem kw462 : Cond.methodLink RJ5 114 yJ8_newLength_cabcc ∈ TB := mTB (List.mem_of_getElem? (i := 462) (by decide +kernel)) rfl
theorem kw463 : Cond.static yJ8_newLength_cabcc ∈ TB := mTB (List.mem_of_getElem? (i := 463) (by decide +kernel)) rfl
theorem kw464 : Cond.code yJ8_newLength_cabcc cJ8_newLength_cabcc 4 (some .int) ∈ TB := mTB (List.mem_of_getElem? (i := 464) (by decide +kernel)) rfl
theorem kw465 : Cond.methodLink RJ8 194 Lib.Math.max.name ∈ TB := mTB (List.mem_of_getElem? (i := 465) (by decide +kernel)) rfl
theorem kw466 : Cond.static Lib.Math.max.name ∈ TB := mTB (List.mem_of_getElem? (i := 466) (by decide +kernel)) rfl
theorem kw467 : Cond.code Lib.Math.max.name Lib.Math.max.code 2 (some .int) ∈ TB := mTB (List.mem_of_getElem? (i := 467) (by decide +kernel)) rfl
theorem kw468 : Cond.constant RJ8 200 2147483639 ∈ TB := mTB (List.mem_of_getElem? (i := 468) (by decide +kernel)) rfl
theorem kw472 : Cond.constant RJ5 39 2147483647 ∈ TB := mTB (List.mem_of_getElem? (i := 472) (by decide +kernel)) rfl
theorem kw473 : Cond.methodLink RJ5 108 yJ7_copyOf_9075b ∈ TB := mTB (List.mem_of_getElem? (i := 473) (by decide +kernel)) rfl
theorem kw474 : Cond.static yJ7_copyOf_9075b ∈ TB := mTB (List.mem_of_getElem? (i := 474) (by decide +kernel)) rfl
theorem kw475 : Cond.code yJ7_copyOf_9075b cJ7_copyOf_9075b 3 (some (.array .byte)) ∈ TB := mTB (List.mem_of_getElem? (i := 475) (by decide +kernel)) rfl
theorem kw476 : Cond.methodLink RJ7 310 ⟨"[B", "clone", "()Ljava/lang/Object;"⟩ ∈ TB := mTB (List.mem_of_getElem? (i := 476) (by decide +kernel)) rfl
theorem kw477 : Cond.sameMethod "[B" "java/lang/Object" "clone" "()Ljava/lang/Object;" ∈ TB := mTB (List.mem_of_getElem? (i := 477) (by decide +kernel)) rfl
theorem kw478 : Cond.native ⟨"java/lang/Object", "clone", "()Ljava/lang/Object;"⟩ ∈ TB := mTB (List.mem_of_getElem? (i := 478) (by decide +kernel)) rfl
theorem kw479 : Cond.instanceMethod ⟨"java/lang/Object", "clone", "()Ljava/lang/Object;"⟩ ∈ TB := mTB (List.mem_of_getElem? (i := 479) (by decide +kernel)) rfl
theorem kw480 : Cond.selects "[B" ⟨"[B", "clone", "()Ljava/lang/Object;"⟩ ⟨"java/lang/Object", "clone", "()Ljava/lang/Object;"⟩ ∈ TB := mTB (List.mem_of_getElem? (i := 480) (by decide +kernel)) rfl
theorem kw482 : Cond.classLink RJ7 311 "[B" ∈ TB := mTB (List.mem_of_getElem? (i := 482) (by decide +kernel)) rfl
theorem kw483 : Cond.methodLink RJ7 304 Lib.Math.min.name ∈ TB := mTB (List.mem_of_getElem? (i := 483) (by decide +kernel)) rfl
theorem kw484 : Cond.static Lib.Math.min.name ∈ TB := mTB (List.mem_of_getElem? (i := 484) (by decide +kernel)) rfl
theorem kw485 : Cond.code Lib.Math.min.name Lib.Math.min.code 2 (some .int) ∈ TB := mTB (List.mem_of_getElem? (i := 485) (by decide +kernel)) rfl
theorem kw486 : Cond.methodLink RJ7 150 arraycopyName ∈ TB := mTB (List.mem_of_getElem? (i := 486) (by decide +kernel)) rfl
theorem kw487 : Cond.static arraycopyName ∈ TB := mTB (List.mem_of_getElem? (i := 487) (by decide +kernel)) rfl
theorem kw488 : Cond.native arraycopyName ∈ TB := mTB (List.mem_of_getElem? (i := 488) (by decide +kernel)) rfl
theorem kw489 : Cond.methodLink RJ5 83 yJ5_isLatin1_aae02 ∈ TB := mTB (List.mem_of_getElem? (i := 489) (by decide +kernel)) rfl
theorem kw490 : Cond.instanceMethod yJ5_isLatin1_aae02 ∈ TB := mTB (List.mem_of_getElem? (i := 490) (by decide +kernel)) rfl
theorem kw491 : Cond.sameMethod RJ5 RJ5 "isLatin1" "()Z" ∈ TB := mTB (List.mem_of_getElem? (i := 491) (by decide +kernel)) rfl
theorem kw492 : Cond.selects RJ4 yJ5_isLatin1_aae02 yJ5_isLatin1_aae02 ∈ TB := mTB (List.mem_of_getElem? (i := 492) (by decide +kernel)) rfl
theorem kw493 : Cond.code yJ5_isLatin1_aae02 cJ5_isLatin1_aae02 1 (some .boolean) ∈ TB := mTB (List.mem_of_getElem? (i := 493) (by decide +kernel)) rfl
theorem kw506 : Cond.fieldLink RJ0 1053 "jdk/internal/util/Preconditions" "SIOOBE_FORMATTER" "Ljava/util/function/BiFunction;" ∈ TB := mTB (List.mem_of_getElem? (i := 506) (by decide +kernel)) rfl
theorem kw520 : Cond.methodLink RJ5 32 yJ0_length_8abf5 ∈ TB := mTB (List.mem_of_getElem? (i := 520) (by decide +kernel)) rfl
theorem kw521 : Cond.instanceMethod yJ0_length_8abf5 ∈ TB := mTB (List.mem_of_getElem? (i := 521) (by decide +kernel)) rfl
theorem kw522 : Cond.selects RJ0 yJ0_length_8abf5 yJ0_length_8abf5 ∈ TB := mTB (List.mem_of_getElem? (i := 522) (by decide +kernel)) rfl
theorem kw523 : Cond.code yJ0_length_8abf5 cJ0_length_8abf5 1 (some .int) ∈ TB := mTB (List.mem_of_getElem? (i := 523) (by decide +kernel)) rfl
theorem kw524 : Cond.methodLink RJ0 335 yJ0_coder_7d493 ∈ TB := mTB (List.mem_of_getElem? (i := 524) (by decide +kernel)) rfl
theorem kw525 : Cond.instanceMethod yJ0_coder_7d493 ∈ TB := mTB (List.mem_of_getElem? (i := 525) (by decide +kernel)) rfl
theorem kw526 : Cond.selects RJ0 yJ0_coder_7d493 yJ0_coder_7d493 ∈ TB := mTB (List.mem_of_getElem? (i := 526) (by decide +kernel)) rfl
theorem kw527 : Cond.code yJ0_coder_7d493 cJ0_coder_7d493 1 (some .byte) ∈ TB := mTB (List.mem_of_getElem? (i := 527) (by decide +kernel)) rfl
theorem kw528 : Cond.fieldLink RJ0 38 "java/lang/String" "COMPACT_STRINGS" "Z" ∈ TB := mTB (List.mem_of_getElem? (i := 528) (by decide +kernel)) rfl
theorem kw529 : Cond.methodLink RJ5 208 yJ5_putStringAt_47b60 ∈ TB := mTB (List.mem_of_getElem? (i := 529) (by decide +kernel)) rfl
theorem kw531 : Cond.instanceMethod yJ5_putStringAt_47b60 ∈ TB := mTB (List.mem_of_getElem? (i := 531) (by decide +kernel)) rfl
theorem kw532 : Cond.code yJ5_putStringAt_47b60 cJ5_putStringAt_47b60 3 none ∈ TB := mTB (List.mem_of_getElem? (i := 532) (by decide +kernel)) rfl
theorem kw533 : Cond.methodLink RJ5 397 yJ5_inflateIfNeededFor_a7421 ∈ TB := mTB (List.mem_of_getElem? (i := 533) (by decide +kernel)) rfl
theorem kw535 : Cond.instanceMethod yJ5_inflateIfNeededFor_a7421 ∈ TB := mTB (List.mem_of_getElem? (i := 535) (by decide +kernel)) rfl
theorem kw536 : Cond.code yJ5_inflateIfNeededFor_a7421 cJ5_inflateIfNeededFor_a7421 2 none ∈ TB := mTB (List.mem_of_getElem? (i := 536) (by decide +kernel)) rfl
theorem kw537 : Cond.methodLink RJ5 40 yJ0_coder_7d493 ∈ TB := mTB (List.mem_of_getElem? (i := 537) (by decide +kernel)) rfl
theorem kw557 : Cond.methodLink RJ5 399 yJ0_getBytes_840e7 ∈ TB := mTB (List.mem_of_getElem? (i := 557) (by decide +kernel)) rfl
theorem kw558 : Cond.instanceMethod yJ0_getBytes_840e7 ∈ TB := mTB (List.mem_of_getElem? (i := 558) (by decide +kernel)) rfl
theorem kw559 : Cond.selects RJ0 yJ0_getBytes_840e7 yJ0_getBytes_840e7 ∈ TB := mTB (List.mem_of_getElem? (i := 559) (by decide +kernel)) rfl
theorem kw560 : Cond.code yJ0_getBytes_840e7 cJ0_getBytes_840e7 4 none ∈ TB := mTB (List.mem_of_getElem? (i := 560) (by decide +kernel)) rfl
theorem kw561 : Cond.methodLink RJ0 212 arraycopyName ∈ TB := mTB (List.mem_of_getElem? (i := 561) (by decide +kernel)) rfl
theorem kw563 : Cond.methodLink RL 57 yJ4_append_bf812 ∈ TB := mTB (List.mem_of_getElem? (i := 563) (by decide +kernel)) rfl
theorem kw564 : Cond.instanceMethod yJ4_append_bf812 ∈ TB := mTB (List.mem_of_getElem? (i := 564) (by decide +kernel)) rfl
theorem kw565 : Cond.selects RJ4 yJ4_append_bf812 yJ4_append_bf812 ∈ TB := mTB (List.mem_of_getElem? (i := 565) (by decide +kernel)) rfl
theorem kw566 : Cond.code yJ4_append_bf812 cJ4_append_bf812 2 (some (.object "java/lang/StringBuilder")) ∈ TB := mTB (List.mem_of_getElem? (i := 566) (by decide +kernel)) rfl
theorem kw567 : Cond.methodLink RJ4 53 yJ5_append_c97b9 ∈ TB := mTB (List.mem_of_getElem? (i := 567) (by decide +kernel)) rfl
theorem kw568 : Cond.instanceMethod yJ5_append_c97b9 ∈ TB := mTB (List.mem_of_getElem? (i := 568) (by decide +kernel)) rfl
theorem kw569 : Cond.code yJ5_append_c97b9 cJ5_append_c97b9 4 (some (.object "java/lang/AbstractStringBuilder")) ∈ TB := mTB (List.mem_of_getElem? (i := 569) (by decide +kernel)) rfl
theorem kw570 : Cond.methodLink RJ5 245 yJ6_stringSize_0f7a4 ∈ TB := mTB (List.mem_of_getElem? (i := 570) (by decide +kernel)) rfl
theorem kw571 : Cond.static yJ6_stringSize_0f7a4 ∈ TB := mTB (List.mem_of_getElem? (i := 571) (by decide +kernel)) rfl
theorem kw572 : Cond.code yJ6_stringSize_0f7a4 cJ6_stringSize_0f7a4 4 (some .int) ∈ TB := mTB (List.mem_of_getElem? (i := 572) (by decide +kernel)) rfl
theorem kw573 : Cond.methodLink RJ5 248 yJ6_getChars_ba4f3 ∈ TB := mTB (List.mem_of_getElem? (i := 573) (by decide +kernel)) rfl
theorem kw574 : Cond.static yJ6_getChars_ba4f3 ∈ TB := mTB (List.mem_of_getElem? (i := 574) (by decide +kernel)) rfl
theorem kw575 : Cond.code yJ6_getChars_ba4f3 cJ6_getChars_ba4f3 7 (some .int) ∈ TB := mTB (List.mem_of_getElem? (i := 575) (by decide +kernel)) rfl
theorem kw576 : Cond.fieldLink RJ6 83 "java/lang/Integer" "DigitOnes" "[B" ∈ TB := mTB (List.mem_of_getElem? (i := 576) (by decide +kernel)) rfl
theorem kw578 : Cond.fieldLink RJ6 87 "java/lang/Integer" "DigitTens" "[B" ∈ TB := mTB (List.mem_of_getElem? (i := 578) (by decide +kernel)) rfl
theorem kw590 : Cond.methodLink RL 64 yJ4_toString_0e30d ∈ TB := mTB (List.mem_of_getElem? (i := 590) (by decide +kernel)) rfl
theorem kw591 : Cond.instanceMethod yJ4_toString_0e30d ∈ TB := mTB (List.mem_of_getElem? (i := 591) (by decide +kernel)) rfl
theorem kw592 : Cond.selects RJ4 yJ4_toString_0e30d yJ4_toString_0e30d ∈ TB := mTB (List.mem_of_getElem? (i := 592) (by decide +kernel)) rfl
theorem kw593 : Cond.code yJ4_toString_0e30d cJ4_toString_0e30d 1 (some (.object "java/lang/String")) ∈ TB := mTB (List.mem_of_getElem? (i := 593) (by decide +kernel)) rfl
theorem kw594 : Cond.classLink RJ4 18 RJ0 ∈ TB := mTB (List.mem_of_getElem? (i := 594) (by decide +kernel)) rfl
theorem kw595 : Cond.instantiable RJ0 4 ∈ TB := mTB (List.mem_of_getElem? (i := 595) (by decide +kernel)) rfl
theorem kw596 : Cond.methodLink RJ4 137 yJ0_init_81219 ∈ TB := mTB (List.mem_of_getElem? (i := 596) (by decide +kernel)) rfl
theorem kw597 : Cond.instanceMethod yJ0_init_81219 ∈ TB := mTB (List.mem_of_getElem? (i := 597) (by decide +kernel)) rfl
theorem kw598 : Cond.code yJ0_init_81219 cJ0_init_81219 2 none ∈ TB := mTB (List.mem_of_getElem? (i := 598) (by decide +kernel)) rfl
theorem kw599 : Cond.methodLink RJ0 489 yJ0_init_db425 ∈ TB := mTB (List.mem_of_getElem? (i := 599) (by decide +kernel)) rfl
theorem kw600 : Cond.instanceMethod yJ0_init_db425 ∈ TB := mTB (List.mem_of_getElem? (i := 600) (by decide +kernel)) rfl
theorem kw601 : Cond.code yJ0_init_db425 cJ0_init_db425 5 none ∈ TB := mTB (List.mem_of_getElem? (i := 601) (by decide +kernel)) rfl
theorem kw602 : Cond.methodLink RJ0 1 objectInit ∈ TB := mTB (List.mem_of_getElem? (i := 602) (by decide +kernel)) rfl
theorem kw603 : Cond.methodLink RJ0 552 yJ5_getValue_6d5f1 ∈ TB := mTB (List.mem_of_getElem? (i := 603) (by decide +kernel)) rfl
theorem kw604 : Cond.instanceMethod yJ5_getValue_6d5f1 ∈ TB := mTB (List.mem_of_getElem? (i := 604) (by decide +kernel)) rfl
theorem kw605 : Cond.sameMethod RJ5 RJ5 "getValue" "()[B" ∈ TB := mTB (List.mem_of_getElem? (i := 605) (by decide +kernel)) rfl
theorem kw606 : Cond.selects RJ4 yJ5_getValue_6d5f1 yJ5_getValue_6d5f1 ∈ TB := mTB (List.mem_of_getElem? (i := 606) (by decide +kernel)) rfl
theorem kw607 : Cond.code yJ5_getValue_6d5f1 cJ5_getValue_6d5f1 1 (some (.array .byte)) ∈ TB := mTB (List.mem_of_getElem? (i := 607) (by decide +kernel)) rfl
theorem kw608 : Cond.methodLink RJ0 549 yJ5_length_8abf5 ∈ TB := mTB (List.mem_of_getElem? (i := 608) (by decide +kernel)) rfl
theorem kw609 : Cond.instanceMethod yJ5_length_8abf5 ∈ TB := mTB (List.mem_of_getElem? (i := 609) (by decide +kernel)) rfl
theorem kw610 : Cond.sameMethod RJ5 RJ5 "length" "()I" ∈ TB := mTB (List.mem_of_getElem? (i := 610) (by decide +kernel)) rfl
theorem kw611 : Cond.selects RJ4 yJ5_length_8abf5 yJ4_length_8abf5 ∈ TB := mTB (List.mem_of_getElem? (i := 611) (by decide +kernel)) rfl
theorem kw612 : Cond.instanceMethod yJ4_length_8abf5 ∈ TB := mTB (List.mem_of_getElem? (i := 612) (by decide +kernel)) rfl
theorem kw613 : Cond.code yJ4_length_8abf5 cJ4_length_8abf5 1 (some .int) ∈ TB := mTB (List.mem_of_getElem? (i := 613) (by decide +kernel)) rfl
theorem kw614 : Cond.methodLink RJ4 343 yJ5_length_8abf5 ∈ TB := mTB (List.mem_of_getElem? (i := 614) (by decide +kernel)) rfl
theorem kw615 : Cond.code yJ5_length_8abf5 cJ5_length_8abf5 1 (some .int) ∈ TB := mTB (List.mem_of_getElem? (i := 615) (by decide +kernel)) rfl
theorem kw616 : Cond.methodLink RJ0 1047 yJ5_isLatin1_aae02 ∈ TB := mTB (List.mem_of_getElem? (i := 616) (by decide +kernel)) rfl
theorem kw617 : Cond.methodLink RJ0 54 yJ7_copyOfRange_39247 ∈ TB := mTB (List.mem_of_getElem? (i := 617) (by decide +kernel)) rfl
theorem kw618 : Cond.static yJ7_copyOfRange_39247 ∈ TB := mTB (List.mem_of_getElem? (i := 618) (by decide +kernel)) rfl
theorem kw619 : Cond.code yJ7_copyOfRange_39247 cJ7_copyOfRange_39247 3 (some (.array .byte)) ∈ TB := mTB (List.mem_of_getElem? (i := 619) (by decide +kernel)) rfl
theorem kw620 : Cond.methodLink RJ7 339 yJ7_copyOfRangeByte_39247 ∈ TB := mTB (List.mem_of_getElem? (i := 620) (by decide +kernel)) rfl
theorem kw621 : Cond.static yJ7_copyOfRangeByte_39247 ∈ TB := mTB (List.mem_of_getElem? (i := 621) (by decide +kernel)) rfl
theorem kw622 : Cond.code yJ7_copyOfRangeByte_39247 cJ7_copyOfRangeByte_39247 5 (some (.array .byte)) ∈ TB := mTB (List.mem_of_getElem? (i := 622) (by decide +kernel)) rfl
theorem kw623 : Cond.methodLink RJ7 343 yJ7_checkLength_df160 ∈ TB := mTB (List.mem_of_getElem? (i := 623) (by decide +kernel)) rfl
theorem kw624 : Cond.static yJ7_checkLength_df160 ∈ TB := mTB (List.mem_of_getElem? (i := 624) (by decide +kernel)) rfl
theorem kw625 : Cond.code yJ7_checkLength_df160 cJ7_checkLength_df160 2 none ∈ TB := mTB (List.mem_of_getElem? (i := 625) (by decide +kernel)) rfl
theorem kw639 : Cond.fieldLink RJ0 9 "java/lang/String" "value" "[B" ∈ TB := mTB (List.mem_of_getElem? (i := 639) (by decide +kernel)) rfl
theorem kw640 : Cond.fieldLink RJ0 15 "java/lang/String" "coder" "B" ∈ TB := mTB (List.mem_of_getElem? (i := 640) (by decide +kernel)) rfl
theorem kw650 : Cond.methodLink RL 68 yJ4_init_a7421 ∈ TB := mTB (List.mem_of_getElem? (i := 650) (by decide +kernel)) rfl
theorem kw651 : Cond.instanceMethod yJ4_init_a7421 ∈ TB := mTB (List.mem_of_getElem? (i := 651) (by decide +kernel)) rfl
theorem kw652 : Cond.code yJ4_init_a7421 cJ4_init_a7421 2 none ∈ TB := mTB (List.mem_of_getElem? (i := 652) (by decide +kernel)) rfl
theorem kw653 : Cond.methodLink RJ4 7 yJ5_init_a7421 ∈ TB := mTB (List.mem_of_getElem? (i := 653) (by decide +kernel)) rfl
theorem kw654 : Cond.instanceMethod yJ5_init_a7421 ∈ TB := mTB (List.mem_of_getElem? (i := 654) (by decide +kernel)) rfl
theorem kw655 : Cond.code yJ5_init_a7421 cJ5_init_a7421 5 none ∈ TB := mTB (List.mem_of_getElem? (i := 655) (by decide +kernel)) rfl
theorem kw656 : Cond.constant RJ5 38 2147483631 ∈ TB := mTB (List.mem_of_getElem? (i := 656) (by decide +kernel)) rfl
theorem kw657 : Cond.methodLink RJ5 43 yJ5_append_cf1ce ∈ TB := mTB (List.mem_of_getElem? (i := 657) (by decide +kernel)) rfl
theorem kw658 : Cond.instanceMethod yJ4_append_cf1ce ∈ TB := mTB (List.mem_of_getElem? (i := 658) (by decide +kernel)) rfl
theorem kw659 : Cond.code yJ4_append_cf1ce cJ4_append_cf1ce 2 (some (.object "java/lang/AbstractStringBuilder")) ∈ TB := mTB (List.mem_of_getElem? (i := 659) (by decide +kernel)) rfl
theorem kw660 : Cond.methodLink RJ4 23 yJ4_append_15ec4 ∈ TB := mTB (List.mem_of_getElem? (i := 660) (by decide +kernel)) rfl
theorem kw662 : Cond.methodLink RL 73 yJ4_append_cf468 ∈ TB := mTB (List.mem_of_getElem? (i := 662) (by decide +kernel)) rfl
theorem kw663 : Cond.instanceMethod yJ4_append_cf468 ∈ TB := mTB (List.mem_of_getElem? (i := 663) (by decide +kernel)) rfl
theorem kw664 : Cond.selects RJ4 yJ4_append_cf468 yJ4_append_cf468 ∈ TB := mTB (List.mem_of_getElem? (i := 664) (by decide +kernel)) rfl
theorem kw665 : Cond.code yJ4_append_cf468 cJ4_append_cf468 2 (some (.object "java/lang/StringBuilder")) ∈ TB := mTB (List.mem_of_getElem? (i := 665) (by decide +kernel)) rfl
theorem kw666 : Cond.methodLink RJ4 50 yJ5_append_3fe6f ∈ TB := mTB (List.mem_of_getElem? (i := 666) (by decide +kernel)) rfl
theorem kw667 : Cond.instanceMethod yJ5_append_3fe6f ∈ TB := mTB (List.mem_of_getElem? (i := 667) (by decide +kernel)) rfl
theorem kw668 : Cond.code yJ5_append_3fe6f cJ5_append_3fe6f 2 (some (.object "java/lang/AbstractStringBuilder")) ∈ TB := mTB (List.mem_of_getElem? (i := 668) (by decide +kernel)) rfl
theorem kw669 : Cond.methodLink RJ5 191 yJ1_canEncode_fc78d ∈ TB := mTB (List.mem_of_getElem? (i := 669) (by decide +kernel)) rfl
theorem kw670 : Cond.static yJ1_canEncode_fc78d ∈ TB := mTB (List.mem_of_getElem? (i := 670) (by decide +kernel)) rfl
theorem kw671 : Cond.code yJ1_canEncode_fc78d cJ1_canEncode_fc78d 1 (some .boolean) ∈ TB := mTB (List.mem_of_getElem? (i := 671) (by decide +kernel)) rfl
theorem kw679 : Cond.static yJ0_checkIndex_df160 ∈ TB := mTB (List.mem_of_getElem? (i := 679) (by decide +kernel)) rfl
theorem kw680 : Cond.code yJ0_checkIndex_df160 cJ0_checkIndex_df160 2 none ∈ TB := mTB (List.mem_of_getElem? (i := 680) (by decide +kernel)) rfl
theorem kw681 : Cond.methodLink RJ0 1059 yJ3_checkIndex_8e157 ∈ TB := mTB (List.mem_of_getElem? (i := 681) (by decide +kernel)) rfl
theorem kw682 : Cond.static yJ3_checkIndex_8e157 ∈ TB := mTB (List.mem_of_getElem? (i := 682) (by decide +kernel)) rfl
theorem kw683 : Cond.code yJ3_checkIndex_8e157 cJ3_checkIndex_8e157 3 (some .int) ∈ TB := mTB (List.mem_of_getElem? (i := 683) (by decide +kernel)) rfl
theorem kw686 : Cond.methodLink RL 84 yX12_add ∈ TB := mTB (List.mem_of_getElem? (i := 686) (by decide +kernel)) rfl
theorem kw687 : Cond.instanceMethod yX12_add ∈ TB := mTB (List.mem_of_getElem? (i := 687) (by decide +kernel)) rfl
theorem kw688 : Cond.selects RX12 yX12_add yX12_add ∈ TB := mTB (List.mem_of_getElem? (i := 688) (by decide +kernel)) rfl
theorem kw689 : Cond.code yX12_add cX12_add 3 none ∈ TB := mTB (List.mem_of_getElem? (i := 689) (by decide +kernel)) rfl
theorem kw690 : Cond.methodLink RX12 36 yX10_has ∈ TB := mTB (List.mem_of_getElem? (i := 690) (by decide +kernel)) rfl
theorem kw691 : Cond.instanceMethod yX10_has ∈ TB := mTB (List.mem_of_getElem? (i := 691) (by decide +kernel)) rfl
theorem kw692 : Cond.selects RX10 yX10_has yX10_has ∈ TB := mTB (List.mem_of_getElem? (i := 692) (by decide +kernel)) rfl
theorem kw693 : Cond.code yX10_has cX10_has 2 (some .boolean) ∈ TB := mTB (List.mem_of_getElem? (i := 693) (by decide +kernel)) rfl
theorem kw694 : Cond.methodLink RX12 43 yX12_put ∈ TB := mTB (List.mem_of_getElem? (i := 694) (by decide +kernel)) rfl
theorem kw695 : Cond.instanceMethod yX12_put ∈ TB := mTB (List.mem_of_getElem? (i := 695) (by decide +kernel)) rfl
theorem kw696 : Cond.selects RX12 yX12_put yX12_put ∈ TB := mTB (List.mem_of_getElem? (i := 696) (by decide +kernel)) rfl
theorem kw697 : Cond.code yX12_put cX12_put 4 none ∈ TB := mTB (List.mem_of_getElem? (i := 697) (by decide +kernel)) rfl
theorem kw698 : Cond.methodLink RX12 53 yX10_note ∈ TB := mTB (List.mem_of_getElem? (i := 698) (by decide +kernel)) rfl
theorem kw699 : Cond.instanceMethod yX10_note ∈ TB := mTB (List.mem_of_getElem? (i := 699) (by decide +kernel)) rfl
theorem kw700 : Cond.selects RX10 yX10_note yX10_note ∈ TB := mTB (List.mem_of_getElem? (i := 700) (by decide +kernel)) rfl
theorem kw701 : Cond.code yX10_note cX10_note 4 none ∈ TB := mTB (List.mem_of_getElem? (i := 701) (by decide +kernel)) rfl
theorem kw702 : Cond.methodLink RX10 39 yX10_bits ∈ TB := mTB (List.mem_of_getElem? (i := 702) (by decide +kernel)) rfl
theorem kw703 : Cond.instanceMethod yX10_bits ∈ TB := mTB (List.mem_of_getElem? (i := 703) (by decide +kernel)) rfl
theorem kw704 : Cond.selects RX10 yX10_bits yX10_bits ∈ TB := mTB (List.mem_of_getElem? (i := 704) (by decide +kernel)) rfl
theorem kw705 : Cond.code yX10_bits cX10_bits 4 (some .long) ∈ TB := mTB (List.mem_of_getElem? (i := 705) (by decide +kernel)) rfl
theorem kw706 : Cond.methodLink RL 88 yX12_remove ∈ TB := mTB (List.mem_of_getElem? (i := 706) (by decide +kernel)) rfl
theorem kw707 : Cond.instanceMethod yX12_remove ∈ TB := mTB (List.mem_of_getElem? (i := 707) (by decide +kernel)) rfl
theorem kw708 : Cond.selects RX12 yX12_remove yX12_remove ∈ TB := mTB (List.mem_of_getElem? (i := 708) (by decide +kernel)) rfl
theorem kw709 : Cond.code yX12_remove cX12_remove 9 (some .boolean) ∈ TB := mTB (List.mem_of_getElem? (i := 709) (by decide +kernel)) rfl
theorem kw711 : Cond.methodLink RL 104 yL_feeds ∈ TB := mTB (List.mem_of_getElem? (i := 711) (by decide +kernel)) rfl
theorem kw712 : Cond.static yL_feeds ∈ TB := mTB (List.mem_of_getElem? (i := 712) (by decide +kernel)) rfl
theorem kw713 : Cond.code yL_feeds cL_feeds 6 (some .boolean) ∈ TB := mTB (List.mem_of_getElem? (i := 713) (by decide +kernel)) rfl
theorem kw714 : Cond.methodLink RL 7 yJ0_length_8abf5 ∈ TB := mTB (List.mem_of_getElem? (i := 714) (by decide +kernel)) rfl
theorem kw715 : Cond.methodLink RL 13 yJ0_charAt_5068e ∈ TB := mTB (List.mem_of_getElem? (i := 715) (by decide +kernel)) rfl
theorem kw716 : Cond.instanceMethod yJ0_charAt_5068e ∈ TB := mTB (List.mem_of_getElem? (i := 716) (by decide +kernel)) rfl
theorem kw717 : Cond.selects RJ0 yJ0_charAt_5068e yJ0_charAt_5068e ∈ TB := mTB (List.mem_of_getElem? (i := 717) (by decide +kernel)) rfl
theorem kw718 : Cond.code yJ0_charAt_5068e cJ0_charAt_5068e 2 (some .char) ∈ TB := mTB (List.mem_of_getElem? (i := 718) (by decide +kernel)) rfl
theorem kw719 : Cond.methodLink RJ0 492 yJ0_isLatin1_aae02 ∈ TB := mTB (List.mem_of_getElem? (i := 719) (by decide +kernel)) rfl
theorem kw720 : Cond.instanceMethod yJ0_isLatin1_aae02 ∈ TB := mTB (List.mem_of_getElem? (i := 720) (by decide +kernel)) rfl
theorem kw721 : Cond.selects RJ0 yJ0_isLatin1_aae02 yJ0_isLatin1_aae02 ∈ TB := mTB (List.mem_of_getElem? (i := 721) (by decide +kernel)) rfl
theorem kw722 : Cond.code yJ0_isLatin1_aae02 cJ0_isLatin1_aae02 1 (some .boolean) ∈ TB := mTB (List.mem_of_getElem? (i := 722) (by decide +kernel)) rfl
theorem kw723 : Cond.methodLink RJ0 495 yJ1_charAt_3b067 ∈ TB := mTB (List.mem_of_getElem? (i := 723) (by decide +kernel)) rfl
theorem kw724 : Cond.static yJ1_charAt_3b067 ∈ TB := mTB (List.mem_of_getElem? (i := 724) (by decide +kernel)) rfl
theorem kw725 : Cond.code yJ1_charAt_3b067 cJ1_charAt_3b067 2 (some .char) ∈ TB := mTB (List.mem_of_getElem? (i := 725) (by decide +kernel)) rfl
theorem kw726 : Cond.methodLink RJ1 9 yJ0_checkIndex_df160 ∈ TB := mTB (List.mem_of_getElem? (i := 726) (by decide +kernel)) rfl
theorem kw730 : Cond.methodLink RL 17 yX9_append ∈ TB := mTB (List.mem_of_getElem? (i := 730) (by decide +kernel)) rfl
theorem kw731 : Cond.instanceMethod yX9_append ∈ TB := mTB (List.mem_of_getElem? (i := 731) (by decide +kernel)) rfl
theorem kw732 : Cond.selects RX9 yX9_append yX9_append ∈ TB := mTB (List.mem_of_getElem? (i := 732) (by decide +kernel)) rfl
theorem kw733 : Cond.code yX9_append cX9_append 6 (some .int) ∈ TB := mTB (List.mem_of_getElem? (i := 733) (by decide +kernel)) rfl
theorem kw734 : Cond.methodLink RX9 51 yX1_takeFourBytes ∈ TB := mTB (List.mem_of_getElem? (i := 734) (by decide +kernel)) rfl
theorem kw735 : Cond.instanceMethod yX1_takeFourBytes ∈ TB := mTB (List.mem_of_getElem? (i := 735) (by decide +kernel)) rfl
theorem kw736 : Cond.selects RX1 yX1_takeFourBytes yX1_takeFourBytes ∈ TB := mTB (List.mem_of_getElem? (i := 736) (by decide +kernel)) rfl
theorem kw737 : Cond.code yX1_takeFourBytes cX1_takeFourBytes 3 none ∈ TB := mTB (List.mem_of_getElem? (i := 737) (by decide +kernel)) rfl
theorem kw738 : Cond.methodLink RL 108 yJ4_length_8abf5 ∈ TB := mTB (List.mem_of_getElem? (i := 738) (by decide +kernel)) rfl
theorem kw739 : Cond.methodLink RL 109 yX9_parse ∈ TB := mTB (List.mem_of_getElem? (i := 739) (by decide +kernel)) rfl
theorem kw740 : Cond.instanceMethod yX9_parse ∈ TB := mTB (List.mem_of_getElem? (i := 740) (by decide +kernel)) rfl
theorem kw741 : Cond.selects RX9 yX9_parse yX9_parse ∈ TB := mTB (List.mem_of_getElem? (i := 741) (by decide +kernel)) rfl
theorem kw742 : Cond.code yX9_parse cX9_parse 4 (some .int) ∈ TB := mTB (List.mem_of_getElem? (i := 742) (by decide +kernel)) rfl
theorem kw743 : Cond.classLink RX9 55 "java/lang/IllegalArgumentException" ∈ TB := mTB (List.mem_of_getElem? (i := 743) (by decide +kernel)) rfl
theorem kw810 : Cond.classLink RX9 62 RX3 ∈ TB := mTB (List.mem_of_getElem? (i := 810) (by decide +kernel)) rfl
theorem kw811 : Cond.instantiable RX3 9 ∈ TB := mTB (List.mem_of_getElem? (i := 811) (by decide +kernel)) rfl
theorem kw812 : Cond.methodLink RX9 64 yX3_init ∈ TB := mTB (List.mem_of_getElem? (i := 812) (by decide +kernel)) rfl
theorem kw813 : Cond.instanceMethod yX3_init ∈ TB := mTB (List.mem_of_getElem? (i := 813) (by decide +kernel)) rfl
theorem kw814 : Cond.code yX3_init cX3_init 4 none ∈ TB := mTB (List.mem_of_getElem? (i := 814) (by decide +kernel)) rfl
theorem kw815 : Cond.methodLink RX3 3 objectInit ∈ TB := mTB (List.mem_of_getElem? (i := 815) (by decide +kernel)) rfl
theorem kw816 : Cond.fieldLink RX3 23 "TwinSets$Token" "END" "LTwinSets$Token;" ∈ TB := mTB (List.mem_of_getElem? (i := 816) (by decide +kernel)) rfl
theorem kw818 : Cond.fieldLink RX3 9 "TwinSets$Parser" "input" "LTwinSets$Input;" ∈ TB := mTB (List.mem_of_getElem? (i := 818) (by decide +kernel)) rfl
theorem kw819 : Cond.fieldLink RX3 15 "TwinSets$Parser" "length" "I" ∈ TB := mTB (List.mem_of_getElem? (i := 819) (by decide +kernel)) rfl
theorem kw820 : Cond.fieldLink RX3 19 "TwinSets$Parser" "state" "LTwinSets$State;" ∈ TB := mTB (List.mem_of_getElem? (i := 820) (by decide +kernel)) rfl
theorem kw821 : Cond.fieldLink RX3 29 "TwinSets$Parser" "token" "LTwinSets$Token;" ∈ TB := mTB (List.mem_of_getElem? (i := 821) (by decide +kernel)) rfl
theorem kw822 : Cond.fieldLink RX3 100 "TwinSets$Parser" "start" "I" ∈ TB := mTB (List.mem_of_getElem? (i := 822) (by decide +kernel)) rfl
theorem kw823 : Cond.fieldLink RX3 103 "TwinSets$Parser" "end" "I" ∈ TB := mTB (List.mem_of_getElem? (i := 823) (by decide +kernel)) rfl
theorem kw824 : Cond.fieldLink RX3 48 "TwinSets$Parser" "number" "I" ∈ TB := mTB (List.mem_of_getElem? (i := 824) (by decide +kernel)) rfl
theorem kw826 : Cond.fieldLink RX3 151 "TwinSets$Parser" "errorCode" "I" ∈ TB := mTB (List.mem_of_getElem? (i := 826) (by decide +kernel)) rfl
theorem kw827 : Cond.fieldLink RX3 32 "TwinSets$Parser" "errorAt" "I" ∈ TB := mTB (List.mem_of_getElem? (i := 827) (by decide +kernel)) rfl
theorem kw848 : Cond.methodLink RX9 67 yX3_readText ∈ TB := mTB (List.mem_of_getElem? (i := 848) (by decide +kernel)) rfl
theorem kw849 : Cond.instanceMethod yX3_readText ∈ TB := mTB (List.mem_of_getElem? (i := 849) (by decide +kernel)) rfl
theorem kw850 : Cond.selects RX3 yX3_readText yX3_readText ∈ TB := mTB (List.mem_of_getElem? (i := 850) (by decide +kernel)) rfl
theorem kw851 : Cond.code yX3_readText cX3_readText 4 (some .boolean) ∈ TB := mTB (List.mem_of_getElem? (i := 851) (by decide +kernel)) rfl
theorem kw852 : Cond.methodLink RX3 35 yX3_toNextToken ∈ TB := mTB (List.mem_of_getElem? (i := 852) (by decide +kernel)) rfl
theorem kw854 : Cond.instanceMethod yX3_toNextToken ∈ TB := mTB (List.mem_of_getElem? (i := 854) (by decide +kernel)) rfl
theorem kw855 : Cond.code yX3_toNextToken cX3_toNextToken 1 none ∈ TB := mTB (List.mem_of_getElem? (i := 855) (by decide +kernel)) rfl
theorem kw856 : Cond.methodLink RX3 174 yX1_isBlank ∈ TB := mTB (List.mem_of_getElem? (i := 856) (by decide +kernel)) rfl
theorem kw857 : Cond.instanceMethod yX1_isBlank ∈ TB := mTB (List.mem_of_getElem? (i := 857) (by decide +kernel)) rfl
theorem kw858 : Cond.selects RX1 yX1_isBlank yX1_isBlank ∈ TB := mTB (List.mem_of_getElem? (i := 858) (by decide +kernel)) rfl
theorem kw859 : Cond.code yX1_isBlank cX1_isBlank 2 (some .boolean) ∈ TB := mTB (List.mem_of_getElem? (i := 859) (by decide +kernel)) rfl
theorem kw860 : Cond.methodLink RX3 177 yX1_isLetter ∈ TB := mTB (List.mem_of_getElem? (i := 860) (by decide +kernel)) rfl
theorem kw861 : Cond.instanceMethod yX1_isLetter ∈ TB := mTB (List.mem_of_getElem? (i := 861) (by decide +kernel)) rfl
theorem kw862 : Cond.selects RX1 yX1_isLetter yX1_isLetter ∈ TB := mTB (List.mem_of_getElem? (i := 862) (by decide +kernel)) rfl
theorem kw863 : Cond.code yX1_isLetter cX1_isLetter 2 (some .boolean) ∈ TB := mTB (List.mem_of_getElem? (i := 863) (by decide +kernel)) rfl
theorem kw864 : Cond.methodLink RX3 180 yX3_passLetters ∈ TB := mTB (List.mem_of_getElem? (i := 864) (by decide +kernel)) rfl
theorem kw866 : Cond.instanceMethod yX3_passLetters ∈ TB := mTB (List.mem_of_getElem? (i := 866) (by decide +kernel)) rfl
theorem kw867 : Cond.code yX3_passLetters cX3_passLetters 1 none ∈ TB := mTB (List.mem_of_getElem? (i := 867) (by decide +kernel)) rfl
theorem kw868 : Cond.fieldLink RX3 189 "TwinSets$Token" "INVALID" "LTwinSets$Token;" ∈ TB := mTB (List.mem_of_getElem? (i := 868) (by decide +kernel)) rfl
theorem kw870 : Cond.fieldLink RX3 97 "TwinSets$Token" "WORD" "LTwinSets$Token;" ∈ TB := mTB (List.mem_of_getElem? (i := 870) (by decide +kernel)) rfl
theorem kw872 : Cond.methodLink RX3 183 yX1_isDigit ∈ TB := mTB (List.mem_of_getElem? (i := 872) (by decide +kernel)) rfl
theorem kw873 : Cond.instanceMethod yX1_isDigit ∈ TB := mTB (List.mem_of_getElem? (i := 873) (by decide +kernel)) rfl
theorem kw874 : Cond.selects RX1 yX1_isDigit yX1_isDigit ∈ TB := mTB (List.mem_of_getElem? (i := 874) (by decide +kernel)) rfl
theorem kw875 : Cond.code yX1_isDigit cX1_isDigit 2 (some .boolean) ∈ TB := mTB (List.mem_of_getElem? (i := 875) (by decide +kernel)) rfl
theorem kw876 : Cond.methodLink RX3 186 yX3_passDigits ∈ TB := mTB (List.mem_of_getElem? (i := 876) (by decide +kernel)) rfl
theorem kw878 : Cond.instanceMethod yX3_passDigits ∈ TB := mTB (List.mem_of_getElem? (i := 878) (by decide +kernel)) rfl
theorem kw879 : Cond.code yX3_passDigits cX3_passDigits 1 none ∈ TB := mTB (List.mem_of_getElem? (i := 879) (by decide +kernel)) rfl
theorem kw880 : Cond.fieldLink RX3 122 "TwinSets$Token" "NUMBER" "LTwinSets$Token;" ∈ TB := mTB (List.mem_of_getElem? (i := 880) (by decide +kernel)) rfl
theorem kw882 : Cond.fieldLink RX3 148 "TwinSets$Token" "SEMICOLON" "LTwinSets$Token;" ∈ TB := mTB (List.mem_of_getElem? (i := 882) (by decide +kernel)) rfl
theorem kw885 : Cond.methodLink RX3 40 yX3_passWord ∈ TB := mTB (List.mem_of_getElem? (i := 885) (by decide +kernel)) rfl
theorem kw887 : Cond.instanceMethod yX3_passWord ∈ TB := mTB (List.mem_of_getElem? (i := 887) (by decide +kernel)) rfl
theorem kw888 : Cond.code yX3_passWord cX3_passWord 2 (some .boolean) ∈ TB := mTB (List.mem_of_getElem? (i := 888) (by decide +kernel)) rfl
theorem kw889 : Cond.methodLink RX3 66 yX3_isWord ∈ TB := mTB (List.mem_of_getElem? (i := 889) (by decide +kernel)) rfl
theorem kw891 : Cond.instanceMethod yX3_isWord ∈ TB := mTB (List.mem_of_getElem? (i := 891) (by decide +kernel)) rfl
theorem kw892 : Cond.code yX3_isWord cX3_isWord 2 (some .boolean) ∈ TB := mTB (List.mem_of_getElem? (i := 892) (by decide +kernel)) rfl
theorem kw893 : Cond.methodLink RX3 154 yX1_holds ∈ TB := mTB (List.mem_of_getElem? (i := 893) (by decide +kernel)) rfl
theorem kw894 : Cond.instanceMethod yX1_holds ∈ TB := mTB (List.mem_of_getElem? (i := 894) (by decide +kernel)) rfl
theorem kw895 : Cond.selects RX1 yX1_holds yX1_holds ∈ TB := mTB (List.mem_of_getElem? (i := 895) (by decide +kernel)) rfl
theorem kw896 : Cond.code yX1_holds cX1_holds 5 (some .boolean) ∈ TB := mTB (List.mem_of_getElem? (i := 896) (by decide +kernel)) rfl
theorem kw897 : Cond.methodLink RX1 19 yJ0_length_8abf5 ∈ TB := mTB (List.mem_of_getElem? (i := 897) (by decide +kernel)) rfl
theorem kw898 : Cond.methodLink RX1 24 yJ0_charAt_5068e ∈ TB := mTB (List.mem_of_getElem? (i := 898) (by decide +kernel)) rfl
theorem kw899 : Cond.methodLink RX3 90 yX3_fail ∈ TB := mTB (List.mem_of_getElem? (i := 899) (by decide +kernel)) rfl
theorem kw901 : Cond.instanceMethod yX3_fail ∈ TB := mTB (List.mem_of_getElem? (i := 901) (by decide +kernel)) rfl
theorem kw902 : Cond.code yX3_fail cX3_fail 2 (some .boolean) ∈ TB := mTB (List.mem_of_getElem? (i := 902) (by decide +kernel)) rfl
theorem kw903 : Cond.methodLink RX3 44 yX3_isNumber ∈ TB := mTB (List.mem_of_getElem? (i := 903) (by decide +kernel)) rfl
theorem kw905 : Cond.instanceMethod yX3_isNumber ∈ TB := mTB (List.mem_of_getElem? (i := 905) (by decide +kernel)) rfl
theorem kw906 : Cond.code yX3_isNumber cX3_isNumber 3 (some .boolean) ∈ TB := mTB (List.mem_of_getElem? (i := 906) (by decide +kernel)) rfl
theorem kw907 : Cond.methodLink RX3 51 yX5_begin ∈ TB := mTB (List.mem_of_getElem? (i := 907) (by decide +kernel)) rfl
theorem kw908 : Cond.methodLink RX3 57 yX3_passSemicolon ∈ TB := mTB (List.mem_of_getElem? (i := 908) (by decide +kernel)) rfl
theorem kw910 : Cond.instanceMethod yX3_passSemicolon ∈ TB := mTB (List.mem_of_getElem? (i := 910) (by decide +kernel)) rfl
theorem kw911 : Cond.code yX3_passSemicolon cX3_passSemicolon 1 (some .boolean) ∈ TB := mTB (List.mem_of_getElem? (i := 911) (by decide +kernel)) rfl
theorem kw912 : Cond.methodLink RX3 61 yX3_readStatement ∈ TB := mTB (List.mem_of_getElem? (i := 912) (by decide +kernel)) rfl
theorem kw914 : Cond.instanceMethod yX3_readStatement ∈ TB := mTB (List.mem_of_getElem? (i := 914) (by decide +kernel)) rfl
theorem kw915 : Cond.code yX3_readStatement cX3_readStatement 1 (some .boolean) ∈ TB := mTB (List.mem_of_getElem? (i := 915) (by decide +kernel)) rfl
theorem kw917 : Cond.methodLink RX3 69 yX3_readSet ∈ TB := mTB (List.mem_of_getElem? (i := 917) (by decide +kernel)) rfl
theorem kw919 : Cond.instanceMethod yX3_readSet ∈ TB := mTB (List.mem_of_getElem? (i := 919) (by decide +kernel)) rfl
theorem kw920 : Cond.code yX3_readSet cX3_readSet 1 (some .boolean) ∈ TB := mTB (List.mem_of_getElem? (i := 920) (by decide +kernel)) rfl
theorem kw921 : Cond.methodLink RX3 106 yX5_setNamed ∈ TB := mTB (List.mem_of_getElem? (i := 921) (by decide +kernel)) rfl
theorem kw922 : Cond.instanceMethod yX5_setNamed ∈ TB := mTB (List.mem_of_getElem? (i := 922) (by decide +kernel)) rfl
theorem kw923 : Cond.selects RX5 yX5_setNamed yX5_setNamed ∈ TB := mTB (List.mem_of_getElem? (i := 923) (by decide +kernel)) rfl
theorem kw924 : Cond.code yX5_setNamed cX5_setNamed 5 (some .int) ∈ TB := mTB (List.mem_of_getElem? (i := 924) (by decide +kernel)) rfl
theorem kw925 : Cond.methodLink RX5 76 yX1_holds ∈ TB := mTB (List.mem_of_getElem? (i := 925) (by decide +kernel)) rfl
theorem kw926 : Cond.methodLink RX3 110 yX3_wordText ∈ TB := mTB (List.mem_of_getElem? (i := 926) (by decide +kernel)) rfl
theorem kw928 : Cond.instanceMethod yX3_wordText ∈ TB := mTB (List.mem_of_getElem? (i := 928) (by decide +kernel)) rfl
theorem kw929 : Cond.code yX3_wordText cX3_wordText 3 (some (.object "java/lang/String")) ∈ TB := mTB (List.mem_of_getElem? (i := 929) (by decide +kernel)) rfl
theorem kw930 : Cond.classLink RX3 160 RJ4 ∈ TB := mTB (List.mem_of_getElem? (i := 930) (by decide +kernel)) rfl
theorem kw931 : Cond.methodLink RX3 162 yJ4_init_da8c8 ∈ TB := mTB (List.mem_of_getElem? (i := 931) (by decide +kernel)) rfl
theorem kw932 : Cond.methodLink RX3 167 yJ4_append_cf468 ∈ TB := mTB (List.mem_of_getElem? (i := 932) (by decide +kernel)) rfl
theorem kw933 : Cond.methodLink RX3 171 yJ4_toString_0e30d ∈ TB := mTB (List.mem_of_getElem? (i := 933) (by decide +kernel)) rfl
theorem kw934 : Cond.methodLink RX3 114 yX5_beginSet ∈ TB := mTB (List.mem_of_getElem? (i := 934) (by decide +kernel)) rfl
theorem kw935 : Cond.instanceMethod yX5_beginSet ∈ TB := mTB (List.mem_of_getElem? (i := 935) (by decide +kernel)) rfl
theorem kw936 : Cond.selects RX5 yX5_beginSet yX5_beginSet ∈ TB := mTB (List.mem_of_getElem? (i := 936) (by decide +kernel)) rfl
theorem kw937 : Cond.code yX5_beginSet cX5_beginSet 2 none ∈ TB := mTB (List.mem_of_getElem? (i := 937) (by decide +kernel)) rfl
theorem kw938 : Cond.methodLink RX5 55 yX7_begin ∈ TB := mTB (List.mem_of_getElem? (i := 938) (by decide +kernel)) rfl
theorem kw939 : Cond.instanceMethod yX7_begin ∈ TB := mTB (List.mem_of_getElem? (i := 939) (by decide +kernel)) rfl
theorem kw940 : Cond.selects RX7 yX7_begin yX7_begin ∈ TB := mTB (List.mem_of_getElem? (i := 940) (by decide +kernel)) rfl
theorem kw941 : Cond.code yX7_begin cX7_begin 2 none ∈ TB := mTB (List.mem_of_getElem? (i := 941) (by decide +kernel)) rfl
theorem kw942 : Cond.methodLink RX7 41 yJ7_fill_53178 ∈ TB := mTB (List.mem_of_getElem? (i := 942) (by decide +kernel)) rfl
theorem kw943 : Cond.static yJ7_fill_53178 ∈ TB := mTB (List.mem_of_getElem? (i := 943) (by decide +kernel)) rfl
theorem kw944 : Cond.code yJ7_fill_53178 cJ7_fill_53178 4 none ∈ TB := mTB (List.mem_of_getElem? (i := 944) (by decide +kernel)) rfl
theorem kw945 : Cond.methodLink RX7 47 yX2_begin ∈ TB := mTB (List.mem_of_getElem? (i := 945) (by decide +kernel)) rfl
theorem kw946 : Cond.instanceMethod yX2_begin ∈ TB := mTB (List.mem_of_getElem? (i := 946) (by decide +kernel)) rfl
theorem kw947 : Cond.selects RX2 yX2_begin yX2_begin ∈ TB := mTB (List.mem_of_getElem? (i := 947) (by decide +kernel)) rfl
theorem kw948 : Cond.code yX2_begin cX2_begin 1 none ∈ TB := mTB (List.mem_of_getElem? (i := 948) (by decide +kernel)) rfl
theorem kw950 : Cond.methodLink RX3 74 yX3_readMembers ∈ TB := mTB (List.mem_of_getElem? (i := 950) (by decide +kernel)) rfl
theorem kw952 : Cond.instanceMethod yX3_readMembers ∈ TB := mTB (List.mem_of_getElem? (i := 952) (by decide +kernel)) rfl
theorem kw953 : Cond.code yX3_readMembers cX3_readMembers 4 (some .boolean) ∈ TB := mTB (List.mem_of_getElem? (i := 953) (by decide +kernel)) rfl
theorem kw954 : Cond.methodLink RX3 118 yX3_readEarlierSet ∈ TB := mTB (List.mem_of_getElem? (i := 954) (by decide +kernel)) rfl
theorem kw956 : Cond.instanceMethod yX3_readEarlierSet ∈ TB := mTB (List.mem_of_getElem? (i := 956) (by decide +kernel)) rfl
theorem kw957 : Cond.code yX3_readEarlierSet cX3_readEarlierSet 2 (some .int) ∈ TB := mTB (List.mem_of_getElem? (i := 957) (by decide +kernel)) rfl
theorem kw958 : Cond.methodLink RX3 131 yX5_bringIn ∈ TB := mTB (List.mem_of_getElem? (i := 958) (by decide +kernel)) rfl
theorem kw959 : Cond.instanceMethod yX5_bringIn ∈ TB := mTB (List.mem_of_getElem? (i := 959) (by decide +kernel)) rfl
theorem kw960 : Cond.selects RX5 yX5_bringIn yX5_bringIn ∈ TB := mTB (List.mem_of_getElem? (i := 960) (by decide +kernel)) rfl
theorem kw961 : Cond.code yX5_bringIn cX5_bringIn 3 (some .boolean) ∈ TB := mTB (List.mem_of_getElem? (i := 961) (by decide +kernel)) rfl
theorem kw962 : Cond.methodLink RX5 82 yX7_has ∈ TB := mTB (List.mem_of_getElem? (i := 962) (by decide +kernel)) rfl
theorem kw963 : Cond.instanceMethod yX7_has ∈ TB := mTB (List.mem_of_getElem? (i := 963) (by decide +kernel)) rfl
theorem kw964 : Cond.selects RX7 yX7_has yX7_has ∈ TB := mTB (List.mem_of_getElem? (i := 964) (by decide +kernel)) rfl
theorem kw965 : Cond.code yX7_has cX7_has 2 (some .boolean) ∈ TB := mTB (List.mem_of_getElem? (i := 965) (by decide +kernel)) rfl
theorem kw966 : Cond.methodLink RX7 60 yX7_placeOf ∈ TB := mTB (List.mem_of_getElem? (i := 966) (by decide +kernel)) rfl
theorem kw967 : Cond.instanceMethod yX7_placeOf ∈ TB := mTB (List.mem_of_getElem? (i := 967) (by decide +kernel)) rfl
theorem kw968 : Cond.selects RX7 yX7_placeOf yX7_placeOf ∈ TB := mTB (List.mem_of_getElem? (i := 968) (by decide +kernel)) rfl
theorem kw969 : Cond.code yX7_placeOf cX7_placeOf 3 (some .int) ∈ TB := mTB (List.mem_of_getElem? (i := 969) (by decide +kernel)) rfl
theorem kw970 : Cond.methodLink RX5 89 yX5_writeMember ∈ TB := mTB (List.mem_of_getElem? (i := 970) (by decide +kernel)) rfl
theorem kw972 : Cond.instanceMethod yX5_writeMember ∈ TB := mTB (List.mem_of_getElem? (i := 972) (by decide +kernel)) rfl
theorem kw973 : Cond.code yX5_writeMember cX5_writeMember 4 none ∈ TB := mTB (List.mem_of_getElem? (i := 973) (by decide +kernel)) rfl
theorem kw974 : Cond.methodLink RX5 100 yX2_note ∈ TB := mTB (List.mem_of_getElem? (i := 974) (by decide +kernel)) rfl
theorem kw975 : Cond.instanceMethod yX2_note ∈ TB := mTB (List.mem_of_getElem? (i := 975) (by decide +kernel)) rfl
theorem kw976 : Cond.selects RX2 yX2_note yX2_note ∈ TB := mTB (List.mem_of_getElem? (i := 976) (by decide +kernel)) rfl
theorem kw977 : Cond.code yX2_note cX2_note 5 none ∈ TB := mTB (List.mem_of_getElem? (i := 977) (by decide +kernel)) rfl
theorem kw978 : Cond.methodLink RX2 38 yX2_bitsBehind ∈ TB := mTB (List.mem_of_getElem? (i := 978) (by decide +kernel)) rfl
theorem kw980 : Cond.instanceMethod yX2_bitsBehind ∈ TB := mTB (List.mem_of_getElem? (i := 980) (by decide +kernel)) rfl
theorem kw981 : Cond.code yX2_bitsBehind cX2_bitsBehind 6 (some .long) ∈ TB := mTB (List.mem_of_getElem? (i := 981) (by decide +kernel)) rfl
theorem kw982 : Cond.constantLong RX2 42 (-1) ∈ TB := mTB (List.mem_of_getElem? (i := 982) (by decide +kernel)) rfl
theorem kw983 : Cond.methodLink RX2 32 arraycopyName ∈ TB := mTB (List.mem_of_getElem? (i := 983) (by decide +kernel)) rfl
theorem kw984 : Cond.methodLink RX3 135 yX5_takeOut ∈ TB := mTB (List.mem_of_getElem? (i := 984) (by decide +kernel)) rfl
theorem kw985 : Cond.instanceMethod yX5_takeOut ∈ TB := mTB (List.mem_of_getElem? (i := 985) (by decide +kernel)) rfl
theorem kw986 : Cond.selects RX5 yX5_takeOut yX5_takeOut ∈ TB := mTB (List.mem_of_getElem? (i := 986) (by decide +kernel)) rfl
theorem kw987 : Cond.code yX5_takeOut cX5_takeOut 7 (some .boolean) ∈ TB := mTB (List.mem_of_getElem? (i := 987) (by decide +kernel)) rfl
theorem kw988 : Cond.methodLink RX5 106 yX7_placeOf ∈ TB := mTB (List.mem_of_getElem? (i := 988) (by decide +kernel)) rfl
theorem kw989 : Cond.methodLink RX5 110 yX5_pullCursorsBack ∈ TB := mTB (List.mem_of_getElem? (i := 989) (by decide +kernel)) rfl
theorem kw991 : Cond.instanceMethod yX5_pullCursorsBack ∈ TB := mTB (List.mem_of_getElem? (i := 991) (by decide +kernel)) rfl
theorem kw992 : Cond.code yX5_pullCursorsBack cX5_pullCursorsBack 5 (some .boolean) ∈ TB := mTB (List.mem_of_getElem? (i := 992) (by decide +kernel)) rfl
theorem kw993 : Cond.methodLink RX5 117 yX0_isOpenOn ∈ TB := mTB (List.mem_of_getElem? (i := 993) (by decide +kernel)) rfl
theorem kw994 : Cond.instanceMethod yX0_isOpenOn ∈ TB := mTB (List.mem_of_getElem? (i := 994) (by decide +kernel)) rfl
theorem kw995 : Cond.selects RX0 yX0_isOpenOn yX0_isOpenOn ∈ TB := mTB (List.mem_of_getElem? (i := 995) (by decide +kernel)) rfl
theorem kw996 : Cond.code yX0_isOpenOn cX0_isOpenOn 2 (some .boolean) ∈ TB := mTB (List.mem_of_getElem? (i := 996) (by decide +kernel)) rfl
theorem kw997 : Cond.methodLink RX5 114 yX5_moveMember ∈ TB := mTB (List.mem_of_getElem? (i := 997) (by decide +kernel)) rfl
theorem kw999 : Cond.instanceMethod yX5_moveMember ∈ TB := mTB (List.mem_of_getElem? (i := 999) (by decide +kernel)) rfl
theorem kw1000 : Cond.code yX5_moveMember cX5_moveMember 4 none ∈ TB := mTB (List.mem_of_getElem? (i := 1000) (by decide +kernel)) rfl
theorem kw1003 : Cond.methodLink RX3 82 yX3_readClear ∈ TB := mTB (List.mem_of_getElem? (i := 1003) (by decide +kernel)) rfl
theorem kw1005 : Cond.instanceMethod yX3_readClear ∈ TB := mTB (List.mem_of_getElem? (i := 1005) (by decide +kernel)) rfl
theorem kw1006 : Cond.code yX3_readClear cX3_readClear 2 (some .boolean) ∈ TB := mTB (List.mem_of_getElem? (i := 1006) (by decide +kernel)) rfl
theorem kw1007 : Cond.methodLink RX3 138 yX5_emptySet ∈ TB := mTB (List.mem_of_getElem? (i := 1007) (by decide +kernel)) rfl
theorem kw1008 : Cond.instanceMethod yX5_emptySet ∈ TB := mTB (List.mem_of_getElem? (i := 1008) (by decide +kernel)) rfl
theorem kw1009 : Cond.selects RX5 yX5_emptySet yX5_emptySet ∈ TB := mTB (List.mem_of_getElem? (i := 1009) (by decide +kernel)) rfl
theorem kw1010 : Cond.code yX5_emptySet cX5_emptySet 4 none ∈ TB := mTB (List.mem_of_getElem? (i := 1010) (by decide +kernel)) rfl
theorem kw1012 : Cond.methodLink RX3 87 yX3_readMark ∈ TB := mTB (List.mem_of_getElem? (i := 1012) (by decide +kernel)) rfl
theorem kw1014 : Cond.instanceMethod yX3_readMark ∈ TB := mTB (List.mem_of_getElem? (i := 1014) (by decide +kernel)) rfl
theorem kw1015 : Cond.code yX3_readMark cX3_readMark 1 (some .boolean) ∈ TB := mTB (List.mem_of_getElem? (i := 1015) (by decide +kernel)) rfl
theorem kw1016 : Cond.methodLink RX3 145 yX5_makeMark ∈ TB := mTB (List.mem_of_getElem? (i := 1016) (by decide +kernel)) rfl
theorem kw1017 : Cond.instanceMethod yX5_makeMark ∈ TB := mTB (List.mem_of_getElem? (i := 1017) (by decide +kernel)) rfl
theorem kw1018 : Cond.selects RX5 yX5_makeMark yX5_makeMark ∈ TB := mTB (List.mem_of_getElem? (i := 1018) (by decide +kernel)) rfl
theorem kw1019 : Cond.code yX5_makeMark cX5_makeMark 1 none ∈ TB := mTB (List.mem_of_getElem? (i := 1019) (by decide +kernel)) rfl
theorem kw1020 : Cond.methodLink RX9 72 yX9_beginWithDraft ∈ TB := mTB (List.mem_of_getElem? (i := 1020) (by decide +kernel)) rfl
theorem kw1022 : Cond.instanceMethod yX9_beginWithDraft ∈ TB := mTB (List.mem_of_getElem? (i := 1022) (by decide +kernel)) rfl
theorem kw1023 : Cond.code yX9_beginWithDraft cX9_beginWithDraft 2 none ∈ TB := mTB (List.mem_of_getElem? (i := 1023) (by decide +kernel)) rfl
theorem kw1024 : Cond.methodLink RX9 78 yX8_forgetAll ∈ TB := mTB (List.mem_of_getElem? (i := 1024) (by decide +kernel)) rfl
theorem kw1025 : Cond.instanceMethod yX8_forgetAll ∈ TB := mTB (List.mem_of_getElem? (i := 1025) (by decide +kernel)) rfl
theorem kw1026 : Cond.selects RX8 yX8_forgetAll yX8_forgetAll ∈ TB := mTB (List.mem_of_getElem? (i := 1026) (by decide +kernel)) rfl
theorem kw1027 : Cond.code yX8_forgetAll cX8_forgetAll 1 none ∈ TB := mTB (List.mem_of_getElem? (i := 1027) (by decide +kernel)) rfl
theorem kw1028 : Cond.methodLink RX9 81 yX4_emptyAll ∈ TB := mTB (List.mem_of_getElem? (i := 1028) (by decide +kernel)) rfl
theorem kw1029 : Cond.instanceMethod yX4_emptyAll ∈ TB := mTB (List.mem_of_getElem? (i := 1029) (by decide +kernel)) rfl
theorem kw1030 : Cond.selects RX4 yX4_emptyAll yX4_emptyAll ∈ TB := mTB (List.mem_of_getElem? (i := 1030) (by decide +kernel)) rfl
theorem kw1031 : Cond.code yX4_emptyAll cX4_emptyAll 2 none ∈ TB := mTB (List.mem_of_getElem? (i := 1031) (by decide +kernel)) rfl
theorem kw1032 : Cond.methodLink RL 113 yL_changes ∈ TB := mTB (List.mem_of_getElem? (i := 1032) (by decide +kernel)) rfl
theorem kw1033 : Cond.static yL_changes ∈ TB := mTB (List.mem_of_getElem? (i := 1033) (by decide +kernel)) rfl
set_option maxRecDepth 100000 in
theorem kw1034 : Cond.code yL_changes cL_changes 10 (some .boolean) ∈ TB := mTB (List.mem_of_getElem? (i := 1034) (rfl)) rfl
theorem kw1035 : Cond.methodLink RL 275 yX9_clear ∈ TB := mTB (List.mem_of_getElem? (i := 1035) (by decide +kernel)) rfl
theorem kw1036 : Cond.instanceMethod yX9_clear ∈ TB := mTB (List.mem_of_getElem? (i := 1036) (by decide +kernel)) rfl
theorem kw1037 : Cond.selects RX9 yX9_clear yX9_clear ∈ TB := mTB (List.mem_of_getElem? (i := 1037) (by decide +kernel)) rfl
theorem kw1038 : Cond.code yX9_clear cX9_clear 3 (some .int) ∈ TB := mTB (List.mem_of_getElem? (i := 1038) (by decide +kernel)) rfl
theorem kw1039 : Cond.methodLink RX9 122 yX9_rowsOf ∈ TB := mTB (List.mem_of_getElem? (i := 1039) (by decide +kernel)) rfl
theorem kw1041 : Cond.instanceMethod yX9_rowsOf ∈ TB := mTB (List.mem_of_getElem? (i := 1041) (by decide +kernel)) rfl
theorem kw1042 : Cond.code yX9_rowsOf cX9_rowsOf 2 (some (.object "TwinSets$TwinRows")) ∈ TB := mTB (List.mem_of_getElem? (i := 1042) (by decide +kernel)) rfl
theorem kw1043 : Cond.methodLink RX9 247 yX9_checkSet ∈ TB := mTB (List.mem_of_getElem? (i := 1043) (by decide +kernel)) rfl
theorem kw1045 : Cond.instanceMethod yX9_checkSet ∈ TB := mTB (List.mem_of_getElem? (i := 1045) (by decide +kernel)) rfl
theorem kw1046 : Cond.code yX9_checkSet cX9_checkSet 2 none ∈ TB := mTB (List.mem_of_getElem? (i := 1046) (by decide +kernel)) rfl
theorem kw1047 : Cond.classLink RX9 320 "java/lang/IndexOutOfBoundsException" ∈ TB := mTB (List.mem_of_getElem? (i := 1047) (by decide +kernel)) rfl
theorem kw1063 : Cond.methodLink RX9 239 yX8_remember ∈ TB := mTB (List.mem_of_getElem? (i := 1063) (by decide +kernel)) rfl
theorem kw1064 : Cond.instanceMethod yX8_remember ∈ TB := mTB (List.mem_of_getElem? (i := 1064) (by decide +kernel)) rfl
theorem kw1065 : Cond.selects RX8 yX8_remember yX8_remember ∈ TB := mTB (List.mem_of_getElem? (i := 1065) (by decide +kernel)) rfl
theorem kw1066 : Cond.code yX8_remember cX8_remember 2 none ∈ TB := mTB (List.mem_of_getElem? (i := 1066) (by decide +kernel)) rfl
theorem kw1067 : Cond.methodLink RX8 21 yX5_init ∈ TB := mTB (List.mem_of_getElem? (i := 1067) (by decide +kernel)) rfl
theorem kw1068 : Cond.methodLink RX8 22 yX5_copyFrom ∈ TB := mTB (List.mem_of_getElem? (i := 1068) (by decide +kernel)) rfl
theorem kw1069 : Cond.instanceMethod yX5_copyFrom ∈ TB := mTB (List.mem_of_getElem? (i := 1069) (by decide +kernel)) rfl
theorem kw1070 : Cond.selects RX5 yX5_copyFrom yX5_copyFrom ∈ TB := mTB (List.mem_of_getElem? (i := 1070) (by decide +kernel)) rfl
theorem kw1071 : Cond.code yX5_copyFrom cX5_copyFrom 3 none ∈ TB := mTB (List.mem_of_getElem? (i := 1071) (by decide +kernel)) rfl
theorem kw1072 : Cond.methodLink RX5 59 arraycopyName ∈ TB := mTB (List.mem_of_getElem? (i := 1072) (by decide +kernel)) rfl
theorem kw1073 : Cond.methodLink RX5 65 yX7_copyFrom ∈ TB := mTB (List.mem_of_getElem? (i := 1073) (by decide +kernel)) rfl
theorem kw1074 : Cond.instanceMethod yX7_copyFrom ∈ TB := mTB (List.mem_of_getElem? (i := 1074) (by decide +kernel)) rfl
theorem kw1075 : Cond.selects RX7 yX7_copyFrom yX7_copyFrom ∈ TB := mTB (List.mem_of_getElem? (i := 1075) (by decide +kernel)) rfl
theorem kw1076 : Cond.code yX7_copyFrom cX7_copyFrom 2 none ∈ TB := mTB (List.mem_of_getElem? (i := 1076) (by decide +kernel)) rfl
theorem kw1077 : Cond.methodLink RX7 50 arraycopyName ∈ TB := mTB (List.mem_of_getElem? (i := 1077) (by decide +kernel)) rfl
theorem kw1078 : Cond.methodLink RX7 56 yX2_copyFrom ∈ TB := mTB (List.mem_of_getElem? (i := 1078) (by decide +kernel)) rfl
theorem kw1079 : Cond.instanceMethod yX2_copyFrom ∈ TB := mTB (List.mem_of_getElem? (i := 1079) (by decide +kernel)) rfl
theorem kw1080 : Cond.selects RX2 yX2_copyFrom yX2_copyFrom ∈ TB := mTB (List.mem_of_getElem? (i := 1080) (by decide +kernel)) rfl
theorem kw1081 : Cond.code yX2_copyFrom cX2_copyFrom 2 none ∈ TB := mTB (List.mem_of_getElem? (i := 1081) (by decide +kernel)) rfl
theorem kw1082 : Cond.methodLink RX5 69 yX0_copyFrom ∈ TB := mTB (List.mem_of_getElem? (i := 1082) (by decide +kernel)) rfl
theorem kw1083 : Cond.instanceMethod yX0_copyFrom ∈ TB := mTB (List.mem_of_getElem? (i := 1083) (by decide +kernel)) rfl
theorem kw1084 : Cond.selects RX0 yX0_copyFrom yX0_copyFrom ∈ TB := mTB (List.mem_of_getElem? (i := 1084) (by decide +kernel)) rfl
theorem kw1085 : Cond.code yX0_copyFrom cX0_copyFrom 2 none ∈ TB := mTB (List.mem_of_getElem? (i := 1085) (by decide +kernel)) rfl
theorem kw1086 : Cond.methodLink RX8 29 Lib.Math.min.name ∈ TB := mTB (List.mem_of_getElem? (i := 1086) (by decide +kernel)) rfl
theorem kw1087 : Cond.methodLink RX9 254 yX5_emptySet ∈ TB := mTB (List.mem_of_getElem? (i := 1087) (by decide +kernel)) rfl
theorem kw1088 : Cond.methodLink RL 278 yX12_clear ∈ TB := mTB (List.mem_of_getElem? (i := 1088) (by decide +kernel)) rfl
theorem kw1089 : Cond.instanceMethod yX12_clear ∈ TB := mTB (List.mem_of_getElem? (i := 1089) (by decide +kernel)) rfl
theorem kw1090 : Cond.selects RX12 yX12_clear yX12_clear ∈ TB := mTB (List.mem_of_getElem? (i := 1090) (by decide +kernel)) rfl
theorem kw1091 : Cond.code yX12_clear cX12_clear 4 (some .int) ∈ TB := mTB (List.mem_of_getElem? (i := 1091) (by decide +kernel)) rfl
theorem kw1092 : Cond.methodLink RL 281 yX9_mark ∈ TB := mTB (List.mem_of_getElem? (i := 1092) (by decide +kernel)) rfl
theorem kw1093 : Cond.instanceMethod yX9_mark ∈ TB := mTB (List.mem_of_getElem? (i := 1093) (by decide +kernel)) rfl
theorem kw1094 : Cond.selects RX9 yX9_mark yX9_mark ∈ TB := mTB (List.mem_of_getElem? (i := 1094) (by decide +kernel)) rfl
theorem kw1095 : Cond.code yX9_mark cX9_mark 1 (some .int) ∈ TB := mTB (List.mem_of_getElem? (i := 1095) (by decide +kernel)) rfl
theorem kw1096 : Cond.classLink RX9 257 "java/lang/IllegalStateException" ∈ TB := mTB (List.mem_of_getElem? (i := 1096) (by decide +kernel)) rfl
theorem kw1112 : Cond.methodLink RX9 262 yX5_makeMark ∈ TB := mTB (List.mem_of_getElem? (i := 1112) (by decide +kernel)) rfl
theorem kw1113 : Cond.methodLink RL 220 yX12_cursors ∈ TB := mTB (List.mem_of_getElem? (i := 1113) (by decide +kernel)) rfl
theorem kw1114 : Cond.instanceMethod yX12_cursors ∈ TB := mTB (List.mem_of_getElem? (i := 1114) (by decide +kernel)) rfl
theorem kw1115 : Cond.selects RX12 yX12_cursors yX12_cursors ∈ TB := mTB (List.mem_of_getElem? (i := 1115) (by decide +kernel)) rfl
theorem kw1116 : Cond.code yX12_cursors cX12_cursors 3 (some .int) ∈ TB := mTB (List.mem_of_getElem? (i := 1116) (by decide +kernel)) rfl
theorem kw1117 : Cond.classLink RL 129 RX11 ∈ TB := mTB (List.mem_of_getElem? (i := 1117) (by decide +kernel)) rfl
theorem kw1118 : Cond.instantiable RX11 8 ∈ TB := mTB (List.mem_of_getElem? (i := 1118) (by decide +kernel)) rfl
theorem kw1120 : Cond.instanceMethod yX11_init ∈ TB := mTB (List.mem_of_getElem? (i := 1120) (by decide +kernel)) rfl
theorem kw1121 : Cond.code yX11_init cX11_init 1 none ∈ TB := mTB (List.mem_of_getElem? (i := 1121) (by decide +kernel)) rfl
theorem kw1122 : Cond.methodLink RX11 1 objectInit ∈ TB := mTB (List.mem_of_getElem? (i := 1122) (by decide +kernel)) rfl
theorem kw1123 : Cond.fieldLink RX11 20 "TwinSetsLaw$Cursor" "of" "LTwinSetsLaw$Box;" ∈ TB := mTB (List.mem_of_getElem? (i := 1123) (by decide +kernel)) rfl
theorem kw1129 : Cond.fieldLink RX11 30 "TwinSetsLaw$Cursor" "made" "I" ∈ TB := mTB (List.mem_of_getElem? (i := 1129) (by decide +kernel)) rfl
theorem kw1133 : Cond.fieldLink RX11 7 "TwinSetsLaw$Cursor" "last" "I" ∈ TB := mTB (List.mem_of_getElem? (i := 1133) (by decide +kernel)) rfl
theorem kw1136 : Cond.fieldLink RX11 13 "TwinSetsLaw$Cursor" "open" "Z" ∈ TB := mTB (List.mem_of_getElem? (i := 1136) (by decide +kernel)) rfl
theorem kw1139 : Cond.fieldLink RX11 17 "TwinSetsLaw$Cursor" "strict" "Z" ∈ TB := mTB (List.mem_of_getElem? (i := 1139) (by decide +kernel)) rfl
theorem kw1158 : Cond.methodLink RL 284 yX9_open ∈ TB := mTB (List.mem_of_getElem? (i := 1158) (by decide +kernel)) rfl
theorem kw1159 : Cond.instanceMethod yX9_open ∈ TB := mTB (List.mem_of_getElem? (i := 1159) (by decide +kernel)) rfl
theorem kw1160 : Cond.selects RX9 yX9_open yX9_open ∈ TB := mTB (List.mem_of_getElem? (i := 1160) (by decide +kernel)) rfl
theorem kw1161 : Cond.code yX9_open cX9_open 4 (some .int) ∈ TB := mTB (List.mem_of_getElem? (i := 1161) (by decide +kernel)) rfl
theorem kw1162 : Cond.methodLink RX9 265 yX5_freeCursor ∈ TB := mTB (List.mem_of_getElem? (i := 1162) (by decide +kernel)) rfl
theorem kw1163 : Cond.instanceMethod yX5_freeCursor ∈ TB := mTB (List.mem_of_getElem? (i := 1163) (by decide +kernel)) rfl
theorem kw1164 : Cond.selects RX5 yX5_freeCursor yX5_freeCursor ∈ TB := mTB (List.mem_of_getElem? (i := 1164) (by decide +kernel)) rfl
theorem kw1165 : Cond.code yX5_freeCursor cX5_freeCursor 2 (some .int) ∈ TB := mTB (List.mem_of_getElem? (i := 1165) (by decide +kernel)) rfl
theorem kw1167 : Cond.methodLink RX9 274 yX0_begin ∈ TB := mTB (List.mem_of_getElem? (i := 1167) (by decide +kernel)) rfl
theorem kw1168 : Cond.instanceMethod yX0_begin ∈ TB := mTB (List.mem_of_getElem? (i := 1168) (by decide +kernel)) rfl
theorem kw1169 : Cond.selects RX0 yX0_begin yX0_begin ∈ TB := mTB (List.mem_of_getElem? (i := 1169) (by decide +kernel)) rfl
theorem kw1170 : Cond.code yX0_begin cX0_begin 4 none ∈ TB := mTB (List.mem_of_getElem? (i := 1170) (by decide +kernel)) rfl
theorem kw1171 : Cond.methodLink RL 287 yX9_close ∈ TB := mTB (List.mem_of_getElem? (i := 1171) (by decide +kernel)) rfl
theorem kw1172 : Cond.instanceMethod yX9_close ∈ TB := mTB (List.mem_of_getElem? (i := 1172) (by decide +kernel)) rfl
theorem kw1173 : Cond.selects RX9 yX9_close yX9_close ∈ TB := mTB (List.mem_of_getElem? (i := 1173) (by decide +kernel)) rfl
theorem kw1174 : Cond.code yX9_close cX9_close 3 (some .int) ∈ TB := mTB (List.mem_of_getElem? (i := 1174) (by decide +kernel)) rfl
theorem kw1175 : Cond.methodLink RX9 203 yX9_cursorOf ∈ TB := mTB (List.mem_of_getElem? (i := 1175) (by decide +kernel)) rfl
theorem kw1177 : Cond.instanceMethod yX9_cursorOf ∈ TB := mTB (List.mem_of_getElem? (i := 1177) (by decide +kernel)) rfl
theorem kw1178 : Cond.code yX9_cursorOf cX9_cursorOf 2 (some (.object "TwinSets$Cursor")) ∈ TB := mTB (List.mem_of_getElem? (i := 1178) (by decide +kernel)) rfl
theorem kw1180 : Cond.methodLink RL 290 yX9_step ∈ TB := mTB (List.mem_of_getElem? (i := 1180) (by decide +kernel)) rfl
theorem kw1181 : Cond.instanceMethod yX9_step ∈ TB := mTB (List.mem_of_getElem? (i := 1181) (by decide +kernel)) rfl
theorem kw1182 : Cond.selects RX9 yX9_step yX9_step ∈ TB := mTB (List.mem_of_getElem? (i := 1182) (by decide +kernel)) rfl
theorem kw1183 : Cond.code yX9_step cX9_step 3 (some .int) ∈ TB := mTB (List.mem_of_getElem? (i := 1183) (by decide +kernel)) rfl
theorem kw1184 : Cond.methodLink RX9 280 yX5_meetNext ∈ TB := mTB (List.mem_of_getElem? (i := 1184) (by decide +kernel)) rfl
theorem kw1185 : Cond.instanceMethod yX5_meetNext ∈ TB := mTB (List.mem_of_getElem? (i := 1185) (by decide +kernel)) rfl
theorem kw1186 : Cond.selects RX5 yX5_meetNext yX5_meetNext ∈ TB := mTB (List.mem_of_getElem? (i := 1186) (by decide +kernel)) rfl
theorem kw1187 : Cond.code yX5_meetNext cX5_meetNext 4 (some .int) ∈ TB := mTB (List.mem_of_getElem? (i := 1187) (by decide +kernel)) rfl
theorem kw1188 : Cond.methodLink RX5 142 yX7_stampAt ∈ TB := mTB (List.mem_of_getElem? (i := 1188) (by decide +kernel)) rfl
theorem kw1189 : Cond.instanceMethod yX7_stampAt ∈ TB := mTB (List.mem_of_getElem? (i := 1189) (by decide +kernel)) rfl
theorem kw1190 : Cond.selects RX7 yX7_stampAt yX7_stampAt ∈ TB := mTB (List.mem_of_getElem? (i := 1190) (by decide +kernel)) rfl
theorem kw1191 : Cond.code yX7_stampAt cX7_stampAt 2 (some .int) ∈ TB := mTB (List.mem_of_getElem? (i := 1191) (by decide +kernel)) rfl
theorem kw1192 : Cond.methodLink RX5 145 yX0_meets ∈ TB := mTB (List.mem_of_getElem? (i := 1192) (by decide +kernel)) rfl
theorem kw1193 : Cond.instanceMethod yX0_meets ∈ TB := mTB (List.mem_of_getElem? (i := 1193) (by decide +kernel)) rfl
theorem kw1194 : Cond.selects RX0 yX0_meets yX0_meets ∈ TB := mTB (List.mem_of_getElem? (i := 1194) (by decide +kernel)) rfl
theorem kw1195 : Cond.code yX0_meets cX0_meets 2 (some .boolean) ∈ TB := mTB (List.mem_of_getElem? (i := 1195) (by decide +kernel)) rfl
theorem kw1196 : Cond.methodLink RL 293 yX12_step ∈ TB := mTB (List.mem_of_getElem? (i := 1196) (by decide +kernel)) rfl
theorem kw1197 : Cond.instanceMethod yX12_step ∈ TB := mTB (List.mem_of_getElem? (i := 1197) (by decide +kernel)) rfl
theorem kw1198 : Cond.selects RX12 yX12_step yX12_step ∈ TB := mTB (List.mem_of_getElem? (i := 1198) (by decide +kernel)) rfl
theorem kw1199 : Cond.code yX12_step cX12_step 3 (some .int) ∈ TB := mTB (List.mem_of_getElem? (i := 1199) (by decide +kernel)) rfl
theorem kw1200 : Cond.methodLink RX12 71 yX11_meets ∈ TB := mTB (List.mem_of_getElem? (i := 1200) (by decide +kernel)) rfl
theorem kw1201 : Cond.instanceMethod yX11_meets ∈ TB := mTB (List.mem_of_getElem? (i := 1201) (by decide +kernel)) rfl
theorem kw1202 : Cond.selects RX11 yX11_meets yX11_meets ∈ TB := mTB (List.mem_of_getElem? (i := 1202) (by decide +kernel)) rfl
theorem kw1203 : Cond.code yX11_meets cX11_meets 2 (some .boolean) ∈ TB := mTB (List.mem_of_getElem? (i := 1203) (by decide +kernel)) rfl
theorem kw1204 : Cond.methodLink RL 169 yX10_has ∈ TB := mTB (List.mem_of_getElem? (i := 1204) (by decide +kernel)) rfl
theorem kw1205 : Cond.methodLink RL 296 yX9_removeMet ∈ TB := mTB (List.mem_of_getElem? (i := 1205) (by decide +kernel)) rfl
theorem kw1206 : Cond.instanceMethod yX9_removeMet ∈ TB := mTB (List.mem_of_getElem? (i := 1206) (by decide +kernel)) rfl
theorem kw1207 : Cond.selects RX9 yX9_removeMet yX9_removeMet ∈ TB := mTB (List.mem_of_getElem? (i := 1207) (by decide +kernel)) rfl
theorem kw1208 : Cond.code yX9_removeMet cX9_removeMet 4 (some .int) ∈ TB := mTB (List.mem_of_getElem? (i := 1208) (by decide +kernel)) rfl
theorem kw1209 : Cond.methodLink RX9 163 yX7_has ∈ TB := mTB (List.mem_of_getElem? (i := 1209) (by decide +kernel)) rfl
theorem kw1211 : Cond.methodLink RX9 250 yX5_takeOut ∈ TB := mTB (List.mem_of_getElem? (i := 1211) (by decide +kernel)) rfl
theorem kw1212 : Cond.methodLink RL 299 yX9_remove ∈ TB := mTB (List.mem_of_getElem? (i := 1212) (by decide +kernel)) rfl
theorem kw1213 : Cond.instanceMethod yX9_remove ∈ TB := mTB (List.mem_of_getElem? (i := 1213) (by decide +kernel)) rfl
theorem kw1214 : Cond.selects RX9 yX9_remove yX9_remove ∈ TB := mTB (List.mem_of_getElem? (i := 1214) (by decide +kernel)) rfl
theorem kw1215 : Cond.code yX9_remove cX9_remove 3 (some .boolean) ∈ TB := mTB (List.mem_of_getElem? (i := 1215) (by decide +kernel)) rfl
theorem kw1216 : Cond.methodLink RX9 194 yX9_checkNumber ∈ TB := mTB (List.mem_of_getElem? (i := 1216) (by decide +kernel)) rfl
theorem kw1218 : Cond.instanceMethod yX9_checkNumber ∈ TB := mTB (List.mem_of_getElem? (i := 1218) (by decide +kernel)) rfl
theorem kw1219 : Cond.code yX9_checkNumber cX9_checkNumber 2 none ∈ TB := mTB (List.mem_of_getElem? (i := 1219) (by decide +kernel)) rfl
theorem kw1220 : Cond.methodLink RX9 148 yX5_hasNumber ∈ TB := mTB (List.mem_of_getElem? (i := 1220) (by decide +kernel)) rfl
theorem kw1221 : Cond.instanceMethod yX5_hasNumber ∈ TB := mTB (List.mem_of_getElem? (i := 1221) (by decide +kernel)) rfl
theorem kw1222 : Cond.selects RX5 yX5_hasNumber yX5_hasNumber ∈ TB := mTB (List.mem_of_getElem? (i := 1222) (by decide +kernel)) rfl
theorem kw1223 : Cond.code yX5_hasNumber cX5_hasNumber 2 (some .boolean) ∈ TB := mTB (List.mem_of_getElem? (i := 1223) (by decide +kernel)) rfl
theorem kw1225 : Cond.methodLink RL 301 yX9_keep ∈ TB := mTB (List.mem_of_getElem? (i := 1225) (by decide +kernel)) rfl
theorem kw1226 : Cond.instanceMethod yX9_keep ∈ TB := mTB (List.mem_of_getElem? (i := 1226) (by decide +kernel)) rfl
theorem kw1227 : Cond.selects RX9 yX9_keep yX9_keep ∈ TB := mTB (List.mem_of_getElem? (i := 1227) (by decide +kernel)) rfl
theorem kw1228 : Cond.code yX9_keep cX9_keep 3 (some .int) ∈ TB := mTB (List.mem_of_getElem? (i := 1228) (by decide +kernel)) rfl
theorem kw1229 : Cond.methodLink RX9 289 yX5_keepCommon ∈ TB := mTB (List.mem_of_getElem? (i := 1229) (by decide +kernel)) rfl
theorem kw1230 : Cond.instanceMethod yX5_keepCommon ∈ TB := mTB (List.mem_of_getElem? (i := 1230) (by decide +kernel)) rfl
theorem kw1231 : Cond.selects RX5 yX5_keepCommon yX5_keepCommon ∈ TB := mTB (List.mem_of_getElem? (i := 1231) (by decide +kernel)) rfl
theorem kw1232 : Cond.code yX5_keepCommon cX5_keepCommon 7 (some .int) ∈ TB := mTB (List.mem_of_getElem? (i := 1232) (by decide +kernel)) rfl
theorem kw1233 : Cond.methodLink RX5 132 yX5_takeOut ∈ TB := mTB (List.mem_of_getElem? (i := 1233) (by decide +kernel)) rfl
theorem kw1234 : Cond.methodLink RL 304 yX9_unite ∈ TB := mTB (List.mem_of_getElem? (i := 1234) (by decide +kernel)) rfl
theorem kw1235 : Cond.instanceMethod yX9_unite ∈ TB := mTB (List.mem_of_getElem? (i := 1235) (by decide +kernel)) rfl
theorem kw1236 : Cond.selects RX9 yX9_unite yX9_unite ∈ TB := mTB (List.mem_of_getElem? (i := 1236) (by decide +kernel)) rfl
theorem kw1237 : Cond.code yX9_unite cX9_unite 3 (some .int) ∈ TB := mTB (List.mem_of_getElem? (i := 1237) (by decide +kernel)) rfl
theorem kw1238 : Cond.methodLink RX9 293 yX5_bringAll ∈ TB := mTB (List.mem_of_getElem? (i := 1238) (by decide +kernel)) rfl
theorem kw1239 : Cond.instanceMethod yX5_bringAll ∈ TB := mTB (List.mem_of_getElem? (i := 1239) (by decide +kernel)) rfl
theorem kw1240 : Cond.selects RX5 yX5_bringAll yX5_bringAll ∈ TB := mTB (List.mem_of_getElem? (i := 1240) (by decide +kernel)) rfl
theorem kw1241 : Cond.code yX5_bringAll cX5_bringAll 6 (some .int) ∈ TB := mTB (List.mem_of_getElem? (i := 1241) (by decide +kernel)) rfl
theorem kw1242 : Cond.methodLink RX5 135 yX5_bringIn ∈ TB := mTB (List.mem_of_getElem? (i := 1242) (by decide +kernel)) rfl
theorem kw1243 : Cond.methodLink RL 307 yX9_add ∈ TB := mTB (List.mem_of_getElem? (i := 1243) (by decide +kernel)) rfl
theorem kw1244 : Cond.instanceMethod yX9_add ∈ TB := mTB (List.mem_of_getElem? (i := 1244) (by decide +kernel)) rfl
theorem kw1245 : Cond.selects RX9 yX9_add yX9_add ∈ TB := mTB (List.mem_of_getElem? (i := 1245) (by decide +kernel)) rfl
theorem kw1246 : Cond.code yX9_add cX9_add 4 (some .int) ∈ TB := mTB (List.mem_of_getElem? (i := 1246) (by decide +kernel)) rfl
theorem kw1247 : Cond.methodLink RX9 243 yX5_bringIn ∈ TB := mTB (List.mem_of_getElem? (i := 1247) (by decide +kernel)) rfl
theorem kw1248 : Cond.methodLink RX9 160 yX7_placeOf ∈ TB := mTB (List.mem_of_getElem? (i := 1248) (by decide +kernel)) rfl
theorem kw1249 : Cond.methodLink RL 117 yL_state ∈ TB := mTB (List.mem_of_getElem? (i := 1249) (by decide +kernel)) rfl
theorem kw1250 : Cond.static yL_state ∈ TB := mTB (List.mem_of_getElem? (i := 1250) (by decide +kernel)) rfl
set_option maxRecDepth 100000 in
theorem kw1251 : Cond.code yL_state cL_state 10 (some .boolean) ∈ TB := mTB (List.mem_of_getElem? (i := 1251) (rfl)) rfl
theorem kw1252 : Cond.methodLink RL 138 yX10_kept ∈ TB := mTB (List.mem_of_getElem? (i := 1252) (by decide +kernel)) rfl
theorem kw1253 : Cond.instanceMethod yX10_kept ∈ TB := mTB (List.mem_of_getElem? (i := 1253) (by decide +kernel)) rfl
theorem kw1254 : Cond.selects RX10 yX10_kept yX10_kept ∈ TB := mTB (List.mem_of_getElem? (i := 1254) (by decide +kernel)) rfl
theorem kw1255 : Cond.code yX10_kept cX10_kept 2 (some .int) ∈ TB := mTB (List.mem_of_getElem? (i := 1255) (by decide +kernel)) rfl
theorem kw1256 : Cond.methodLink RX10 43 Lib.Math.min.name ∈ TB := mTB (List.mem_of_getElem? (i := 1256) (by decide +kernel)) rfl
theorem kw1257 : Cond.methodLink RL 149 yX10_first ∈ TB := mTB (List.mem_of_getElem? (i := 1257) (by decide +kernel)) rfl
theorem kw1258 : Cond.instanceMethod yX10_first ∈ TB := mTB (List.mem_of_getElem? (i := 1258) (by decide +kernel)) rfl
theorem kw1259 : Cond.selects RX10 yX10_first yX10_first ∈ TB := mTB (List.mem_of_getElem? (i := 1259) (by decide +kernel)) rfl
theorem kw1260 : Cond.code yX10_first cX10_first 2 (some .int) ∈ TB := mTB (List.mem_of_getElem? (i := 1260) (by decide +kernel)) rfl
theorem kw1261 : Cond.methodLink RL 152 yX9_set ∈ TB := mTB (List.mem_of_getElem? (i := 1261) (by decide +kernel)) rfl
theorem kw1262 : Cond.instanceMethod yX9_set ∈ TB := mTB (List.mem_of_getElem? (i := 1262) (by decide +kernel)) rfl
theorem kw1263 : Cond.selects RX9 yX9_set yX9_set ∈ TB := mTB (List.mem_of_getElem? (i := 1263) (by decide +kernel)) rfl
theorem kw1264 : Cond.code yX9_set cX9_set 4 (some .int) ∈ TB := mTB (List.mem_of_getElem? (i := 1264) (by decide +kernel)) rfl
theorem kw1265 : Cond.methodLink RX9 144 yX5_countOpenCursors ∈ TB := mTB (List.mem_of_getElem? (i := 1265) (by decide +kernel)) rfl
theorem kw1266 : Cond.instanceMethod yX5_countOpenCursors ∈ TB := mTB (List.mem_of_getElem? (i := 1266) (by decide +kernel)) rfl
theorem kw1267 : Cond.selects RX5 yX5_countOpenCursors yX5_countOpenCursors ∈ TB := mTB (List.mem_of_getElem? (i := 1267) (by decide +kernel)) rfl
theorem kw1268 : Cond.code yX5_countOpenCursors cX5_countOpenCursors 4 (some .int) ∈ TB := mTB (List.mem_of_getElem? (i := 1268) (by decide +kernel)) rfl
theorem kw1270 : Cond.methodLink RL 156 yX9_cell ∈ TB := mTB (List.mem_of_getElem? (i := 1270) (by decide +kernel)) rfl
theorem kw1271 : Cond.instanceMethod yX9_cell ∈ TB := mTB (List.mem_of_getElem? (i := 1271) (by decide +kernel)) rfl
theorem kw1272 : Cond.selects RX9 yX9_cell yX9_cell ∈ TB := mTB (List.mem_of_getElem? (i := 1272) (by decide +kernel)) rfl
theorem kw1273 : Cond.code yX9_cell cX9_cell 5 (some .int) ∈ TB := mTB (List.mem_of_getElem? (i := 1273) (by decide +kernel)) rfl
theorem kw1275 : Cond.methodLink RL 166 yX9_place ∈ TB := mTB (List.mem_of_getElem? (i := 1275) (by decide +kernel)) rfl
theorem kw1276 : Cond.instanceMethod yX9_place ∈ TB := mTB (List.mem_of_getElem? (i := 1276) (by decide +kernel)) rfl
theorem kw1277 : Cond.selects RX9 yX9_place yX9_place ∈ TB := mTB (List.mem_of_getElem? (i := 1277) (by decide +kernel)) rfl
theorem kw1278 : Cond.code yX9_place cX9_place 3 (some .int) ∈ TB := mTB (List.mem_of_getElem? (i := 1278) (by decide +kernel)) rfl
theorem kw1279 : Cond.methodLink RL 173 yX9_stampOf ∈ TB := mTB (List.mem_of_getElem? (i := 1279) (by decide +kernel)) rfl
theorem kw1280 : Cond.instanceMethod yX9_stampOf ∈ TB := mTB (List.mem_of_getElem? (i := 1280) (by decide +kernel)) rfl
theorem kw1281 : Cond.selects RX9 yX9_stampOf yX9_stampOf ∈ TB := mTB (List.mem_of_getElem? (i := 1281) (by decide +kernel)) rfl
theorem kw1282 : Cond.code yX9_stampOf cX9_stampOf 4 (some .int) ∈ TB := mTB (List.mem_of_getElem? (i := 1282) (by decide +kernel)) rfl
theorem kw1283 : Cond.methodLink RL 182 yX9_event ∈ TB := mTB (List.mem_of_getElem? (i := 1283) (by decide +kernel)) rfl
theorem kw1284 : Cond.instanceMethod yX9_event ∈ TB := mTB (List.mem_of_getElem? (i := 1284) (by decide +kernel)) rfl
theorem kw1285 : Cond.selects RX9 yX9_event yX9_event ∈ TB := mTB (List.mem_of_getElem? (i := 1285) (by decide +kernel)) rfl
theorem kw1286 : Cond.code yX9_event cX9_event 5 (some .int) ∈ TB := mTB (List.mem_of_getElem? (i := 1286) (by decide +kernel)) rfl
theorem kw1288 : Cond.methodLink RL 212 yX9_cursor ∈ TB := mTB (List.mem_of_getElem? (i := 1288) (by decide +kernel)) rfl
theorem kw1289 : Cond.instanceMethod yX9_cursor ∈ TB := mTB (List.mem_of_getElem? (i := 1289) (by decide +kernel)) rfl
theorem kw1290 : Cond.selects RX9 yX9_cursor yX9_cursor ∈ TB := mTB (List.mem_of_getElem? (i := 1290) (by decide +kernel)) rfl
theorem kw1291 : Cond.code yX9_cursor cX9_cursor 4 (some .int) ∈ TB := mTB (List.mem_of_getElem? (i := 1291) (by decide +kernel)) rfl
theorem kw1292 : Cond.methodLink RL 214 yX11_meets ∈ TB := mTB (List.mem_of_getElem? (i := 1292) (by decide +kernel)) rfl
theorem kw1293 : Cond.methodLink RL 217 yX9_ahead ∈ TB := mTB (List.mem_of_getElem? (i := 1293) (by decide +kernel)) rfl
theorem kw1294 : Cond.instanceMethod yX9_ahead ∈ TB := mTB (List.mem_of_getElem? (i := 1294) (by decide +kernel)) rfl
theorem kw1295 : Cond.selects RX9 yX9_ahead yX9_ahead ∈ TB := mTB (List.mem_of_getElem? (i := 1295) (by decide +kernel)) rfl
theorem kw1296 : Cond.code yX9_ahead cX9_ahead 2 (some .int) ∈ TB := mTB (List.mem_of_getElem? (i := 1296) (by decide +kernel)) rfl
theorem kw1297 : Cond.methodLink RX9 231 yX5_countAhead ∈ TB := mTB (List.mem_of_getElem? (i := 1297) (by decide +kernel)) rfl
theorem kw1298 : Cond.instanceMethod yX5_countAhead ∈ TB := mTB (List.mem_of_getElem? (i := 1298) (by decide +kernel)) rfl
theorem kw1299 : Cond.selects RX5 yX5_countAhead yX5_countAhead ∈ TB := mTB (List.mem_of_getElem? (i := 1299) (by decide +kernel)) rfl
theorem kw1300 : Cond.code yX5_countAhead cX5_countAhead 5 (some .int) ∈ TB := mTB (List.mem_of_getElem? (i := 1300) (by decide +kernel)) rfl
theorem kw1301 : Cond.methodLink RL 226 yX9_size ∈ TB := mTB (List.mem_of_getElem? (i := 1301) (by decide +kernel)) rfl
theorem kw1302 : Cond.instanceMethod yX9_size ∈ TB := mTB (List.mem_of_getElem? (i := 1302) (by decide +kernel)) rfl
theorem kw1303 : Cond.selects RX9 yX9_size yX9_size ∈ TB := mTB (List.mem_of_getElem? (i := 1303) (by decide +kernel)) rfl
theorem kw1304 : Cond.code yX9_size cX9_size 2 (some .int) ∈ TB := mTB (List.mem_of_getElem? (i := 1304) (by decide +kernel)) rfl
theorem kw1305 : Cond.methodLink RX9 99 yX5_countCursors ∈ TB := mTB (List.mem_of_getElem? (i := 1305) (by decide +kernel)) rfl
theorem kw1306 : Cond.instanceMethod yX5_countCursors ∈ TB := mTB (List.mem_of_getElem? (i := 1306) (by decide +kernel)) rfl
theorem kw1307 : Cond.selects RX5 yX5_countCursors yX5_countCursors ∈ TB := mTB (List.mem_of_getElem? (i := 1307) (by decide +kernel)) rfl
theorem kw1308 : Cond.code yX5_countCursors cX5_countCursors 3 (some .int) ∈ TB := mTB (List.mem_of_getElem? (i := 1308) (by decide +kernel)) rfl
theorem kw1309 : Cond.methodLink RL 228 yX9_marked ∈ TB := mTB (List.mem_of_getElem? (i := 1309) (by decide +kernel)) rfl
theorem kw1310 : Cond.instanceMethod yX9_marked ∈ TB := mTB (List.mem_of_getElem? (i := 1310) (by decide +kernel)) rfl
theorem kw1311 : Cond.selects RX9 yX9_marked yX9_marked ∈ TB := mTB (List.mem_of_getElem? (i := 1311) (by decide +kernel)) rfl
theorem kw1312 : Cond.code yX9_marked cX9_marked 2 (some .int) ∈ TB := mTB (List.mem_of_getElem? (i := 1312) (by decide +kernel)) rfl
theorem kw1313 : Cond.methodLink RL 121 yL_asks ∈ TB := mTB (List.mem_of_getElem? (i := 1313) (by decide +kernel)) rfl
theorem kw1314 : Cond.static yL_asks ∈ TB := mTB (List.mem_of_getElem? (i := 1314) (by decide +kernel)) rfl
theorem kw1315 : Cond.code yL_asks cL_asks 16 (some .boolean) ∈ TB := mTB (List.mem_of_getElem? (i := 1315) (by decide +kernel)) rfl
theorem kw1316 : Cond.methodLink RL 231 yX9_at ∈ TB := mTB (List.mem_of_getElem? (i := 1316) (by decide +kernel)) rfl
theorem kw1317 : Cond.instanceMethod yX9_at ∈ TB := mTB (List.mem_of_getElem? (i := 1317) (by decide +kernel)) rfl
theorem kw1318 : Cond.selects RX9 yX9_at yX9_at ∈ TB := mTB (List.mem_of_getElem? (i := 1318) (by decide +kernel)) rfl
theorem kw1319 : Cond.code yX9_at cX9_at 4 (some .long) ∈ TB := mTB (List.mem_of_getElem? (i := 1319) (by decide +kernel)) rfl
theorem kw1320 : Cond.methodLink RX9 178 yX9_checkStamp ∈ TB := mTB (List.mem_of_getElem? (i := 1320) (by decide +kernel)) rfl
theorem kw1322 : Cond.instanceMethod yX9_checkStamp ∈ TB := mTB (List.mem_of_getElem? (i := 1322) (by decide +kernel)) rfl
theorem kw1323 : Cond.code yX9_checkStamp cX9_checkStamp 3 none ∈ TB := mTB (List.mem_of_getElem? (i := 1323) (by decide +kernel)) rfl
theorem kw1325 : Cond.methodLink RX9 182 yX2_bitsAt ∈ TB := mTB (List.mem_of_getElem? (i := 1325) (by decide +kernel)) rfl
theorem kw1326 : Cond.instanceMethod yX2_bitsAt ∈ TB := mTB (List.mem_of_getElem? (i := 1326) (by decide +kernel)) rfl
theorem kw1327 : Cond.selects RX2 yX2_bitsAt yX2_bitsAt ∈ TB := mTB (List.mem_of_getElem? (i := 1327) (by decide +kernel)) rfl
theorem kw1328 : Cond.code yX2_bitsAt cX2_bitsAt 5 (some .long) ∈ TB := mTB (List.mem_of_getElem? (i := 1328) (by decide +kernel)) rfl
theorem kw1329 : Cond.methodLink RL 235 yX10_at ∈ TB := mTB (List.mem_of_getElem? (i := 1329) (by decide +kernel)) rfl
theorem kw1330 : Cond.instanceMethod yX10_at ∈ TB := mTB (List.mem_of_getElem? (i := 1330) (by decide +kernel)) rfl
theorem kw1331 : Cond.selects RX10 yX10_at yX10_at ∈ TB := mTB (List.mem_of_getElem? (i := 1331) (by decide +kernel)) rfl
theorem kw1332 : Cond.code yX10_at cX10_at 3 (some .long) ∈ TB := mTB (List.mem_of_getElem? (i := 1332) (by decide +kernel)) rfl
theorem kw1333 : Cond.methodLink RL 238 yX9_differs ∈ TB := mTB (List.mem_of_getElem? (i := 1333) (by decide +kernel)) rfl
theorem kw1334 : Cond.instanceMethod yX9_differs ∈ TB := mTB (List.mem_of_getElem? (i := 1334) (by decide +kernel)) rfl
theorem kw1335 : Cond.selects RX9 yX9_differs yX9_differs ∈ TB := mTB (List.mem_of_getElem? (i := 1335) (by decide +kernel)) rfl
theorem kw1336 : Cond.code yX9_differs cX9_differs 10 (some .int) ∈ TB := mTB (List.mem_of_getElem? (i := 1336) (by decide +kernel)) rfl
theorem kw1337 : Cond.constantLong RX9 186 (-1) ∈ TB := mTB (List.mem_of_getElem? (i := 1337) (by decide +kernel)) rfl
theorem kw1338 : Cond.methodLink RX9 188 yJ13_bitCount_95d88 ∈ TB := mTB (List.mem_of_getElem? (i := 1338) (by decide +kernel)) rfl
theorem kw1339 : Cond.static yJ13_bitCount_95d88 ∈ TB := mTB (List.mem_of_getElem? (i := 1339) (by decide +kernel)) rfl
theorem kw1340 : Cond.code yJ13_bitCount_95d88 cJ13_bitCount_95d88 2 (some .int) ∈ TB := mTB (List.mem_of_getElem? (i := 1340) (by decide +kernel)) rfl
theorem kw1341 : Cond.constantLong RJ13 314 6148914691236517205 ∈ TB := mTB (List.mem_of_getElem? (i := 1341) (by decide +kernel)) rfl
theorem kw1342 : Cond.constantLong RJ13 316 3689348814741910323 ∈ TB := mTB (List.mem_of_getElem? (i := 1342) (by decide +kernel)) rfl
theorem kw1343 : Cond.constantLong RJ13 318 1085102592571150095 ∈ TB := mTB (List.mem_of_getElem? (i := 1343) (by decide +kernel)) rfl
theorem kw1344 : Cond.constantLong RL 242 (-1) ∈ TB := mTB (List.mem_of_getElem? (i := 1344) (by decide +kernel)) rfl
theorem kw1345 : Cond.methodLink RL 244 yJ13_bitCount_95d88 ∈ TB := mTB (List.mem_of_getElem? (i := 1345) (by decide +kernel)) rfl
theorem kw1346 : Cond.methodLink RL 250 yX9_fullest ∈ TB := mTB (List.mem_of_getElem? (i := 1346) (by decide +kernel)) rfl
theorem kw1347 : Cond.instanceMethod yX9_fullest ∈ TB := mTB (List.mem_of_getElem? (i := 1347) (by decide +kernel)) rfl
theorem kw1348 : Cond.selects RX9 yX9_fullest yX9_fullest ∈ TB := mTB (List.mem_of_getElem? (i := 1348) (by decide +kernel)) rfl
theorem kw1349 : Cond.code yX9_fullest cX9_fullest 2 (some .int) ∈ TB := mTB (List.mem_of_getElem? (i := 1349) (by decide +kernel)) rfl
theorem kw1350 : Cond.methodLink RX9 200 yX2_stampOfMostMembers ∈ TB := mTB (List.mem_of_getElem? (i := 1350) (by decide +kernel)) rfl
theorem kw1351 : Cond.instanceMethod yX2_stampOfMostMembers ∈ TB := mTB (List.mem_of_getElem? (i := 1351) (by decide +kernel)) rfl
theorem kw1352 : Cond.selects RX2 yX2_stampOfMostMembers yX2_stampOfMostMembers ∈ TB := mTB (List.mem_of_getElem? (i := 1352) (by decide +kernel)) rfl
theorem kw1353 : Cond.code yX2_stampOfMostMembers cX2_stampOfMostMembers 6 (some .int) ∈ TB := mTB (List.mem_of_getElem? (i := 1353) (by decide +kernel)) rfl
theorem kw1354 : Cond.methodLink RX2 44 yJ13_bitCount_95d88 ∈ TB := mTB (List.mem_of_getElem? (i := 1354) (by decide +kernel)) rfl
theorem kw1355 : Cond.methodLink RL 257 yX9_since ∈ TB := mTB (List.mem_of_getElem? (i := 1355) (by decide +kernel)) rfl
theorem kw1356 : Cond.instanceMethod yX9_since ∈ TB := mTB (List.mem_of_getElem? (i := 1356) (by decide +kernel)) rfl
theorem kw1357 : Cond.selects RX9 yX9_since yX9_since ∈ TB := mTB (List.mem_of_getElem? (i := 1357) (by decide +kernel)) rfl
theorem kw1358 : Cond.code yX9_since cX9_since 4 (some .int) ∈ TB := mTB (List.mem_of_getElem? (i := 1358) (by decide +kernel)) rfl
theorem kw1359 : Cond.methodLink RX9 197 yX2_latestChangeOf ∈ TB := mTB (List.mem_of_getElem? (i := 1359) (by decide +kernel)) rfl
theorem kw1360 : Cond.instanceMethod yX2_latestChangeOf ∈ TB := mTB (List.mem_of_getElem? (i := 1360) (by decide +kernel)) rfl
theorem kw1361 : Cond.selects RX2 yX2_latestChangeOf yX2_latestChangeOf ∈ TB := mTB (List.mem_of_getElem? (i := 1361) (by decide +kernel)) rfl
theorem kw1362 : Cond.code yX2_latestChangeOf cX2_latestChangeOf 8 (some .int) ∈ TB := mTB (List.mem_of_getElem? (i := 1362) (by decide +kernel)) rfl
theorem kw1363 : Cond.methodLink RL 260 yX10_bits ∈ TB := mTB (List.mem_of_getElem? (i := 1363) (by decide +kernel)) rfl
theorem kw1364 : Cond.methodLink RL 264 yX9_common ∈ TB := mTB (List.mem_of_getElem? (i := 1364) (by decide +kernel)) rfl
theorem kw1365 : Cond.instanceMethod yX9_common ∈ TB := mTB (List.mem_of_getElem? (i := 1365) (by decide +kernel)) rfl
theorem kw1366 : Cond.selects RX9 yX9_common yX9_common ∈ TB := mTB (List.mem_of_getElem? (i := 1366) (by decide +kernel)) rfl
theorem kw1367 : Cond.code yX9_common cX9_common 5 (some .int) ∈ TB := mTB (List.mem_of_getElem? (i := 1367) (by decide +kernel)) rfl
theorem kw1368 : Cond.methodLink RX9 235 yX7_bits ∈ TB := mTB (List.mem_of_getElem? (i := 1368) (by decide +kernel)) rfl
theorem kw1369 : Cond.instanceMethod yX7_bits ∈ TB := mTB (List.mem_of_getElem? (i := 1369) (by decide +kernel)) rfl
theorem kw1370 : Cond.selects RX7 yX7_bits yX7_bits ∈ TB := mTB (List.mem_of_getElem? (i := 1370) (by decide +kernel)) rfl
theorem kw1371 : Cond.code yX7_bits cX7_bits 4 (some .long) ∈ TB := mTB (List.mem_of_getElem? (i := 1371) (by decide +kernel)) rfl
theorem kw1372 : Cond.methodLink RL 267 yX9_isWithin ∈ TB := mTB (List.mem_of_getElem? (i := 1372) (by decide +kernel)) rfl
theorem kw1373 : Cond.instanceMethod yX9_isWithin ∈ TB := mTB (List.mem_of_getElem? (i := 1373) (by decide +kernel)) rfl
theorem kw1374 : Cond.selects RX9 yX9_isWithin yX9_isWithin ∈ TB := mTB (List.mem_of_getElem? (i := 1374) (by decide +kernel)) rfl
theorem kw1375 : Cond.code yX9_isWithin cX9_isWithin 5 (some .boolean) ∈ TB := mTB (List.mem_of_getElem? (i := 1375) (by decide +kernel)) rfl
theorem kw1376 : Cond.methodLink RL 271 yX9_likeness ∈ TB := mTB (List.mem_of_getElem? (i := 1376) (by decide +kernel)) rfl
theorem kw1377 : Cond.instanceMethod yX9_likeness ∈ TB := mTB (List.mem_of_getElem? (i := 1377) (by decide +kernel)) rfl
theorem kw1378 : Cond.selects RX9 yX9_likeness yX9_likeness ∈ TB := mTB (List.mem_of_getElem? (i := 1378) (by decide +kernel)) rfl
theorem kw1379 : Cond.code yX9_likeness cX9_likeness 8 (some .double) ∈ TB := mTB (List.mem_of_getElem? (i := 1379) (by decide +kernel)) rfl
theorem kw1380 : Cond.sameMethod RJ5 RJ5 "append" "(Ljava/lang/String;)Ljava/lang/AbstractStringBuilder;" ∈ TB := mTB (List.mem_of_getElem? (i := 1380) (by decide +kernel)) rfl
theorem kw1382 : Cond.sameMethod RJ5 RJ5 "ensureCapacityInternal" "(I)V" ∈ TB := mTB (List.mem_of_getElem? (i := 1382) (by decide +kernel)) rfl
theorem kw1383 : Cond.sameMethod RJ5 RJ5 "newCapacity" "(I)I" ∈ TB := mTB (List.mem_of_getElem? (i := 1383) (by decide +kernel)) rfl
theorem kw1384 : Cond.sameMethod RJ5 RJ5 "putStringAt" "(ILjava/lang/String;)V" ∈ TB := mTB (List.mem_of_getElem? (i := 1384) (by decide +kernel)) rfl
theorem kw1385 : Cond.sameMethod RJ5 RJ5 "inflateIfNeededFor" "(Ljava/lang/String;)V" ∈ TB := mTB (List.mem_of_getElem? (i := 1385) (by decide +kernel)) rfl
theorem kw1387 : Cond.sameMethod RJ5 RJ5 "append" "(I)Ljava/lang/AbstractStringBuilder;" ∈ TB := mTB (List.mem_of_getElem? (i := 1387) (by decide +kernel)) rfl
theorem kw1388 : Cond.selects RJ4 yJ5_append_cf1ce yJ4_append_cf1ce ∈ TB := mTB (List.mem_of_getElem? (i := 1388) (by decide +kernel)) rfl
theorem kw1389 : Cond.sameMethod RJ5 RJ5 "append" "(C)Ljava/lang/AbstractStringBuilder;" ∈ TB := mTB (List.mem_of_getElem? (i := 1389) (by decide +kernel)) rfl
theorem kw1390 : Cond.selects RJ4 yJ4_length_8abf5 yJ4_length_8abf5 ∈ TB := mTB (List.mem_of_getElem? (i := 1390) (by decide +kernel)) rfl
theorem iwJ0 : ∀ w ∈ u_ws RJ0 TJ0 2, w ∈ TB := by
  show ∀ w ∈ [u_lay RJ0 TJ0 0, u_lay RJ0 TJ0 1], w ∈ TB
  simp only [List.forall_mem_cons]
  exact ⟨mTB (List.mem_of_getElem? (i := 641) (by decide +kernel)) rfl, mTB (List.mem_of_getElem? (i := 643) (by decide +kernel)) rfl, fun _ h => nomatch h⟩
theorem iwJ4 : ∀ w ∈ u_ws RJ4 TJ4 4, w ∈ TB := by
  show ∀ w ∈ [u_lay RJ4 TJ4 0, u_lay RJ4 TJ4 1, u_lay RJ4 TJ4 2, u_lay RJ4 TJ4 3], w ∈ TB
  simp only [List.forall_mem_cons]
  exact ⟨mTB (List.mem_of_getElem? (i := 433) (by decide +kernel)) rfl, mTB (List.mem_of_getElem? (i := 435) (by decide +kernel)) rfl, mTB (List.mem_of_getElem? (i := 437) (by decide +kernel)) rfl, mTB (List.mem_of_getElem? (i := 439) (by decide +kernel)) rfl, fun _ h => nomatch h⟩
theorem iwX0 : ∀ w ∈ u_ws RX0 TX0 8, w ∈ TB := by
  show ∀ w ∈ [u_lay RX0 TX0 0, u_lay RX0 TX0 1, u_lay RX0 TX0 2, u_lay RX0 TX0 3, u_lay RX0 TX0 4, u_lay RX0 TX0 5, u_lay RX0 TX0 6, u_lay RX0 TX0 7], w ∈ TB
  simp only [List.forall_mem_cons]
  exact ⟨mTB (List.mem_of_getElem? (i := 227) (by decide +kernel)) rfl, mTB (List.mem_of_getElem? (i := 229) (by decide +kernel)) rfl, mTB (List.mem_of_getElem? (i := 231) (by decide +kernel)) rfl, mTB (List.mem_of_getElem? (i := 233) (by decide +kernel)) rfl, mTB (List.mem_of_getElem? (i := 235) (by decide +kernel)) rfl, mTB (List.mem_of_getElem? (i := 237) (by decide +kernel)) rfl, mTB (List.mem_of_getElem? (i := 239) (by decide +kernel)) rfl, mTB (List.mem_of_getElem? (i := 241) (by decide +kernel)) rfl, fun _ h => nomatch h⟩
theorem iwX1 : ∀ w ∈ u_ws RX1 TX1 2, w ∈ TB := by
  show ∀ w ∈ [u_lay RX1 TX1 0, u_lay RX1 TX1 1], w ∈ TB
  simp only [List.forall_mem_cons]
  exact ⟨mTB (List.mem_of_getElem? (i := 78) (by decide +kernel)) rfl, mTB (List.mem_of_getElem? (i := 80) (by decide +kernel)) rfl, fun _ h => nomatch h⟩
theorem iwX2 : ∀ w ∈ u_ws RX2 TX2 6, w ∈ TB := by
  show ∀ w ∈ [u_lay RX2 TX2 0, u_lay RX2 TX2 1, u_lay RX2 TX2 2, u_lay RX2 TX2 3, u_lay RX2 TX2 4, u_lay RX2 TX2 5], w ∈ TB
  simp only [List.forall_mem_cons]
  exact ⟨mTB (List.mem_of_getElem? (i := 150) (by decide +kernel)) rfl, mTB (List.mem_of_getElem? (i := 152) (by decide +kernel)) rfl, mTB (List.mem_of_getElem? (i := 154) (by decide +kernel)) rfl, mTB (List.mem_of_getElem? (i := 156) (by decide +kernel)) rfl, mTB (List.mem_of_getElem? (i := 158) (by decide +kernel)) rfl, mTB (List.mem_of_getElem? (i := 160) (by decide +kernel)) rfl, fun _ h => nomatch h⟩
theorem iwX3 : ∀ w ∈ u_ws RX3 TX3 9, w ∈ TB := by
  show ∀ w ∈ [u_lay RX3 TX3 0, u_lay RX3 TX3 1, u_lay RX3 TX3 2, u_lay RX3 TX3 3, u_lay RX3 TX3 4, u_lay RX3 TX3 5, u_lay RX3 TX3 6, u_lay RX3 TX3 7, u_lay RX3 TX3 8], w ∈ TB
  simp only [List.forall_mem_cons]
  exact ⟨mTB (List.mem_of_getElem? (i := 829) (by decide +kernel)) rfl, mTB (List.mem_of_getElem? (i := 831) (by decide +kernel)) rfl, mTB (List.mem_of_getElem? (i := 833) (by decide +kernel)) rfl, mTB (List.mem_of_getElem? (i := 835) (by decide +kernel)) rfl, mTB (List.mem_of_getElem? (i := 837) (by decide +kernel)) rfl, mTB (List.mem_of_getElem? (i := 839) (by decide +kernel)) rfl, mTB (List.mem_of_getElem? (i := 841) (by decide +kernel)) rfl, mTB (List.mem_of_getElem? (i := 843) (by decide +kernel)) rfl, mTB (List.mem_of_getElem? (i := 845) (by decide +kernel)) rfl, fun _ h => nomatch h⟩
theorem iwX4 : ∀ w ∈ u_ws RX4 TX4 2, w ∈ TB := by
  show ∀ w ∈ [u_lay RX4 TX4 0, u_lay RX4 TX4 1], w ∈ TB
  simp only [List.forall_mem_cons]
  exact ⟨mTB (List.mem_of_getElem? (i := 112) (by decide +kernel)) rfl, mTB (List.mem_of_getElem? (i := 114) (by decide +kernel)) rfl, fun _ h => nomatch h⟩
theorem iwX5 : ∀ w ∈ u_ws RX5 TX5 9, w ∈ TB := by
  show ∀ w ∈ [u_lay RX5 TX5 0, u_lay RX5 TX5 1, u_lay RX5 TX5 2, u_lay RX5 TX5 3, u_lay RX5 TX5 4, u_lay RX5 TX5 5, u_lay RX5 TX5 6, u_lay RX5 TX5 7, u_lay RX5 TX5 8], w ∈ TB
  simp only [List.forall_mem_cons]
  exact ⟨mTB (List.mem_of_getElem? (i := 266) (by decide +kernel)) rfl, mTB (List.mem_of_getElem? (i := 268) (by decide +kernel)) rfl, mTB (List.mem_of_getElem? (i := 270) (by decide +kernel)) rfl, mTB (List.mem_of_getElem? (i := 272) (by decide +kernel)) rfl, mTB (List.mem_of_getElem? (i := 274) (by decide +kernel)) rfl, mTB (List.mem_of_getElem? (i := 276) (by decide +kernel)) rfl, mTB (List.mem_of_getElem? (i := 278) (by decide +kernel)) rfl, mTB (List.mem_of_getElem? (i := 280) (by decide +kernel)) rfl, mTB (List.mem_of_getElem? (i := 282) (by decide +kernel)) rfl, fun _ h => nomatch h⟩
theorem iwX7 : ∀ w ∈ u_ws RX7 TX7 7, w ∈ TB := by
  show ∀ w ∈ [u_lay RX7 TX7 0, u_lay RX7 TX7 1, u_lay RX7 TX7 2, u_lay RX7 TX7 3, u_lay RX7 TX7 4, u_lay RX7 TX7 5, u_lay RX7 TX7 6], w ∈ TB
  simp only [List.forall_mem_cons]
  exact ⟨mTB (List.mem_of_getElem? (i := 185) (by decide +kernel)) rfl, mTB (List.mem_of_getElem? (i := 187) (by decide +kernel)) rfl, mTB (List.mem_of_getElem? (i := 189) (by decide +kernel)) rfl, mTB (List.mem_of_getElem? (i := 191) (by decide +kernel)) rfl, mTB (List.mem_of_getElem? (i := 193) (by decide +kernel)) rfl, mTB (List.mem_of_getElem? (i := 195) (by decide +kernel)) rfl, mTB (List.mem_of_getElem? (i := 197) (by decide +kernel)) rfl, fun _ h => nomatch h⟩
theorem iwX8 : ∀ w ∈ u_ws RX8 TX8 3, w ∈ TB := by
  show ∀ w ∈ [u_lay RX8 TX8 0, u_lay RX8 TX8 1, u_lay RX8 TX8 2], w ∈ TB
  simp only [List.forall_mem_cons]
  exact ⟨mTB (List.mem_of_getElem? (i := 96) (by decide +kernel)) rfl, mTB (List.mem_of_getElem? (i := 98) (by decide +kernel)) rfl, mTB (List.mem_of_getElem? (i := 100) (by decide +kernel)) rfl, fun _ h => nomatch h⟩
theorem iwX9 : ∀ w ∈ u_ws RX9 TX9 6, w ∈ TB := by
  show ∀ w ∈ [u_lay RX9 TX9 0, u_lay RX9 TX9 1, u_lay RX9 TX9 2, u_lay RX9 TX9 3, u_lay RX9 TX9 4, u_lay RX9 TX9 5], w ∈ TB
  simp only [List.forall_mem_cons]
  exact ⟨mTB (List.mem_of_getElem? (i := 295) (by decide +kernel)) rfl, mTB (List.mem_of_getElem? (i := 297) (by decide +kernel)) rfl, mTB (List.mem_of_getElem? (i := 299) (by decide +kernel)) rfl, mTB (List.mem_of_getElem? (i := 301) (by decide +kernel)) rfl, mTB (List.mem_of_getElem? (i := 303) (by decide +kernel)) rfl, mTB (List.mem_of_getElem? (i := 305) (by decide +kernel)) rfl, fun _ h => nomatch h⟩
theorem iwX10 : ∀ w ∈ u_ws RX10 TX10 10, w ∈ TB := by
  show ∀ w ∈ [u_lay RX10 TX10 0, u_lay RX10 TX10 1, u_lay RX10 TX10 2, u_lay RX10 TX10 3, u_lay RX10 TX10 4, u_lay RX10 TX10 5, u_lay RX10 TX10 6, u_lay RX10 TX10 7, u_lay RX10 TX10 8, u_lay RX10 TX10 9], w ∈ TB
  simp only [List.forall_mem_cons]
  exact ⟨mTB (List.mem_of_getElem? (i := 349) (by decide +kernel)) rfl, mTB (List.mem_of_getElem? (i := 351) (by decide +kernel)) rfl, mTB (List.mem_of_getElem? (i := 353) (by decide +kernel)) rfl, mTB (List.mem_of_getElem? (i := 355) (by decide +kernel)) rfl, mTB (List.mem_of_getElem? (i := 357) (by decide +kernel)) rfl, mTB (List.mem_of_getElem? (i := 359) (by decide +kernel)) rfl, mTB (List.mem_of_getElem? (i := 361) (by decide +kernel)) rfl, mTB (List.mem_of_getElem? (i := 363) (by decide +kernel)) rfl, mTB (List.mem_of_getElem? (i := 365) (by decide +kernel)) rfl, mTB (List.mem_of_getElem? (i := 367) (by decide +kernel)) rfl, fun _ h => nomatch h⟩
theorem iwX11 : ∀ w ∈ u_ws RX11 TX11 8, w ∈ TB := by
  show ∀ w ∈ [u_lay RX11 TX11 0, u_lay RX11 TX11 1, u_lay RX11 TX11 2, u_lay RX11 TX11 3, u_lay RX11 TX11 4, u_lay RX11 TX11 5, u_lay RX11 TX11 6, u_lay RX11 TX11 7], w ∈ TB
  simp only [List.forall_mem_cons]
  exact ⟨mTB (List.mem_of_getElem? (i := 1141) (by decide +kernel)) rfl, mTB (List.mem_of_getElem? (i := 1143) (by decide +kernel)) rfl, mTB (List.mem_of_getElem? (i := 1145) (by decide +kernel)) rfl, mTB (List.mem_of_getElem? (i := 1147) (by decide +kernel)) rfl, mTB (List.mem_of_getElem? (i := 1149) (by decide +kernel)) rfl, mTB (List.mem_of_getElem? (i := 1151) (by decide +kernel)) rfl, mTB (List.mem_of_getElem? (i := 1153) (by decide +kernel)) rfl, mTB (List.mem_of_getElem? (i := 1155) (by decide +kernel)) rfl, fun _ h => nomatch h⟩
theorem iwX12 : ∀ w ∈ u_ws RX12 TX12 9, w ∈ TB := by
  show ∀ w ∈ [u_lay RX12 TX12 0, u_lay RX12 TX12 1, u_lay RX12 TX12 2, u_lay RX12 TX12 3, u_lay RX12 TX12 4, u_lay RX12 TX12 5, u_lay RX12 TX12 6, u_lay RX12 TX12 7, u_lay RX12 TX12 8], w ∈ TB
  simp only [List.forall_mem_cons]
  exact ⟨mTB (List.mem_of_getElem? (i := 387) (by decide +kernel)) rfl, mTB (List.mem_of_getElem? (i := 389) (by decide +kernel)) rfl, mTB (List.mem_of_getElem? (i := 391) (by decide +kernel)) rfl, mTB (List.mem_of_getElem? (i := 393) (by decide +kernel)) rfl, mTB (List.mem_of_getElem? (i := 395) (by decide +kernel)) rfl, mTB (List.mem_of_getElem? (i := 397) (by decide +kernel)) rfl, mTB (List.mem_of_getElem? (i := 399) (by decide +kernel)) rfl, mTB (List.mem_of_getElem? (i := 401) (by decide +kernel)) rfl, mTB (List.mem_of_getElem? (i := 403) (by decide +kernel)) rfl, fun _ h => nomatch h⟩
def vNF : List (String × Nat × String × String × String × String) := [(RX3, 163, "TwinSets$Input", "bytes", "[B", "TwinSets"), (RX9, 48, "TwinSets$Input", "length", "I", "TwinSets"), (RX9, 106, "TwinSets$UndoHistory", "count", "I", "TwinSets"), (RX9, 171, "TwinSets$Log", "stamps", "[I", "TwinSets"), (RX9, 172, "TwinSets$Log", "numbers", "[I", "TwinSets"), (RX9, 175, "TwinSets$Log", "kinds", "[I", "TwinSets"), (RX9, 143, "TwinSets$Log", "count", "I", "TwinSets"), (RX9, 138, "TwinSets$Log", "firstStamp", "I", "TwinSets"), (RX5, 123, "TwinSets$TwinRows", "members", "[I", "TwinSets"), (RX9, 157, "TwinSets$TwinRows", "members", "[I", "TwinSets"), (RX9, 154, "TwinSets$TwinRows", "places", "[I", "TwinSets"), (RX5, 126, "TwinSets$TwinRows", "places", "[I", "TwinSets"), (RX5, 93, "TwinSets$TwinRows", "stamps", "[I", "TwinSets"), (RX9, 166, "TwinSets$TwinRows", "stamps", "[I", "TwinSets"), (RX5, 96, "TwinSets$TwinRows", "log", "LTwinSets$Log;", "TwinSets"), (RX9, 134, "TwinSets$TwinRows", "log", "LTwinSets$Log;", "TwinSets"), (RX5, 72, "TwinSets$TwinRows", "name", "Ljava/lang/String;", "TwinSets"), (RX5, 86, "TwinSets$TwinRows", "size", "I", "TwinSets"), (RX9, 126, "TwinSets$TwinRows", "size", "I", "TwinSets"), (RX9, 131, "TwinSets$TwinRows", "generation", "I", "TwinSets"), (RX5, 129, "TwinSets$TwinRows", "generation", "I", "TwinSets"), (RX5, 48, "TwinSets$Cursor", "isInUse", "Z", "TwinSets"), (RX9, 277, "TwinSets$Cursor", "isInUse", "Z", "TwinSets"), (RX5, 52, "TwinSets$Cursor", "isOpen", "Z", "TwinSets"), (RX9, 215, "TwinSets$Cursor", "isOpen", "Z", "TwinSets"), (RX9, 219, "TwinSets$Cursor", "isStrict", "Z", "TwinSets"), (RX9, 207, "TwinSets$Cursor", "set", "I", "TwinSets"), (RX5, 139, "TwinSets$Cursor", "set", "I", "TwinSets"), (RX5, 120, "TwinSets$Cursor", "position", "I", "TwinSets"), (RX9, 212, "TwinSets$Cursor", "position", "I", "TwinSets"), (RX9, 222, "TwinSets$Cursor", "madeAt", "I", "TwinSets"), (RX9, 225, "TwinSets$Cursor", "metCount", "I", "TwinSets"), (RX5, 148, "TwinSets$Cursor", "metCount", "I", "TwinSets"), (RX9, 228, "TwinSets$Cursor", "lastMet", "I", "TwinSets"), (RX5, 151, "TwinSets$Cursor", "lastMet", "I", "TwinSets"), (RX3, 128, "TwinSets$State", "sets", "[LTwinSets$TwinRows;", "TwinSets"), (RX9, 283, "TwinSets$State", "sets", "[LTwinSets$TwinRows;", "TwinSets"), (RX9, 270, "TwinSets$State", "cursors", "[LTwinSets$Cursor;", "TwinSets"), (RX9, 118, "TwinSets$State", "marks", "[I", "TwinSets"), (RX3, 125, "TwinSets$State", "universe", "I", "TwinSets"), (RX9, 87, "TwinSets$State", "universe", "I", "TwinSets"), (RX9, 90, "TwinSets$State", "horizon", "I", "TwinSets"), (RX3, 94, "TwinSets$State", "setCount", "I", "TwinSets"), (RX9, 84, "TwinSets$State", "setCount", "I", "TwinSets"), (RX9, 96, "TwinSets$State", "markCount", "I", "TwinSets"), (RX3, 142, "TwinSets$State", "markCount", "I", "TwinSets"), (RX9, 93, "TwinSets$State", "clock", "I", "TwinSets"), (RX9, 103, "TwinSets$State", "cost", "I", "TwinSets"), (RX12, 40, "TwinSetsLaw$Box", "size", "I", "TwinSetsLaw"), (RL, 143, "TwinSetsLaw$Box", "size", "I", "TwinSetsLaw"), (RX12, 68, "TwinSetsLaw$Box", "generation", "I", "TwinSetsLaw"), (RL, 146, "TwinSetsLaw$Box", "generation", "I", "TwinSetsLaw"), (RL, 179, "TwinSetsLaw$Box", "events", "I", "TwinSetsLaw"), (RX12, 26, "TwinSetsLaw$Box", "members", "[I", "TwinSetsLaw"), (RL, 160, "TwinSetsLaw$Box", "members", "[I", "TwinSetsLaw"), (RX12, 29, "TwinSetsLaw$Box", "places", "[I", "TwinSetsLaw"), (RL, 163, "TwinSetsLaw$Box", "places", "[I", "TwinSetsLaw"), (RX11, 24, "TwinSetsLaw$Box", "stamps", "[I", "TwinSetsLaw"), (RX12, 50, "TwinSetsLaw$Box", "stamps", "[I", "TwinSetsLaw"), (RL, 176, "TwinSetsLaw$Box", "stamps", "[I", "TwinSetsLaw"), (RL, 186, "TwinSetsLaw$Box", "stamp", "[I", "TwinSetsLaw"), (RL, 189, "TwinSetsLaw$Box", "number", "[I", "TwinSetsLaw"), (RL, 192, "TwinSetsLaw$Box", "kind", "[I", "TwinSetsLaw"), (RL, 253, "TwinSetsLaw$Box", "then", "[J", "TwinSetsLaw"), (RL, 46, "TwinSetsLaw$Sets", "many", "I", "TwinSetsLaw"), (RL, 39, "TwinSetsLaw$Sets", "universe", "I", "TwinSetsLaw"), (RL, 43, "TwinSetsLaw$Sets", "horizon", "I", "TwinSetsLaw"), (RL, 99, "TwinSetsLaw$Sets", "clock", "I", "TwinSetsLaw"), (RL, 223, "TwinSetsLaw$Sets", "cost", "I", "TwinSetsLaw"), (RL, 96, "TwinSetsLaw$Sets", "marks", "I", "TwinSetsLaw"), (RL, 80, "TwinSetsLaw$Sets", "box", "[LTwinSetsLaw$Box;", "TwinSetsLaw"), (RL, 124, "TwinSetsLaw$Sets", "cursor", "[LTwinSetsLaw$Cursor;", "TwinSetsLaw"), (RL, 92, "TwinSetsLaw$Sets", "mark", "[I", "TwinSetsLaw"), (RX9, 75, "TwinSets$Parser", "errorCode", "I", "TwinSets"), (RX9, 71, "TwinSets$Parser", "errorAt", "I", "TwinSets"), (RX12, 61, "TwinSetsLaw$Cursor", "of", "LTwinSetsLaw$Box;", "TwinSetsLaw"), (RL, 128, "TwinSetsLaw$Cursor", "of", "LTwinSetsLaw$Box;", "TwinSetsLaw"), (RL, 195, "TwinSetsLaw$Cursor", "set", "I", "TwinSetsLaw"), (RX12, 65, "TwinSetsLaw$Cursor", "position", "I", "TwinSetsLaw"), (RL, 197, "TwinSetsLaw$Cursor", "position", "I", "TwinSetsLaw"), (RL, 203, "TwinSetsLaw$Cursor", "made", "I", "TwinSetsLaw"), (RX12, 74, "TwinSetsLaw$Cursor", "met", "I", "TwinSetsLaw"), (RL, 206, "TwinSetsLaw$Cursor", "met", "I", "TwinSetsLaw"), (RX12, 77, "TwinSetsLaw$Cursor", "last", "I", "TwinSetsLaw"), (RL, 209, "TwinSetsLaw$Cursor", "last", "I", "TwinSetsLaw"), (RX12, 57, "TwinSetsLaw$Cursor", "open", "Z", "TwinSetsLaw"), (RL, 134, "TwinSetsLaw$Cursor", "open", "Z", "TwinSetsLaw"), (RL, 200, "TwinSetsLaw$Cursor", "strict", "Z", "TwinSetsLaw")]
def vNM : List (String × Nat × MethodName × String) := [(RX9, 9, yX1_init, "TwinSets"), (RX9, 18, yX8_init, "TwinSets"), (RX9, 25, yX4_init, "TwinSets"), (RX5, 27, yX7_init, "TwinSets"), (RX7, 23, yX2_init, "TwinSets"), (RX5, 28, yX0_init, "TwinSets"), (RL, 34, yX12_init, "TwinSetsLaw"), (RX12, 9, yX10_init, "TwinSetsLaw"), (RL, 283, yX11_init, "TwinSetsLaw")]
