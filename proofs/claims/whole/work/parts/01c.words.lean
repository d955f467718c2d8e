/-! the tables' words that every walk may use, each by its place -/
def TB : List Cond := Cond.selects RJ4 yJ5_ensureCapacityInternal_d00df yJ5_ensureCapacityInternal_d00df :: lw_tbl.filter goodWord
theorem mTB {w : Cond} (h : w ∈ lw_tbl) (g : goodWord w = true) : w ∈ TB := List.mem_cons_of_mem _ (List.mem_filter.mpr ⟨h, g⟩)
theorem kwE : Cond.selects RJ4 yJ5_ensureCapacityInternal_d00df yJ5_ensureCapacityInternal_d00df ∈ TB := List.mem_cons_self
theorem TB_good {w : Cond} (h : w ∈ TB) : goodWord w = true := (List.mem_cons.mp h).elim (fun e => e ▸ rfl) (fun h => (List.mem_filter.mp h).2)
theorem TB_goodIn : GoodIn TB TB := fun w h => ⟨h, good_of_word (TB_good h)⟩
theorem TB1 {w : Cond} (h : w ∈ TB) : w ∈ TB ∧ ((w.onTables && w.keeps) = true ∨ ∃ ty, w = .arrayClass ty) := TB_goodIn w h
theorem gdI {w : Cond} (h5 : w ∈ TB) : GoodIn TB (w :: TB) := fun v hv => (List.mem_cons.mp hv).elim (fun e => e ▸ TB1 h5) (fun h => TB1 h)
theorem gdA {ws : List Cond} {w : Cond} (h : ∀ v ∈ ws, v ∈ TB) (h5 : w ∈ TB) : GoodIn TB (ws ++ (w :: TB)) := fun v hv => (List.mem_append.mp hv).elim (fun q => TB1 (h v q)) (fun q => gdI h5 v q)
theorem gdV {own C : String} {idx : Nat} {y : MethodName} {w : Cond} (h1 : Cond.methodLink own idx y ∈ TB) (h2 : Cond.instanceMethod y ∈ TB) (h3 : Cond.selects C y y ∈ TB) (h4 : Cond.initialized C ∈ TB) (h5 : w ∈ TB) : GoodIn TB (wsV own idx C y (w :: TB)) := gdA (by simp only [List.forall_mem_cons]; exact ⟨h1, h2, h3, h4, fun _ h => nomatch h⟩) h5
theorem gdS {own : String} {idx : Nat} {y : MethodName} {w : Cond} (h1 : Cond.methodLink own idx y ∈ TB) (h2 : Cond.static y ∈ TB) (h4 : Cond.initialized y.cls ∈ TB) (h5 : w ∈ TB) : GoodIn TB (va_wsS own idx y (w :: TB)) := gdA (by simp only [List.forall_mem_cons]; exact ⟨h1, h2, h4, fun _ h => nomatch h⟩) h5
theorem gdU {own C owner : String} {idx : Nat} {x y : MethodName} {w : Cond} (h1 : Cond.methodLink own idx x ∈ TB) (h2 : Cond.sameMethod x.cls owner x.name x.desc ∈ TB) (h3 : Cond.selects C x y ∈ TB) (h4 : Cond.instanceMethod y ∈ TB) (h6 : Cond.initialized y.cls ∈ TB) (h5 : w ∈ TB) : GoodIn TB (va_wsU own idx C owner x y (w :: TB)) := gdA (by simp only [List.forall_mem_cons]; exact ⟨h1, h2, h3, h4, h6, fun _ h => nomatch h⟩) h5
theorem gdO {own C owner : String} {idx : Nat} {x y : MethodName} {w : Cond} (h1 : Cond.methodLink own idx x ∈ TB) (h2 : Cond.sameMethod x.cls owner x.name x.desc ∈ TB) (h7 : Cond.instanceMethod ⟨owner, x.name, x.desc⟩ ∈ TB) (h3 : Cond.selects C x y ∈ TB) (h4 : Cond.instanceMethod y ∈ TB) (h6 : Cond.initialized y.cls ∈ TB) (h5 : w ∈ TB) : GoodIn TB (va_wsO own idx C owner x y (w :: TB)) := gdA (by simp only [List.forall_mem_cons]; exact ⟨h1, h2, h7, h3, h4, h6, fun _ h => nomatch h⟩) h5
theorem gdSU {own : String} {idx : Nat} {y : MethodName} {w : Cond} (h1 : Cond.methodLink own idx y ∈ TB) (h2 : Cond.sameMethod y.cls y.cls y.name y.desc ∈ TB) (h3 : Cond.superclass own y.cls ∈ TB) (h4 : Cond.instanceMethod y ∈ TB) (h6 : Cond.initialized y.cls ∈ TB) (h5 : w ∈ TB) : GoodIn TB (va_wsSU own idx y (w :: TB)) := gdA (by simp only [List.forall_mem_cons]; exact ⟨h1, h2, h3, h4, h6, fun _ h => nomatch h⟩) h5
theorem kw1 : Cond.selects RX3 yX3_toNextToken yX3_toNextToken ∈ TB := mTB (List.mem_of_getElem? (i := 1) (by decide +kernel)) rfl
theorem kw2 : Cond.selects RX3 yX3_passLetters yX3_passLetters ∈ TB := mTB (List.mem_of_getElem? (i := 2) (by decide +kernel)) rfl
theorem kw3 : Cond.selects RX3 yX3_passDigits yX3_passDigits ∈ TB := mTB (List.mem_of_getElem? (i := 3) (by decide +kernel)) rfl
theorem kw4 : Cond.selects RX3 yX3_passWord yX3_passWord ∈ TB := mTB (List.mem_of_getElem? (i := 4) (by decide +kernel)) rfl
theorem kw5 : Cond.selects RX3 yX3_isWord yX3_isWord ∈ TB := mTB (List.mem_of_getElem? (i := 5) (by decide +kernel)) rfl
theorem kw6 : Cond.selects RX3 yX3_fail yX3_fail ∈ TB := mTB (List.mem_of_getElem? (i := 6) (by decide +kernel)) rfl
theorem kw7 : Cond.selects RX3 yX3_isNumber yX3_isNumber ∈ TB := mTB (List.mem_of_getElem? (i := 7) (by decide +kernel)) rfl
theorem kw8 : Cond.selects RX3 yX3_passSemicolon yX3_passSemicolon ∈ TB := mTB (List.mem_of_getElem? (i := 8) (by decide +kernel)) rfl
theorem kw9 : Cond.selects RX3 yX3_readStatement yX3_readStatement ∈ TB := mTB (List.mem_of_getElem? (i := 9) (by decide +kernel)) rfl
theorem kw10 : Cond.selects RX3 yX3_readSet yX3_readSet ∈ TB := mTB (List.mem_of_getElem? (i := 10) (by decide +kernel)) rfl
theorem kw11 : Cond.selects RX3 yX3_wordText yX3_wordText ∈ TB := mTB (List.mem_of_getElem? (i := 11) (by decide +kernel)) rfl
theorem kw12 : Cond.selects RX3 yX3_readMembers yX3_readMembers ∈ TB := mTB (List.mem_of_getElem? (i := 12) (by decide +kernel)) rfl
theorem kw13 : Cond.selects RX3 yX3_readEarlierSet yX3_readEarlierSet ∈ TB := mTB (List.mem_of_getElem? (i := 13) (by decide +kernel)) rfl
theorem kw14 : Cond.selects RX5 yX5_writeMember yX5_writeMember ∈ TB := mTB (List.mem_of_getElem? (i := 14) (by decide +kernel)) rfl
theorem kw15 : Cond.selects RX2 yX2_bitsBehind yX2_bitsBehind ∈ TB := mTB (List.mem_of_getElem? (i := 15) (by decide +kernel)) rfl
theorem kw16 : Cond.selects RX5 yX5_pullCursorsBack yX5_pullCursorsBack ∈ TB := mTB (List.mem_of_getElem? (i := 16) (by decide +kernel)) rfl
theorem kw17 : Cond.selects RX5 yX5_moveMember yX5_moveMember ∈ TB := mTB (List.mem_of_getElem? (i := 17) (by decide +kernel)) rfl
theorem kw18 : Cond.selects RX3 yX3_readClear yX3_readClear ∈ TB := mTB (List.mem_of_getElem? (i := 18) (by decide +kernel)) rfl
theorem kw19 : Cond.selects RX3 yX3_readMark yX3_readMark ∈ TB := mTB (List.mem_of_getElem? (i := 19) (by decide +kernel)) rfl
theorem kw20 : Cond.selects RX9 yX9_beginWithDraft yX9_beginWithDraft ∈ TB := mTB (List.mem_of_getElem? (i := 20) (by decide +kernel)) rfl
theorem kw21 : Cond.selects RX9 yX9_rowsOf yX9_rowsOf ∈ TB := mTB (List.mem_of_getElem? (i := 21) (by decide +kernel)) rfl
theorem kw22 : Cond.selects RX9 yX9_checkSet yX9_checkSet ∈ TB := mTB (List.mem_of_getElem? (i := 22) (by decide +kernel)) rfl
theorem kw23 : Cond.selects RX9 yX9_checkStamp yX9_checkStamp ∈ TB := mTB (List.mem_of_getElem? (i := 23) (by decide +kernel)) rfl
theorem kw24 : Cond.selects RX9 yX9_checkNumber yX9_checkNumber ∈ TB := mTB (List.mem_of_getElem? (i := 24) (by decide +kernel)) rfl
theorem kw25 : Cond.selects RX9 yX9_cursorOf yX9_cursorOf ∈ TB := mTB (List.mem_of_getElem? (i := 25) (by decide +kernel)) rfl
theorem kw26 : Cond.selects RX9 yX9_checkSlot yX9_checkSlot ∈ TB := mTB (List.mem_of_getElem? (i := 26) (by decide +kernel)) rfl
theorem kw27 : Cond.selects RX10 yX10_bytesOf yX10_bytesOf ∈ TB := mTB (List.mem_of_getElem? (i := 27) (by decide +kernel)) rfl
theorem kw28 : Cond.selects RX10 yX10_throwsIf yX10_throwsIf ∈ TB := mTB (List.mem_of_getElem? (i := 28) (by decide +kernel)) rfl
theorem kw29 : Cond.selects RX10 yX10_advance yX10_advance ∈ TB := mTB (List.mem_of_getElem? (i := 29) (by decide +kernel)) rfl
theorem kw30 : Cond.selects RX10 yX10_byteAt yX10_byteAt ∈ TB := mTB (List.mem_of_getElem? (i := 30) (by decide +kernel)) rfl
theorem kw31 : Cond.selects RX10 yX10_takesLetters yX10_takesLetters ∈ TB := mTB (List.mem_of_getElem? (i := 31) (by decide +kernel)) rfl
theorem kw32 : Cond.selects RX10 yX10_isWord yX10_isWord ∈ TB := mTB (List.mem_of_getElem? (i := 32) (by decide +kernel)) rfl
theorem kw33 : Cond.selects RX10 yX10_starts yX10_starts ∈ TB := mTB (List.mem_of_getElem? (i := 33) (by decide +kernel)) rfl
theorem kw34 : Cond.selects RX10 yX10_fails yX10_fails ∈ TB := mTB (List.mem_of_getElem? (i := 34) (by decide +kernel)) rfl
theorem kw35 : Cond.selects RX10 yX10_lays yX10_lays ∈ TB := mTB (List.mem_of_getElem? (i := 35) (by decide +kernel)) rfl
theorem kw36 : Cond.selects RX10 yX10_takes yX10_takes ∈ TB := mTB (List.mem_of_getElem? (i := 36) (by decide +kernel)) rfl
theorem kw37 : Cond.selects RX10 yX10_closes yX10_closes ∈ TB := mTB (List.mem_of_getElem? (i := 37) (by decide +kernel)) rfl
theorem kw38 : Cond.selects RX10 yX10_statement yX10_statement ∈ TB := mTB (List.mem_of_getElem? (i := 38) (by decide +kernel)) rfl
theorem kw39 : Cond.selects RX10 yX10_setLine yX10_setLine ∈ TB := mTB (List.mem_of_getElem? (i := 39) (by decide +kernel)) rfl
theorem kw40 : Cond.selects RX10 yX10_membersLine yX10_membersLine ∈ TB := mTB (List.mem_of_getElem? (i := 40) (by decide +kernel)) rfl
theorem kw41 : Cond.selects RX10 yX10_takesSet yX10_takesSet ∈ TB := mTB (List.mem_of_getElem? (i := 41) (by decide +kernel)) rfl
theorem kw42 : Cond.selects RX10 yX10_comes yX10_comes ∈ TB := mTB (List.mem_of_getElem? (i := 42) (by decide +kernel)) rfl
theorem kw43 : Cond.selects RX10 yX10_isMember yX10_isMember ∈ TB := mTB (List.mem_of_getElem? (i := 43) (by decide +kernel)) rfl
theorem kw44 : Cond.selects RX10 yX10_of yX10_of ∈ TB := mTB (List.mem_of_getElem? (i := 44) (by decide +kernel)) rfl
theorem kw45 : Cond.selects RX10 yX10_lay yX10_lay ∈ TB := mTB (List.mem_of_getElem? (i := 45) (by decide +kernel)) rfl
theorem kw46 : Cond.selects RX10 yX10_sets yX10_sets ∈ TB := mTB (List.mem_of_getElem? (i := 46) (by decide +kernel)) rfl
theorem kw47 : Cond.selects RX10 yX10_happens yX10_happens ∈ TB := mTB (List.mem_of_getElem? (i := 47) (by decide +kernel)) rfl
theorem kw48 : Cond.selects RX10 yX10_forgets yX10_forgets ∈ TB := mTB (List.mem_of_getElem? (i := 48) (by decide +kernel)) rfl
theorem kw49 : Cond.selects RX10 yX10_base yX10_base ∈ TB := mTB (List.mem_of_getElem? (i := 49) (by decide +kernel)) rfl
theorem kw50 : Cond.selects RX10 yX10_behind yX10_behind ∈ TB := mTB (List.mem_of_getElem? (i := 50) (by decide +kernel)) rfl
theorem kw51 : Cond.selects RX10 yX10_ofEvent yX10_ofEvent ∈ TB := mTB (List.mem_of_getElem? (i := 51) (by decide +kernel)) rfl
theorem kw52 : Cond.selects RX10 yX10_setsEvent yX10_setsEvent ∈ TB := mTB (List.mem_of_getElem? (i := 52) (by decide +kernel)) rfl
theorem kw53 : Cond.selects RX10 yX10_goes yX10_goes ∈ TB := mTB (List.mem_of_getElem? (i := 53) (by decide +kernel)) rfl
theorem kw54 : Cond.selects RX10 yX10_orders yX10_orders ∈ TB := mTB (List.mem_of_getElem? (i := 54) (by decide +kernel)) rfl
theorem kw55 : Cond.selects RX10 yX10_isOn yX10_isOn ∈ TB := mTB (List.mem_of_getElem? (i := 55) (by decide +kernel)) rfl
theorem kw56 : Cond.selects RX10 yX10_ofCursor yX10_ofCursor ∈ TB := mTB (List.mem_of_getElem? (i := 56) (by decide +kernel)) rfl
theorem kw57 : Cond.selects RX10 yX10_fills yX10_fills ∈ TB := mTB (List.mem_of_getElem? (i := 57) (by decide +kernel)) rfl
theorem kw58 : Cond.selects RX10 yX10_setsCursor yX10_setsCursor ∈ TB := mTB (List.mem_of_getElem? (i := 58) (by decide +kernel)) rfl
theorem kw59 : Cond.selects RX10 yX10_clearLine yX10_clearLine ∈ TB := mTB (List.mem_of_getElem? (i := 59) (by decide +kernel)) rfl
theorem kw60 : Cond.selects RX10 yX10_clears yX10_clears ∈ TB := mTB (List.mem_of_getElem? (i := 60) (by decide +kernel)) rfl
theorem kw61 : Cond.selects RX10 yX10_markLine yX10_markLine ∈ TB := mTB (List.mem_of_getElem? (i := 61) (by decide +kernel)) rfl
theorem kw62 : Cond.selects RX10 yX10_marks yX10_marks ∈ TB := mTB (List.mem_of_getElem? (i := 62) (by decide +kernel)) rfl
theorem kw63 : Cond.selects RX10 yX10_cursorsMany yX10_cursorsMany ∈ TB := mTB (List.mem_of_getElem? (i := 63) (by decide +kernel)) rfl
theorem kw64 : Cond.selects RX10 yX10_noSet yX10_noSet ∈ TB := mTB (List.mem_of_getElem? (i := 64) (by decide +kernel)) rfl
theorem kw65 : Cond.selects RX10 yX10_no yX10_no ∈ TB := mTB (List.mem_of_getElem? (i := 65) (by decide +kernel)) rfl
theorem kw66 : Cond.selects RX10 yX10_openOn yX10_openOn ∈ TB := mTB (List.mem_of_getElem? (i := 66) (by decide +kernel)) rfl
theorem kw67 : Cond.selects RX10 yX10_isInside yX10_isInside ∈ TB := mTB (List.mem_of_getElem? (i := 67) (by decide +kernel)) rfl
theorem kw68 : Cond.selects RX10 yX10_noStamp yX10_noStamp ∈ TB := mTB (List.mem_of_getElem? (i := 68) (by decide +kernel)) rfl
theorem kw69 : Cond.selects RX10 yX10_contentAt yX10_contentAt ∈ TB := mTB (List.mem_of_getElem? (i := 69) (by decide +kernel)) rfl
theorem kw70 : Cond.selects RX10 yX10_noCursor yX10_noCursor ∈ TB := mTB (List.mem_of_getElem? (i := 70) (by decide +kernel)) rfl
theorem kw71 : Cond.selects RX10 yX10_meets yX10_meets ∈ TB := mTB (List.mem_of_getElem? (i := 71) (by decide +kernel)) rfl
theorem kw72 : Cond.selects RX10 yX10_noSets yX10_noSets ∈ TB := mTB (List.mem_of_getElem? (i := 72) (by decide +kernel)) rfl
theorem kw73 : Cond.selects RX10 yX10_commonOf yX10_commonOf ∈ TB := mTB (List.mem_of_getElem? (i := 73) (by decide +kernel)) rfl
theorem kw74 : Cond.selects RX10 yX10_keeps yX10_keeps ∈ TB := mTB (List.mem_of_getElem? (i := 74) (by decide +kernel)) rfl
theorem kw75 : Cond.selects RX10 yX10_noSlot yX10_noSlot ∈ TB := mTB (List.mem_of_getElem? (i := 75) (by decide +kernel)) rfl
theorem kw77 : Cond.initialized RX9 ∈ TB := mTB (List.mem_of_getElem? (i := 77) (by decide +kernel)) rfl
theorem kw78 : Cond.initialized RX1 ∈ TB := mTB (List.mem_of_getElem? (i := 78) (by decide +kernel)) rfl
theorem kw79 : Cond.initialized RX8 ∈ TB := mTB (List.mem_of_getElem? (i := 79) (by decide +kernel)) rfl
theorem kw80 : Cond.initialized RX4 ∈ TB := mTB (List.mem_of_getElem? (i := 80) (by decide +kernel)) rfl
theorem kw81 : Cond.initialized RX5 ∈ TB := mTB (List.mem_of_getElem? (i := 81) (by decide +kernel)) rfl
theorem kw82 : Cond.initialized RX7 ∈ TB := mTB (List.mem_of_getElem? (i := 82) (by decide +kernel)) rfl
theorem kw83 : Cond.initialized RX2 ∈ TB := mTB (List.mem_of_getElem? (i := 83) (by decide +kernel)) rfl
theorem kw84 : Cond.initialized RX0 ∈ TB := mTB (List.mem_of_getElem? (i := 84) (by decide +kernel)) rfl
theorem kw85 : Cond.initialized RX10 ∈ TB := mTB (List.mem_of_getElem? (i := 85) (by decide +kernel)) rfl
theorem kw89 : Cond.initialized "java/lang/IllegalArgumentException" ∈ TB := mTB (List.mem_of_getElem? (i := 89) (by decide +kernel)) rfl
theorem kw90 : Cond.initialized RX3 ∈ TB := mTB (List.mem_of_getElem? (i := 90) (by decide +kernel)) rfl
theorem kw93 : Cond.initialized RJ0 ∈ TB := mTB (List.mem_of_getElem? (i := 93) (by decide +kernel)) rfl
theorem kw94 : Cond.initialized RJ1 ∈ TB := mTB (List.mem_of_getElem? (i := 94) (by decide +kernel)) rfl
theorem kw95 : Cond.initialized RJ3 ∈ TB := mTB (List.mem_of_getElem? (i := 95) (by decide +kernel)) rfl
theorem kw97 : Cond.initialized RJ5 ∈ TB := mTB (List.mem_of_getElem? (i := 97) (by decide +kernel)) rfl
theorem kw98 : Cond.initialized RJ4 ∈ TB := mTB (List.mem_of_getElem? (i := 98) (by decide +kernel)) rfl
theorem kw100 : Cond.initialized RJ9 ∈ TB := mTB (List.mem_of_getElem? (i := 100) (by decide +kernel)) rfl
theorem kw101 : Cond.initialized RJ7 ∈ TB := mTB (List.mem_of_getElem? (i := 101) (by decide +kernel)) rfl
theorem kw102 : Cond.initialized RJ10 ∈ TB := mTB (List.mem_of_getElem? (i := 102) (by decide +kernel)) rfl
theorem kw105 : Cond.initialized "java/lang/IndexOutOfBoundsException" ∈ TB := mTB (List.mem_of_getElem? (i := 105) (by decide +kernel)) rfl
theorem kw106 : Cond.initialized RJ13 ∈ TB := mTB (List.mem_of_getElem? (i := 106) (by decide +kernel)) rfl
theorem kw107 : Cond.initialized "java/lang/IllegalStateException" ∈ TB := mTB (List.mem_of_getElem? (i := 107) (by decide +kernel)) rfl
theorem kw113 : Cond.methodLink RX9 1 objectInit ∈ TB := mTB (List.mem_of_getElem? (i := 113) (by decide +kernel)) rfl
theorem kw114 : Cond.instanceMethod objectInit ∈ TB := mTB (List.mem_of_getElem? (i := 114) (by decide +kernel)) rfl
theorem kw115 : Cond.code objectInit ⟨#[0xb1]⟩ 1 none ∈ TB := mTB (List.mem_of_getElem? (i := 115) (by decide +kernel)) rfl
theorem kw116 : Cond.classLink RX9 7 RX1 ∈ TB := mTB (List.mem_of_getElem? (i := 116) (by decide +kernel)) rfl
theorem kw117 : Cond.instantiable RX1 2 ∈ TB := mTB (List.mem_of_getElem? (i := 117) (by decide +kernel)) rfl
theorem kw119 : Cond.instanceMethod yX1_init ∈ TB := mTB (List.mem_of_getElem? (i := 119) (by decide +kernel)) rfl
theorem kw120 : Cond.code yX1_init cX1_init 1 none ∈ TB := mTB (List.mem_of_getElem? (i := 120) (by decide +kernel)) rfl
theorem kw121 : Cond.methodLink RX1 3 objectInit ∈ TB := mTB (List.mem_of_getElem? (i := 121) (by decide +kernel)) rfl
theorem kw122 : Cond.fieldLink RX1 9 "TwinSets$Input" "bytes" "[B" ∈ TB := mTB (List.mem_of_getElem? (i := 122) (by decide +kernel)) rfl
theorem kw125 : Cond.fieldLink RX1 15 "TwinSets$Input" "length" "I" ∈ TB := mTB (List.mem_of_getElem? (i := 125) (by decide +kernel)) rfl
theorem kw131 : Cond.arrayClass .byte ∈ TB := mTB (List.mem_of_getElem? (i := 131) (by decide +kernel)) rfl
theorem kw132 : Cond.classLink RX9 16 RX8 ∈ TB := mTB (List.mem_of_getElem? (i := 132) (by decide +kernel)) rfl
theorem kw133 : Cond.instantiable RX8 3 ∈ TB := mTB (List.mem_of_getElem? (i := 133) (by decide +kernel)) rfl
theorem kw135 : Cond.instanceMethod yX8_init ∈ TB := mTB (List.mem_of_getElem? (i := 135) (by decide +kernel)) rfl
theorem kw136 : Cond.code yX8_init cX8_init 1 none ∈ TB := mTB (List.mem_of_getElem? (i := 136) (by decide +kernel)) rfl
theorem kw137 : Cond.methodLink RX8 3 objectInit ∈ TB := mTB (List.mem_of_getElem? (i := 137) (by decide +kernel)) rfl
theorem kw138 : Cond.classLink RX8 9 RX5 ∈ TB := mTB (List.mem_of_getElem? (i := 138) (by decide +kernel)) rfl
theorem kw140 : Cond.fieldLink RX8 11 "TwinSets$UndoHistory" "states" "[LTwinSets$State;" ∈ TB := mTB (List.mem_of_getElem? (i := 140) (by decide +kernel)) rfl
theorem kw141 : Cond.fieldLink RX8 17 "TwinSets$UndoHistory" "next" "I" ∈ TB := mTB (List.mem_of_getElem? (i := 141) (by decide +kernel)) rfl
theorem kw142 : Cond.fieldLink RX8 26 "TwinSets$UndoHistory" "count" "I" ∈ TB := mTB (List.mem_of_getElem? (i := 142) (by decide +kernel)) rfl
theorem kw151 : Cond.classLink RX9 23 RX4 ∈ TB := mTB (List.mem_of_getElem? (i := 151) (by decide +kernel)) rfl
theorem kw152 : Cond.instantiable RX4 2 ∈ TB := mTB (List.mem_of_getElem? (i := 152) (by decide +kernel)) rfl
theorem kw154 : Cond.instanceMethod yX4_init ∈ TB := mTB (List.mem_of_getElem? (i := 154) (by decide +kernel)) rfl
theorem kw155 : Cond.code yX4_init cX4_init 1 none ∈ TB := mTB (List.mem_of_getElem? (i := 155) (by decide +kernel)) rfl
theorem kw156 : Cond.methodLink RX4 3 objectInit ∈ TB := mTB (List.mem_of_getElem? (i := 156) (by decide +kernel)) rfl
theorem kw157 : Cond.classLink RX4 9 RX5 ∈ TB := mTB (List.mem_of_getElem? (i := 157) (by decide +kernel)) rfl
theorem kw158 : Cond.fieldLink RX4 11 "TwinSets$SnapshotSlots" "states" "[LTwinSets$State;" ∈ TB := mTB (List.mem_of_getElem? (i := 158) (by decide +kernel)) rfl
theorem kw159 : Cond.fieldLink RX4 17 "TwinSets$SnapshotSlots" "isFull" "[Z" ∈ TB := mTB (List.mem_of_getElem? (i := 159) (by decide +kernel)) rfl
theorem kw166 : Cond.arrayClass .boolean ∈ TB := mTB (List.mem_of_getElem? (i := 166) (by decide +kernel)) rfl
theorem kw167 : Cond.classLink RX9 30 RX5 ∈ TB := mTB (List.mem_of_getElem? (i := 167) (by decide +kernel)) rfl
theorem kw168 : Cond.instantiable RX5 9 ∈ TB := mTB (List.mem_of_getElem? (i := 168) (by decide +kernel)) rfl
theorem kw169 : Cond.methodLink RX9 32 yX5_init ∈ TB := mTB (List.mem_of_getElem? (i := 169) (by decide +kernel)) rfl
theorem kw170 : Cond.instanceMethod yX5_init ∈ TB := mTB (List.mem_of_getElem? (i := 170) (by decide +kernel)) rfl
theorem kw171 : Cond.code yX5_init cX5_init 2 none ∈ TB := mTB (List.mem_of_getElem? (i := 171) (by decide +kernel)) rfl
theorem kw172 : Cond.methodLink RX5 3 objectInit ∈ TB := mTB (List.mem_of_getElem? (i := 172) (by decide +kernel)) rfl
theorem kw173 : Cond.classLink RX5 9 RX7 ∈ TB := mTB (List.mem_of_getElem? (i := 173) (by decide +kernel)) rfl
theorem kw175 : Cond.classLink RX5 17 RX0 ∈ TB := mTB (List.mem_of_getElem? (i := 175) (by decide +kernel)) rfl
theorem kw177 : Cond.instantiable RX7 7 ∈ TB := mTB (List.mem_of_getElem? (i := 177) (by decide +kernel)) rfl
theorem kw179 : Cond.instanceMethod yX7_init ∈ TB := mTB (List.mem_of_getElem? (i := 179) (by decide +kernel)) rfl
theorem kw180 : Cond.code yX7_init cX7_init 1 none ∈ TB := mTB (List.mem_of_getElem? (i := 180) (by decide +kernel)) rfl
theorem kw181 : Cond.methodLink RX7 3 objectInit ∈ TB := mTB (List.mem_of_getElem? (i := 181) (by decide +kernel)) rfl
theorem kw182 : Cond.classLink RX7 21 RX2 ∈ TB := mTB (List.mem_of_getElem? (i := 182) (by decide +kernel)) rfl
theorem kw183 : Cond.instantiable RX2 6 ∈ TB := mTB (List.mem_of_getElem? (i := 183) (by decide +kernel)) rfl
theorem kw185 : Cond.instanceMethod yX2_init ∈ TB := mTB (List.mem_of_getElem? (i := 185) (by decide +kernel)) rfl
theorem kw186 : Cond.code yX2_init cX2_init 1 none ∈ TB := mTB (List.mem_of_getElem? (i := 186) (by decide +kernel)) rfl
theorem kw187 : Cond.methodLink RX2 3 objectInit ∈ TB := mTB (List.mem_of_getElem? (i := 187) (by decide +kernel)) rfl
theorem kw188 : Cond.fieldLink RX2 9 "TwinSets$Log" "stamps" "[I" ∈ TB := mTB (List.mem_of_getElem? (i := 188) (by decide +kernel)) rfl
theorem kw190 : Cond.fieldLink RX2 15 "TwinSets$Log" "numbers" "[I" ∈ TB := mTB (List.mem_of_getElem? (i := 190) (by decide +kernel)) rfl
theorem kw192 : Cond.fieldLink RX2 18 "TwinSets$Log" "kinds" "[I" ∈ TB := mTB (List.mem_of_getElem? (i := 192) (by decide +kernel)) rfl
theorem kw194 : Cond.fieldLink RX2 21 "TwinSets$Log" "count" "I" ∈ TB := mTB (List.mem_of_getElem? (i := 194) (by decide +kernel)) rfl
theorem kw196 : Cond.fieldLink RX2 25 "TwinSets$Log" "firstStamp" "I" ∈ TB := mTB (List.mem_of_getElem? (i := 196) (by decide +kernel)) rfl
theorem kw198 : Cond.fieldLink RX2 28 "TwinSets$Log" "bitsAtFirst" "J" ∈ TB := mTB (List.mem_of_getElem? (i := 198) (by decide +kernel)) rfl
theorem kw212 : Cond.arrayClass .int ∈ TB := mTB (List.mem_of_getElem? (i := 212) (by decide +kernel)) rfl
theorem kw214 : Cond.fieldLink RX7 9 "TwinSets$TwinRows" "members" "[I" ∈ TB := mTB (List.mem_of_getElem? (i := 214) (by decide +kernel)) rfl
theorem kw217 : Cond.fieldLink RX7 15 "TwinSets$TwinRows" "places" "[I" ∈ TB := mTB (List.mem_of_getElem? (i := 217) (by decide +kernel)) rfl
theorem kw220 : Cond.fieldLink RX7 18 "TwinSets$TwinRows" "stamps" "[I" ∈ TB := mTB (List.mem_of_getElem? (i := 220) (by decide +kernel)) rfl
theorem kw223 : Cond.fieldLink RX7 24 "TwinSets$TwinRows" "log" "LTwinSets$Log;" ∈ TB := mTB (List.mem_of_getElem? (i := 223) (by decide +kernel)) rfl
theorem kw226 : Cond.fieldLink RX7 30 "TwinSets$TwinRows" "name" "Ljava/lang/String;" ∈ TB := mTB (List.mem_of_getElem? (i := 226) (by decide +kernel)) rfl
theorem kw228 : Cond.fieldLink RX7 34 "TwinSets$TwinRows" "size" "I" ∈ TB := mTB (List.mem_of_getElem? (i := 228) (by decide +kernel)) rfl
theorem kw231 : Cond.fieldLink RX7 38 "TwinSets$TwinRows" "generation" "I" ∈ TB := mTB (List.mem_of_getElem? (i := 231) (by decide +kernel)) rfl
theorem kw249 : Cond.instantiable RX0 8 ∈ TB := mTB (List.mem_of_getElem? (i := 249) (by decide +kernel)) rfl
theorem kw251 : Cond.instanceMethod yX0_init ∈ TB := mTB (List.mem_of_getElem? (i := 251) (by decide +kernel)) rfl
theorem kw252 : Cond.code yX0_init cX0_init 1 none ∈ TB := mTB (List.mem_of_getElem? (i := 252) (by decide +kernel)) rfl
theorem kw253 : Cond.methodLink RX0 3 objectInit ∈ TB := mTB (List.mem_of_getElem? (i := 253) (by decide +kernel)) rfl
theorem kw254 : Cond.fieldLink RX0 9 "TwinSets$Cursor" "isInUse" "Z" ∈ TB := mTB (List.mem_of_getElem? (i := 254) (by decide +kernel)) rfl
theorem kw257 : Cond.fieldLink RX0 15 "TwinSets$Cursor" "isOpen" "Z" ∈ TB := mTB (List.mem_of_getElem? (i := 257) (by decide +kernel)) rfl
theorem kw260 : Cond.fieldLink RX0 18 "TwinSets$Cursor" "isStrict" "Z" ∈ TB := mTB (List.mem_of_getElem? (i := 260) (by decide +kernel)) rfl
theorem kw262 : Cond.fieldLink RX0 21 "TwinSets$Cursor" "set" "I" ∈ TB := mTB (List.mem_of_getElem? (i := 262) (by decide +kernel)) rfl
theorem kw265 : Cond.fieldLink RX0 25 "TwinSets$Cursor" "position" "I" ∈ TB := mTB (List.mem_of_getElem? (i := 265) (by decide +kernel)) rfl
theorem kw268 : Cond.fieldLink RX0 28 "TwinSets$Cursor" "madeAt" "I" ∈ TB := mTB (List.mem_of_getElem? (i := 268) (by decide +kernel)) rfl
theorem kw270 : Cond.fieldLink RX0 31 "TwinSets$Cursor" "metCount" "I" ∈ TB := mTB (List.mem_of_getElem? (i := 270) (by decide +kernel)) rfl
theorem kw273 : Cond.fieldLink RX0 34 "TwinSets$Cursor" "lastMet" "I" ∈ TB := mTB (List.mem_of_getElem? (i := 273) (by decide +kernel)) rfl
theorem kw293 : Cond.fieldLink RX5 11 "TwinSets$State" "sets" "[LTwinSets$TwinRows;" ∈ TB := mTB (List.mem_of_getElem? (i := 293) (by decide +kernel)) rfl
theorem kw296 : Cond.fieldLink RX5 19 "TwinSets$State" "cursors" "[LTwinSets$Cursor;" ∈ TB := mTB (List.mem_of_getElem? (i := 296) (by decide +kernel)) rfl
theorem kw298 : Cond.fieldLink RX5 23 "TwinSets$State" "marks" "[I" ∈ TB := mTB (List.mem_of_getElem? (i := 298) (by decide +kernel)) rfl
theorem kw300 : Cond.fieldLink RX5 29 "TwinSets$State" "universe" "I" ∈ TB := mTB (List.mem_of_getElem? (i := 300) (by decide +kernel)) rfl
theorem kw303 : Cond.fieldLink RX5 33 "TwinSets$State" "horizon" "I" ∈ TB := mTB (List.mem_of_getElem? (i := 303) (by decide +kernel)) rfl
theorem kw305 : Cond.fieldLink RX5 36 "TwinSets$State" "setCount" "I" ∈ TB := mTB (List.mem_of_getElem? (i := 305) (by decide +kernel)) rfl
theorem kw308 : Cond.fieldLink RX5 39 "TwinSets$State" "markCount" "I" ∈ TB := mTB (List.mem_of_getElem? (i := 308) (by decide +kernel)) rfl
theorem kw311 : Cond.fieldLink RX5 42 "TwinSets$State" "clock" "I" ∈ TB := mTB (List.mem_of_getElem? (i := 311) (by decide +kernel)) rfl
theorem kw313 : Cond.fieldLink RX5 45 "TwinSets$State" "cost" "I" ∈ TB := mTB (List.mem_of_getElem? (i := 313) (by decide +kernel)) rfl
theorem kw334 : Cond.methodLink RX9 44 yX5_begin ∈ TB := mTB (List.mem_of_getElem? (i := 334) (by decide +kernel)) rfl
theorem kw335 : Cond.instanceMethod yX5_begin ∈ TB := mTB (List.mem_of_getElem? (i := 335) (by decide +kernel)) rfl
theorem kw336 : Cond.selects RX5 yX5_begin yX5_begin ∈ TB := mTB (List.mem_of_getElem? (i := 336) (by decide +kernel)) rfl
theorem kw337 : Cond.code yX5_begin cX5_begin 4 none ∈ TB := mTB (List.mem_of_getElem? (i := 337) (by decide +kernel)) rfl
theorem kw338 : Cond.fieldLink RX9 10 "TwinSets" "input" "LTwinSets$Input;" ∈ TB := mTB (List.mem_of_getElem? (i := 338) (by decide +kernel)) rfl
theorem kw339 : Cond.fieldLink RX9 19 "TwinSets" "history" "LTwinSets$UndoHistory;" ∈ TB := mTB (List.mem_of_getElem? (i := 339) (by decide +kernel)) rfl
theorem kw340 : Cond.fieldLink RX9 26 "TwinSets" "slots" "LTwinSets$SnapshotSlots;" ∈ TB := mTB (List.mem_of_getElem? (i := 340) (by decide +kernel)) rfl
theorem kw341 : Cond.fieldLink RX9 33 "TwinSets" "now" "LTwinSets$State;" ∈ TB := mTB (List.mem_of_getElem? (i := 341) (by decide +kernel)) rfl
theorem kw342 : Cond.fieldLink RX9 37 "TwinSets" "draft" "LTwinSets$State;" ∈ TB := mTB (List.mem_of_getElem? (i := 342) (by decide +kernel)) rfl
theorem kw343 : Cond.fieldLink RX9 40 "TwinSets" "errorAt" "I" ∈ TB := mTB (List.mem_of_getElem? (i := 343) (by decide +kernel)) rfl
theorem kw361 : Cond.methodLink RX9 51 yX1_takeFourBytes ∈ TB := mTB (List.mem_of_getElem? (i := 361) (by decide +kernel)) rfl
theorem kw362 : Cond.instanceMethod yX1_takeFourBytes ∈ TB := mTB (List.mem_of_getElem? (i := 362) (by decide +kernel)) rfl
theorem kw363 : Cond.selects RX1 yX1_takeFourBytes yX1_takeFourBytes ∈ TB := mTB (List.mem_of_getElem? (i := 363) (by decide +kernel)) rfl
theorem kw364 : Cond.code yX1_takeFourBytes cX1_takeFourBytes 3 none ∈ TB := mTB (List.mem_of_getElem? (i := 364) (by decide +kernel)) rfl
theorem kw373 : Cond.methodLink RX9 111 yX1_lengthWithoutLastSpaces ∈ TB := mTB (List.mem_of_getElem? (i := 373) (by decide +kernel)) rfl
theorem kw374 : Cond.instanceMethod yX1_lengthWithoutLastSpaces ∈ TB := mTB (List.mem_of_getElem? (i := 374) (by decide +kernel)) rfl
theorem kw375 : Cond.selects RX1 yX1_lengthWithoutLastSpaces yX1_lengthWithoutLastSpaces ∈ TB := mTB (List.mem_of_getElem? (i := 375) (by decide +kernel)) rfl
theorem kw376 : Cond.code yX1_lengthWithoutLastSpaces cX1_lengthWithoutLastSpaces 2 (some .int) ∈ TB := mTB (List.mem_of_getElem? (i := 376) (by decide +kernel)) rfl
theorem kw377 : Cond.methodLink RX9 114 yX5_setNamed ∈ TB := mTB (List.mem_of_getElem? (i := 377) (by decide +kernel)) rfl
theorem kw378 : Cond.instanceMethod yX5_setNamed ∈ TB := mTB (List.mem_of_getElem? (i := 378) (by decide +kernel)) rfl
theorem kw379 : Cond.selects RX5 yX5_setNamed yX5_setNamed ∈ TB := mTB (List.mem_of_getElem? (i := 379) (by decide +kernel)) rfl
theorem kw380 : Cond.code yX5_setNamed cX5_setNamed 5 (some .int) ∈ TB := mTB (List.mem_of_getElem? (i := 380) (by decide +kernel)) rfl
theorem kw381 : Cond.methodLink RX5 76 yX1_holds ∈ TB := mTB (List.mem_of_getElem? (i := 381) (by decide +kernel)) rfl
theorem kw382 : Cond.instanceMethod yX1_holds ∈ TB := mTB (List.mem_of_getElem? (i := 382) (by decide +kernel)) rfl
theorem kw383 : Cond.selects RX1 yX1_holds yX1_holds ∈ TB := mTB (List.mem_of_getElem? (i := 383) (by decide +kernel)) rfl
theorem kw384 : Cond.code yX1_holds cX1_holds 5 (some .boolean) ∈ TB := mTB (List.mem_of_getElem? (i := 384) (by decide +kernel)) rfl
theorem kw385 : Cond.methodLink RX1 19 yJ0_length_8abf5 ∈ TB := mTB (List.mem_of_getElem? (i := 385) (by decide +kernel)) rfl
theorem kw386 : Cond.instanceMethod yJ0_length_8abf5 ∈ TB := mTB (List.mem_of_getElem? (i := 386) (by decide +kernel)) rfl
theorem kw387 : Cond.selects RJ0 yJ0_length_8abf5 yJ0_length_8abf5 ∈ TB := mTB (List.mem_of_getElem? (i := 387) (by decide +kernel)) rfl
theorem kw388 : Cond.code yJ0_length_8abf5 cJ0_length_8abf5 1 (some .int) ∈ TB := mTB (List.mem_of_getElem? (i := 388) (by decide +kernel)) rfl
theorem kw389 : Cond.methodLink RJ0 335 yJ0_coder_7d493 ∈ TB := mTB (List.mem_of_getElem? (i := 389) (by decide +kernel)) rfl
theorem kw390 : Cond.instanceMethod yJ0_coder_7d493 ∈ TB := mTB (List.mem_of_getElem? (i := 390) (by decide +kernel)) rfl
theorem kw391 : Cond.selects RJ0 yJ0_coder_7d493 yJ0_coder_7d493 ∈ TB := mTB (List.mem_of_getElem? (i := 391) (by decide +kernel)) rfl
theorem kw392 : Cond.code yJ0_coder_7d493 cJ0_coder_7d493 1 (some .byte) ∈ TB := mTB (List.mem_of_getElem? (i := 392) (by decide +kernel)) rfl
theorem kw393 : Cond.fieldLink RJ0 38 "java/lang/String" "COMPACT_STRINGS" "Z" ∈ TB := mTB (List.mem_of_getElem? (i := 393) (by decide +kernel)) rfl
theorem kw395 : Cond.methodLink RX1 24 yJ0_charAt_5068e ∈ TB := mTB (List.mem_of_getElem? (i := 395) (by decide +kernel)) rfl
theorem kw396 : Cond.instanceMethod yJ0_charAt_5068e ∈ TB := mTB (List.mem_of_getElem? (i := 396) (by decide +kernel)) rfl
theorem kw397 : Cond.selects RJ0 yJ0_charAt_5068e yJ0_charAt_5068e ∈ TB := mTB (List.mem_of_getElem? (i := 397) (by decide +kernel)) rfl
theorem kw398 : Cond.code yJ0_charAt_5068e cJ0_charAt_5068e 2 (some .char) ∈ TB := mTB (List.mem_of_getElem? (i := 398) (by decide +kernel)) rfl
theorem kw399 : Cond.methodLink RJ0 492 yJ0_isLatin1_aae02 ∈ TB := mTB (List.mem_of_getElem? (i := 399) (by decide +kernel)) rfl
theorem kw400 : Cond.instanceMethod yJ0_isLatin1_aae02 ∈ TB := mTB (List.mem_of_getElem? (i := 400) (by decide +kernel)) rfl
theorem kw401 : Cond.selects RJ0 yJ0_isLatin1_aae02 yJ0_isLatin1_aae02 ∈ TB := mTB (List.mem_of_getElem? (i := 401) (by decide +kernel)) rfl
theorem kw402 : Cond.code yJ0_isLatin1_aae02 cJ0_isLatin1_aae02 1 (some .boolean) ∈ TB := mTB (List.mem_of_getElem? (i := 402) (by decide +kernel)) rfl
theorem kw403 : Cond.methodLink RJ0 495 yJ1_charAt_3b067 ∈ TB := mTB (List.mem_of_getElem? (i := 403) (by decide +kernel)) rfl
theorem kw404 : Cond.static yJ1_charAt_3b067 ∈ TB := mTB (List.mem_of_getElem? (i := 404) (by decide +kernel)) rfl
theorem kw405 : Cond.code yJ1_charAt_3b067 cJ1_charAt_3b067 2 (some .char) ∈ TB := mTB (List.mem_of_getElem? (i := 405) (by decide +kernel)) rfl
theorem kw406 : Cond.methodLink RJ1 9 yJ0_checkIndex_df160 ∈ TB := mTB (List.mem_of_getElem? (i := 406) (by decide +kernel)) rfl
theorem kw407 : Cond.static yJ0_checkIndex_df160 ∈ TB := mTB (List.mem_of_getElem? (i := 407) (by decide +kernel)) rfl
theorem kw408 : Cond.code yJ0_checkIndex_df160 cJ0_checkIndex_df160 2 none ∈ TB := mTB (List.mem_of_getElem? (i := 408) (by decide +kernel)) rfl
theorem kw409 : Cond.fieldLink RJ0 1053 "jdk/internal/util/Preconditions" "SIOOBE_FORMATTER" "Ljava/util/function/BiFunction;" ∈ TB := mTB (List.mem_of_getElem? (i := 409) (by decide +kernel)) rfl
theorem kw411 : Cond.methodLink RJ0 1059 yJ3_checkIndex_8e157 ∈ TB := mTB (List.mem_of_getElem? (i := 411) (by decide +kernel)) rfl
theorem kw412 : Cond.static yJ3_checkIndex_8e157 ∈ TB := mTB (List.mem_of_getElem? (i := 412) (by decide +kernel)) rfl
theorem kw413 : Cond.code yJ3_checkIndex_8e157 cJ3_checkIndex_8e157 3 (some .int) ∈ TB := mTB (List.mem_of_getElem? (i := 413) (by decide +kernel)) rfl
theorem kw441 : Cond.methodLink RX9 296 yX8_takeBack ∈ TB := mTB (List.mem_of_getElem? (i := 441) (by decide +kernel)) rfl
theorem kw442 : Cond.instanceMethod yX8_takeBack ∈ TB := mTB (List.mem_of_getElem? (i := 442) (by decide +kernel)) rfl
theorem kw443 : Cond.selects RX8 yX8_takeBack yX8_takeBack ∈ TB := mTB (List.mem_of_getElem? (i := 443) (by decide +kernel)) rfl
theorem kw444 : Cond.code yX8_takeBack cX8_takeBack 3 (some .boolean) ∈ TB := mTB (List.mem_of_getElem? (i := 444) (by decide +kernel)) rfl
theorem kw445 : Cond.methodLink RX8 22 yX5_copyFrom ∈ TB := mTB (List.mem_of_getElem? (i := 445) (by decide +kernel)) rfl
theorem kw446 : Cond.instanceMethod yX5_copyFrom ∈ TB := mTB (List.mem_of_getElem? (i := 446) (by decide +kernel)) rfl
theorem kw447 : Cond.selects RX5 yX5_copyFrom yX5_copyFrom ∈ TB := mTB (List.mem_of_getElem? (i := 447) (by decide +kernel)) rfl
theorem kw448 : Cond.code yX5_copyFrom cX5_copyFrom 3 none ∈ TB := mTB (List.mem_of_getElem? (i := 448) (by decide +kernel)) rfl
theorem kw449 : Cond.methodLink RX5 59 arraycopyName ∈ TB := mTB (List.mem_of_getElem? (i := 449) (by decide +kernel)) rfl
theorem kw450 : Cond.static arraycopyName ∈ TB := mTB (List.mem_of_getElem? (i := 450) (by decide +kernel)) rfl
theorem kw451 : Cond.native arraycopyName ∈ TB := mTB (List.mem_of_getElem? (i := 451) (by decide +kernel)) rfl
theorem kw452 : Cond.methodLink RX5 65 yX7_copyFrom ∈ TB := mTB (List.mem_of_getElem? (i := 452) (by decide +kernel)) rfl
theorem kw453 : Cond.instanceMethod yX7_copyFrom ∈ TB := mTB (List.mem_of_getElem? (i := 453) (by decide +kernel)) rfl
theorem kw454 : Cond.selects RX7 yX7_copyFrom yX7_copyFrom ∈ TB := mTB (List.mem_of_getElem? (i := 454) (by decide +kernel)) rfl
theorem kw455 : Cond.code yX7_copyFrom cX7_copyFrom 2 none ∈ TB := mTB (List.mem_of_getElem? (i := 455) (by decide +kernel)) rfl
theorem kw456 : Cond.methodLink RX7 50 arraycopyName ∈ TB := mTB (List.mem_of_getElem? (i := 456) (by decide +kernel)) rfl
theorem kw457 : Cond.methodLink RX7 56 yX2_copyFrom ∈ TB := mTB (List.mem_of_getElem? (i := 457) (by decide +kernel)) rfl
theorem kw458 : Cond.instanceMethod yX2_copyFrom ∈ TB := mTB (List.mem_of_getElem? (i := 458) (by decide +kernel)) rfl
theorem kw459 : Cond.selects RX2 yX2_copyFrom yX2_copyFrom ∈ TB := mTB (List.mem_of_getElem? (i := 459) (by decide +kernel)) rfl
theorem kw460 : Cond.code yX2_copyFrom cX2_copyFrom 2 none ∈ TB := mTB (List.mem_of_getElem? (i := 460) (by decide +kernel)) rfl
theorem kw461 : Cond.methodLink RX2 32 arraycopyName ∈ TB := mTB (List.mem_of_getElem? (i := 461) (by decide +kernel)) rfl
theorem kw462 : Cond.methodLink RX5 69 yX0_copyFrom ∈ TB := mTB (List.mem_of_getElem? (i := 462) (by decide +kernel)) rfl
theorem kw463 : Cond.instanceMethod yX0_copyFrom ∈ TB := mTB (List.mem_of_getElem? (i := 463) (by decide +kernel)) rfl
theorem kw464 : Cond.selects RX0 yX0_copyFrom yX0_copyFrom ∈ TB := mTB (List.mem_of_getElem? (i := 464) (by decide +kernel)) rfl
theorem kw465 : Cond.code yX0_copyFrom cX0_copyFrom 2 none ∈ TB := mTB (List.mem_of_getElem? (i := 465) (by decide +kernel)) rfl
theorem kw474 : Cond.classLink RX9 55 "java/lang/IllegalArgumentException" ∈ TB := mTB (List.mem_of_getElem? (i := 474) (by decide +kernel)) rfl
theorem kw541 : Cond.classLink RX9 62 RX3 ∈ TB := mTB (List.mem_of_getElem? (i := 541) (by decide +kernel)) rfl
theorem kw542 : Cond.instantiable RX3 9 ∈ TB := mTB (List.mem_of_getElem? (i := 542) (by decide +kernel)) rfl
theorem kw543 : Cond.methodLink RX9 64 yX3_init ∈ TB := mTB (List.mem_of_getElem? (i := 543) (by decide +kernel)) rfl
theorem kw544 : Cond.instanceMethod yX3_init ∈ TB := mTB (List.mem_of_getElem? (i := 544) (by decide +kernel)) rfl
theorem kw545 : Cond.code yX3_init cX3_init 4 none ∈ TB := mTB (List.mem_of_getElem? (i := 545) (by decide +kernel)) rfl
theorem kw546 : Cond.methodLink RX3 3 objectInit ∈ TB := mTB (List.mem_of_getElem? (i := 546) (by decide +kernel)) rfl
theorem kw547 : Cond.fieldLink RX3 23 "TwinSets$Token" "END" "LTwinSets$Token;" ∈ TB := mTB (List.mem_of_getElem? (i := 547) (by decide +kernel)) rfl
theorem kw549 : Cond.fieldLink RX3 9 "TwinSets$Parser" "input" "LTwinSets$Input;" ∈ TB := mTB (List.mem_of_getElem? (i := 549) (by decide +kernel)) rfl
theorem kw550 : Cond.fieldLink RX3 15 "TwinSets$Parser" "length" "I" ∈ TB := mTB (List.mem_of_getElem? (i := 550) (by decide +kernel)) rfl
theorem kw551 : Cond.fieldLink RX3 19 "TwinSets$Parser" "state" "LTwinSets$State;" ∈ TB := mTB (List.mem_of_getElem? (i := 551) (by decide +kernel)) rfl
theorem kw552 : Cond.fieldLink RX3 29 "TwinSets$Parser" "token" "LTwinSets$Token;" ∈ TB := mTB (List.mem_of_getElem? (i := 552) (by decide +kernel)) rfl
theorem kw553 : Cond.fieldLink RX3 100 "TwinSets$Parser" "start" "I" ∈ TB := mTB (List.mem_of_getElem? (i := 553) (by decide +kernel)) rfl
theorem kw554 : Cond.fieldLink RX3 103 "TwinSets$Parser" "end" "I" ∈ TB := mTB (List.mem_of_getElem? (i := 554) (by decide +kernel)) rfl
theorem kw555 : Cond.fieldLink RX3 48 "TwinSets$Parser" "number" "I" ∈ TB := mTB (List.mem_of_getElem? (i := 555) (by decide +kernel)) rfl
theorem kw557 : Cond.fieldLink RX3 151 "TwinSets$Parser" "errorCode" "I" ∈ TB := mTB (List.mem_of_getElem? (i := 557) (by decide +kernel)) rfl
theorem kw558 : Cond.fieldLink RX3 32 "TwinSets$Parser" "errorAt" "I" ∈ TB := mTB (List.mem_of_getElem? (i := 558) (by decide +kernel)) rfl
theorem kw579 : Cond.methodLink RX9 67 yX3_readText ∈ TB := mTB (List.mem_of_getElem? (i := 579) (by decide +kernel)) rfl
theorem kw580 : Cond.instanceMethod yX3_readText ∈ TB := mTB (List.mem_of_getElem? (i := 580) (by decide +kernel)) rfl
theorem kw581 : Cond.selects RX3 yX3_readText yX3_readText ∈ TB := mTB (List.mem_of_getElem? (i := 581) (by decide +kernel)) rfl
theorem kw582 : Cond.code yX3_readText cX3_readText 4 (some .boolean) ∈ TB := mTB (List.mem_of_getElem? (i := 582) (by decide +kernel)) rfl
theorem kw583 : Cond.methodLink RX3 35 yX3_toNextToken ∈ TB := mTB (List.mem_of_getElem? (i := 583) (by decide +kernel)) rfl
theorem kw585 : Cond.instanceMethod yX3_toNextToken ∈ TB := mTB (List.mem_of_getElem? (i := 585) (by decide +kernel)) rfl
theorem kw586 : Cond.code yX3_toNextToken cX3_toNextToken 1 none ∈ TB := mTB (List.mem_of_getElem? (i := 586) (by decide +kernel)) rfl
theorem kw587 : Cond.methodLink RX3 174 yX1_isBlank ∈ TB := mTB (List.mem_of_getElem? (i := 587) (by decide +kernel)) rfl
theorem kw588 : Cond.instanceMethod yX1_isBlank ∈ TB := mTB (List.mem_of_getElem? (i := 588) (by decide +kernel)) rfl
theorem kw589 : Cond.selects RX1 yX1_isBlank yX1_isBlank ∈ TB := mTB (List.mem_of_getElem? (i := 589) (by decide +kernel)) rfl
theorem kw590 : Cond.code yX1_isBlank cX1_isBlank 2 (some .boolean) ∈ TB := mTB (List.mem_of_getElem? (i := 590) (by decide +kernel)) rfl
theorem kw591 : Cond.methodLink RX3 177 yX1_isLetter ∈ TB := mTB (List.mem_of_getElem? (i := 591) (by decide +kernel)) rfl
theorem kw592 : Cond.instanceMethod yX1_isLetter ∈ TB := mTB (List.mem_of_getElem? (i := 592) (by decide +kernel)) rfl
theorem kw593 : Cond.selects RX1 yX1_isLetter yX1_isLetter ∈ TB := mTB (List.mem_of_getElem? (i := 593) (by decide +kernel)) rfl
theorem kw594 : Cond.code yX1_isLetter cX1_isLetter 2 (some .boolean) ∈ TB := mTB (List.mem_of_getElem? (i := 594) (by decide +kernel)) rfl
theorem kw595 : Cond.methodLink RX3 180 yX3_passLetters ∈ TB := mTB (List.mem_of_getElem? (i := 595) (by decide +kernel)) rfl
theorem kw597 : Cond.instanceMethod yX3_passLetters ∈ TB := mTB (List.mem_of_getElem? (i := 597) (by decide +kernel)) rfl
theorem kw598 : Cond.code yX3_passLetters cX3_passLetters 1 none ∈ TB := mTB (List.mem_of_getElem? (i := 598) (by decide +kernel)) rfl
theorem kw599 : Cond.fieldLink RX3 189 "TwinSets$Token" "INVALID" "LTwinSets$Token;" ∈ TB := mTB (List.mem_of_getElem? (i := 599) (by decide +kernel)) rfl
theorem kw601 : Cond.fieldLink RX3 97 "TwinSets$Token" "WORD" "LTwinSets$Token;" ∈ TB := mTB (List.mem_of_getElem? (i := 601) (by decide +kernel)) rfl
theorem kw603 : Cond.methodLink RX3 183 yX1_isDigit ∈ TB := mTB (List.mem_of_getElem? (i := 603) (by decide +kernel)) rfl
theorem kw604 : Cond.instanceMethod yX1_isDigit ∈ TB := mTB (List.mem_of_getElem? (i := 604) (by decide +kernel)) rfl
theorem kw605 : Cond.selects RX1 yX1_isDigit yX1_isDigit ∈ TB := mTB (List.mem_of_getElem? (i := 605) (by decide +kernel)) rfl
theorem kw606 : Cond.code yX1_isDigit cX1_isDigit 2 (some .boolean) ∈ TB := mTB (List.mem_of_getElem? (i := 606) (by decide +kernel)) rfl
theorem kw607 : Cond.methodLink RX3 186 yX3_passDigits ∈ TB := mTB (List.mem_of_getElem? (i := 607) (by decide +kernel)) rfl
theorem kw609 : Cond.instanceMethod yX3_passDigits ∈ TB := mTB (List.mem_of_getElem? (i := 609) (by decide +kernel)) rfl
theorem kw610 : Cond.code yX3_passDigits cX3_passDigits 1 none ∈ TB := mTB (List.mem_of_getElem? (i := 610) (by decide +kernel)) rfl
theorem kw611 : Cond.fieldLink RX3 122 "TwinSets$Token" "NUMBER" "LTwinSets$Token;" ∈ TB := mTB (List.mem_of_getElem? (i := 611) (by decide +kernel)) rfl
theorem kw613 : Cond.fieldLink RX3 148 "TwinSets$Token" "SEMICOLON" "LTwinSets$Token;" ∈ TB := mTB (List.mem_of_getElem? (i := 613) (by decide +kernel)) rfl
theorem kw616 : Cond.methodLink RX3 40 yX3_passWord ∈ TB := mTB (List.mem_of_getElem? (i := 616) (by decide +kernel)) rfl
theorem kw618 : Cond.instanceMethod yX3_passWord ∈ TB := mTB (List.mem_of_getElem? (i := 618) (by decide +kernel)) rfl
theorem kw619 : Cond.code yX3_passWord cX3_passWord 2 (some .boolean) ∈ TB := mTB (List.mem_of_getElem? (i := 619) (by decide +kernel)) rfl
theorem kw620 : Cond.methodLink RX3 66 yX3_isWord ∈ TB := mTB (List.mem_of_getElem? (i := 620) (by decide +kernel)) rfl
theorem kw622 : Cond.instanceMethod yX3_isWord ∈ TB := mTB (List.mem_of_getElem? (i := 622) (by decide +kernel)) rfl
theorem kw623 : Cond.code yX3_isWord cX3_isWord 2 (some .boolean) ∈ TB := mTB (List.mem_of_getElem? (i := 623) (by decide +kernel)) rfl
theorem kw624 : Cond.methodLink RX3 154 yX1_holds ∈ TB := mTB (List.mem_of_getElem? (i := 624) (by decide +kernel)) rfl
theorem kw625 : Cond.methodLink RX3 90 yX3_fail ∈ TB := mTB (List.mem_of_getElem? (i := 625) (by decide +kernel)) rfl
theorem kw627 : Cond.instanceMethod yX3_fail ∈ TB := mTB (List.mem_of_getElem? (i := 627) (by decide +kernel)) rfl
theorem kw628 : Cond.code yX3_fail cX3_fail 2 (some .boolean) ∈ TB := mTB (List.mem_of_getElem? (i := 628) (by decide +kernel)) rfl
theorem kw629 : Cond.methodLink RX3 44 yX3_isNumber ∈ TB := mTB (List.mem_of_getElem? (i := 629) (by decide +kernel)) rfl
theorem kw631 : Cond.instanceMethod yX3_isNumber ∈ TB := mTB (List.mem_of_getElem? (i := 631) (by decide +kernel)) rfl
theorem kw632 : Cond.code yX3_isNumber cX3_isNumber 3 (some .boolean) ∈ TB := mTB (List.mem_of_getElem? (i := 632) (by decide +kernel)) rfl
theorem kw633 : Cond.methodLink RX3 51 yX5_begin ∈ TB := mTB (List.mem_of_getElem? (i := 633) (by decide +kernel)) rfl
theorem kw634 : Cond.methodLink RX3 57 yX3_passSemicolon ∈ TB := mTB (List.mem_of_getElem? (i := 634) (by decide +kernel)) rfl
theorem kw636 : Cond.instanceMethod yX3_passSemicolon ∈ TB := mTB (List.mem_of_getElem? (i := 636) (by decide +kernel)) rfl
theorem kw637 : Cond.code yX3_passSemicolon cX3_passSemicolon 1 (some .boolean) ∈ TB := mTB (List.mem_of_getElem? (i := 637) (by decide +kernel)) rfl
theorem kw638 : Cond.methodLink RX3 61 yX3_readStatement ∈ TB := mTB (List.mem_of_getElem? (i := 638) (by decide +kernel)) rfl
theorem kw640 : Cond.instanceMethod yX3_readStatement ∈ TB := mTB (List.mem_of_getElem? (i := 640) (by decide +kernel)) rfl
theorem kw641 : Cond.code yX3_readStatement cX3_readStatement 1 (some .boolean) ∈ TB := mTB (List.mem_of_getElem? (i := 641) (by decide +kernel)) rfl
theorem kw643 : Cond.methodLink RX3 69 yX3_readSet ∈ TB := mTB (List.mem_of_getElem? (i := 643) (by decide +kernel)) rfl
theorem kw645 : Cond.instanceMethod yX3_readSet ∈ TB := mTB (List.mem_of_getElem? (i := 645) (by decide +kernel)) rfl
theorem kw646 : Cond.code yX3_readSet cX3_readSet 1 (some .boolean) ∈ TB := mTB (List.mem_of_getElem? (i := 646) (by decide +kernel)) rfl
theorem kw647 : Cond.methodLink RX3 106 yX5_setNamed ∈ TB := mTB (List.mem_of_getElem? (i := 647) (by decide +kernel)) rfl
theorem kw648 : Cond.methodLink RX3 110 yX3_wordText ∈ TB := mTB (List.mem_of_getElem? (i := 648) (by decide +kernel)) rfl
theorem kw650 : Cond.instanceMethod yX3_wordText ∈ TB := mTB (List.mem_of_getElem? (i := 650) (by decide +kernel)) rfl
theorem kw651 : Cond.code yX3_wordText cX3_wordText 3 (some (.object "java/lang/String")) ∈ TB := mTB (List.mem_of_getElem? (i := 651) (by decide +kernel)) rfl
theorem kw652 : Cond.classLink RX3 160 RJ4 ∈ TB := mTB (List.mem_of_getElem? (i := 652) (by decide +kernel)) rfl
theorem kw653 : Cond.instantiable RJ4 4 ∈ TB := mTB (List.mem_of_getElem? (i := 653) (by decide +kernel)) rfl
theorem kw654 : Cond.methodLink RX3 162 yJ4_init_da8c8 ∈ TB := mTB (List.mem_of_getElem? (i := 654) (by decide +kernel)) rfl
theorem kw655 : Cond.instanceMethod yJ4_init_da8c8 ∈ TB := mTB (List.mem_of_getElem? (i := 655) (by decide +kernel)) rfl
theorem kw656 : Cond.code yJ4_init_da8c8 cJ4_init_da8c8 1 none ∈ TB := mTB (List.mem_of_getElem? (i := 656) (by decide +kernel)) rfl
theorem kw657 : Cond.methodLink RJ4 1 yJ5_init_d00df ∈ TB := mTB (List.mem_of_getElem? (i := 657) (by decide +kernel)) rfl
theorem kw658 : Cond.instanceMethod yJ5_init_d00df ∈ TB := mTB (List.mem_of_getElem? (i := 658) (by decide +kernel)) rfl
theorem kw659 : Cond.code yJ5_init_d00df cJ5_init_d00df 2 none ∈ TB := mTB (List.mem_of_getElem? (i := 659) (by decide +kernel)) rfl
theorem kw660 : Cond.methodLink RJ5 3 objectInit ∈ TB := mTB (List.mem_of_getElem? (i := 660) (by decide +kernel)) rfl
theorem kw661 : Cond.fieldLink RJ5 18 "java/lang/String" "COMPACT_STRINGS" "Z" ∈ TB := mTB (List.mem_of_getElem? (i := 661) (by decide +kernel)) rfl
theorem kw669 : Cond.fieldLink RJ5 15 "java/lang/AbstractStringBuilder" "value" "[B" ∈ TB := mTB (List.mem_of_getElem? (i := 669) (by decide +kernel)) rfl
theorem kw670 : Cond.fieldLink RJ5 22 "java/lang/AbstractStringBuilder" "coder" "B" ∈ TB := mTB (List.mem_of_getElem? (i := 670) (by decide +kernel)) rfl
theorem kw671 : Cond.fieldLink RJ0 1048 "java/lang/AbstractStringBuilder" "maybeLatin1" "Z" ∈ TB := mTB (List.mem_of_getElem? (i := 671) (by decide +kernel)) rfl
theorem kw672 : Cond.fieldLink RJ5 79 "java/lang/AbstractStringBuilder" "count" "I" ∈ TB := mTB (List.mem_of_getElem? (i := 672) (by decide +kernel)) rfl
theorem kw681 : Cond.superclass RJ4 RJ5 ∈ TB := mTB (List.mem_of_getElem? (i := 681) (by decide +kernel)) rfl
theorem kw682 : Cond.methodLink RX3 167 yJ4_append_cf468 ∈ TB := mTB (List.mem_of_getElem? (i := 682) (by decide +kernel)) rfl
theorem kw683 : Cond.instanceMethod yJ4_append_cf468 ∈ TB := mTB (List.mem_of_getElem? (i := 683) (by decide +kernel)) rfl
theorem kw684 : Cond.selects RJ4 yJ4_append_cf468 yJ4_append_cf468 ∈ TB := mTB (List.mem_of_getElem? (i := 684) (by decide +kernel)) rfl
theorem kw685 : Cond.code yJ4_append_cf468 cJ4_append_cf468 2 (some (.object "java/lang/StringBuilder")) ∈ TB := mTB (List.mem_of_getElem? (i := 685) (by decide +kernel)) rfl
theorem kw686 : Cond.methodLink RJ4 50 yJ5_append_3fe6f ∈ TB := mTB (List.mem_of_getElem? (i := 686) (by decide +kernel)) rfl
theorem kw687 : Cond.instanceMethod yJ5_append_3fe6f ∈ TB := mTB (List.mem_of_getElem? (i := 687) (by decide +kernel)) rfl
theorem kw688 : Cond.code yJ5_append_3fe6f cJ5_append_3fe6f 2 (some (.object "java/lang/AbstractStringBuilder")) ∈ TB := mTB (List.mem_of_getElem? (i := 688) (by decide +kernel)) rfl
theorem kw689 : Cond.methodLink RJ5 100 yJ5_ensureCapacityInternal_d00df ∈ TB := mTB (List.mem_of_getElem? (i := 689) (by decide +kernel)) rfl
theorem kw691 : Cond.instanceMethod yJ5_ensureCapacityInternal_d00df ∈ TB := mTB (List.mem_of_getElem? (i := 691) (by decide +kernel)) rfl
theorem kw692 : Cond.code yJ5_ensureCapacityInternal_d00df cJ5_ensureCapacityInternal_d00df 3 none ∈ TB := mTB (List.mem_of_getElem? (i := 692) (by decide +kernel)) rfl
theorem kw718 : Cond.methodLink RJ7 304 Lib.Math.min.name ∈ TB := mTB (List.mem_of_getElem? (i := 718) (by decide +kernel)) rfl
theorem kw719 : Cond.static Lib.Math.min.name ∈ TB := mTB (List.mem_of_getElem? (i := 719) (by decide +kernel)) rfl
theorem kw720 : Cond.code Lib.Math.min.name Lib.Math.min.code 2 (some .int) ∈ TB := mTB (List.mem_of_getElem? (i := 720) (by decide +kernel)) rfl
theorem kw721 : Cond.methodLink RJ7 150 arraycopyName ∈ TB := mTB (List.mem_of_getElem? (i := 721) (by decide +kernel)) rfl
theorem kw722 : Cond.methodLink RJ5 83 yJ5_isLatin1_aae02 ∈ TB := mTB (List.mem_of_getElem? (i := 722) (by decide +kernel)) rfl
theorem kw723 : Cond.instanceMethod yJ5_isLatin1_aae02 ∈ TB := mTB (List.mem_of_getElem? (i := 723) (by decide +kernel)) rfl
theorem kw724 : Cond.sameMethod RJ5 RJ5 "isLatin1" "()Z" ∈ TB := mTB (List.mem_of_getElem? (i := 724) (by decide +kernel)) rfl
theorem kw725 : Cond.selects RJ4 yJ5_isLatin1_aae02 yJ5_isLatin1_aae02 ∈ TB := mTB (List.mem_of_getElem? (i := 725) (by decide +kernel)) rfl
theorem kw726 : Cond.code yJ5_isLatin1_aae02 cJ5_isLatin1_aae02 1 (some .boolean) ∈ TB := mTB (List.mem_of_getElem? (i := 726) (by decide +kernel)) rfl
theorem kw727 : Cond.methodLink RJ5 191 yJ1_canEncode_fc78d ∈ TB := mTB (List.mem_of_getElem? (i := 727) (by decide +kernel)) rfl
theorem kw728 : Cond.static yJ1_canEncode_fc78d ∈ TB := mTB (List.mem_of_getElem? (i := 728) (by decide +kernel)) rfl
theorem kw729 : Cond.code yJ1_canEncode_fc78d cJ1_canEncode_fc78d 1 (some .boolean) ∈ TB := mTB (List.mem_of_getElem? (i := 729) (by decide +kernel)) rfl
theorem kw755 : Cond.methodLink RX3 171 yJ4_toString_0e30d ∈ TB := mTB (List.mem_of_getElem? (i := 755) (by decide +kernel)) rfl
theorem kw756 : Cond.instanceMethod yJ4_toString_0e30d ∈ TB := mTB (List.mem_of_getElem? (i := 756) (by decide +kernel)) rfl
theorem kw757 : Cond.selects RJ4 yJ4_toString_0e30d yJ4_toString_0e30d ∈ TB := mTB (List.mem_of_getElem? (i := 757) (by decide +kernel)) rfl
theorem kw758 : Cond.code yJ4_toString_0e30d cJ4_toString_0e30d 1 (some (.object "java/lang/String")) ∈ TB := mTB (List.mem_of_getElem? (i := 758) (by decide +kernel)) rfl
theorem kw759 : Cond.classLink RJ4 18 RJ0 ∈ TB := mTB (List.mem_of_getElem? (i := 759) (by decide +kernel)) rfl
theorem kw760 : Cond.instantiable RJ0 4 ∈ TB := mTB (List.mem_of_getElem? (i := 760) (by decide +kernel)) rfl
theorem kw761 : Cond.methodLink RJ4 137 yJ0_init_81219 ∈ TB := mTB (List.mem_of_getElem? (i := 761) (by decide +kernel)) rfl
theorem kw762 : Cond.instanceMethod yJ0_init_81219 ∈ TB := mTB (List.mem_of_getElem? (i := 762) (by decide +kernel)) rfl
theorem kw763 : Cond.code yJ0_init_81219 cJ0_init_81219 2 none ∈ TB := mTB (List.mem_of_getElem? (i := 763) (by decide +kernel)) rfl
theorem kw764 : Cond.methodLink RJ0 489 yJ0_init_db425 ∈ TB := mTB (List.mem_of_getElem? (i := 764) (by decide +kernel)) rfl
theorem kw765 : Cond.instanceMethod yJ0_init_db425 ∈ TB := mTB (List.mem_of_getElem? (i := 765) (by decide +kernel)) rfl
theorem kw766 : Cond.code yJ0_init_db425 cJ0_init_db425 5 none ∈ TB := mTB (List.mem_of_getElem? (i := 766) (by decide +kernel)) rfl
theorem kw767 : Cond.methodLink RJ0 1 objectInit ∈ TB := mTB (List.mem_of_getElem? (i := 767) (by decide +kernel)) rfl
theorem kw768 : Cond.methodLink RJ0 552 yJ5_getValue_6d5f1 ∈ TB := mTB (List.mem_of_getElem? (i := 768) (by decide +kernel)) rfl
theorem kw769 : Cond.instanceMethod yJ5_getValue_6d5f1 ∈ TB := mTB (List.mem_of_getElem? (i := 769) (by decide +kernel)) rfl
theorem kw770 : Cond.sameMethod RJ5 RJ5 "getValue" "()[B" ∈ TB := mTB (List.mem_of_getElem? (i := 770) (by decide +kernel)) rfl
theorem kw771 : Cond.selects RJ4 yJ5_getValue_6d5f1 yJ5_getValue_6d5f1 ∈ TB := mTB (List.mem_of_getElem? (i := 771) (by decide +kernel)) rfl
theorem kw772 : Cond.code yJ5_getValue_6d5f1 cJ5_getValue_6d5f1 1 (some (.array .byte)) ∈ TB := mTB (List.mem_of_getElem? (i := 772) (by decide +kernel)) rfl
theorem kw773 : Cond.methodLink RJ0 549 yJ5_length_8abf5 ∈ TB := mTB (List.mem_of_getElem? (i := 773) (by decide +kernel)) rfl
theorem kw774 : Cond.instanceMethod yJ5_length_8abf5 ∈ TB := mTB (List.mem_of_getElem? (i := 774) (by decide +kernel)) rfl
theorem kw775 : Cond.sameMethod RJ5 RJ5 "length" "()I" ∈ TB := mTB (List.mem_of_getElem? (i := 775) (by decide +kernel)) rfl
theorem kw776 : Cond.selects RJ4 yJ5_length_8abf5 yJ4_length_8abf5 ∈ TB := mTB (List.mem_of_getElem? (i := 776) (by decide +kernel)) rfl
theorem kw777 : Cond.instanceMethod yJ4_length_8abf5 ∈ TB := mTB (List.mem_of_getElem? (i := 777) (by decide +kernel)) rfl
theorem kw778 : Cond.code yJ4_length_8abf5 cJ4_length_8abf5 1 (some .int) ∈ TB := mTB (List.mem_of_getElem? (i := 778) (by decide +kernel)) rfl
theorem kw779 : Cond.methodLink RJ4 343 yJ5_length_8abf5 ∈ TB := mTB (List.mem_of_getElem? (i := 779) (by decide +kernel)) rfl
theorem kw780 : Cond.code yJ5_length_8abf5 cJ5_length_8abf5 1 (some .int) ∈ TB := mTB (List.mem_of_getElem? (i := 780) (by decide +kernel)) rfl
theorem kw781 : Cond.methodLink RJ0 1047 yJ5_isLatin1_aae02 ∈ TB := mTB (List.mem_of_getElem? (i := 781) (by decide +kernel)) rfl
theorem kw782 : Cond.methodLink RJ0 54 yJ7_copyOfRange_39247 ∈ TB := mTB (List.mem_of_getElem? (i := 782) (by decide +kernel)) rfl
theorem kw783 : Cond.static yJ7_copyOfRange_39247 ∈ TB := mTB (List.mem_of_getElem? (i := 783) (by decide +kernel)) rfl
theorem kw784 : Cond.code yJ7_copyOfRange_39247 cJ7_copyOfRange_39247 3 (some (.array .byte)) ∈ TB := mTB (List.mem_of_getElem? (i := 784) (by decide +kernel)) rfl
theorem kw785 : Cond.methodLink RJ7 339 yJ7_copyOfRangeByte_39247 ∈ TB := mTB (List.mem_of_getElem? (i := 785) (by decide +kernel)) rfl
theorem kw786 : Cond.static yJ7_copyOfRangeByte_39247 ∈ TB := mTB (List.mem_of_getElem? (i := 786) (by decide +kernel)) rfl
theorem kw787 : Cond.code yJ7_copyOfRangeByte_39247 cJ7_copyOfRangeByte_39247 5 (some (.array .byte)) ∈ TB := mTB (List.mem_of_getElem? (i := 787) (by decide +kernel)) rfl
theorem kw788 : Cond.methodLink RJ7 343 yJ7_checkLength_df160 ∈ TB := mTB (List.mem_of_getElem? (i := 788) (by decide +kernel)) rfl
theorem kw789 : Cond.static yJ7_checkLength_df160 ∈ TB := mTB (List.mem_of_getElem? (i := 789) (by decide +kernel)) rfl
theorem kw790 : Cond.code yJ7_checkLength_df160 cJ7_checkLength_df160 2 none ∈ TB := mTB (List.mem_of_getElem? (i := 790) (by decide +kernel)) rfl
theorem kw871 : Cond.fieldLink RJ0 9 "java/lang/String" "value" "[B" ∈ TB := mTB (List.mem_of_getElem? (i := 871) (by decide +kernel)) rfl
theorem kw872 : Cond.fieldLink RJ0 15 "java/lang/String" "coder" "B" ∈ TB := mTB (List.mem_of_getElem? (i := 872) (by decide +kernel)) rfl
theorem kw882 : Cond.methodLink RX3 114 yX5_beginSet ∈ TB := mTB (List.mem_of_getElem? (i := 882) (by decide +kernel)) rfl
theorem kw883 : Cond.instanceMethod yX5_beginSet ∈ TB := mTB (List.mem_of_getElem? (i := 883) (by decide +kernel)) rfl
theorem kw884 : Cond.selects RX5 yX5_beginSet yX5_beginSet ∈ TB := mTB (List.mem_of_getElem? (i := 884) (by decide +kernel)) rfl
theorem kw885 : Cond.code yX5_beginSet cX5_beginSet 2 none ∈ TB := mTB (List.mem_of_getElem? (i := 885) (by decide +kernel)) rfl
theorem kw886 : Cond.methodLink RX5 55 yX7_begin ∈ TB := mTB (List.mem_of_getElem? (i := 886) (by decide +kernel)) rfl
theorem kw887 : Cond.instanceMethod yX7_begin ∈ TB := mTB (List.mem_of_getElem? (i := 887) (by decide +kernel)) rfl
theorem kw888 : Cond.selects RX7 yX7_begin yX7_begin ∈ TB := mTB (List.mem_of_getElem? (i := 888) (by decide +kernel)) rfl
theorem kw889 : Cond.code yX7_begin cX7_begin 2 none ∈ TB := mTB (List.mem_of_getElem? (i := 889) (by decide +kernel)) rfl
theorem kw890 : Cond.methodLink RX7 41 yJ7_fill_53178 ∈ TB := mTB (List.mem_of_getElem? (i := 890) (by decide +kernel)) rfl
theorem kw891 : Cond.static yJ7_fill_53178 ∈ TB := mTB (List.mem_of_getElem? (i := 891) (by decide +kernel)) rfl
theorem kw892 : Cond.code yJ7_fill_53178 cJ7_fill_53178 4 none ∈ TB := mTB (List.mem_of_getElem? (i := 892) (by decide +kernel)) rfl
theorem kw893 : Cond.methodLink RX7 47 yX2_begin ∈ TB := mTB (List.mem_of_getElem? (i := 893) (by decide +kernel)) rfl
theorem kw894 : Cond.instanceMethod yX2_begin ∈ TB := mTB (List.mem_of_getElem? (i := 894) (by decide +kernel)) rfl
theorem kw895 : Cond.selects RX2 yX2_begin yX2_begin ∈ TB := mTB (List.mem_of_getElem? (i := 895) (by decide +kernel)) rfl
theorem kw896 : Cond.code yX2_begin cX2_begin 1 none ∈ TB := mTB (List.mem_of_getElem? (i := 896) (by decide +kernel)) rfl
theorem kw898 : Cond.methodLink RX3 74 yX3_readMembers ∈ TB := mTB (List.mem_of_getElem? (i := 898) (by decide +kernel)) rfl
theorem kw900 : Cond.instanceMethod yX3_readMembers ∈ TB := mTB (List.mem_of_getElem? (i := 900) (by decide +kernel)) rfl
theorem kw901 : Cond.code yX3_readMembers cX3_readMembers 4 (some .boolean) ∈ TB := mTB (List.mem_of_getElem? (i := 901) (by decide +kernel)) rfl
theorem kw902 : Cond.methodLink RX3 118 yX3_readEarlierSet ∈ TB := mTB (List.mem_of_getElem? (i := 902) (by decide +kernel)) rfl
theorem kw904 : Cond.instanceMethod yX3_readEarlierSet ∈ TB := mTB (List.mem_of_getElem? (i := 904) (by decide +kernel)) rfl
theorem kw905 : Cond.code yX3_readEarlierSet cX3_readEarlierSet 2 (some .int) ∈ TB := mTB (List.mem_of_getElem? (i := 905) (by decide +kernel)) rfl
theorem kw906 : Cond.methodLink RX3 131 yX5_bringIn ∈ TB := mTB (List.mem_of_getElem? (i := 906) (by decide +kernel)) rfl
theorem kw907 : Cond.instanceMethod yX5_bringIn ∈ TB := mTB (List.mem_of_getElem? (i := 907) (by decide +kernel)) rfl
theorem kw908 : Cond.selects RX5 yX5_bringIn yX5_bringIn ∈ TB := mTB (List.mem_of_getElem? (i := 908) (by decide +kernel)) rfl
theorem kw909 : Cond.code yX5_bringIn cX5_bringIn 3 (some .boolean) ∈ TB := mTB (List.mem_of_getElem? (i := 909) (by decide +kernel)) rfl
theorem kw910 : Cond.methodLink RX5 82 yX7_has ∈ TB := mTB (List.mem_of_getElem? (i := 910) (by decide +kernel)) rfl
theorem kw911 : Cond.instanceMethod yX7_has ∈ TB := mTB (List.mem_of_getElem? (i := 911) (by decide +kernel)) rfl
theorem kw912 : Cond.selects RX7 yX7_has yX7_has ∈ TB := mTB (List.mem_of_getElem? (i := 912) (by decide +kernel)) rfl
theorem kw913 : Cond.code yX7_has cX7_has 2 (some .boolean) ∈ TB := mTB (List.mem_of_getElem? (i := 913) (by decide +kernel)) rfl
theorem kw914 : Cond.methodLink RX7 60 yX7_placeOf ∈ TB := mTB (List.mem_of_getElem? (i := 914) (by decide +kernel)) rfl
theorem kw915 : Cond.instanceMethod yX7_placeOf ∈ TB := mTB (List.mem_of_getElem? (i := 915) (by decide +kernel)) rfl
theorem kw916 : Cond.selects RX7 yX7_placeOf yX7_placeOf ∈ TB := mTB (List.mem_of_getElem? (i := 916) (by decide +kernel)) rfl
theorem kw917 : Cond.code yX7_placeOf cX7_placeOf 3 (some .int) ∈ TB := mTB (List.mem_of_getElem? (i := 917) (by decide +kernel)) rfl
theorem kw918 : Cond.methodLink RX5 89 yX5_writeMember ∈ TB := mTB (List.mem_of_getElem? (i := 918) (by decide +kernel)) rfl
theorem kw920 : Cond.instanceMethod yX5_writeMember ∈ TB := mTB (List.mem_of_getElem? (i := 920) (by decide +kernel)) rfl
theorem kw921 : Cond.code yX5_writeMember cX5_writeMember 4 none ∈ TB := mTB (List.mem_of_getElem? (i := 921) (by decide +kernel)) rfl
theorem kw922 : Cond.methodLink RX5 100 yX2_note ∈ TB := mTB (List.mem_of_getElem? (i := 922) (by decide +kernel)) rfl
theorem kw923 : Cond.instanceMethod yX2_note ∈ TB := mTB (List.mem_of_getElem? (i := 923) (by decide +kernel)) rfl
theorem kw924 : Cond.selects RX2 yX2_note yX2_note ∈ TB := mTB (List.mem_of_getElem? (i := 924) (by decide +kernel)) rfl
theorem kw925 : Cond.code yX2_note cX2_note 5 none ∈ TB := mTB (List.mem_of_getElem? (i := 925) (by decide +kernel)) rfl
theorem kw926 : Cond.methodLink RX2 38 yX2_bitsBehind ∈ TB := mTB (List.mem_of_getElem? (i := 926) (by decide +kernel)) rfl
theorem kw928 : Cond.instanceMethod yX2_bitsBehind ∈ TB := mTB (List.mem_of_getElem? (i := 928) (by decide +kernel)) rfl
theorem kw929 : Cond.code yX2_bitsBehind cX2_bitsBehind 6 (some .long) ∈ TB := mTB (List.mem_of_getElem? (i := 929) (by decide +kernel)) rfl
theorem kw930 : Cond.constantLong RX2 42 (-1) ∈ TB := mTB (List.mem_of_getElem? (i := 930) (by decide +kernel)) rfl
theorem kw931 : Cond.methodLink RX3 135 yX5_takeOut ∈ TB := mTB (List.mem_of_getElem? (i := 931) (by decide +kernel)) rfl
theorem kw932 : Cond.instanceMethod yX5_takeOut ∈ TB := mTB (List.mem_of_getElem? (i := 932) (by decide +kernel)) rfl
theorem kw933 : Cond.selects RX5 yX5_takeOut yX5_takeOut ∈ TB := mTB (List.mem_of_getElem? (i := 933) (by decide +kernel)) rfl
theorem kw934 : Cond.code yX5_takeOut cX5_takeOut 7 (some .boolean) ∈ TB := mTB (List.mem_of_getElem? (i := 934) (by decide +kernel)) rfl
theorem kw935 : Cond.methodLink RX5 106 yX7_placeOf ∈ TB := mTB (List.mem_of_getElem? (i := 935) (by decide +kernel)) rfl
theorem kw936 : Cond.methodLink RX5 110 yX5_pullCursorsBack ∈ TB := mTB (List.mem_of_getElem? (i := 936) (by decide +kernel)) rfl
theorem kw938 : Cond.instanceMethod yX5_pullCursorsBack ∈ TB := mTB (List.mem_of_getElem? (i := 938) (by decide +kernel)) rfl
theorem kw939 : Cond.code yX5_pullCursorsBack cX5_pullCursorsBack 5 (some .boolean) ∈ TB := mTB (List.mem_of_getElem? (i := 939) (by decide +kernel)) rfl
theorem kw940 : Cond.methodLink RX5 117 yX0_isOpenOn ∈ TB := mTB (List.mem_of_getElem? (i := 940) (by decide +kernel)) rfl
theorem kw941 : Cond.instanceMethod yX0_isOpenOn ∈ TB := mTB (List.mem_of_getElem? (i := 941) (by decide +kernel)) rfl
theorem kw942 : Cond.selects RX0 yX0_isOpenOn yX0_isOpenOn ∈ TB := mTB (List.mem_of_getElem? (i := 942) (by decide +kernel)) rfl
theorem kw943 : Cond.code yX0_isOpenOn cX0_isOpenOn 2 (some .boolean) ∈ TB := mTB (List.mem_of_getElem? (i := 943) (by decide +kernel)) rfl
theorem kw944 : Cond.methodLink RX5 114 yX5_moveMember ∈ TB := mTB (List.mem_of_getElem? (i := 944) (by decide +kernel)) rfl
theorem kw946 : Cond.instanceMethod yX5_moveMember ∈ TB := mTB (List.mem_of_getElem? (i := 946) (by decide +kernel)) rfl
theorem kw947 : Cond.code yX5_moveMember cX5_moveMember 4 none ∈ TB := mTB (List.mem_of_getElem? (i := 947) (by decide +kernel)) rfl
theorem kw950 : Cond.methodLink RX3 82 yX3_readClear ∈ TB := mTB (List.mem_of_getElem? (i := 950) (by decide +kernel)) rfl
theorem kw952 : Cond.instanceMethod yX3_readClear ∈ TB := mTB (List.mem_of_getElem? (i := 952) (by decide +kernel)) rfl
theorem kw953 : Cond.code yX3_readClear cX3_readClear 2 (some .boolean) ∈ TB := mTB (List.mem_of_getElem? (i := 953) (by decide +kernel)) rfl
theorem kw954 : Cond.methodLink RX3 138 yX5_emptySet ∈ TB := mTB (List.mem_of_getElem? (i := 954) (by decide +kernel)) rfl
theorem kw955 : Cond.instanceMethod yX5_emptySet ∈ TB := mTB (List.mem_of_getElem? (i := 955) (by decide +kernel)) rfl
theorem kw956 : Cond.selects RX5 yX5_emptySet yX5_emptySet ∈ TB := mTB (List.mem_of_getElem? (i := 956) (by decide +kernel)) rfl
theorem kw957 : Cond.code yX5_emptySet cX5_emptySet 4 none ∈ TB := mTB (List.mem_of_getElem? (i := 957) (by decide +kernel)) rfl
theorem kw959 : Cond.methodLink RX3 87 yX3_readMark ∈ TB := mTB (List.mem_of_getElem? (i := 959) (by decide +kernel)) rfl
theorem kw961 : Cond.instanceMethod yX3_readMark ∈ TB := mTB (List.mem_of_getElem? (i := 961) (by decide +kernel)) rfl
theorem kw962 : Cond.code yX3_readMark cX3_readMark 1 (some .boolean) ∈ TB := mTB (List.mem_of_getElem? (i := 962) (by decide +kernel)) rfl
theorem kw963 : Cond.methodLink RX3 145 yX5_makeMark ∈ TB := mTB (List.mem_of_getElem? (i := 963) (by decide +kernel)) rfl
theorem kw964 : Cond.instanceMethod yX5_makeMark ∈ TB := mTB (List.mem_of_getElem? (i := 964) (by decide +kernel)) rfl
theorem kw965 : Cond.selects RX5 yX5_makeMark yX5_makeMark ∈ TB := mTB (List.mem_of_getElem? (i := 965) (by decide +kernel)) rfl
theorem kw966 : Cond.code yX5_makeMark cX5_makeMark 1 none ∈ TB := mTB (List.mem_of_getElem? (i := 966) (by decide +kernel)) rfl
theorem kw967 : Cond.methodLink RX9 72 yX9_beginWithDraft ∈ TB := mTB (List.mem_of_getElem? (i := 967) (by decide +kernel)) rfl
theorem kw969 : Cond.instanceMethod yX9_beginWithDraft ∈ TB := mTB (List.mem_of_getElem? (i := 969) (by decide +kernel)) rfl
theorem kw970 : Cond.code yX9_beginWithDraft cX9_beginWithDraft 2 none ∈ TB := mTB (List.mem_of_getElem? (i := 970) (by decide +kernel)) rfl
theorem kw971 : Cond.methodLink RX9 78 yX8_forgetAll ∈ TB := mTB (List.mem_of_getElem? (i := 971) (by decide +kernel)) rfl
theorem kw972 : Cond.instanceMethod yX8_forgetAll ∈ TB := mTB (List.mem_of_getElem? (i := 972) (by decide +kernel)) rfl
theorem kw973 : Cond.selects RX8 yX8_forgetAll yX8_forgetAll ∈ TB := mTB (List.mem_of_getElem? (i := 973) (by decide +kernel)) rfl
theorem kw974 : Cond.code yX8_forgetAll cX8_forgetAll 1 none ∈ TB := mTB (List.mem_of_getElem? (i := 974) (by decide +kernel)) rfl
theorem kw975 : Cond.methodLink RX9 81 yX4_emptyAll ∈ TB := mTB (List.mem_of_getElem? (i := 975) (by decide +kernel)) rfl
theorem kw976 : Cond.instanceMethod yX4_emptyAll ∈ TB := mTB (List.mem_of_getElem? (i := 976) (by decide +kernel)) rfl
theorem kw977 : Cond.selects RX4 yX4_emptyAll yX4_emptyAll ∈ TB := mTB (List.mem_of_getElem? (i := 977) (by decide +kernel)) rfl
theorem kw978 : Cond.code yX4_emptyAll cX4_emptyAll 2 none ∈ TB := mTB (List.mem_of_getElem? (i := 978) (by decide +kernel)) rfl
theorem kw986 : Cond.methodLink RX9 99 yX5_countCursors ∈ TB := mTB (List.mem_of_getElem? (i := 986) (by decide +kernel)) rfl
theorem kw987 : Cond.instanceMethod yX5_countCursors ∈ TB := mTB (List.mem_of_getElem? (i := 987) (by decide +kernel)) rfl
theorem kw988 : Cond.selects RX5 yX5_countCursors yX5_countCursors ∈ TB := mTB (List.mem_of_getElem? (i := 988) (by decide +kernel)) rfl
theorem kw989 : Cond.code yX5_countCursors cX5_countCursors 3 (some .int) ∈ TB := mTB (List.mem_of_getElem? (i := 989) (by decide +kernel)) rfl
theorem kw999 : Cond.methodLink RX9 122 yX9_rowsOf ∈ TB := mTB (List.mem_of_getElem? (i := 999) (by decide +kernel)) rfl
theorem kw1001 : Cond.instanceMethod yX9_rowsOf ∈ TB := mTB (List.mem_of_getElem? (i := 1001) (by decide +kernel)) rfl
theorem kw1002 : Cond.code yX9_rowsOf cX9_rowsOf 2 (some (.object "TwinSets$TwinRows")) ∈ TB := mTB (List.mem_of_getElem? (i := 1002) (by decide +kernel)) rfl
theorem kw1003 : Cond.methodLink RX9 247 yX9_checkSet ∈ TB := mTB (List.mem_of_getElem? (i := 1003) (by decide +kernel)) rfl
theorem kw1005 : Cond.instanceMethod yX9_checkSet ∈ TB := mTB (List.mem_of_getElem? (i := 1005) (by decide +kernel)) rfl
theorem kw1006 : Cond.code yX9_checkSet cX9_checkSet 2 none ∈ TB := mTB (List.mem_of_getElem? (i := 1006) (by decide +kernel)) rfl
theorem kw1007 : Cond.classLink RX9 320 "java/lang/IndexOutOfBoundsException" ∈ TB := mTB (List.mem_of_getElem? (i := 1007) (by decide +kernel)) rfl
theorem kw1023 : Cond.methodLink RX9 144 yX5_countOpenCursors ∈ TB := mTB (List.mem_of_getElem? (i := 1023) (by decide +kernel)) rfl
theorem kw1024 : Cond.instanceMethod yX5_countOpenCursors ∈ TB := mTB (List.mem_of_getElem? (i := 1024) (by decide +kernel)) rfl
theorem kw1025 : Cond.selects RX5 yX5_countOpenCursors yX5_countOpenCursors ∈ TB := mTB (List.mem_of_getElem? (i := 1025) (by decide +kernel)) rfl
theorem kw1026 : Cond.code yX5_countOpenCursors cX5_countOpenCursors 4 (some .int) ∈ TB := mTB (List.mem_of_getElem? (i := 1026) (by decide +kernel)) rfl
theorem kw1034 : Cond.methodLink RX9 148 yX5_hasNumber ∈ TB := mTB (List.mem_of_getElem? (i := 1034) (by decide +kernel)) rfl
theorem kw1035 : Cond.instanceMethod yX5_hasNumber ∈ TB := mTB (List.mem_of_getElem? (i := 1035) (by decide +kernel)) rfl
theorem kw1036 : Cond.selects RX5 yX5_hasNumber yX5_hasNumber ∈ TB := mTB (List.mem_of_getElem? (i := 1036) (by decide +kernel)) rfl
theorem kw1037 : Cond.code yX5_hasNumber cX5_hasNumber 2 (some .boolean) ∈ TB := mTB (List.mem_of_getElem? (i := 1037) (by decide +kernel)) rfl
theorem kw1046 : Cond.methodLink RX9 160 yX7_placeOf ∈ TB := mTB (List.mem_of_getElem? (i := 1046) (by decide +kernel)) rfl
theorem kw1054 : Cond.methodLink RX9 163 yX7_has ∈ TB := mTB (List.mem_of_getElem? (i := 1054) (by decide +kernel)) rfl
theorem kw1070 : Cond.methodLink RX9 178 yX9_checkStamp ∈ TB := mTB (List.mem_of_getElem? (i := 1070) (by decide +kernel)) rfl
theorem kw1072 : Cond.instanceMethod yX9_checkStamp ∈ TB := mTB (List.mem_of_getElem? (i := 1072) (by decide +kernel)) rfl
theorem kw1073 : Cond.code yX9_checkStamp cX9_checkStamp 3 none ∈ TB := mTB (List.mem_of_getElem? (i := 1073) (by decide +kernel)) rfl
theorem kw1075 : Cond.methodLink RX9 182 yX2_bitsAt ∈ TB := mTB (List.mem_of_getElem? (i := 1075) (by decide +kernel)) rfl
theorem kw1076 : Cond.instanceMethod yX2_bitsAt ∈ TB := mTB (List.mem_of_getElem? (i := 1076) (by decide +kernel)) rfl
theorem kw1077 : Cond.selects RX2 yX2_bitsAt yX2_bitsAt ∈ TB := mTB (List.mem_of_getElem? (i := 1077) (by decide +kernel)) rfl
theorem kw1078 : Cond.code yX2_bitsAt cX2_bitsAt 5 (some .long) ∈ TB := mTB (List.mem_of_getElem? (i := 1078) (by decide +kernel)) rfl
theorem kw1086 : Cond.constantLong RX9 186 (-1) ∈ TB := mTB (List.mem_of_getElem? (i := 1086) (by decide +kernel)) rfl
theorem kw1087 : Cond.methodLink RX9 188 yJ13_bitCount_95d88 ∈ TB := mTB (List.mem_of_getElem? (i := 1087) (by decide +kernel)) rfl
theorem kw1088 : Cond.static yJ13_bitCount_95d88 ∈ TB := mTB (List.mem_of_getElem? (i := 1088) (by decide +kernel)) rfl
theorem kw1089 : Cond.code yJ13_bitCount_95d88 cJ13_bitCount_95d88 2 (some .int) ∈ TB := mTB (List.mem_of_getElem? (i := 1089) (by decide +kernel)) rfl
theorem kw1090 : Cond.constantLong RJ13 314 6148914691236517205 ∈ TB := mTB (List.mem_of_getElem? (i := 1090) (by decide +kernel)) rfl
theorem kw1091 : Cond.constantLong RJ13 316 3689348814741910323 ∈ TB := mTB (List.mem_of_getElem? (i := 1091) (by decide +kernel)) rfl
theorem kw1092 : Cond.constantLong RJ13 318 1085102592571150095 ∈ TB := mTB (List.mem_of_getElem? (i := 1092) (by decide +kernel)) rfl
theorem kw1100 : Cond.methodLink RX9 194 yX9_checkNumber ∈ TB := mTB (List.mem_of_getElem? (i := 1100) (by decide +kernel)) rfl
theorem kw1102 : Cond.instanceMethod yX9_checkNumber ∈ TB := mTB (List.mem_of_getElem? (i := 1102) (by decide +kernel)) rfl
theorem kw1103 : Cond.code yX9_checkNumber cX9_checkNumber 2 none ∈ TB := mTB (List.mem_of_getElem? (i := 1103) (by decide +kernel)) rfl
theorem kw1105 : Cond.methodLink RX9 197 yX2_latestChangeOf ∈ TB := mTB (List.mem_of_getElem? (i := 1105) (by decide +kernel)) rfl
theorem kw1106 : Cond.instanceMethod yX2_latestChangeOf ∈ TB := mTB (List.mem_of_getElem? (i := 1106) (by decide +kernel)) rfl
theorem kw1107 : Cond.selects RX2 yX2_latestChangeOf yX2_latestChangeOf ∈ TB := mTB (List.mem_of_getElem? (i := 1107) (by decide +kernel)) rfl
theorem kw1108 : Cond.code yX2_latestChangeOf cX2_latestChangeOf 8 (some .int) ∈ TB := mTB (List.mem_of_getElem? (i := 1108) (by decide +kernel)) rfl
theorem kw1116 : Cond.methodLink RX9 200 yX2_stampOfMostMembers ∈ TB := mTB (List.mem_of_getElem? (i := 1116) (by decide +kernel)) rfl
theorem kw1117 : Cond.instanceMethod yX2_stampOfMostMembers ∈ TB := mTB (List.mem_of_getElem? (i := 1117) (by decide +kernel)) rfl
theorem kw1118 : Cond.selects RX2 yX2_stampOfMostMembers yX2_stampOfMostMembers ∈ TB := mTB (List.mem_of_getElem? (i := 1118) (by decide +kernel)) rfl
theorem kw1119 : Cond.code yX2_stampOfMostMembers cX2_stampOfMostMembers 6 (some .int) ∈ TB := mTB (List.mem_of_getElem? (i := 1119) (by decide +kernel)) rfl
theorem kw1120 : Cond.methodLink RX2 44 yJ13_bitCount_95d88 ∈ TB := mTB (List.mem_of_getElem? (i := 1120) (by decide +kernel)) rfl
theorem kw1128 : Cond.methodLink RX9 203 yX9_cursorOf ∈ TB := mTB (List.mem_of_getElem? (i := 1128) (by decide +kernel)) rfl
theorem kw1130 : Cond.instanceMethod yX9_cursorOf ∈ TB := mTB (List.mem_of_getElem? (i := 1130) (by decide +kernel)) rfl
theorem kw1131 : Cond.code yX9_cursorOf cX9_cursorOf 2 (some (.object "TwinSets$Cursor")) ∈ TB := mTB (List.mem_of_getElem? (i := 1131) (by decide +kernel)) rfl
theorem kw1140 : Cond.methodLink RX9 231 yX5_countAhead ∈ TB := mTB (List.mem_of_getElem? (i := 1140) (by decide +kernel)) rfl
theorem kw1141 : Cond.instanceMethod yX5_countAhead ∈ TB := mTB (List.mem_of_getElem? (i := 1141) (by decide +kernel)) rfl
theorem kw1142 : Cond.selects RX5 yX5_countAhead yX5_countAhead ∈ TB := mTB (List.mem_of_getElem? (i := 1142) (by decide +kernel)) rfl
theorem kw1143 : Cond.code yX5_countAhead cX5_countAhead 5 (some .int) ∈ TB := mTB (List.mem_of_getElem? (i := 1143) (by decide +kernel)) rfl
theorem kw1144 : Cond.methodLink RX5 142 yX7_stampAt ∈ TB := mTB (List.mem_of_getElem? (i := 1144) (by decide +kernel)) rfl
theorem kw1145 : Cond.instanceMethod yX7_stampAt ∈ TB := mTB (List.mem_of_getElem? (i := 1145) (by decide +kernel)) rfl
theorem kw1146 : Cond.selects RX7 yX7_stampAt yX7_stampAt ∈ TB := mTB (List.mem_of_getElem? (i := 1146) (by decide +kernel)) rfl
theorem kw1147 : Cond.code yX7_stampAt cX7_stampAt 2 (some .int) ∈ TB := mTB (List.mem_of_getElem? (i := 1147) (by decide +kernel)) rfl
theorem kw1148 : Cond.methodLink RX5 145 yX0_meets ∈ TB := mTB (List.mem_of_getElem? (i := 1148) (by decide +kernel)) rfl
theorem kw1149 : Cond.instanceMethod yX0_meets ∈ TB := mTB (List.mem_of_getElem? (i := 1149) (by decide +kernel)) rfl
theorem kw1150 : Cond.selects RX0 yX0_meets yX0_meets ∈ TB := mTB (List.mem_of_getElem? (i := 1150) (by decide +kernel)) rfl
theorem kw1151 : Cond.code yX0_meets cX0_meets 2 (some .boolean) ∈ TB := mTB (List.mem_of_getElem? (i := 1151) (by decide +kernel)) rfl
theorem kw1159 : Cond.methodLink RX9 235 yX7_bits ∈ TB := mTB (List.mem_of_getElem? (i := 1159) (by decide +kernel)) rfl
theorem kw1160 : Cond.instanceMethod yX7_bits ∈ TB := mTB (List.mem_of_getElem? (i := 1160) (by decide +kernel)) rfl
theorem kw1161 : Cond.selects RX7 yX7_bits yX7_bits ∈ TB := mTB (List.mem_of_getElem? (i := 1161) (by decide +kernel)) rfl
theorem kw1162 : Cond.code yX7_bits cX7_bits 4 (some .long) ∈ TB := mTB (List.mem_of_getElem? (i := 1162) (by decide +kernel)) rfl
theorem kw1184 : Cond.methodLink RX9 239 yX8_remember ∈ TB := mTB (List.mem_of_getElem? (i := 1184) (by decide +kernel)) rfl
theorem kw1185 : Cond.instanceMethod yX8_remember ∈ TB := mTB (List.mem_of_getElem? (i := 1185) (by decide +kernel)) rfl
theorem kw1186 : Cond.selects RX8 yX8_remember yX8_remember ∈ TB := mTB (List.mem_of_getElem? (i := 1186) (by decide +kernel)) rfl
theorem kw1187 : Cond.code yX8_remember cX8_remember 2 none ∈ TB := mTB (List.mem_of_getElem? (i := 1187) (by decide +kernel)) rfl
theorem kw1188 : Cond.methodLink RX8 21 yX5_init ∈ TB := mTB (List.mem_of_getElem? (i := 1188) (by decide +kernel)) rfl
theorem kw1189 : Cond.methodLink RX8 29 Lib.Math.min.name ∈ TB := mTB (List.mem_of_getElem? (i := 1189) (by decide +kernel)) rfl
theorem kw1190 : Cond.methodLink RX9 243 yX5_bringIn ∈ TB := mTB (List.mem_of_getElem? (i := 1190) (by decide +kernel)) rfl
theorem kw1198 : Cond.methodLink RX9 250 yX5_takeOut ∈ TB := mTB (List.mem_of_getElem? (i := 1198) (by decide +kernel)) rfl
theorem kw1206 : Cond.methodLink RX9 254 yX5_emptySet ∈ TB := mTB (List.mem_of_getElem? (i := 1206) (by decide +kernel)) rfl
theorem kw1215 : Cond.classLink RX9 257 "java/lang/IllegalStateException" ∈ TB := mTB (List.mem_of_getElem? (i := 1215) (by decide +kernel)) rfl
theorem kw1231 : Cond.methodLink RX9 262 yX5_makeMark ∈ TB := mTB (List.mem_of_getElem? (i := 1231) (by decide +kernel)) rfl
theorem kw1239 : Cond.methodLink RX9 265 yX5_freeCursor ∈ TB := mTB (List.mem_of_getElem? (i := 1239) (by decide +kernel)) rfl
theorem kw1240 : Cond.instanceMethod yX5_freeCursor ∈ TB := mTB (List.mem_of_getElem? (i := 1240) (by decide +kernel)) rfl
theorem kw1241 : Cond.selects RX5 yX5_freeCursor yX5_freeCursor ∈ TB := mTB (List.mem_of_getElem? (i := 1241) (by decide +kernel)) rfl
theorem kw1242 : Cond.code yX5_freeCursor cX5_freeCursor 2 (some .int) ∈ TB := mTB (List.mem_of_getElem? (i := 1242) (by decide +kernel)) rfl
theorem kw1244 : Cond.methodLink RX9 274 yX0_begin ∈ TB := mTB (List.mem_of_getElem? (i := 1244) (by decide +kernel)) rfl
theorem kw1245 : Cond.instanceMethod yX0_begin ∈ TB := mTB (List.mem_of_getElem? (i := 1245) (by decide +kernel)) rfl
theorem kw1246 : Cond.selects RX0 yX0_begin yX0_begin ∈ TB := mTB (List.mem_of_getElem? (i := 1246) (by decide +kernel)) rfl
theorem kw1247 : Cond.code yX0_begin cX0_begin 4 none ∈ TB := mTB (List.mem_of_getElem? (i := 1247) (by decide +kernel)) rfl
theorem kw1262 : Cond.methodLink RX9 280 yX5_meetNext ∈ TB := mTB (List.mem_of_getElem? (i := 1262) (by decide +kernel)) rfl
theorem kw1263 : Cond.instanceMethod yX5_meetNext ∈ TB := mTB (List.mem_of_getElem? (i := 1263) (by decide +kernel)) rfl
theorem kw1264 : Cond.selects RX5 yX5_meetNext yX5_meetNext ∈ TB := mTB (List.mem_of_getElem? (i := 1264) (by decide +kernel)) rfl
theorem kw1265 : Cond.code yX5_meetNext cX5_meetNext 4 (some .int) ∈ TB := mTB (List.mem_of_getElem? (i := 1265) (by decide +kernel)) rfl
theorem kw1281 : Cond.methodLink RX9 289 yX5_keepCommon ∈ TB := mTB (List.mem_of_getElem? (i := 1281) (by decide +kernel)) rfl
theorem kw1282 : Cond.instanceMethod yX5_keepCommon ∈ TB := mTB (List.mem_of_getElem? (i := 1282) (by decide +kernel)) rfl
theorem kw1283 : Cond.selects RX5 yX5_keepCommon yX5_keepCommon ∈ TB := mTB (List.mem_of_getElem? (i := 1283) (by decide +kernel)) rfl
theorem kw1284 : Cond.code yX5_keepCommon cX5_keepCommon 7 (some .int) ∈ TB := mTB (List.mem_of_getElem? (i := 1284) (by decide +kernel)) rfl
theorem kw1285 : Cond.methodLink RX5 132 yX5_takeOut ∈ TB := mTB (List.mem_of_getElem? (i := 1285) (by decide +kernel)) rfl
theorem kw1293 : Cond.methodLink RX9 293 yX5_bringAll ∈ TB := mTB (List.mem_of_getElem? (i := 1293) (by decide +kernel)) rfl
theorem kw1294 : Cond.instanceMethod yX5_bringAll ∈ TB := mTB (List.mem_of_getElem? (i := 1294) (by decide +kernel)) rfl
theorem kw1295 : Cond.selects RX5 yX5_bringAll yX5_bringAll ∈ TB := mTB (List.mem_of_getElem? (i := 1295) (by decide +kernel)) rfl
theorem kw1296 : Cond.code yX5_bringAll cX5_bringAll 6 (some .int) ∈ TB := mTB (List.mem_of_getElem? (i := 1296) (by decide +kernel)) rfl
theorem kw1297 : Cond.methodLink RX5 135 yX5_bringIn ∈ TB := mTB (List.mem_of_getElem? (i := 1297) (by decide +kernel)) rfl
theorem kw1305 : Cond.methodLink RX9 300 yX9_checkSlot ∈ TB := mTB (List.mem_of_getElem? (i := 1305) (by decide +kernel)) rfl
theorem kw1307 : Cond.instanceMethod yX9_checkSlot ∈ TB := mTB (List.mem_of_getElem? (i := 1307) (by decide +kernel)) rfl
theorem kw1308 : Cond.code yX9_checkSlot cX9_checkSlot 2 none ∈ TB := mTB (List.mem_of_getElem? (i := 1308) (by decide +kernel)) rfl
theorem kw1310 : Cond.methodLink RX9 307 yX4_store ∈ TB := mTB (List.mem_of_getElem? (i := 1310) (by decide +kernel)) rfl
theorem kw1311 : Cond.instanceMethod yX4_store ∈ TB := mTB (List.mem_of_getElem? (i := 1311) (by decide +kernel)) rfl
theorem kw1312 : Cond.selects RX4 yX4_store yX4_store ∈ TB := mTB (List.mem_of_getElem? (i := 1312) (by decide +kernel)) rfl
theorem kw1313 : Cond.code yX4_store cX4_store 3 none ∈ TB := mTB (List.mem_of_getElem? (i := 1313) (by decide +kernel)) rfl
theorem kw1314 : Cond.methodLink RX4 21 yX5_init ∈ TB := mTB (List.mem_of_getElem? (i := 1314) (by decide +kernel)) rfl
theorem kw1315 : Cond.methodLink RX4 22 yX5_copyFrom ∈ TB := mTB (List.mem_of_getElem? (i := 1315) (by decide +kernel)) rfl
theorem kw1323 : Cond.methodLink RX9 311 yX4_storedIn ∈ TB := mTB (List.mem_of_getElem? (i := 1323) (by decide +kernel)) rfl
theorem kw1324 : Cond.instanceMethod yX4_storedIn ∈ TB := mTB (List.mem_of_getElem? (i := 1324) (by decide +kernel)) rfl
theorem kw1325 : Cond.selects RX4 yX4_storedIn yX4_storedIn ∈ TB := mTB (List.mem_of_getElem? (i := 1325) (by decide +kernel)) rfl
theorem kw1326 : Cond.code yX4_storedIn cX4_storedIn 2 (some (.object "TwinSets$State")) ∈ TB := mTB (List.mem_of_getElem? (i := 1326) (by decide +kernel)) rfl
theorem kw1328 : Cond.methodLink RX9 317 yX5_copyFrom ∈ TB := mTB (List.mem_of_getElem? (i := 1328) (by decide +kernel)) rfl
theorem kw1334 : Cond.methodLink RX10 1 objectInit ∈ TB := mTB (List.mem_of_getElem? (i := 1334) (by decide +kernel)) rfl
theorem kw1335 : Cond.fieldLink RX10 44 "TwinSetsModel" "thrown" "I" ∈ TB := mTB (List.mem_of_getElem? (i := 1335) (by decide +kernel)) rfl
theorem kw1336 : Cond.fieldLink RX10 7 "TwinSetsModel" "now" "[I" ∈ TB := mTB (List.mem_of_getElem? (i := 1336) (by decide +kernel)) rfl
theorem kw1337 : Cond.fieldLink RX10 13 "TwinSetsModel" "names" "[J" ∈ TB := mTB (List.mem_of_getElem? (i := 1337) (by decide +kernel)) rfl
theorem kw1338 : Cond.fieldLink RX10 17 "TwinSetsModel" "text" "[B" ∈ TB := mTB (List.mem_of_getElem? (i := 1338) (by decide +kernel)) rfl
theorem kw1339 : Cond.fieldLink RX10 47 "TwinSetsModel" "length" "I" ∈ TB := mTB (List.mem_of_getElem? (i := 1339) (by decide +kernel)) rfl
theorem kw1340 : Cond.fieldLink RX10 54 "TwinSetsModel" "textSize" "I" ∈ TB := mTB (List.mem_of_getElem? (i := 1340) (by decide +kernel)) rfl
theorem kw1341 : Cond.fieldLink RX10 72 "TwinSetsModel" "start" "I" ∈ TB := mTB (List.mem_of_getElem? (i := 1341) (by decide +kernel)) rfl
theorem kw1342 : Cond.fieldLink RX10 61 "TwinSetsModel" "next" "I" ∈ TB := mTB (List.mem_of_getElem? (i := 1342) (by decide +kernel)) rfl
theorem kw1343 : Cond.fieldLink RX10 78 "TwinSetsModel" "token" "I" ∈ TB := mTB (List.mem_of_getElem? (i := 1343) (by decide +kernel)) rfl
theorem kw1344 : Cond.fieldLink RX10 75 "TwinSetsModel" "value" "I" ∈ TB := mTB (List.mem_of_getElem? (i := 1344) (by decide +kernel)) rfl
theorem kw1345 : Cond.fieldLink RX10 57 "TwinSetsModel" "letters" "J" ∈ TB := mTB (List.mem_of_getElem? (i := 1345) (by decide +kernel)) rfl
theorem kw1346 : Cond.fieldLink RX10 93 "TwinSetsModel" "error" "I" ∈ TB := mTB (List.mem_of_getElem? (i := 1346) (by decide +kernel)) rfl
theorem kw1347 : Cond.fieldLink RX10 21 "TwinSetsModel" "errorAt" "I" ∈ TB := mTB (List.mem_of_getElem? (i := 1347) (by decide +kernel)) rfl
theorem kw1348 : Cond.fieldLink RX10 103 "TwinSetsModel" "number" "I" ∈ TB := mTB (List.mem_of_getElem? (i := 1348) (by decide +kernel)) rfl
theorem kw1349 : Cond.fieldLink RX10 25 "TwinSetsModel" "waiting" "[I" ∈ TB := mTB (List.mem_of_getElem? (i := 1349) (by decide +kernel)) rfl
theorem kw1350 : Cond.fieldLink RX10 28 "TwinSetsModel" "readNames" "[J" ∈ TB := mTB (List.mem_of_getElem? (i := 1350) (by decide +kernel)) rfl
theorem kw1351 : Cond.fieldLink RX10 118 "TwinSetsModel" "setRead" "I" ∈ TB := mTB (List.mem_of_getElem? (i := 1351) (by decide +kernel)) rfl
theorem kw1352 : Cond.fieldLink RX10 31 "TwinSetsModel" "order" "[I" ∈ TB := mTB (List.mem_of_getElem? (i := 1352) (by decide +kernel)) rfl
theorem kw1353 : Cond.fieldLink RX10 187 "TwinSetsModel" "undos" "I" ∈ TB := mTB (List.mem_of_getElem? (i := 1353) (by decide +kernel)) rfl
theorem kw1354 : Cond.fieldLink RX10 34 "TwinSetsModel" "undo" "[I" ∈ TB := mTB (List.mem_of_getElem? (i := 1354) (by decide +kernel)) rfl
theorem kw1355 : Cond.fieldLink RX10 37 "TwinSetsModel" "slots" "[I" ∈ TB := mTB (List.mem_of_getElem? (i := 1355) (by decide +kernel)) rfl
theorem kw1356 : Cond.fieldLink RX10 40 "TwinSetsModel" "isSaved" "[Z" ∈ TB := mTB (List.mem_of_getElem? (i := 1356) (by decide +kernel)) rfl
theorem kw1402 : Cond.arrayClass .long ∈ TB := mTB (List.mem_of_getElem? (i := 1402) (by decide +kernel)) rfl
theorem kw1411 : Cond.methodLink RX10 50 yX10_bytesOf ∈ TB := mTB (List.mem_of_getElem? (i := 1411) (by decide +kernel)) rfl
theorem kw1413 : Cond.instanceMethod yX10_bytesOf ∈ TB := mTB (List.mem_of_getElem? (i := 1413) (by decide +kernel)) rfl
theorem kw1414 : Cond.code yX10_bytesOf cX10_bytesOf 3 none ∈ TB := mTB (List.mem_of_getElem? (i := 1414) (by decide +kernel)) rfl
theorem kw1419 : Cond.methodLink RX10 68 yX10_within ∈ TB := mTB (List.mem_of_getElem? (i := 1419) (by decide +kernel)) rfl
theorem kw1420 : Cond.static yX10_within ∈ TB := mTB (List.mem_of_getElem? (i := 1420) (by decide +kernel)) rfl
theorem kw1421 : Cond.code yX10_within cX10_within 3 (some .boolean) ∈ TB := mTB (List.mem_of_getElem? (i := 1421) (by decide +kernel)) rfl
theorem kw1422 : Cond.methodLink RX10 168 yX10_throwsIf ∈ TB := mTB (List.mem_of_getElem? (i := 1422) (by decide +kernel)) rfl
theorem kw1424 : Cond.instanceMethod yX10_throwsIf ∈ TB := mTB (List.mem_of_getElem? (i := 1424) (by decide +kernel)) rfl
theorem kw1425 : Cond.code yX10_throwsIf cX10_throwsIf 3 (some .boolean) ∈ TB := mTB (List.mem_of_getElem? (i := 1425) (by decide +kernel)) rfl
theorem kw1426 : Cond.methodLink RX10 172 yX10_copies ∈ TB := mTB (List.mem_of_getElem? (i := 1426) (by decide +kernel)) rfl
theorem kw1427 : Cond.static yX10_copies ∈ TB := mTB (List.mem_of_getElem? (i := 1427) (by decide +kernel)) rfl
theorem kw1428 : Cond.code yX10_copies cX10_copies 5 none ∈ TB := mTB (List.mem_of_getElem? (i := 1428) (by decide +kernel)) rfl
theorem kw1429 : Cond.methodLink RX10 100 yX10_advance ∈ TB := mTB (List.mem_of_getElem? (i := 1429) (by decide +kernel)) rfl
theorem kw1431 : Cond.instanceMethod yX10_advance ∈ TB := mTB (List.mem_of_getElem? (i := 1431) (by decide +kernel)) rfl
theorem kw1432 : Cond.code yX10_advance cX10_advance 2 none ∈ TB := mTB (List.mem_of_getElem? (i := 1432) (by decide +kernel)) rfl
theorem kw1433 : Cond.methodLink RX10 64 yX10_byteAt ∈ TB := mTB (List.mem_of_getElem? (i := 1433) (by decide +kernel)) rfl
theorem kw1435 : Cond.instanceMethod yX10_byteAt ∈ TB := mTB (List.mem_of_getElem? (i := 1435) (by decide +kernel)) rfl
theorem kw1436 : Cond.code yX10_byteAt cX10_byteAt 2 (some .int) ∈ TB := mTB (List.mem_of_getElem? (i := 1436) (by decide +kernel)) rfl
theorem kw1437 : Cond.methodLink RX10 81 yX10_takesLetters ∈ TB := mTB (List.mem_of_getElem? (i := 1437) (by decide +kernel)) rfl
theorem kw1439 : Cond.instanceMethod yX10_takesLetters ∈ TB := mTB (List.mem_of_getElem? (i := 1439) (by decide +kernel)) rfl
theorem kw1440 : Cond.code yX10_takesLetters cX10_takesLetters 1 none ∈ TB := mTB (List.mem_of_getElem? (i := 1440) (by decide +kernel)) rfl
theorem kw1442 : Cond.methodLink RX10 143 yX10_isWord ∈ TB := mTB (List.mem_of_getElem? (i := 1442) (by decide +kernel)) rfl
theorem kw1444 : Cond.instanceMethod yX10_isWord ∈ TB := mTB (List.mem_of_getElem? (i := 1444) (by decide +kernel)) rfl
theorem kw1445 : Cond.code yX10_isWord cX10_isWord 4 (some .boolean) ∈ TB := mTB (List.mem_of_getElem? (i := 1445) (by decide +kernel)) rfl
theorem kw1446 : Cond.methodLink RX10 84 yJ0_length_8abf5 ∈ TB := mTB (List.mem_of_getElem? (i := 1446) (by decide +kernel)) rfl
theorem kw1447 : Cond.methodLink RX10 89 yJ0_charAt_5068e ∈ TB := mTB (List.mem_of_getElem? (i := 1447) (by decide +kernel)) rfl
theorem kw1448 : Cond.methodLink RX10 110 yX10_starts ∈ TB := mTB (List.mem_of_getElem? (i := 1448) (by decide +kernel)) rfl
theorem kw1450 : Cond.instanceMethod yX10_starts ∈ TB := mTB (List.mem_of_getElem? (i := 1450) (by decide +kernel)) rfl
theorem kw1451 : Cond.code yX10_starts cX10_starts 3 (some .boolean) ∈ TB := mTB (List.mem_of_getElem? (i := 1451) (by decide +kernel)) rfl
theorem kw1452 : Cond.methodLink RX10 96 yX10_fails ∈ TB := mTB (List.mem_of_getElem? (i := 1452) (by decide +kernel)) rfl
theorem kw1454 : Cond.instanceMethod yX10_fails ∈ TB := mTB (List.mem_of_getElem? (i := 1454) (by decide +kernel)) rfl
theorem kw1455 : Cond.code yX10_fails cX10_fails 2 (some .boolean) ∈ TB := mTB (List.mem_of_getElem? (i := 1455) (by decide +kernel)) rfl
theorem kw1456 : Cond.methodLink RX10 178 yX10_lays ∈ TB := mTB (List.mem_of_getElem? (i := 1456) (by decide +kernel)) rfl
theorem kw1458 : Cond.instanceMethod yX10_lays ∈ TB := mTB (List.mem_of_getElem? (i := 1458) (by decide +kernel)) rfl
theorem kw1459 : Cond.code yX10_lays cX10_lays 4 (some .boolean) ∈ TB := mTB (List.mem_of_getElem? (i := 1459) (by decide +kernel)) rfl
theorem kw1460 : Cond.methodLink RX10 106 yX10_takes ∈ TB := mTB (List.mem_of_getElem? (i := 1460) (by decide +kernel)) rfl
theorem kw1462 : Cond.instanceMethod yX10_takes ∈ TB := mTB (List.mem_of_getElem? (i := 1462) (by decide +kernel)) rfl
theorem kw1463 : Cond.code yX10_takes cX10_takes 3 (some .boolean) ∈ TB := mTB (List.mem_of_getElem? (i := 1463) (by decide +kernel)) rfl
theorem kw1464 : Cond.methodLink RX10 181 yX10_closes ∈ TB := mTB (List.mem_of_getElem? (i := 1464) (by decide +kernel)) rfl
theorem kw1466 : Cond.instanceMethod yX10_closes ∈ TB := mTB (List.mem_of_getElem? (i := 1466) (by decide +kernel)) rfl
theorem kw1467 : Cond.code yX10_closes cX10_closes 1 (some .boolean) ∈ TB := mTB (List.mem_of_getElem? (i := 1467) (by decide +kernel)) rfl
theorem kw1468 : Cond.methodLink RX10 184 yX10_statement ∈ TB := mTB (List.mem_of_getElem? (i := 1468) (by decide +kernel)) rfl
theorem kw1470 : Cond.instanceMethod yX10_statement ∈ TB := mTB (List.mem_of_getElem? (i := 1470) (by decide +kernel)) rfl
theorem kw1471 : Cond.code yX10_statement cX10_statement 1 (some .boolean) ∈ TB := mTB (List.mem_of_getElem? (i := 1471) (by decide +kernel)) rfl
theorem kw1473 : Cond.methodLink RX10 147 yX10_setLine ∈ TB := mTB (List.mem_of_getElem? (i := 1473) (by decide +kernel)) rfl
theorem kw1475 : Cond.instanceMethod yX10_setLine ∈ TB := mTB (List.mem_of_getElem? (i := 1475) (by decide +kernel)) rfl
theorem kw1476 : Cond.code yX10_setLine cX10_setLine 4 (some .boolean) ∈ TB := mTB (List.mem_of_getElem? (i := 1476) (by decide +kernel)) rfl
theorem kw1477 : Cond.methodLink RX10 114 yX10_named ∈ TB := mTB (List.mem_of_getElem? (i := 1477) (by decide +kernel)) rfl
theorem kw1478 : Cond.static yX10_named ∈ TB := mTB (List.mem_of_getElem? (i := 1478) (by decide +kernel)) rfl
theorem kw1479 : Cond.code yX10_named cX10_named 5 (some .int) ∈ TB := mTB (List.mem_of_getElem? (i := 1479) (by decide +kernel)) rfl
theorem kw1481 : Cond.methodLink RX10 152 yX10_membersLine ∈ TB := mTB (List.mem_of_getElem? (i := 1481) (by decide +kernel)) rfl
theorem kw1483 : Cond.instanceMethod yX10_membersLine ∈ TB := mTB (List.mem_of_getElem? (i := 1483) (by decide +kernel)) rfl
theorem kw1484 : Cond.code yX10_membersLine cX10_membersLine 3 (some .boolean) ∈ TB := mTB (List.mem_of_getElem? (i := 1484) (by decide +kernel)) rfl
theorem kw1485 : Cond.methodLink RX10 121 yX10_takesSet ∈ TB := mTB (List.mem_of_getElem? (i := 1485) (by decide +kernel)) rfl
theorem kw1487 : Cond.instanceMethod yX10_takesSet ∈ TB := mTB (List.mem_of_getElem? (i := 1487) (by decide +kernel)) rfl
theorem kw1488 : Cond.code yX10_takesSet cX10_takesSet 1 (some .boolean) ∈ TB := mTB (List.mem_of_getElem? (i := 1488) (by decide +kernel)) rfl
theorem kw1489 : Cond.methodLink RX10 125 yX10_comes ∈ TB := mTB (List.mem_of_getElem? (i := 1489) (by decide +kernel)) rfl
theorem kw1491 : Cond.instanceMethod yX10_comes ∈ TB := mTB (List.mem_of_getElem? (i := 1491) (by decide +kernel)) rfl
theorem kw1492 : Cond.code yX10_comes cX10_comes 3 none ∈ TB := mTB (List.mem_of_getElem? (i := 1492) (by decide +kernel)) rfl
theorem kw1493 : Cond.methodLink RX10 129 yX10_isMember ∈ TB := mTB (List.mem_of_getElem? (i := 1493) (by decide +kernel)) rfl
theorem kw1495 : Cond.instanceMethod yX10_isMember ∈ TB := mTB (List.mem_of_getElem? (i := 1495) (by decide +kernel)) rfl
theorem kw1496 : Cond.code yX10_isMember cX10_isMember 4 (some .boolean) ∈ TB := mTB (List.mem_of_getElem? (i := 1496) (by decide +kernel)) rfl
theorem kw1497 : Cond.methodLink RX10 190 yX10_of ∈ TB := mTB (List.mem_of_getElem? (i := 1497) (by decide +kernel)) rfl
theorem kw1499 : Cond.instanceMethod yX10_of ∈ TB := mTB (List.mem_of_getElem? (i := 1499) (by decide +kernel)) rfl
theorem kw1500 : Cond.code yX10_of cX10_of 3 (some .int) ∈ TB := mTB (List.mem_of_getElem? (i := 1500) (by decide +kernel)) rfl
theorem kw1501 : Cond.methodLink RX10 220 yX10_lay ∈ TB := mTB (List.mem_of_getElem? (i := 1501) (by decide +kernel)) rfl
theorem kw1503 : Cond.instanceMethod yX10_lay ∈ TB := mTB (List.mem_of_getElem? (i := 1503) (by decide +kernel)) rfl
theorem kw1504 : Cond.code yX10_lay cX10_lay 4 none ∈ TB := mTB (List.mem_of_getElem? (i := 1504) (by decide +kernel)) rfl
theorem kw1505 : Cond.methodLink RX10 194 yX10_sets ∈ TB := mTB (List.mem_of_getElem? (i := 1505) (by decide +kernel)) rfl
theorem kw1507 : Cond.instanceMethod yX10_sets ∈ TB := mTB (List.mem_of_getElem? (i := 1507) (by decide +kernel)) rfl
theorem kw1508 : Cond.code yX10_sets cX10_sets 4 none ∈ TB := mTB (List.mem_of_getElem? (i := 1508) (by decide +kernel)) rfl
theorem kw1509 : Cond.methodLink RX10 223 yX10_happens ∈ TB := mTB (List.mem_of_getElem? (i := 1509) (by decide +kernel)) rfl
theorem kw1511 : Cond.instanceMethod yX10_happens ∈ TB := mTB (List.mem_of_getElem? (i := 1511) (by decide +kernel)) rfl
theorem kw1512 : Cond.code yX10_happens cX10_happens 5 none ∈ TB := mTB (List.mem_of_getElem? (i := 1512) (by decide +kernel)) rfl
theorem kw1513 : Cond.methodLink RX10 217 yX10_forgets ∈ TB := mTB (List.mem_of_getElem? (i := 1513) (by decide +kernel)) rfl
theorem kw1515 : Cond.instanceMethod yX10_forgets ∈ TB := mTB (List.mem_of_getElem? (i := 1515) (by decide +kernel)) rfl
theorem kw1516 : Cond.code yX10_forgets cX10_forgets 6 none ∈ TB := mTB (List.mem_of_getElem? (i := 1516) (by decide +kernel)) rfl
theorem kw1517 : Cond.methodLink RX10 205 yX10_base ∈ TB := mTB (List.mem_of_getElem? (i := 1517) (by decide +kernel)) rfl
theorem kw1519 : Cond.instanceMethod yX10_base ∈ TB := mTB (List.mem_of_getElem? (i := 1519) (by decide +kernel)) rfl
theorem kw1520 : Cond.code yX10_base cX10_base 2 (some .long) ∈ TB := mTB (List.mem_of_getElem? (i := 1520) (by decide +kernel)) rfl
theorem kw1521 : Cond.constantLong RX10 203 4294967295 ∈ TB := mTB (List.mem_of_getElem? (i := 1521) (by decide +kernel)) rfl
theorem kw1522 : Cond.methodLink RX10 209 yX10_behind ∈ TB := mTB (List.mem_of_getElem? (i := 1522) (by decide +kernel)) rfl
theorem kw1524 : Cond.instanceMethod yX10_behind ∈ TB := mTB (List.mem_of_getElem? (i := 1524) (by decide +kernel)) rfl
theorem kw1525 : Cond.code yX10_behind cX10_behind 8 (some .long) ∈ TB := mTB (List.mem_of_getElem? (i := 1525) (by decide +kernel)) rfl
theorem kw1526 : Cond.methodLink RX10 197 yX10_ofEvent ∈ TB := mTB (List.mem_of_getElem? (i := 1526) (by decide +kernel)) rfl
theorem kw1528 : Cond.instanceMethod yX10_ofEvent ∈ TB := mTB (List.mem_of_getElem? (i := 1528) (by decide +kernel)) rfl
theorem kw1529 : Cond.code yX10_ofEvent cX10_ofEvent 4 (some .int) ∈ TB := mTB (List.mem_of_getElem? (i := 1529) (by decide +kernel)) rfl
theorem kw1530 : Cond.constantLong RX10 201 (-1) ∈ TB := mTB (List.mem_of_getElem? (i := 1530) (by decide +kernel)) rfl
theorem kw1531 : Cond.methodLink RX10 213 yX10_setsEvent ∈ TB := mTB (List.mem_of_getElem? (i := 1531) (by decide +kernel)) rfl
theorem kw1533 : Cond.instanceMethod yX10_setsEvent ∈ TB := mTB (List.mem_of_getElem? (i := 1533) (by decide +kernel)) rfl
theorem kw1534 : Cond.code yX10_setsEvent cX10_setsEvent 6 none ∈ TB := mTB (List.mem_of_getElem? (i := 1534) (by decide +kernel)) rfl
theorem kw1535 : Cond.methodLink RX10 132 yX10_goes ∈ TB := mTB (List.mem_of_getElem? (i := 1535) (by decide +kernel)) rfl
theorem kw1537 : Cond.instanceMethod yX10_goes ∈ TB := mTB (List.mem_of_getElem? (i := 1537) (by decide +kernel)) rfl
theorem kw1538 : Cond.code yX10_goes cX10_goes 7 none ∈ TB := mTB (List.mem_of_getElem? (i := 1538) (by decide +kernel)) rfl
theorem kw1539 : Cond.methodLink RX10 232 yX10_orders ∈ TB := mTB (List.mem_of_getElem? (i := 1539) (by decide +kernel)) rfl
theorem kw1541 : Cond.instanceMethod yX10_orders ∈ TB := mTB (List.mem_of_getElem? (i := 1541) (by decide +kernel)) rfl
theorem kw1542 : Cond.code yX10_orders cX10_orders 5 (some .int) ∈ TB := mTB (List.mem_of_getElem? (i := 1542) (by decide +kernel)) rfl
theorem kw1543 : Cond.methodLink RX10 229 yX10_isOn ∈ TB := mTB (List.mem_of_getElem? (i := 1543) (by decide +kernel)) rfl
theorem kw1545 : Cond.instanceMethod yX10_isOn ∈ TB := mTB (List.mem_of_getElem? (i := 1545) (by decide +kernel)) rfl
theorem kw1546 : Cond.code yX10_isOn cX10_isOn 3 (some .boolean) ∈ TB := mTB (List.mem_of_getElem? (i := 1546) (by decide +kernel)) rfl
theorem kw1547 : Cond.methodLink RX10 226 yX10_ofCursor ∈ TB := mTB (List.mem_of_getElem? (i := 1547) (by decide +kernel)) rfl
theorem kw1549 : Cond.instanceMethod yX10_ofCursor ∈ TB := mTB (List.mem_of_getElem? (i := 1549) (by decide +kernel)) rfl
theorem kw1550 : Cond.code yX10_ofCursor cX10_ofCursor 3 (some .int) ∈ TB := mTB (List.mem_of_getElem? (i := 1550) (by decide +kernel)) rfl
theorem kw1551 : Cond.methodLink RX10 235 yX10_fills ∈ TB := mTB (List.mem_of_getElem? (i := 1551) (by decide +kernel)) rfl
theorem kw1553 : Cond.instanceMethod yX10_fills ∈ TB := mTB (List.mem_of_getElem? (i := 1553) (by decide +kernel)) rfl
theorem kw1554 : Cond.code yX10_fills cX10_fills 4 none ∈ TB := mTB (List.mem_of_getElem? (i := 1554) (by decide +kernel)) rfl
theorem kw1555 : Cond.methodLink RX10 238 yX10_setsCursor ∈ TB := mTB (List.mem_of_getElem? (i := 1555) (by decide +kernel)) rfl
theorem kw1557 : Cond.instanceMethod yX10_setsCursor ∈ TB := mTB (List.mem_of_getElem? (i := 1557) (by decide +kernel)) rfl
theorem kw1558 : Cond.code yX10_setsCursor cX10_setsCursor 4 none ∈ TB := mTB (List.mem_of_getElem? (i := 1558) (by decide +kernel)) rfl
theorem kw1561 : Cond.methodLink RX10 160 yX10_clearLine ∈ TB := mTB (List.mem_of_getElem? (i := 1561) (by decide +kernel)) rfl
theorem kw1563 : Cond.instanceMethod yX10_clearLine ∈ TB := mTB (List.mem_of_getElem? (i := 1563) (by decide +kernel)) rfl
theorem kw1564 : Cond.code yX10_clearLine cX10_clearLine 1 (some .boolean) ∈ TB := mTB (List.mem_of_getElem? (i := 1564) (by decide +kernel)) rfl
theorem kw1565 : Cond.methodLink RX10 135 yX10_clears ∈ TB := mTB (List.mem_of_getElem? (i := 1565) (by decide +kernel)) rfl
theorem kw1567 : Cond.instanceMethod yX10_clears ∈ TB := mTB (List.mem_of_getElem? (i := 1567) (by decide +kernel)) rfl
theorem kw1568 : Cond.code yX10_clears cX10_clears 3 none ∈ TB := mTB (List.mem_of_getElem? (i := 1568) (by decide +kernel)) rfl
theorem kw1570 : Cond.methodLink RX10 165 yX10_markLine ∈ TB := mTB (List.mem_of_getElem? (i := 1570) (by decide +kernel)) rfl
theorem kw1572 : Cond.instanceMethod yX10_markLine ∈ TB := mTB (List.mem_of_getElem? (i := 1572) (by decide +kernel)) rfl
theorem kw1573 : Cond.code yX10_markLine cX10_markLine 1 (some .boolean) ∈ TB := mTB (List.mem_of_getElem? (i := 1573) (by decide +kernel)) rfl
theorem kw1574 : Cond.methodLink RX10 138 yX10_marks ∈ TB := mTB (List.mem_of_getElem? (i := 1574) (by decide +kernel)) rfl
theorem kw1576 : Cond.instanceMethod yX10_marks ∈ TB := mTB (List.mem_of_getElem? (i := 1576) (by decide +kernel)) rfl
theorem kw1577 : Cond.code yX10_marks cX10_marks 2 (some .int) ∈ TB := mTB (List.mem_of_getElem? (i := 1577) (by decide +kernel)) rfl
theorem kw1590 : Cond.methodLink RX10 241 yX10_cursorsMany ∈ TB := mTB (List.mem_of_getElem? (i := 1590) (by decide +kernel)) rfl
theorem kw1592 : Cond.instanceMethod yX10_cursorsMany ∈ TB := mTB (List.mem_of_getElem? (i := 1592) (by decide +kernel)) rfl
theorem kw1593 : Cond.code yX10_cursorsMany cX10_cursorsMany 3 (some .int) ∈ TB := mTB (List.mem_of_getElem? (i := 1593) (by decide +kernel)) rfl
theorem kw1602 : Cond.methodLink RX10 247 yX10_noSet ∈ TB := mTB (List.mem_of_getElem? (i := 1602) (by decide +kernel)) rfl
theorem kw1604 : Cond.instanceMethod yX10_noSet ∈ TB := mTB (List.mem_of_getElem? (i := 1604) (by decide +kernel)) rfl
theorem kw1605 : Cond.code yX10_noSet cX10_noSet 2 (some .boolean) ∈ TB := mTB (List.mem_of_getElem? (i := 1605) (by decide +kernel)) rfl
theorem kw1606 : Cond.methodLink RX10 244 yX10_no ∈ TB := mTB (List.mem_of_getElem? (i := 1606) (by decide +kernel)) rfl
theorem kw1608 : Cond.instanceMethod yX10_no ∈ TB := mTB (List.mem_of_getElem? (i := 1608) (by decide +kernel)) rfl
theorem kw1609 : Cond.code yX10_no cX10_no 3 (some .boolean) ∈ TB := mTB (List.mem_of_getElem? (i := 1609) (by decide +kernel)) rfl
theorem kw1610 : Cond.methodLink RX10 250 yX10_openOn ∈ TB := mTB (List.mem_of_getElem? (i := 1610) (by decide +kernel)) rfl
theorem kw1612 : Cond.instanceMethod yX10_openOn ∈ TB := mTB (List.mem_of_getElem? (i := 1612) (by decide +kernel)) rfl
theorem kw1613 : Cond.code yX10_openOn cX10_openOn 4 (some .int) ∈ TB := mTB (List.mem_of_getElem? (i := 1613) (by decide +kernel)) rfl
theorem kw1618 : Cond.methodLink RX10 253 yX10_isInside ∈ TB := mTB (List.mem_of_getElem? (i := 1618) (by decide +kernel)) rfl
theorem kw1620 : Cond.instanceMethod yX10_isInside ∈ TB := mTB (List.mem_of_getElem? (i := 1620) (by decide +kernel)) rfl
theorem kw1621 : Cond.code yX10_isInside cX10_isInside 2 (some .boolean) ∈ TB := mTB (List.mem_of_getElem? (i := 1621) (by decide +kernel)) rfl
theorem kw1638 : Cond.methodLink RX10 256 yX10_noStamp ∈ TB := mTB (List.mem_of_getElem? (i := 1638) (by decide +kernel)) rfl
theorem kw1640 : Cond.instanceMethod yX10_noStamp ∈ TB := mTB (List.mem_of_getElem? (i := 1640) (by decide +kernel)) rfl
theorem kw1641 : Cond.code yX10_noStamp cX10_noStamp 3 (some .boolean) ∈ TB := mTB (List.mem_of_getElem? (i := 1641) (by decide +kernel)) rfl
theorem kw1642 : Cond.methodLink RX10 259 yX10_contentAt ∈ TB := mTB (List.mem_of_getElem? (i := 1642) (by decide +kernel)) rfl
theorem kw1644 : Cond.instanceMethod yX10_contentAt ∈ TB := mTB (List.mem_of_getElem? (i := 1644) (by decide +kernel)) rfl
theorem kw1645 : Cond.code yX10_contentAt cX10_contentAt 6 (some .long) ∈ TB := mTB (List.mem_of_getElem? (i := 1645) (by decide +kernel)) rfl
theorem kw1650 : Cond.methodLink RX10 263 yX10_ones ∈ TB := mTB (List.mem_of_getElem? (i := 1650) (by decide +kernel)) rfl
theorem kw1651 : Cond.static yX10_ones ∈ TB := mTB (List.mem_of_getElem? (i := 1651) (by decide +kernel)) rfl
theorem kw1652 : Cond.code yX10_ones cX10_ones 5 (some .int) ∈ TB := mTB (List.mem_of_getElem? (i := 1652) (by decide +kernel)) rfl
theorem kw1665 : Cond.methodLink RX10 267 yX10_noCursor ∈ TB := mTB (List.mem_of_getElem? (i := 1665) (by decide +kernel)) rfl
theorem kw1667 : Cond.instanceMethod yX10_noCursor ∈ TB := mTB (List.mem_of_getElem? (i := 1667) (by decide +kernel)) rfl
theorem kw1668 : Cond.code yX10_noCursor cX10_noCursor 2 (some .boolean) ∈ TB := mTB (List.mem_of_getElem? (i := 1668) (by decide +kernel)) rfl
theorem kw1673 : Cond.methodLink RX10 270 yX10_meets ∈ TB := mTB (List.mem_of_getElem? (i := 1673) (by decide +kernel)) rfl
theorem kw1675 : Cond.instanceMethod yX10_meets ∈ TB := mTB (List.mem_of_getElem? (i := 1675) (by decide +kernel)) rfl
theorem kw1676 : Cond.code yX10_meets cX10_meets 3 (some .boolean) ∈ TB := mTB (List.mem_of_getElem? (i := 1676) (by decide +kernel)) rfl
theorem kw1681 : Cond.methodLink RX10 273 yX10_noSets ∈ TB := mTB (List.mem_of_getElem? (i := 1681) (by decide +kernel)) rfl
theorem kw1683 : Cond.instanceMethod yX10_noSets ∈ TB := mTB (List.mem_of_getElem? (i := 1683) (by decide +kernel)) rfl
theorem kw1684 : Cond.code yX10_noSets cX10_noSets 3 (some .boolean) ∈ TB := mTB (List.mem_of_getElem? (i := 1684) (by decide +kernel)) rfl
theorem kw1685 : Cond.methodLink RX10 276 yX10_commonOf ∈ TB := mTB (List.mem_of_getElem? (i := 1685) (by decide +kernel)) rfl
theorem kw1687 : Cond.instanceMethod yX10_commonOf ∈ TB := mTB (List.mem_of_getElem? (i := 1687) (by decide +kernel)) rfl
theorem kw1688 : Cond.code yX10_commonOf cX10_commonOf 5 (some .int) ∈ TB := mTB (List.mem_of_getElem? (i := 1688) (by decide +kernel)) rfl
theorem kw1701 : Cond.methodLink RX10 279 yX10_keeps ∈ TB := mTB (List.mem_of_getElem? (i := 1701) (by decide +kernel)) rfl
theorem kw1703 : Cond.instanceMethod yX10_keeps ∈ TB := mTB (List.mem_of_getElem? (i := 1703) (by decide +kernel)) rfl
theorem kw1704 : Cond.code yX10_keeps cX10_keeps 2 none ∈ TB := mTB (List.mem_of_getElem? (i := 1704) (by decide +kernel)) rfl
theorem kw1749 : Cond.methodLink RX10 282 yX10_noSlot ∈ TB := mTB (List.mem_of_getElem? (i := 1749) (by decide +kernel)) rfl
theorem kw1751 : Cond.instanceMethod yX10_noSlot ∈ TB := mTB (List.mem_of_getElem? (i := 1751) (by decide +kernel)) rfl
theorem kw1752 : Cond.code yX10_noSlot cX10_noSlot 2 (some .boolean) ∈ TB := mTB (List.mem_of_getElem? (i := 1752) (by decide +kernel)) rfl
theorem kw1759 : Cond.sameMethod RJ5 RJ5 "append" "(C)Ljava/lang/AbstractStringBuilder;" ∈ TB := mTB (List.mem_of_getElem? (i := 1759) (by decide +kernel)) rfl
theorem kw1760 : Cond.sameMethod RJ5 RJ5 "ensureCapacityInternal" "(I)V" ∈ TB := mTB (List.mem_of_getElem? (i := 1760) (by decide +kernel)) rfl
theorem iwJ0 : ∀ w ∈ u_ws RJ0 TJ0 2, w ∈ TB := by
  show ∀ w ∈ [u_lay RJ0 TJ0 0, u_lay RJ0 TJ0 1], w ∈ TB
  simp only [List.forall_mem_cons]
  exact ⟨mTB (List.mem_of_getElem? (i := 873) (by decide +kernel)) rfl, mTB (List.mem_of_getElem? (i := 875) (by decide +kernel)) rfl, fun _ h => nomatch h⟩
theorem iwJ4 : ∀ w ∈ u_ws RJ4 TJ4 4, w ∈ TB := by
  show ∀ w ∈ [u_lay RJ4 TJ4 0, u_lay RJ4 TJ4 1, u_lay RJ4 TJ4 2, u_lay RJ4 TJ4 3], w ∈ TB
  simp only [List.forall_mem_cons]
  exact ⟨mTB (List.mem_of_getElem? (i := 673) (by decide +kernel)) rfl, mTB (List.mem_of_getElem? (i := 675) (by decide +kernel)) rfl, mTB (List.mem_of_getElem? (i := 677) (by decide +kernel)) rfl, mTB (List.mem_of_getElem? (i := 679) (by decide +kernel)) rfl, fun _ h => nomatch h⟩
theorem iwX0 : ∀ w ∈ u_ws RX0 TX0 8, w ∈ TB := by
  show ∀ w ∈ [u_lay RX0 TX0 0, u_lay RX0 TX0 1, u_lay RX0 TX0 2, u_lay RX0 TX0 3, u_lay RX0 TX0 4, u_lay RX0 TX0 5, u_lay RX0 TX0 6, u_lay RX0 TX0 7], w ∈ TB
  simp only [List.forall_mem_cons]
  exact ⟨mTB (List.mem_of_getElem? (i := 276) (by decide +kernel)) rfl, mTB (List.mem_of_getElem? (i := 278) (by decide +kernel)) rfl, mTB (List.mem_of_getElem? (i := 280) (by decide +kernel)) rfl, mTB (List.mem_of_getElem? (i := 282) (by decide +kernel)) rfl, mTB (List.mem_of_getElem? (i := 284) (by decide +kernel)) rfl, mTB (List.mem_of_getElem? (i := 286) (by decide +kernel)) rfl, mTB (List.mem_of_getElem? (i := 288) (by decide +kernel)) rfl, mTB (List.mem_of_getElem? (i := 290) (by decide +kernel)) rfl, fun _ h => nomatch h⟩
theorem iwX1 : ∀ w ∈ u_ws RX1 TX1 2, w ∈ TB := by
  show ∀ w ∈ [u_lay RX1 TX1 0, u_lay RX1 TX1 1], w ∈ TB
  simp only [List.forall_mem_cons]
  exact ⟨mTB (List.mem_of_getElem? (i := 126) (by decide +kernel)) rfl, mTB (List.mem_of_getElem? (i := 128) (by decide +kernel)) rfl, fun _ h => nomatch h⟩
theorem iwX2 : ∀ w ∈ u_ws RX2 TX2 6, w ∈ TB := by
  show ∀ w ∈ [u_lay RX2 TX2 0, u_lay RX2 TX2 1, u_lay RX2 TX2 2, u_lay RX2 TX2 3, u_lay RX2 TX2 4, u_lay RX2 TX2 5], w ∈ TB
  simp only [List.forall_mem_cons]
  exact ⟨mTB (List.mem_of_getElem? (i := 199) (by decide +kernel)) rfl, mTB (List.mem_of_getElem? (i := 201) (by decide +kernel)) rfl, mTB (List.mem_of_getElem? (i := 203) (by decide +kernel)) rfl, mTB (List.mem_of_getElem? (i := 205) (by decide +kernel)) rfl, mTB (List.mem_of_getElem? (i := 207) (by decide +kernel)) rfl, mTB (List.mem_of_getElem? (i := 209) (by decide +kernel)) rfl, fun _ h => nomatch h⟩
theorem iwX3 : ∀ w ∈ u_ws RX3 TX3 9, w ∈ TB := by
  show ∀ w ∈ [u_lay RX3 TX3 0, u_lay RX3 TX3 1, u_lay RX3 TX3 2, u_lay RX3 TX3 3, u_lay RX3 TX3 4, u_lay RX3 TX3 5, u_lay RX3 TX3 6, u_lay RX3 TX3 7, u_lay RX3 TX3 8], w ∈ TB
  simp only [List.forall_mem_cons]
  exact ⟨mTB (List.mem_of_getElem? (i := 560) (by decide +kernel)) rfl, mTB (List.mem_of_getElem? (i := 562) (by decide +kernel)) rfl, mTB (List.mem_of_getElem? (i := 564) (by decide +kernel)) rfl, mTB (List.mem_of_getElem? (i := 566) (by decide +kernel)) rfl, mTB (List.mem_of_getElem? (i := 568) (by decide +kernel)) rfl, mTB (List.mem_of_getElem? (i := 570) (by decide +kernel)) rfl, mTB (List.mem_of_getElem? (i := 572) (by decide +kernel)) rfl, mTB (List.mem_of_getElem? (i := 574) (by decide +kernel)) rfl, mTB (List.mem_of_getElem? (i := 576) (by decide +kernel)) rfl, fun _ h => nomatch h⟩
theorem iwX4 : ∀ w ∈ u_ws RX4 TX4 2, w ∈ TB := by
  show ∀ w ∈ [u_lay RX4 TX4 0, u_lay RX4 TX4 1], w ∈ TB
  simp only [List.forall_mem_cons]
  exact ⟨mTB (List.mem_of_getElem? (i := 161) (by decide +kernel)) rfl, mTB (List.mem_of_getElem? (i := 163) (by decide +kernel)) rfl, fun _ h => nomatch h⟩
theorem iwX5 : ∀ w ∈ u_ws RX5 TX5 9, w ∈ TB := by
  show ∀ w ∈ [u_lay RX5 TX5 0, u_lay RX5 TX5 1, u_lay RX5 TX5 2, u_lay RX5 TX5 3, u_lay RX5 TX5 4, u_lay RX5 TX5 5, u_lay RX5 TX5 6, u_lay RX5 TX5 7, u_lay RX5 TX5 8], w ∈ TB
  simp only [List.forall_mem_cons]
  exact ⟨mTB (List.mem_of_getElem? (i := 315) (by decide +kernel)) rfl, mTB (List.mem_of_getElem? (i := 317) (by decide +kernel)) rfl, mTB (List.mem_of_getElem? (i := 319) (by decide +kernel)) rfl, mTB (List.mem_of_getElem? (i := 321) (by decide +kernel)) rfl, mTB (List.mem_of_getElem? (i := 323) (by decide +kernel)) rfl, mTB (List.mem_of_getElem? (i := 325) (by decide +kernel)) rfl, mTB (List.mem_of_getElem? (i := 327) (by decide +kernel)) rfl, mTB (List.mem_of_getElem? (i := 329) (by decide +kernel)) rfl, mTB (List.mem_of_getElem? (i := 331) (by decide +kernel)) rfl, fun _ h => nomatch h⟩
theorem iwX7 : ∀ w ∈ u_ws RX7 TX7 7, w ∈ TB := by
  show ∀ w ∈ [u_lay RX7 TX7 0, u_lay RX7 TX7 1, u_lay RX7 TX7 2, u_lay RX7 TX7 3, u_lay RX7 TX7 4, u_lay RX7 TX7 5, u_lay RX7 TX7 6], w ∈ TB
  simp only [List.forall_mem_cons]
  exact ⟨mTB (List.mem_of_getElem? (i := 234) (by decide +kernel)) rfl, mTB (List.mem_of_getElem? (i := 236) (by decide +kernel)) rfl, mTB (List.mem_of_getElem? (i := 238) (by decide +kernel)) rfl, mTB (List.mem_of_getElem? (i := 240) (by decide +kernel)) rfl, mTB (List.mem_of_getElem? (i := 242) (by decide +kernel)) rfl, mTB (List.mem_of_getElem? (i := 244) (by decide +kernel)) rfl, mTB (List.mem_of_getElem? (i := 246) (by decide +kernel)) rfl, fun _ h => nomatch h⟩
theorem iwX8 : ∀ w ∈ u_ws RX8 TX8 3, w ∈ TB := by
  show ∀ w ∈ [u_lay RX8 TX8 0, u_lay RX8 TX8 1, u_lay RX8 TX8 2], w ∈ TB
  simp only [List.forall_mem_cons]
  exact ⟨mTB (List.mem_of_getElem? (i := 144) (by decide +kernel)) rfl, mTB (List.mem_of_getElem? (i := 146) (by decide +kernel)) rfl, mTB (List.mem_of_getElem? (i := 148) (by decide +kernel)) rfl, fun _ h => nomatch h⟩
theorem iwX9 : ∀ w ∈ u_ws RX9 TX9 6, w ∈ TB := by
  show ∀ w ∈ [u_lay RX9 TX9 0, u_lay RX9 TX9 1, u_lay RX9 TX9 2, u_lay RX9 TX9 3, u_lay RX9 TX9 4, u_lay RX9 TX9 5], w ∈ TB
  simp only [List.forall_mem_cons]
  exact ⟨mTB (List.mem_of_getElem? (i := 344) (by decide +kernel)) rfl, mTB (List.mem_of_getElem? (i := 346) (by decide +kernel)) rfl, mTB (List.mem_of_getElem? (i := 348) (by decide +kernel)) rfl, mTB (List.mem_of_getElem? (i := 350) (by decide +kernel)) rfl, mTB (List.mem_of_getElem? (i := 352) (by decide +kernel)) rfl, mTB (List.mem_of_getElem? (i := 354) (by decide +kernel)) rfl, fun _ h => nomatch h⟩
theorem iwX10 : ∀ w ∈ u_ws RX10 TX10 22, w ∈ TB := by
  show ∀ w ∈ [u_lay RX10 TX10 0, u_lay RX10 TX10 1, u_lay RX10 TX10 2, u_lay RX10 TX10 3, u_lay RX10 TX10 4, u_lay RX10 TX10 5, u_lay RX10 TX10 6, u_lay RX10 TX10 7, u_lay RX10 TX10 8, u_lay RX10 TX10 9, u_lay RX10 TX10 10, u_lay RX10 TX10 11, u_lay RX10 TX10 12, u_lay RX10 TX10 13, u_lay RX10 TX10 14, u_lay RX10 TX10 15, u_lay RX10 TX10 16, u_lay RX10 TX10 17, u_lay RX10 TX10 18, u_lay RX10 TX10 19, u_lay RX10 TX10 20, u_lay RX10 TX10 21], w ∈ TB
  simp only [List.forall_mem_cons]
  exact ⟨mTB (List.mem_of_getElem? (i := 1357) (by decide +kernel)) rfl, mTB (List.mem_of_getElem? (i := 1359) (by decide +kernel)) rfl, mTB (List.mem_of_getElem? (i := 1361) (by decide +kernel)) rfl, mTB (List.mem_of_getElem? (i := 1363) (by decide +kernel)) rfl, mTB (List.mem_of_getElem? (i := 1365) (by decide +kernel)) rfl, mTB (List.mem_of_getElem? (i := 1367) (by decide +kernel)) rfl, mTB (List.mem_of_getElem? (i := 1369) (by decide +kernel)) rfl, mTB (List.mem_of_getElem? (i := 1371) (by decide +kernel)) rfl, mTB (List.mem_of_getElem? (i := 1373) (by decide +kernel)) rfl, mTB (List.mem_of_getElem? (i := 1375) (by decide +kernel)) rfl, mTB (List.mem_of_getElem? (i := 1377) (by decide +kernel)) rfl, mTB (List.mem_of_getElem? (i := 1379) (by decide +kernel)) rfl, mTB (List.mem_of_getElem? (i := 1381) (by decide +kernel)) rfl, mTB (List.mem_of_getElem? (i := 1383) (by decide +kernel)) rfl, mTB (List.mem_of_getElem? (i := 1385) (by decide +kernel)) rfl, mTB (List.mem_of_getElem? (i := 1387) (by decide +kernel)) rfl, mTB (List.mem_of_getElem? (i := 1389) (by decide +kernel)) rfl, mTB (List.mem_of_getElem? (i := 1391) (by decide +kernel)) rfl, mTB (List.mem_of_getElem? (i := 1393) (by decide +kernel)) rfl, mTB (List.mem_of_getElem? (i := 1395) (by decide +kernel)) rfl, mTB (List.mem_of_getElem? (i := 1397) (by decide +kernel)) rfl, mTB (List.mem_of_getElem? (i := 1399) (by decide +kernel)) rfl, fun _ h => nomatch h⟩
def vNF : List (String × Nat × String × String × String × String) := [(RX3, 163, "TwinSets$Input", "bytes", "[B", "TwinSets"), (RX9, 48, "TwinSets$Input", "length", "I", "TwinSets"), (RX9, 106, "TwinSets$UndoHistory", "count", "I", "TwinSets"), (RX9, 303, "TwinSets$SnapshotSlots", "isFull", "[Z", "TwinSets"), (RX9, 171, "TwinSets$Log", "stamps", "[I", "TwinSets"), (RX9, 172, "TwinSets$Log", "numbers", "[I", "TwinSets"), (RX9, 175, "TwinSets$Log", "kinds", "[I", "TwinSets"), (RX9, 143, "TwinSets$Log", "count", "I", "TwinSets"), (RX9, 138, "TwinSets$Log", "firstStamp", "I", "TwinSets"), (RX5, 123, "TwinSets$TwinRows", "members", "[I", "TwinSets"), (RX9, 157, "TwinSets$TwinRows", "members", "[I", "TwinSets"), (RX9, 154, "TwinSets$TwinRows", "places", "[I", "TwinSets"), (RX5, 126, "TwinSets$TwinRows", "places", "[I", "TwinSets"), (RX5, 93, "TwinSets$TwinRows", "stamps", "[I", "TwinSets"), (RX9, 166, "TwinSets$TwinRows", "stamps", "[I", "TwinSets"), (RX5, 96, "TwinSets$TwinRows", "log", "LTwinSets$Log;", "TwinSets"), (RX9, 134, "TwinSets$TwinRows", "log", "LTwinSets$Log;", "TwinSets"), (RX5, 72, "TwinSets$TwinRows", "name", "Ljava/lang/String;", "TwinSets"), (RX5, 86, "TwinSets$TwinRows", "size", "I", "TwinSets"), (RX9, 126, "TwinSets$TwinRows", "size", "I", "TwinSets"), (RX9, 131, "TwinSets$TwinRows", "generation", "I", "TwinSets"), (RX5, 129, "TwinSets$TwinRows", "generation", "I", "TwinSets"), (RX5, 48, "TwinSets$Cursor", "isInUse", "Z", "TwinSets"), (RX9, 277, "TwinSets$Cursor", "isInUse", "Z", "TwinSets"), (RX5, 52, "TwinSets$Cursor", "isOpen", "Z", "TwinSets"), (RX9, 215, "TwinSets$Cursor", "isOpen", "Z", "TwinSets"), (RX9, 219, "TwinSets$Cursor", "isStrict", "Z", "TwinSets"), (RX9, 207, "TwinSets$Cursor", "set", "I", "TwinSets"), (RX5, 139, "TwinSets$Cursor", "set", "I", "TwinSets"), (RX5, 120, "TwinSets$Cursor", "position", "I", "TwinSets"), (RX9, 212, "TwinSets$Cursor", "position", "I", "TwinSets"), (RX9, 222, "TwinSets$Cursor", "madeAt", "I", "TwinSets"), (RX9, 225, "TwinSets$Cursor", "metCount", "I", "TwinSets"), (RX5, 148, "TwinSets$Cursor", "metCount", "I", "TwinSets"), (RX9, 228, "TwinSets$Cursor", "lastMet", "I", "TwinSets"), (RX5, 151, "TwinSets$Cursor", "lastMet", "I", "TwinSets"), (RX3, 128, "TwinSets$State", "sets", "[LTwinSets$TwinRows;", "TwinSets"), (RX9, 283, "TwinSets$State", "sets", "[LTwinSets$TwinRows;", "TwinSets"), (RX9, 270, "TwinSets$State", "cursors", "[LTwinSets$Cursor;", "TwinSets"), (RX9, 118, "TwinSets$State", "marks", "[I", "TwinSets"), (RX3, 125, "TwinSets$State", "universe", "I", "TwinSets"), (RX9, 87, "TwinSets$State", "universe", "I", "TwinSets"), (RX9, 90, "TwinSets$State", "horizon", "I", "TwinSets"), (RX3, 94, "TwinSets$State", "setCount", "I", "TwinSets"), (RX9, 84, "TwinSets$State", "setCount", "I", "TwinSets"), (RX9, 96, "TwinSets$State", "markCount", "I", "TwinSets"), (RX3, 142, "TwinSets$State", "markCount", "I", "TwinSets"), (RX9, 93, "TwinSets$State", "clock", "I", "TwinSets"), (RX9, 103, "TwinSets$State", "cost", "I", "TwinSets"), (RX9, 75, "TwinSets$Parser", "errorCode", "I", "TwinSets"), (RX9, 71, "TwinSets$Parser", "errorAt", "I", "TwinSets")]
def vNM : List (String × Nat × MethodName × String) := [(RX9, 9, yX1_init, "TwinSets"), (RX9, 18, yX8_init, "TwinSets"), (RX9, 25, yX4_init, "TwinSets"), (RX5, 27, yX7_init, "TwinSets"), (RX7, 23, yX2_init, "TwinSets"), (RX5, 28, yX0_init, "TwinSets")]
