theorem kl76 : Cond.initialized RL ∈ TB := mTB (List.mem_of_getElem? (i := 76) (by decide +kernel)) rfl
theorem kl357 : Cond.methodLink RL 114 yX9_append ∈ TB := mTB (List.mem_of_getElem? (i := 357) (by decide +kernel)) rfl
theorem kl358 : Cond.instanceMethod yX9_append ∈ TB := mTB (List.mem_of_getElem? (i := 358) (by decide +kernel)) rfl
theorem kl359 : Cond.selects RX9 yX9_append yX9_append ∈ TB := mTB (List.mem_of_getElem? (i := 359) (by decide +kernel)) rfl
theorem kl360 : Cond.code yX9_append cX9_append 6 (some .int) ∈ TB := mTB (List.mem_of_getElem? (i := 360) (by decide +kernel)) rfl
theorem kl365 : Cond.methodLink RL 128 yX9_errorPosition ∈ TB := mTB (List.mem_of_getElem? (i := 365) (by decide +kernel)) rfl
theorem kl366 : Cond.instanceMethod yX9_errorPosition ∈ TB := mTB (List.mem_of_getElem? (i := 366) (by decide +kernel)) rfl
theorem kl367 : Cond.selects RX9 yX9_errorPosition yX9_errorPosition ∈ TB := mTB (List.mem_of_getElem? (i := 367) (by decide +kernel)) rfl
theorem kl368 : Cond.code yX9_errorPosition cX9_errorPosition 1 (some .int) ∈ TB := mTB (List.mem_of_getElem? (i := 368) (by decide +kernel)) rfl
theorem kl369 : Cond.methodLink RL 135 yX9_find ∈ TB := mTB (List.mem_of_getElem? (i := 369) (by decide +kernel)) rfl
theorem kl370 : Cond.instanceMethod yX9_find ∈ TB := mTB (List.mem_of_getElem? (i := 370) (by decide +kernel)) rfl
theorem kl371 : Cond.selects RX9 yX9_find yX9_find ∈ TB := mTB (List.mem_of_getElem? (i := 371) (by decide +kernel)) rfl
theorem kl372 : Cond.code yX9_find cX9_find 2 (some .int) ∈ TB := mTB (List.mem_of_getElem? (i := 372) (by decide +kernel)) rfl
theorem kl433 : Cond.methodLink RL 139 yX9_marked ∈ TB := mTB (List.mem_of_getElem? (i := 433) (by decide +kernel)) rfl
theorem kl434 : Cond.instanceMethod yX9_marked ∈ TB := mTB (List.mem_of_getElem? (i := 434) (by decide +kernel)) rfl
theorem kl435 : Cond.selects RX9 yX9_marked yX9_marked ∈ TB := mTB (List.mem_of_getElem? (i := 435) (by decide +kernel)) rfl
theorem kl436 : Cond.code yX9_marked cX9_marked 2 (some .int) ∈ TB := mTB (List.mem_of_getElem? (i := 436) (by decide +kernel)) rfl
theorem kl437 : Cond.methodLink RL 222 yX9_undo ∈ TB := mTB (List.mem_of_getElem? (i := 437) (by decide +kernel)) rfl
theorem kl438 : Cond.instanceMethod yX9_undo ∈ TB := mTB (List.mem_of_getElem? (i := 438) (by decide +kernel)) rfl
theorem kl439 : Cond.selects RX9 yX9_undo yX9_undo ∈ TB := mTB (List.mem_of_getElem? (i := 439) (by decide +kernel)) rfl
theorem kl440 : Cond.code yX9_undo cX9_undo 1 (some .int) ∈ TB := mTB (List.mem_of_getElem? (i := 440) (by decide +kernel)) rfl
theorem kl466 : Cond.methodLink RL 119 yL_parse ∈ TB := mTB (List.mem_of_getElem? (i := 466) (by decide +kernel)) rfl
theorem kl467 : Cond.static yL_parse ∈ TB := mTB (List.mem_of_getElem? (i := 467) (by decide +kernel)) rfl
theorem kl468 : Cond.codeWith yL_parse cL_parse 4 (some .int) [(0, 9, 12, 13)] ∈ TB := mTB (List.mem_of_getElem? (i := 468) (by decide +kernel)) rfl
theorem kl469 : Cond.classLink RL 13 "java/lang/IllegalArgumentException" ∈ TB := mTB (List.mem_of_getElem? (i := 469) (by decide +kernel)) rfl
theorem kl470 : Cond.methodLink RL 7 yX9_parse ∈ TB := mTB (List.mem_of_getElem? (i := 470) (by decide +kernel)) rfl
theorem kl471 : Cond.instanceMethod yX9_parse ∈ TB := mTB (List.mem_of_getElem? (i := 471) (by decide +kernel)) rfl
theorem kl472 : Cond.selects RX9 yX9_parse yX9_parse ∈ TB := mTB (List.mem_of_getElem? (i := 472) (by decide +kernel)) rfl
theorem kl473 : Cond.code yX9_parse cX9_parse 4 (some .int) ∈ TB := mTB (List.mem_of_getElem? (i := 473) (by decide +kernel)) rfl
theorem kl979 : Cond.methodLink RL 132 yL_size ∈ TB := mTB (List.mem_of_getElem? (i := 979) (by decide +kernel)) rfl
theorem kl980 : Cond.static yL_size ∈ TB := mTB (List.mem_of_getElem? (i := 980) (by decide +kernel)) rfl
theorem kl981 : Cond.codeWith yL_size cL_size 4 (some .int) [(0, 9, 12, 13)] ∈ TB := mTB (List.mem_of_getElem? (i := 981) (by decide +kernel)) rfl
theorem kl982 : Cond.methodLink RL 15 yX9_size ∈ TB := mTB (List.mem_of_getElem? (i := 982) (by decide +kernel)) rfl
theorem kl983 : Cond.instanceMethod yX9_size ∈ TB := mTB (List.mem_of_getElem? (i := 983) (by decide +kernel)) rfl
theorem kl984 : Cond.selects RX9 yX9_size yX9_size ∈ TB := mTB (List.mem_of_getElem? (i := 984) (by decide +kernel)) rfl
theorem kl985 : Cond.code yX9_size cX9_size 2 (some .int) ∈ TB := mTB (List.mem_of_getElem? (i := 985) (by decide +kernel)) rfl
theorem kl991 : Cond.methodLink RL 143 yL_set ∈ TB := mTB (List.mem_of_getElem? (i := 991) (by decide +kernel)) rfl
theorem kl992 : Cond.static yL_set ∈ TB := mTB (List.mem_of_getElem? (i := 992) (by decide +kernel)) rfl
theorem kl993 : Cond.codeWith yL_set cL_set 5 (some .int) [(0, 10, 13, 22), (0, 10, 17, 13)] ∈ TB := mTB (List.mem_of_getElem? (i := 993) (by decide +kernel)) rfl
theorem kl994 : Cond.classLink RL 22 "java/lang/IndexOutOfBoundsException" ∈ TB := mTB (List.mem_of_getElem? (i := 994) (by decide +kernel)) rfl
theorem kl995 : Cond.methodLink RL 18 yX9_set ∈ TB := mTB (List.mem_of_getElem? (i := 995) (by decide +kernel)) rfl
theorem kl996 : Cond.instanceMethod yX9_set ∈ TB := mTB (List.mem_of_getElem? (i := 996) (by decide +kernel)) rfl
theorem kl997 : Cond.selects RX9 yX9_set yX9_set ∈ TB := mTB (List.mem_of_getElem? (i := 997) (by decide +kernel)) rfl
theorem kl998 : Cond.code yX9_set cX9_set 4 (some .int) ∈ TB := mTB (List.mem_of_getElem? (i := 998) (by decide +kernel)) rfl
theorem kl1027 : Cond.methodLink RL 147 yL_cell ∈ TB := mTB (List.mem_of_getElem? (i := 1027) (by decide +kernel)) rfl
theorem kl1028 : Cond.static yL_cell ∈ TB := mTB (List.mem_of_getElem? (i := 1028) (by decide +kernel)) rfl
theorem kl1029 : Cond.codeWith yL_cell cL_cell 6 (some .int) [(0, 12, 15, 22), (0, 12, 19, 13)] ∈ TB := mTB (List.mem_of_getElem? (i := 1029) (by decide +kernel)) rfl
theorem kl1030 : Cond.methodLink RL 24 yX9_cell ∈ TB := mTB (List.mem_of_getElem? (i := 1030) (by decide +kernel)) rfl
theorem kl1031 : Cond.instanceMethod yX9_cell ∈ TB := mTB (List.mem_of_getElem? (i := 1031) (by decide +kernel)) rfl
theorem kl1032 : Cond.selects RX9 yX9_cell yX9_cell ∈ TB := mTB (List.mem_of_getElem? (i := 1032) (by decide +kernel)) rfl
theorem kl1033 : Cond.code yX9_cell cX9_cell 5 (some .int) ∈ TB := mTB (List.mem_of_getElem? (i := 1033) (by decide +kernel)) rfl
theorem kl1039 : Cond.methodLink RL 151 yL_place ∈ TB := mTB (List.mem_of_getElem? (i := 1039) (by decide +kernel)) rfl
theorem kl1040 : Cond.static yL_place ∈ TB := mTB (List.mem_of_getElem? (i := 1040) (by decide +kernel)) rfl
theorem kl1041 : Cond.codeWith yL_place cL_place 5 (some .int) [(0, 10, 13, 22)] ∈ TB := mTB (List.mem_of_getElem? (i := 1041) (by decide +kernel)) rfl
theorem kl1042 : Cond.methodLink RL 28 yX9_place ∈ TB := mTB (List.mem_of_getElem? (i := 1042) (by decide +kernel)) rfl
theorem kl1043 : Cond.instanceMethod yX9_place ∈ TB := mTB (List.mem_of_getElem? (i := 1043) (by decide +kernel)) rfl
theorem kl1044 : Cond.selects RX9 yX9_place yX9_place ∈ TB := mTB (List.mem_of_getElem? (i := 1044) (by decide +kernel)) rfl
theorem kl1045 : Cond.code yX9_place cX9_place 3 (some .int) ∈ TB := mTB (List.mem_of_getElem? (i := 1045) (by decide +kernel)) rfl
theorem kl1047 : Cond.methodLink RL 154 yL_stampOf ∈ TB := mTB (List.mem_of_getElem? (i := 1047) (by decide +kernel)) rfl
theorem kl1048 : Cond.static yL_stampOf ∈ TB := mTB (List.mem_of_getElem? (i := 1048) (by decide +kernel)) rfl
theorem kl1049 : Cond.codeWith yL_stampOf cL_stampOf 5 (some .int) [(0, 10, 13, 22)] ∈ TB := mTB (List.mem_of_getElem? (i := 1049) (by decide +kernel)) rfl
theorem kl1050 : Cond.methodLink RL 31 yX9_stampOf ∈ TB := mTB (List.mem_of_getElem? (i := 1050) (by decide +kernel)) rfl
theorem kl1051 : Cond.instanceMethod yX9_stampOf ∈ TB := mTB (List.mem_of_getElem? (i := 1051) (by decide +kernel)) rfl
theorem kl1052 : Cond.selects RX9 yX9_stampOf yX9_stampOf ∈ TB := mTB (List.mem_of_getElem? (i := 1052) (by decide +kernel)) rfl
theorem kl1053 : Cond.code yX9_stampOf cX9_stampOf 4 (some .int) ∈ TB := mTB (List.mem_of_getElem? (i := 1053) (by decide +kernel)) rfl
theorem kl1055 : Cond.methodLink RL 157 yL_event ∈ TB := mTB (List.mem_of_getElem? (i := 1055) (by decide +kernel)) rfl
theorem kl1056 : Cond.static yL_event ∈ TB := mTB (List.mem_of_getElem? (i := 1056) (by decide +kernel)) rfl
theorem kl1057 : Cond.codeWith yL_event cL_event 6 (some .int) [(0, 12, 15, 22), (0, 12, 19, 13)] ∈ TB := mTB (List.mem_of_getElem? (i := 1057) (by decide +kernel)) rfl
theorem kl1058 : Cond.methodLink RL 34 yX9_event ∈ TB := mTB (List.mem_of_getElem? (i := 1058) (by decide +kernel)) rfl
theorem kl1059 : Cond.instanceMethod yX9_event ∈ TB := mTB (List.mem_of_getElem? (i := 1059) (by decide +kernel)) rfl
theorem kl1060 : Cond.selects RX9 yX9_event yX9_event ∈ TB := mTB (List.mem_of_getElem? (i := 1060) (by decide +kernel)) rfl
theorem kl1061 : Cond.code yX9_event cX9_event 5 (some .int) ∈ TB := mTB (List.mem_of_getElem? (i := 1061) (by decide +kernel)) rfl
theorem kl1063 : Cond.methodLink RL 161 yL_at ∈ TB := mTB (List.mem_of_getElem? (i := 1063) (by decide +kernel)) rfl
theorem kl1064 : Cond.static yL_at ∈ TB := mTB (List.mem_of_getElem? (i := 1064) (by decide +kernel)) rfl
theorem kl1065 : Cond.codeWith yL_at cL_at 5 (some .int) [(0, 9, 12, 22), (0, 9, 16, 13)] ∈ TB := mTB (List.mem_of_getElem? (i := 1065) (by decide +kernel)) rfl
theorem kl1066 : Cond.methodLink RL 38 yX9_at ∈ TB := mTB (List.mem_of_getElem? (i := 1066) (by decide +kernel)) rfl
theorem kl1067 : Cond.instanceMethod yX9_at ∈ TB := mTB (List.mem_of_getElem? (i := 1067) (by decide +kernel)) rfl
theorem kl1068 : Cond.selects RX9 yX9_at yX9_at ∈ TB := mTB (List.mem_of_getElem? (i := 1068) (by decide +kernel)) rfl
theorem kl1069 : Cond.code yX9_at cX9_at 4 (some .long) ∈ TB := mTB (List.mem_of_getElem? (i := 1069) (by decide +kernel)) rfl
theorem kl1079 : Cond.methodLink RL 164 yL_differs ∈ TB := mTB (List.mem_of_getElem? (i := 1079) (by decide +kernel)) rfl
theorem kl1080 : Cond.static yL_differs ∈ TB := mTB (List.mem_of_getElem? (i := 1080) (by decide +kernel)) rfl
theorem kl1081 : Cond.codeWith yL_differs cL_differs 7 (some .int) [(0, 14, 17, 22), (0, 14, 21, 13)] ∈ TB := mTB (List.mem_of_getElem? (i := 1081) (by decide +kernel)) rfl
theorem kl1082 : Cond.methodLink RL 42 yX9_differs ∈ TB := mTB (List.mem_of_getElem? (i := 1082) (by decide +kernel)) rfl
theorem kl1083 : Cond.instanceMethod yX9_differs ∈ TB := mTB (List.mem_of_getElem? (i := 1083) (by decide +kernel)) rfl
theorem kl1084 : Cond.selects RX9 yX9_differs yX9_differs ∈ TB := mTB (List.mem_of_getElem? (i := 1084) (by decide +kernel)) rfl
theorem kl1085 : Cond.code yX9_differs cX9_differs 10 (some .int) ∈ TB := mTB (List.mem_of_getElem? (i := 1085) (by decide +kernel)) rfl
theorem kl1093 : Cond.methodLink RL 168 yL_since ∈ TB := mTB (List.mem_of_getElem? (i := 1093) (by decide +kernel)) rfl
theorem kl1094 : Cond.static yL_since ∈ TB := mTB (List.mem_of_getElem? (i := 1094) (by decide +kernel)) rfl
theorem kl1095 : Cond.codeWith yL_since cL_since 5 (some .int) [(0, 10, 13, 22), (0, 10, 17, 13)] ∈ TB := mTB (List.mem_of_getElem? (i := 1095) (by decide +kernel)) rfl
theorem kl1096 : Cond.methodLink RL 46 yX9_since ∈ TB := mTB (List.mem_of_getElem? (i := 1096) (by decide +kernel)) rfl
theorem kl1097 : Cond.instanceMethod yX9_since ∈ TB := mTB (List.mem_of_getElem? (i := 1097) (by decide +kernel)) rfl
theorem kl1098 : Cond.selects RX9 yX9_since yX9_since ∈ TB := mTB (List.mem_of_getElem? (i := 1098) (by decide +kernel)) rfl
theorem kl1099 : Cond.code yX9_since cX9_since 4 (some .int) ∈ TB := mTB (List.mem_of_getElem? (i := 1099) (by decide +kernel)) rfl
theorem kl1109 : Cond.methodLink RL 171 yL_fullest ∈ TB := mTB (List.mem_of_getElem? (i := 1109) (by decide +kernel)) rfl
theorem kl1110 : Cond.static yL_fullest ∈ TB := mTB (List.mem_of_getElem? (i := 1110) (by decide +kernel)) rfl
theorem kl1111 : Cond.codeWith yL_fullest cL_fullest 4 (some .int) [(0, 9, 12, 22)] ∈ TB := mTB (List.mem_of_getElem? (i := 1111) (by decide +kernel)) rfl
theorem kl1112 : Cond.methodLink RL 49 yX9_fullest ∈ TB := mTB (List.mem_of_getElem? (i := 1112) (by decide +kernel)) rfl
theorem kl1113 : Cond.instanceMethod yX9_fullest ∈ TB := mTB (List.mem_of_getElem? (i := 1113) (by decide +kernel)) rfl
theorem kl1114 : Cond.selects RX9 yX9_fullest yX9_fullest ∈ TB := mTB (List.mem_of_getElem? (i := 1114) (by decide +kernel)) rfl
theorem kl1115 : Cond.code yX9_fullest cX9_fullest 2 (some .int) ∈ TB := mTB (List.mem_of_getElem? (i := 1115) (by decide +kernel)) rfl
theorem kl1121 : Cond.methodLink RL 174 yL_cursor ∈ TB := mTB (List.mem_of_getElem? (i := 1121) (by decide +kernel)) rfl
theorem kl1122 : Cond.static yL_cursor ∈ TB := mTB (List.mem_of_getElem? (i := 1122) (by decide +kernel)) rfl
theorem kl1123 : Cond.codeWith yL_cursor cL_cursor 5 (some .int) [(0, 10, 13, 22), (0, 10, 17, 13)] ∈ TB := mTB (List.mem_of_getElem? (i := 1123) (by decide +kernel)) rfl
theorem kl1124 : Cond.methodLink RL 52 yX9_cursor ∈ TB := mTB (List.mem_of_getElem? (i := 1124) (by decide +kernel)) rfl
theorem kl1125 : Cond.instanceMethod yX9_cursor ∈ TB := mTB (List.mem_of_getElem? (i := 1125) (by decide +kernel)) rfl
theorem kl1126 : Cond.selects RX9 yX9_cursor yX9_cursor ∈ TB := mTB (List.mem_of_getElem? (i := 1126) (by decide +kernel)) rfl
theorem kl1127 : Cond.code yX9_cursor cX9_cursor 4 (some .int) ∈ TB := mTB (List.mem_of_getElem? (i := 1127) (by decide +kernel)) rfl
theorem kl1133 : Cond.methodLink RL 177 yL_ahead ∈ TB := mTB (List.mem_of_getElem? (i := 1133) (by decide +kernel)) rfl
theorem kl1134 : Cond.static yL_ahead ∈ TB := mTB (List.mem_of_getElem? (i := 1134) (by decide +kernel)) rfl
theorem kl1135 : Cond.codeWith yL_ahead cL_ahead 4 (some .int) [(0, 9, 12, 22)] ∈ TB := mTB (List.mem_of_getElem? (i := 1135) (by decide +kernel)) rfl
theorem kl1136 : Cond.methodLink RL 55 yX9_ahead ∈ TB := mTB (List.mem_of_getElem? (i := 1136) (by decide +kernel)) rfl
theorem kl1137 : Cond.instanceMethod yX9_ahead ∈ TB := mTB (List.mem_of_getElem? (i := 1137) (by decide +kernel)) rfl
theorem kl1138 : Cond.selects RX9 yX9_ahead yX9_ahead ∈ TB := mTB (List.mem_of_getElem? (i := 1138) (by decide +kernel)) rfl
theorem kl1139 : Cond.code yX9_ahead cX9_ahead 2 (some .int) ∈ TB := mTB (List.mem_of_getElem? (i := 1139) (by decide +kernel)) rfl
theorem kl1152 : Cond.methodLink RL 180 yL_common ∈ TB := mTB (List.mem_of_getElem? (i := 1152) (by decide +kernel)) rfl
theorem kl1153 : Cond.static yL_common ∈ TB := mTB (List.mem_of_getElem? (i := 1153) (by decide +kernel)) rfl
theorem kl1154 : Cond.codeWith yL_common cL_common 5 (some .int) [(0, 10, 13, 22)] ∈ TB := mTB (List.mem_of_getElem? (i := 1154) (by decide +kernel)) rfl
theorem kl1155 : Cond.methodLink RL 58 yX9_common ∈ TB := mTB (List.mem_of_getElem? (i := 1155) (by decide +kernel)) rfl
theorem kl1156 : Cond.instanceMethod yX9_common ∈ TB := mTB (List.mem_of_getElem? (i := 1156) (by decide +kernel)) rfl
theorem kl1157 : Cond.selects RX9 yX9_common yX9_common ∈ TB := mTB (List.mem_of_getElem? (i := 1157) (by decide +kernel)) rfl
theorem kl1158 : Cond.code yX9_common cX9_common 5 (some .int) ∈ TB := mTB (List.mem_of_getElem? (i := 1158) (by decide +kernel)) rfl
theorem kl1163 : Cond.methodLink RL 183 yL_isWithin ∈ TB := mTB (List.mem_of_getElem? (i := 1163) (by decide +kernel)) rfl
theorem kl1164 : Cond.static yL_isWithin ∈ TB := mTB (List.mem_of_getElem? (i := 1164) (by decide +kernel)) rfl
theorem kl1165 : Cond.codeWith yL_isWithin cL_isWithin 5 (some .int) [(0, 17, 20, 22)] ∈ TB := mTB (List.mem_of_getElem? (i := 1165) (by decide +kernel)) rfl
theorem kl1166 : Cond.methodLink RL 61 yX9_isWithin ∈ TB := mTB (List.mem_of_getElem? (i := 1166) (by decide +kernel)) rfl
theorem kl1167 : Cond.instanceMethod yX9_isWithin ∈ TB := mTB (List.mem_of_getElem? (i := 1167) (by decide +kernel)) rfl
theorem kl1168 : Cond.selects RX9 yX9_isWithin yX9_isWithin ∈ TB := mTB (List.mem_of_getElem? (i := 1168) (by decide +kernel)) rfl
theorem kl1169 : Cond.code yX9_isWithin cX9_isWithin 5 (some .boolean) ∈ TB := mTB (List.mem_of_getElem? (i := 1169) (by decide +kernel)) rfl
theorem kl1170 : Cond.methodLink RL 186 yL_likeness ∈ TB := mTB (List.mem_of_getElem? (i := 1170) (by decide +kernel)) rfl
theorem kl1171 : Cond.static yL_likeness ∈ TB := mTB (List.mem_of_getElem? (i := 1171) (by decide +kernel)) rfl
theorem kl1172 : Cond.codeWith yL_likeness cL_likeness 5 (some .int) [(0, 9, 12, 22)] ∈ TB := mTB (List.mem_of_getElem? (i := 1172) (by decide +kernel)) rfl
theorem kl1173 : Cond.methodLink RL 65 yX9_likeness ∈ TB := mTB (List.mem_of_getElem? (i := 1173) (by decide +kernel)) rfl
theorem kl1174 : Cond.instanceMethod yX9_likeness ∈ TB := mTB (List.mem_of_getElem? (i := 1174) (by decide +kernel)) rfl
theorem kl1175 : Cond.selects RX9 yX9_likeness yX9_likeness ∈ TB := mTB (List.mem_of_getElem? (i := 1175) (by decide +kernel)) rfl
theorem kl1176 : Cond.code yX9_likeness cX9_likeness 8 (some .double) ∈ TB := mTB (List.mem_of_getElem? (i := 1176) (by decide +kernel)) rfl
theorem kl1177 : Cond.methodLink RL 190 yL_add ∈ TB := mTB (List.mem_of_getElem? (i := 1177) (by decide +kernel)) rfl
theorem kl1178 : Cond.static yL_add ∈ TB := mTB (List.mem_of_getElem? (i := 1178) (by decide +kernel)) rfl
theorem kl1179 : Cond.codeWith yL_add cL_add 5 (some .int) [(0, 10, 13, 22), (0, 10, 17, 13)] ∈ TB := mTB (List.mem_of_getElem? (i := 1179) (by decide +kernel)) rfl
theorem kl1180 : Cond.methodLink RL 69 yX9_add ∈ TB := mTB (List.mem_of_getElem? (i := 1180) (by decide +kernel)) rfl
theorem kl1181 : Cond.instanceMethod yX9_add ∈ TB := mTB (List.mem_of_getElem? (i := 1181) (by decide +kernel)) rfl
theorem kl1182 : Cond.selects RX9 yX9_add yX9_add ∈ TB := mTB (List.mem_of_getElem? (i := 1182) (by decide +kernel)) rfl
theorem kl1183 : Cond.code yX9_add cX9_add 4 (some .int) ∈ TB := mTB (List.mem_of_getElem? (i := 1183) (by decide +kernel)) rfl
theorem kl1191 : Cond.methodLink RL 193 yL_remove ∈ TB := mTB (List.mem_of_getElem? (i := 1191) (by decide +kernel)) rfl
theorem kl1192 : Cond.static yL_remove ∈ TB := mTB (List.mem_of_getElem? (i := 1192) (by decide +kernel)) rfl
theorem kl1193 : Cond.codeWith yL_remove cL_remove 5 (some .int) [(0, 17, 20, 22), (0, 17, 24, 13)] ∈ TB := mTB (List.mem_of_getElem? (i := 1193) (by decide +kernel)) rfl
theorem kl1194 : Cond.methodLink RL 72 yX9_remove ∈ TB := mTB (List.mem_of_getElem? (i := 1194) (by decide +kernel)) rfl
theorem kl1195 : Cond.instanceMethod yX9_remove ∈ TB := mTB (List.mem_of_getElem? (i := 1195) (by decide +kernel)) rfl
theorem kl1196 : Cond.selects RX9 yX9_remove yX9_remove ∈ TB := mTB (List.mem_of_getElem? (i := 1196) (by decide +kernel)) rfl
theorem kl1197 : Cond.code yX9_remove cX9_remove 3 (some .boolean) ∈ TB := mTB (List.mem_of_getElem? (i := 1197) (by decide +kernel)) rfl
theorem kl1199 : Cond.methodLink RL 196 yL_clear ∈ TB := mTB (List.mem_of_getElem? (i := 1199) (by decide +kernel)) rfl
theorem kl1200 : Cond.static yL_clear ∈ TB := mTB (List.mem_of_getElem? (i := 1200) (by decide +kernel)) rfl
theorem kl1201 : Cond.codeWith yL_clear cL_clear 4 (some .int) [(0, 9, 12, 22)] ∈ TB := mTB (List.mem_of_getElem? (i := 1201) (by decide +kernel)) rfl
theorem kl1202 : Cond.methodLink RL 75 yX9_clear ∈ TB := mTB (List.mem_of_getElem? (i := 1202) (by decide +kernel)) rfl
theorem kl1203 : Cond.instanceMethod yX9_clear ∈ TB := mTB (List.mem_of_getElem? (i := 1203) (by decide +kernel)) rfl
theorem kl1204 : Cond.selects RX9 yX9_clear yX9_clear ∈ TB := mTB (List.mem_of_getElem? (i := 1204) (by decide +kernel)) rfl
theorem kl1205 : Cond.code yX9_clear cX9_clear 3 (some .int) ∈ TB := mTB (List.mem_of_getElem? (i := 1205) (by decide +kernel)) rfl
theorem kl1207 : Cond.methodLink RL 199 yL_mark ∈ TB := mTB (List.mem_of_getElem? (i := 1207) (by decide +kernel)) rfl
theorem kl1208 : Cond.static yL_mark ∈ TB := mTB (List.mem_of_getElem? (i := 1208) (by decide +kernel)) rfl
theorem kl1209 : Cond.codeWith yL_mark cL_mark 3 (some .int) [(0, 8, 11, 82)] ∈ TB := mTB (List.mem_of_getElem? (i := 1209) (by decide +kernel)) rfl
theorem kl1210 : Cond.classLink RL 82 "java/lang/IllegalStateException" ∈ TB := mTB (List.mem_of_getElem? (i := 1210) (by decide +kernel)) rfl
theorem kl1211 : Cond.methodLink RL 78 yX9_mark ∈ TB := mTB (List.mem_of_getElem? (i := 1211) (by decide +kernel)) rfl
theorem kl1212 : Cond.instanceMethod yX9_mark ∈ TB := mTB (List.mem_of_getElem? (i := 1212) (by decide +kernel)) rfl
theorem kl1213 : Cond.selects RX9 yX9_mark yX9_mark ∈ TB := mTB (List.mem_of_getElem? (i := 1213) (by decide +kernel)) rfl
theorem kl1214 : Cond.code yX9_mark cX9_mark 1 (some .int) ∈ TB := mTB (List.mem_of_getElem? (i := 1214) (by decide +kernel)) rfl
theorem kl1232 : Cond.methodLink RL 203 yL_open ∈ TB := mTB (List.mem_of_getElem? (i := 1232) (by decide +kernel)) rfl
theorem kl1233 : Cond.static yL_open ∈ TB := mTB (List.mem_of_getElem? (i := 1233) (by decide +kernel)) rfl
theorem kl1234 : Cond.codeWith yL_open cL_open 5 (some .int) [(0, 10, 13, 22), (0, 10, 17, 82)] ∈ TB := mTB (List.mem_of_getElem? (i := 1234) (by decide +kernel)) rfl
theorem kl1235 : Cond.methodLink RL 84 yX9_open ∈ TB := mTB (List.mem_of_getElem? (i := 1235) (by decide +kernel)) rfl
theorem kl1236 : Cond.instanceMethod yX9_open ∈ TB := mTB (List.mem_of_getElem? (i := 1236) (by decide +kernel)) rfl
theorem kl1237 : Cond.selects RX9 yX9_open yX9_open ∈ TB := mTB (List.mem_of_getElem? (i := 1237) (by decide +kernel)) rfl
theorem kl1238 : Cond.code yX9_open cX9_open 4 (some .int) ∈ TB := mTB (List.mem_of_getElem? (i := 1238) (by decide +kernel)) rfl
theorem kl1248 : Cond.methodLink RL 207 yL_close ∈ TB := mTB (List.mem_of_getElem? (i := 1248) (by decide +kernel)) rfl
theorem kl1249 : Cond.static yL_close ∈ TB := mTB (List.mem_of_getElem? (i := 1249) (by decide +kernel)) rfl
theorem kl1250 : Cond.codeWith yL_close cL_close 4 (some .int) [(0, 9, 12, 22)] ∈ TB := mTB (List.mem_of_getElem? (i := 1250) (by decide +kernel)) rfl
theorem kl1251 : Cond.methodLink RL 88 yX9_close ∈ TB := mTB (List.mem_of_getElem? (i := 1251) (by decide +kernel)) rfl
theorem kl1252 : Cond.instanceMethod yX9_close ∈ TB := mTB (List.mem_of_getElem? (i := 1252) (by decide +kernel)) rfl
theorem kl1253 : Cond.selects RX9 yX9_close yX9_close ∈ TB := mTB (List.mem_of_getElem? (i := 1253) (by decide +kernel)) rfl
theorem kl1254 : Cond.code yX9_close cX9_close 3 (some .int) ∈ TB := mTB (List.mem_of_getElem? (i := 1254) (by decide +kernel)) rfl
theorem kl1255 : Cond.methodLink RL 210 yL_step ∈ TB := mTB (List.mem_of_getElem? (i := 1255) (by decide +kernel)) rfl
theorem kl1256 : Cond.static yL_step ∈ TB := mTB (List.mem_of_getElem? (i := 1256) (by decide +kernel)) rfl
theorem kl1257 : Cond.codeWith yL_step cL_step 4 (some .int) [(0, 9, 12, 22)] ∈ TB := mTB (List.mem_of_getElem? (i := 1257) (by decide +kernel)) rfl
theorem kl1258 : Cond.methodLink RL 91 yX9_step ∈ TB := mTB (List.mem_of_getElem? (i := 1258) (by decide +kernel)) rfl
theorem kl1259 : Cond.instanceMethod yX9_step ∈ TB := mTB (List.mem_of_getElem? (i := 1259) (by decide +kernel)) rfl
theorem kl1260 : Cond.selects RX9 yX9_step yX9_step ∈ TB := mTB (List.mem_of_getElem? (i := 1260) (by decide +kernel)) rfl
theorem kl1261 : Cond.code yX9_step cX9_step 3 (some .int) ∈ TB := mTB (List.mem_of_getElem? (i := 1261) (by decide +kernel)) rfl
theorem kl1266 : Cond.methodLink RL 213 yL_removeMet ∈ TB := mTB (List.mem_of_getElem? (i := 1266) (by decide +kernel)) rfl
theorem kl1267 : Cond.static yL_removeMet ∈ TB := mTB (List.mem_of_getElem? (i := 1267) (by decide +kernel)) rfl
theorem kl1268 : Cond.codeWith yL_removeMet cL_removeMet 4 (some .int) [(0, 9, 12, 22), (0, 9, 15, 82)] ∈ TB := mTB (List.mem_of_getElem? (i := 1268) (by decide +kernel)) rfl
theorem kl1269 : Cond.methodLink RL 94 yX9_removeMet ∈ TB := mTB (List.mem_of_getElem? (i := 1269) (by decide +kernel)) rfl
theorem kl1270 : Cond.instanceMethod yX9_removeMet ∈ TB := mTB (List.mem_of_getElem? (i := 1270) (by decide +kernel)) rfl
theorem kl1271 : Cond.selects RX9 yX9_removeMet yX9_removeMet ∈ TB := mTB (List.mem_of_getElem? (i := 1271) (by decide +kernel)) rfl
theorem kl1272 : Cond.code yX9_removeMet cX9_removeMet 4 (some .int) ∈ TB := mTB (List.mem_of_getElem? (i := 1272) (by decide +kernel)) rfl
theorem kl1274 : Cond.methodLink RL 216 yL_keep ∈ TB := mTB (List.mem_of_getElem? (i := 1274) (by decide +kernel)) rfl
theorem kl1275 : Cond.static yL_keep ∈ TB := mTB (List.mem_of_getElem? (i := 1275) (by decide +kernel)) rfl
theorem kl1276 : Cond.codeWith yL_keep cL_keep 5 (some .int) [(0, 10, 13, 22)] ∈ TB := mTB (List.mem_of_getElem? (i := 1276) (by decide +kernel)) rfl
theorem kl1277 : Cond.methodLink RL 97 yX9_keep ∈ TB := mTB (List.mem_of_getElem? (i := 1277) (by decide +kernel)) rfl
theorem kl1278 : Cond.instanceMethod yX9_keep ∈ TB := mTB (List.mem_of_getElem? (i := 1278) (by decide +kernel)) rfl
theorem kl1279 : Cond.selects RX9 yX9_keep yX9_keep ∈ TB := mTB (List.mem_of_getElem? (i := 1279) (by decide +kernel)) rfl
theorem kl1280 : Cond.code yX9_keep cX9_keep 3 (some .int) ∈ TB := mTB (List.mem_of_getElem? (i := 1280) (by decide +kernel)) rfl
theorem kl1286 : Cond.methodLink RL 219 yL_unite ∈ TB := mTB (List.mem_of_getElem? (i := 1286) (by decide +kernel)) rfl
theorem kl1287 : Cond.static yL_unite ∈ TB := mTB (List.mem_of_getElem? (i := 1287) (by decide +kernel)) rfl
theorem kl1288 : Cond.codeWith yL_unite cL_unite 5 (some .int) [(0, 10, 13, 22)] ∈ TB := mTB (List.mem_of_getElem? (i := 1288) (by decide +kernel)) rfl
theorem kl1289 : Cond.methodLink RL 100 yX9_unite ∈ TB := mTB (List.mem_of_getElem? (i := 1289) (by decide +kernel)) rfl
theorem kl1290 : Cond.instanceMethod yX9_unite ∈ TB := mTB (List.mem_of_getElem? (i := 1290) (by decide +kernel)) rfl
theorem kl1291 : Cond.selects RX9 yX9_unite yX9_unite ∈ TB := mTB (List.mem_of_getElem? (i := 1291) (by decide +kernel)) rfl
theorem kl1292 : Cond.code yX9_unite cX9_unite 3 (some .int) ∈ TB := mTB (List.mem_of_getElem? (i := 1292) (by decide +kernel)) rfl
theorem kl1298 : Cond.methodLink RL 226 yL_saveSnapshot ∈ TB := mTB (List.mem_of_getElem? (i := 1298) (by decide +kernel)) rfl
theorem kl1299 : Cond.static yL_saveSnapshot ∈ TB := mTB (List.mem_of_getElem? (i := 1299) (by decide +kernel)) rfl
theorem kl1300 : Cond.codeWith yL_saveSnapshot cL_saveSnapshot 4 (some .int) [(0, 16, 19, 22)] ∈ TB := mTB (List.mem_of_getElem? (i := 1300) (by decide +kernel)) rfl
theorem kl1301 : Cond.methodLink RL 103 yX9_saveSnapshot ∈ TB := mTB (List.mem_of_getElem? (i := 1301) (by decide +kernel)) rfl
theorem kl1302 : Cond.instanceMethod yX9_saveSnapshot ∈ TB := mTB (List.mem_of_getElem? (i := 1302) (by decide +kernel)) rfl
theorem kl1303 : Cond.selects RX9 yX9_saveSnapshot yX9_saveSnapshot ∈ TB := mTB (List.mem_of_getElem? (i := 1303) (by decide +kernel)) rfl
theorem kl1304 : Cond.code yX9_saveSnapshot cX9_saveSnapshot 3 (some .boolean) ∈ TB := mTB (List.mem_of_getElem? (i := 1304) (by decide +kernel)) rfl
theorem kl1316 : Cond.methodLink RL 229 yL_restoreSnapshot ∈ TB := mTB (List.mem_of_getElem? (i := 1316) (by decide +kernel)) rfl
theorem kl1317 : Cond.static yL_restoreSnapshot ∈ TB := mTB (List.mem_of_getElem? (i := 1317) (by decide +kernel)) rfl
theorem kl1318 : Cond.codeWith yL_restoreSnapshot cL_restoreSnapshot 4 (some .int) [(0, 9, 12, 22), (0, 9, 15, 82)] ∈ TB := mTB (List.mem_of_getElem? (i := 1318) (by decide +kernel)) rfl
theorem kl1319 : Cond.methodLink RL 107 yX9_restoreSnapshot ∈ TB := mTB (List.mem_of_getElem? (i := 1319) (by decide +kernel)) rfl
theorem kl1320 : Cond.instanceMethod yX9_restoreSnapshot ∈ TB := mTB (List.mem_of_getElem? (i := 1320) (by decide +kernel)) rfl
theorem kl1321 : Cond.selects RX9 yX9_restoreSnapshot yX9_restoreSnapshot ∈ TB := mTB (List.mem_of_getElem? (i := 1321) (by decide +kernel)) rfl
theorem kl1322 : Cond.code yX9_restoreSnapshot cX9_restoreSnapshot 3 (some .int) ∈ TB := mTB (List.mem_of_getElem? (i := 1322) (by decide +kernel)) rfl
theorem kl1403 : Cond.methodLink RL 125 yX10_thrown ∈ TB := mTB (List.mem_of_getElem? (i := 1403) (by decide +kernel)) rfl
theorem kl1404 : Cond.instanceMethod yX10_thrown ∈ TB := mTB (List.mem_of_getElem? (i := 1404) (by decide +kernel)) rfl
theorem kl1405 : Cond.selects RX10 yX10_thrown yX10_thrown ∈ TB := mTB (List.mem_of_getElem? (i := 1405) (by decide +kernel)) rfl
theorem kl1406 : Cond.code yX10_thrown cX10_thrown 1 (some .int) ∈ TB := mTB (List.mem_of_getElem? (i := 1406) (by decide +kernel)) rfl
theorem kl1407 : Cond.methodLink RL 118 yX10_append ∈ TB := mTB (List.mem_of_getElem? (i := 1407) (by decide +kernel)) rfl
theorem kl1408 : Cond.instanceMethod yX10_append ∈ TB := mTB (List.mem_of_getElem? (i := 1408) (by decide +kernel)) rfl
theorem kl1409 : Cond.selects RX10 yX10_append yX10_append ∈ TB := mTB (List.mem_of_getElem? (i := 1409) (by decide +kernel)) rfl
theorem kl1410 : Cond.code yX10_append cX10_append 6 (some .int) ∈ TB := mTB (List.mem_of_getElem? (i := 1410) (by decide +kernel)) rfl
theorem kl1415 : Cond.methodLink RL 124 yX10_parse ∈ TB := mTB (List.mem_of_getElem? (i := 1415) (by decide +kernel)) rfl
theorem kl1416 : Cond.instanceMethod yX10_parse ∈ TB := mTB (List.mem_of_getElem? (i := 1416) (by decide +kernel)) rfl
theorem kl1417 : Cond.selects RX10 yX10_parse yX10_parse ∈ TB := mTB (List.mem_of_getElem? (i := 1417) (by decide +kernel)) rfl
theorem kl1418 : Cond.code yX10_parse cX10_parse 4 (some .int) ∈ TB := mTB (List.mem_of_getElem? (i := 1418) (by decide +kernel)) rfl
theorem kl1578 : Cond.methodLink RL 131 yX10_errorPosition ∈ TB := mTB (List.mem_of_getElem? (i := 1578) (by decide +kernel)) rfl
theorem kl1579 : Cond.instanceMethod yX10_errorPosition ∈ TB := mTB (List.mem_of_getElem? (i := 1579) (by decide +kernel)) rfl
theorem kl1580 : Cond.selects RX10 yX10_errorPosition yX10_errorPosition ∈ TB := mTB (List.mem_of_getElem? (i := 1580) (by decide +kernel)) rfl
theorem kl1581 : Cond.code yX10_errorPosition cX10_errorPosition 1 (some .int) ∈ TB := mTB (List.mem_of_getElem? (i := 1581) (by decide +kernel)) rfl
theorem kl1582 : Cond.methodLink RL 138 yX10_find ∈ TB := mTB (List.mem_of_getElem? (i := 1582) (by decide +kernel)) rfl
theorem kl1583 : Cond.instanceMethod yX10_find ∈ TB := mTB (List.mem_of_getElem? (i := 1583) (by decide +kernel)) rfl
theorem kl1584 : Cond.selects RX10 yX10_find yX10_find ∈ TB := mTB (List.mem_of_getElem? (i := 1584) (by decide +kernel)) rfl
theorem kl1585 : Cond.code yX10_find cX10_find 2 (some .int) ∈ TB := mTB (List.mem_of_getElem? (i := 1585) (by decide +kernel)) rfl
theorem kl1586 : Cond.methodLink RL 134 yX10_size ∈ TB := mTB (List.mem_of_getElem? (i := 1586) (by decide +kernel)) rfl
theorem kl1587 : Cond.instanceMethod yX10_size ∈ TB := mTB (List.mem_of_getElem? (i := 1587) (by decide +kernel)) rfl
theorem kl1588 : Cond.selects RX10 yX10_size yX10_size ∈ TB := mTB (List.mem_of_getElem? (i := 1588) (by decide +kernel)) rfl
theorem kl1589 : Cond.code yX10_size cX10_size 2 (some .int) ∈ TB := mTB (List.mem_of_getElem? (i := 1589) (by decide +kernel)) rfl
theorem kl1594 : Cond.methodLink RL 142 yX10_marked ∈ TB := mTB (List.mem_of_getElem? (i := 1594) (by decide +kernel)) rfl
theorem kl1595 : Cond.instanceMethod yX10_marked ∈ TB := mTB (List.mem_of_getElem? (i := 1595) (by decide +kernel)) rfl
theorem kl1596 : Cond.selects RX10 yX10_marked yX10_marked ∈ TB := mTB (List.mem_of_getElem? (i := 1596) (by decide +kernel)) rfl
theorem kl1597 : Cond.code yX10_marked cX10_marked 2 (some .int) ∈ TB := mTB (List.mem_of_getElem? (i := 1597) (by decide +kernel)) rfl
theorem kl1598 : Cond.methodLink RL 146 yX10_set ∈ TB := mTB (List.mem_of_getElem? (i := 1598) (by decide +kernel)) rfl
theorem kl1599 : Cond.instanceMethod yX10_set ∈ TB := mTB (List.mem_of_getElem? (i := 1599) (by decide +kernel)) rfl
theorem kl1600 : Cond.selects RX10 yX10_set yX10_set ∈ TB := mTB (List.mem_of_getElem? (i := 1600) (by decide +kernel)) rfl
theorem kl1601 : Cond.code yX10_set cX10_set 3 (some .int) ∈ TB := mTB (List.mem_of_getElem? (i := 1601) (by decide +kernel)) rfl
theorem kl1614 : Cond.methodLink RL 150 yX10_cell ∈ TB := mTB (List.mem_of_getElem? (i := 1614) (by decide +kernel)) rfl
theorem kl1615 : Cond.instanceMethod yX10_cell ∈ TB := mTB (List.mem_of_getElem? (i := 1615) (by decide +kernel)) rfl
theorem kl1616 : Cond.selects RX10 yX10_cell yX10_cell ∈ TB := mTB (List.mem_of_getElem? (i := 1616) (by decide +kernel)) rfl
theorem kl1617 : Cond.code yX10_cell cX10_cell 4 (some .int) ∈ TB := mTB (List.mem_of_getElem? (i := 1617) (by decide +kernel)) rfl
theorem kl1622 : Cond.methodLink RL 153 yX10_place ∈ TB := mTB (List.mem_of_getElem? (i := 1622) (by decide +kernel)) rfl
theorem kl1623 : Cond.instanceMethod yX10_place ∈ TB := mTB (List.mem_of_getElem? (i := 1623) (by decide +kernel)) rfl
theorem kl1624 : Cond.selects RX10 yX10_place yX10_place ∈ TB := mTB (List.mem_of_getElem? (i := 1624) (by decide +kernel)) rfl
theorem kl1625 : Cond.code yX10_place cX10_place 3 (some .int) ∈ TB := mTB (List.mem_of_getElem? (i := 1625) (by decide +kernel)) rfl
theorem kl1626 : Cond.methodLink RL 156 yX10_stampOf ∈ TB := mTB (List.mem_of_getElem? (i := 1626) (by decide +kernel)) rfl
theorem kl1627 : Cond.instanceMethod yX10_stampOf ∈ TB := mTB (List.mem_of_getElem? (i := 1627) (by decide +kernel)) rfl
theorem kl1628 : Cond.selects RX10 yX10_stampOf yX10_stampOf ∈ TB := mTB (List.mem_of_getElem? (i := 1628) (by decide +kernel)) rfl
theorem kl1629 : Cond.code yX10_stampOf cX10_stampOf 3 (some .int) ∈ TB := mTB (List.mem_of_getElem? (i := 1629) (by decide +kernel)) rfl
theorem kl1630 : Cond.methodLink RL 160 yX10_event ∈ TB := mTB (List.mem_of_getElem? (i := 1630) (by decide +kernel)) rfl
theorem kl1631 : Cond.instanceMethod yX10_event ∈ TB := mTB (List.mem_of_getElem? (i := 1631) (by decide +kernel)) rfl
theorem kl1632 : Cond.selects RX10 yX10_event yX10_event ∈ TB := mTB (List.mem_of_getElem? (i := 1632) (by decide +kernel)) rfl
theorem kl1633 : Cond.code yX10_event cX10_event 4 (some .int) ∈ TB := mTB (List.mem_of_getElem? (i := 1633) (by decide +kernel)) rfl
theorem kl1634 : Cond.methodLink RL 163 yX10_at ∈ TB := mTB (List.mem_of_getElem? (i := 1634) (by decide +kernel)) rfl
theorem kl1635 : Cond.instanceMethod yX10_at ∈ TB := mTB (List.mem_of_getElem? (i := 1635) (by decide +kernel)) rfl
theorem kl1636 : Cond.selects RX10 yX10_at yX10_at ∈ TB := mTB (List.mem_of_getElem? (i := 1636) (by decide +kernel)) rfl
theorem kl1637 : Cond.code yX10_at cX10_at 3 (some .long) ∈ TB := mTB (List.mem_of_getElem? (i := 1637) (by decide +kernel)) rfl
theorem kl1646 : Cond.methodLink RL 167 yX10_differs ∈ TB := mTB (List.mem_of_getElem? (i := 1646) (by decide +kernel)) rfl
theorem kl1647 : Cond.instanceMethod yX10_differs ∈ TB := mTB (List.mem_of_getElem? (i := 1647) (by decide +kernel)) rfl
theorem kl1648 : Cond.selects RX10 yX10_differs yX10_differs ∈ TB := mTB (List.mem_of_getElem? (i := 1648) (by decide +kernel)) rfl
theorem kl1649 : Cond.code yX10_differs cX10_differs 9 (some .int) ∈ TB := mTB (List.mem_of_getElem? (i := 1649) (by decide +kernel)) rfl
theorem kl1653 : Cond.methodLink RL 170 yX10_since ∈ TB := mTB (List.mem_of_getElem? (i := 1653) (by decide +kernel)) rfl
theorem kl1654 : Cond.instanceMethod yX10_since ∈ TB := mTB (List.mem_of_getElem? (i := 1654) (by decide +kernel)) rfl
theorem kl1655 : Cond.selects RX10 yX10_since yX10_since ∈ TB := mTB (List.mem_of_getElem? (i := 1655) (by decide +kernel)) rfl
theorem kl1656 : Cond.code yX10_since cX10_since 9 (some .int) ∈ TB := mTB (List.mem_of_getElem? (i := 1656) (by decide +kernel)) rfl
theorem kl1657 : Cond.methodLink RL 173 yX10_fullest ∈ TB := mTB (List.mem_of_getElem? (i := 1657) (by decide +kernel)) rfl
theorem kl1658 : Cond.instanceMethod yX10_fullest ∈ TB := mTB (List.mem_of_getElem? (i := 1658) (by decide +kernel)) rfl
theorem kl1659 : Cond.selects RX10 yX10_fullest yX10_fullest ∈ TB := mTB (List.mem_of_getElem? (i := 1659) (by decide +kernel)) rfl
theorem kl1660 : Cond.code yX10_fullest cX10_fullest 7 (some .int) ∈ TB := mTB (List.mem_of_getElem? (i := 1660) (by decide +kernel)) rfl
theorem kl1661 : Cond.methodLink RL 176 yX10_cursor ∈ TB := mTB (List.mem_of_getElem? (i := 1661) (by decide +kernel)) rfl
theorem kl1662 : Cond.instanceMethod yX10_cursor ∈ TB := mTB (List.mem_of_getElem? (i := 1662) (by decide +kernel)) rfl
theorem kl1663 : Cond.selects RX10 yX10_cursor yX10_cursor ∈ TB := mTB (List.mem_of_getElem? (i := 1663) (by decide +kernel)) rfl
theorem kl1664 : Cond.code yX10_cursor cX10_cursor 3 (some .int) ∈ TB := mTB (List.mem_of_getElem? (i := 1664) (by decide +kernel)) rfl
theorem kl1669 : Cond.methodLink RL 179 yX10_ahead ∈ TB := mTB (List.mem_of_getElem? (i := 1669) (by decide +kernel)) rfl
theorem kl1670 : Cond.instanceMethod yX10_ahead ∈ TB := mTB (List.mem_of_getElem? (i := 1670) (by decide +kernel)) rfl
theorem kl1671 : Cond.selects RX10 yX10_ahead yX10_ahead ∈ TB := mTB (List.mem_of_getElem? (i := 1671) (by decide +kernel)) rfl
theorem kl1672 : Cond.code yX10_ahead cX10_ahead 5 (some .int) ∈ TB := mTB (List.mem_of_getElem? (i := 1672) (by decide +kernel)) rfl
theorem kl1677 : Cond.methodLink RL 182 yX10_common ∈ TB := mTB (List.mem_of_getElem? (i := 1677) (by decide +kernel)) rfl
theorem kl1678 : Cond.instanceMethod yX10_common ∈ TB := mTB (List.mem_of_getElem? (i := 1678) (by decide +kernel)) rfl
theorem kl1679 : Cond.selects RX10 yX10_common yX10_common ∈ TB := mTB (List.mem_of_getElem? (i := 1679) (by decide +kernel)) rfl
theorem kl1680 : Cond.code yX10_common cX10_common 3 (some .int) ∈ TB := mTB (List.mem_of_getElem? (i := 1680) (by decide +kernel)) rfl
theorem kl1689 : Cond.methodLink RL 185 yX10_isWithin ∈ TB := mTB (List.mem_of_getElem? (i := 1689) (by decide +kernel)) rfl
theorem kl1690 : Cond.instanceMethod yX10_isWithin ∈ TB := mTB (List.mem_of_getElem? (i := 1690) (by decide +kernel)) rfl
theorem kl1691 : Cond.selects RX10 yX10_isWithin yX10_isWithin ∈ TB := mTB (List.mem_of_getElem? (i := 1691) (by decide +kernel)) rfl
theorem kl1692 : Cond.code yX10_isWithin cX10_isWithin 3 (some .boolean) ∈ TB := mTB (List.mem_of_getElem? (i := 1692) (by decide +kernel)) rfl
theorem kl1693 : Cond.methodLink RL 189 yX10_likeness ∈ TB := mTB (List.mem_of_getElem? (i := 1693) (by decide +kernel)) rfl
theorem kl1694 : Cond.instanceMethod yX10_likeness ∈ TB := mTB (List.mem_of_getElem? (i := 1694) (by decide +kernel)) rfl
theorem kl1695 : Cond.selects RX10 yX10_likeness yX10_likeness ∈ TB := mTB (List.mem_of_getElem? (i := 1695) (by decide +kernel)) rfl
theorem kl1696 : Cond.code yX10_likeness cX10_likeness 5 (some .double) ∈ TB := mTB (List.mem_of_getElem? (i := 1696) (by decide +kernel)) rfl
theorem kl1697 : Cond.methodLink RL 192 yX10_add ∈ TB := mTB (List.mem_of_getElem? (i := 1697) (by decide +kernel)) rfl
theorem kl1698 : Cond.instanceMethod yX10_add ∈ TB := mTB (List.mem_of_getElem? (i := 1698) (by decide +kernel)) rfl
theorem kl1699 : Cond.selects RX10 yX10_add yX10_add ∈ TB := mTB (List.mem_of_getElem? (i := 1699) (by decide +kernel)) rfl
theorem kl1700 : Cond.code yX10_add cX10_add 3 (some .int) ∈ TB := mTB (List.mem_of_getElem? (i := 1700) (by decide +kernel)) rfl
theorem kl1705 : Cond.methodLink RL 195 yX10_remove ∈ TB := mTB (List.mem_of_getElem? (i := 1705) (by decide +kernel)) rfl
theorem kl1706 : Cond.instanceMethod yX10_remove ∈ TB := mTB (List.mem_of_getElem? (i := 1706) (by decide +kernel)) rfl
theorem kl1707 : Cond.selects RX10 yX10_remove yX10_remove ∈ TB := mTB (List.mem_of_getElem? (i := 1707) (by decide +kernel)) rfl
theorem kl1708 : Cond.code yX10_remove cX10_remove 4 (some .boolean) ∈ TB := mTB (List.mem_of_getElem? (i := 1708) (by decide +kernel)) rfl
theorem kl1709 : Cond.methodLink RL 198 yX10_clear ∈ TB := mTB (List.mem_of_getElem? (i := 1709) (by decide +kernel)) rfl
theorem kl1710 : Cond.instanceMethod yX10_clear ∈ TB := mTB (List.mem_of_getElem? (i := 1710) (by decide +kernel)) rfl
theorem kl1711 : Cond.selects RX10 yX10_clear yX10_clear ∈ TB := mTB (List.mem_of_getElem? (i := 1711) (by decide +kernel)) rfl
theorem kl1712 : Cond.code yX10_clear cX10_clear 3 (some .int) ∈ TB := mTB (List.mem_of_getElem? (i := 1712) (by decide +kernel)) rfl
theorem kl1713 : Cond.methodLink RL 202 yX10_mark ∈ TB := mTB (List.mem_of_getElem? (i := 1713) (by decide +kernel)) rfl
theorem kl1714 : Cond.instanceMethod yX10_mark ∈ TB := mTB (List.mem_of_getElem? (i := 1714) (by decide +kernel)) rfl
theorem kl1715 : Cond.selects RX10 yX10_mark yX10_mark ∈ TB := mTB (List.mem_of_getElem? (i := 1715) (by decide +kernel)) rfl
theorem kl1716 : Cond.code yX10_mark cX10_mark 1 (some .int) ∈ TB := mTB (List.mem_of_getElem? (i := 1716) (by decide +kernel)) rfl
theorem kl1717 : Cond.methodLink RL 206 yX10_open ∈ TB := mTB (List.mem_of_getElem? (i := 1717) (by decide +kernel)) rfl
theorem kl1718 : Cond.instanceMethod yX10_open ∈ TB := mTB (List.mem_of_getElem? (i := 1718) (by decide +kernel)) rfl
theorem kl1719 : Cond.selects RX10 yX10_open yX10_open ∈ TB := mTB (List.mem_of_getElem? (i := 1719) (by decide +kernel)) rfl
theorem kl1720 : Cond.code yX10_open cX10_open 4 (some .int) ∈ TB := mTB (List.mem_of_getElem? (i := 1720) (by decide +kernel)) rfl
theorem kl1721 : Cond.methodLink RL 209 yX10_close ∈ TB := mTB (List.mem_of_getElem? (i := 1721) (by decide +kernel)) rfl
theorem kl1722 : Cond.instanceMethod yX10_close ∈ TB := mTB (List.mem_of_getElem? (i := 1722) (by decide +kernel)) rfl
theorem kl1723 : Cond.selects RX10 yX10_close yX10_close ∈ TB := mTB (List.mem_of_getElem? (i := 1723) (by decide +kernel)) rfl
theorem kl1724 : Cond.code yX10_close cX10_close 2 (some .int) ∈ TB := mTB (List.mem_of_getElem? (i := 1724) (by decide +kernel)) rfl
theorem kl1725 : Cond.methodLink RL 212 yX10_step ∈ TB := mTB (List.mem_of_getElem? (i := 1725) (by decide +kernel)) rfl
theorem kl1726 : Cond.instanceMethod yX10_step ∈ TB := mTB (List.mem_of_getElem? (i := 1726) (by decide +kernel)) rfl
theorem kl1727 : Cond.selects RX10 yX10_step yX10_step ∈ TB := mTB (List.mem_of_getElem? (i := 1727) (by decide +kernel)) rfl
theorem kl1728 : Cond.code yX10_step cX10_step 4 (some .int) ∈ TB := mTB (List.mem_of_getElem? (i := 1728) (by decide +kernel)) rfl
theorem kl1729 : Cond.methodLink RL 215 yX10_removeMet ∈ TB := mTB (List.mem_of_getElem? (i := 1729) (by decide +kernel)) rfl
theorem kl1730 : Cond.instanceMethod yX10_removeMet ∈ TB := mTB (List.mem_of_getElem? (i := 1730) (by decide +kernel)) rfl
theorem kl1731 : Cond.selects RX10 yX10_removeMet yX10_removeMet ∈ TB := mTB (List.mem_of_getElem? (i := 1731) (by decide +kernel)) rfl
theorem kl1732 : Cond.code yX10_removeMet cX10_removeMet 4 (some .int) ∈ TB := mTB (List.mem_of_getElem? (i := 1732) (by decide +kernel)) rfl
theorem kl1733 : Cond.methodLink RL 218 yX10_keep ∈ TB := mTB (List.mem_of_getElem? (i := 1733) (by decide +kernel)) rfl
theorem kl1734 : Cond.instanceMethod yX10_keep ∈ TB := mTB (List.mem_of_getElem? (i := 1734) (by decide +kernel)) rfl
theorem kl1735 : Cond.selects RX10 yX10_keep yX10_keep ∈ TB := mTB (List.mem_of_getElem? (i := 1735) (by decide +kernel)) rfl
theorem kl1736 : Cond.code yX10_keep cX10_keep 6 (some .int) ∈ TB := mTB (List.mem_of_getElem? (i := 1736) (by decide +kernel)) rfl
theorem kl1737 : Cond.methodLink RL 221 yX10_unite ∈ TB := mTB (List.mem_of_getElem? (i := 1737) (by decide +kernel)) rfl
theorem kl1738 : Cond.instanceMethod yX10_unite ∈ TB := mTB (List.mem_of_getElem? (i := 1738) (by decide +kernel)) rfl
theorem kl1739 : Cond.selects RX10 yX10_unite yX10_unite ∈ TB := mTB (List.mem_of_getElem? (i := 1739) (by decide +kernel)) rfl
theorem kl1740 : Cond.code yX10_unite cX10_unite 5 (some .int) ∈ TB := mTB (List.mem_of_getElem? (i := 1740) (by decide +kernel)) rfl
theorem kl1741 : Cond.methodLink RL 225 yX10_undo ∈ TB := mTB (List.mem_of_getElem? (i := 1741) (by decide +kernel)) rfl
theorem kl1742 : Cond.instanceMethod yX10_undo ∈ TB := mTB (List.mem_of_getElem? (i := 1742) (by decide +kernel)) rfl
theorem kl1743 : Cond.selects RX10 yX10_undo yX10_undo ∈ TB := mTB (List.mem_of_getElem? (i := 1743) (by decide +kernel)) rfl
theorem kl1744 : Cond.code yX10_undo cX10_undo 1 (some .int) ∈ TB := mTB (List.mem_of_getElem? (i := 1744) (by decide +kernel)) rfl
theorem kl1745 : Cond.methodLink RL 228 yX10_saveSnapshot ∈ TB := mTB (List.mem_of_getElem? (i := 1745) (by decide +kernel)) rfl
theorem kl1746 : Cond.instanceMethod yX10_saveSnapshot ∈ TB := mTB (List.mem_of_getElem? (i := 1746) (by decide +kernel)) rfl
theorem kl1747 : Cond.selects RX10 yX10_saveSnapshot yX10_saveSnapshot ∈ TB := mTB (List.mem_of_getElem? (i := 1747) (by decide +kernel)) rfl
theorem kl1748 : Cond.code yX10_saveSnapshot cX10_saveSnapshot 3 (some .boolean) ∈ TB := mTB (List.mem_of_getElem? (i := 1748) (by decide +kernel)) rfl
theorem kl1753 : Cond.methodLink RL 231 yX10_restoreSnapshot ∈ TB := mTB (List.mem_of_getElem? (i := 1753) (by decide +kernel)) rfl
theorem kl1754 : Cond.instanceMethod yX10_restoreSnapshot ∈ TB := mTB (List.mem_of_getElem? (i := 1754) (by decide +kernel)) rfl
theorem kl1755 : Cond.selects RX10 yX10_restoreSnapshot yX10_restoreSnapshot ∈ TB := mTB (List.mem_of_getElem? (i := 1755) (by decide +kernel)) rfl
theorem kl1756 : Cond.code yX10_restoreSnapshot cX10_restoreSnapshot 2 (some .int) ∈ TB := mTB (List.mem_of_getElem? (i := 1756) (by decide +kernel)) rfl
theorem dL_parse_0 : decode cL_parse 0 = .ok (.aload_n 2, 1) := by decide +kernel
theorem dL_parse_1 : decode cL_parse 1 = .ok (.iconst 0, 1) := by decide +kernel
theorem dL_parse_2 : decode cL_parse 2 = .ok (.aload_n 0, 1) := by decide +kernel
theorem dL_parse_3 : decode cL_parse 3 = .ok (.iload_n 1, 1) := by decide +kernel
theorem dL_parse_4 : decode cL_parse 4 = .ok (.invokevirtual 7, 3) := by decide +kernel
theorem dL_parse_7 : decode cL_parse 7 = .ok (.i2l, 1) := by decide +kernel
theorem dL_parse_8 : decode cL_parse 8 = .ok (.lastore, 1) := by decide +kernel
theorem dL_parse_9 : decode cL_parse 9 = .ok (.goto 6, 3) := by decide +kernel
theorem dL_parse_12 : decode cL_parse 12 = .ok (.astore_n 3, 1) := by decide +kernel
theorem dL_parse_13 : decode cL_parse 13 = .ok (.iconst 1, 1) := by decide +kernel
theorem dL_parse_14 : decode cL_parse 14 = .ok (.ireturn, 1) := by decide +kernel
theorem dL_parse_15 : decode cL_parse 15 = .ok (.iconst 0, 1) := by decide +kernel
theorem dL_parse_16 : decode cL_parse 16 = .ok (.ireturn, 1) := by decide +kernel
theorem dL_size_0 : decode cL_size 0 = .ok (.aload_n 2, 1) := by decide +kernel
theorem dL_size_1 : decode cL_size 1 = .ok (.iconst 0, 1) := by decide +kernel
theorem dL_size_2 : decode cL_size 2 = .ok (.aload_n 0, 1) := by decide +kernel
theorem dL_size_3 : decode cL_size 3 = .ok (.iload_n 1, 1) := by decide +kernel
theorem dL_size_4 : decode cL_size 4 = .ok (.invokevirtual 15, 3) := by decide +kernel
theorem dL_size_7 : decode cL_size 7 = .ok (.i2l, 1) := by decide +kernel
theorem dL_size_8 : decode cL_size 8 = .ok (.lastore, 1) := by decide +kernel
theorem dL_size_9 : decode cL_size 9 = .ok (.goto 6, 3) := by decide +kernel
theorem dL_size_12 : decode cL_size 12 = .ok (.astore_n 3, 1) := by decide +kernel
theorem dL_size_13 : decode cL_size 13 = .ok (.iconst 1, 1) := by decide +kernel
theorem dL_size_14 : decode cL_size 14 = .ok (.ireturn, 1) := by decide +kernel
theorem dL_size_15 : decode cL_size 15 = .ok (.iconst 0, 1) := by decide +kernel
theorem dL_size_16 : decode cL_size 16 = .ok (.ireturn, 1) := by decide +kernel
theorem dL_set_0 : decode cL_set 0 = .ok (.aload_n 3, 1) := by decide +kernel
theorem dL_set_1 : decode cL_set 1 = .ok (.iconst 0, 1) := by decide +kernel
theorem dL_set_2 : decode cL_set 2 = .ok (.aload_n 0, 1) := by decide +kernel
theorem dL_set_3 : decode cL_set 3 = .ok (.iload_n 1, 1) := by decide +kernel
theorem dL_set_4 : decode cL_set 4 = .ok (.iload_n 2, 1) := by decide +kernel
theorem dL_set_5 : decode cL_set 5 = .ok (.invokevirtual 18, 3) := by decide +kernel
theorem dL_set_8 : decode cL_set 8 = .ok (.i2l, 1) := by decide +kernel
theorem dL_set_9 : decode cL_set 9 = .ok (.lastore, 1) := by decide +kernel
theorem dL_set_10 : decode cL_set 10 = .ok (.goto 11, 3) := by decide +kernel
theorem dL_set_13 : decode cL_set 13 = .ok (.astore 4, 2) := by decide +kernel
theorem dL_set_15 : decode cL_set 15 = .ok (.iconst 1, 1) := by decide +kernel
theorem dL_set_16 : decode cL_set 16 = .ok (.ireturn, 1) := by decide +kernel
theorem dL_set_17 : decode cL_set 17 = .ok (.astore 4, 2) := by decide +kernel
theorem dL_set_19 : decode cL_set 19 = .ok (.iconst 2, 1) := by decide +kernel
theorem dL_set_20 : decode cL_set 20 = .ok (.ireturn, 1) := by decide +kernel
theorem dL_set_21 : decode cL_set 21 = .ok (.iconst 0, 1) := by decide +kernel
theorem dL_set_22 : decode cL_set 22 = .ok (.ireturn, 1) := by decide +kernel
theorem dL_cell_0 : decode cL_cell 0 = .ok (.aload 4, 2) := by decide +kernel
theorem dL_cell_2 : decode cL_cell 2 = .ok (.iconst 0, 1) := by decide +kernel
theorem dL_cell_3 : decode cL_cell 3 = .ok (.aload_n 0, 1) := by decide +kernel
theorem dL_cell_4 : decode cL_cell 4 = .ok (.iload_n 1, 1) := by decide +kernel
theorem dL_cell_5 : decode cL_cell 5 = .ok (.iload_n 2, 1) := by decide +kernel
theorem dL_cell_6 : decode cL_cell 6 = .ok (.iload_n 3, 1) := by decide +kernel
theorem dL_cell_7 : decode cL_cell 7 = .ok (.invokevirtual 24, 3) := by decide +kernel
theorem dL_cell_10 : decode cL_cell 10 = .ok (.i2l, 1) := by decide +kernel
theorem dL_cell_11 : decode cL_cell 11 = .ok (.lastore, 1) := by decide +kernel
theorem dL_cell_12 : decode cL_cell 12 = .ok (.goto 11, 3) := by decide +kernel
theorem dL_cell_15 : decode cL_cell 15 = .ok (.astore 5, 2) := by decide +kernel
theorem dL_cell_17 : decode cL_cell 17 = .ok (.iconst 1, 1) := by decide +kernel
theorem dL_cell_18 : decode cL_cell 18 = .ok (.ireturn, 1) := by decide +kernel
theorem dL_cell_19 : decode cL_cell 19 = .ok (.astore 5, 2) := by decide +kernel
theorem dL_cell_21 : decode cL_cell 21 = .ok (.iconst 2, 1) := by decide +kernel
theorem dL_cell_22 : decode cL_cell 22 = .ok (.ireturn, 1) := by decide +kernel
theorem dL_cell_23 : decode cL_cell 23 = .ok (.iconst 0, 1) := by decide +kernel
theorem dL_cell_24 : decode cL_cell 24 = .ok (.ireturn, 1) := by decide +kernel
theorem dL_place_0 : decode cL_place 0 = .ok (.aload_n 3, 1) := by decide +kernel
theorem dL_place_1 : decode cL_place 1 = .ok (.iconst 0, 1) := by decide +kernel
theorem dL_place_2 : decode cL_place 2 = .ok (.aload_n 0, 1) := by decide +kernel
theorem dL_place_3 : decode cL_place 3 = .ok (.iload_n 1, 1) := by decide +kernel
theorem dL_place_4 : decode cL_place 4 = .ok (.iload_n 2, 1) := by decide +kernel
theorem dL_place_5 : decode cL_place 5 = .ok (.invokevirtual 28, 3) := by decide +kernel
theorem dL_place_8 : decode cL_place 8 = .ok (.i2l, 1) := by decide +kernel
theorem dL_place_9 : decode cL_place 9 = .ok (.lastore, 1) := by decide +kernel
theorem dL_place_10 : decode cL_place 10 = .ok (.goto 7, 3) := by decide +kernel
theorem dL_place_13 : decode cL_place 13 = .ok (.astore 4, 2) := by decide +kernel
theorem dL_place_15 : decode cL_place 15 = .ok (.iconst 1, 1) := by decide +kernel
theorem dL_place_16 : decode cL_place 16 = .ok (.ireturn, 1) := by decide +kernel
theorem dL_place_17 : decode cL_place 17 = .ok (.iconst 0, 1) := by decide +kernel
theorem dL_place_18 : decode cL_place 18 = .ok (.ireturn, 1) := by decide +kernel
theorem dL_stampOf_0 : decode cL_stampOf 0 = .ok (.aload_n 3, 1) := by decide +kernel
theorem dL_stampOf_1 : decode cL_stampOf 1 = .ok (.iconst 0, 1) := by decide +kernel
theorem dL_stampOf_2 : decode cL_stampOf 2 = .ok (.aload_n 0, 1) := by decide +kernel
theorem dL_stampOf_3 : decode cL_stampOf 3 = .ok (.iload_n 1, 1) := by decide +kernel
theorem dL_stampOf_4 : decode cL_stampOf 4 = .ok (.iload_n 2, 1) := by decide +kernel
theorem dL_stampOf_5 : decode cL_stampOf 5 = .ok (.invokevirtual 31, 3) := by decide +kernel
theorem dL_stampOf_8 : decode cL_stampOf 8 = .ok (.i2l, 1) := by decide +kernel
theorem dL_stampOf_9 : decode cL_stampOf 9 = .ok (.lastore, 1) := by decide +kernel
theorem dL_stampOf_10 : decode cL_stampOf 10 = .ok (.goto 7, 3) := by decide +kernel
theorem dL_stampOf_13 : decode cL_stampOf 13 = .ok (.astore 4, 2) := by decide +kernel
theorem dL_stampOf_15 : decode cL_stampOf 15 = .ok (.iconst 1, 1) := by decide +kernel
theorem dL_stampOf_16 : decode cL_stampOf 16 = .ok (.ireturn, 1) := by decide +kernel
theorem dL_stampOf_17 : decode cL_stampOf 17 = .ok (.iconst 0, 1) := by decide +kernel
theorem dL_stampOf_18 : decode cL_stampOf 18 = .ok (.ireturn, 1) := by decide +kernel
theorem dL_event_0 : decode cL_event 0 = .ok (.aload 4, 2) := by decide +kernel
theorem dL_event_2 : decode cL_event 2 = .ok (.iconst 0, 1) := by decide +kernel
theorem dL_event_3 : decode cL_event 3 = .ok (.aload_n 0, 1) := by decide +kernel
theorem dL_event_4 : decode cL_event 4 = .ok (.iload_n 1, 1) := by decide +kernel
theorem dL_event_5 : decode cL_event 5 = .ok (.iload_n 2, 1) := by decide +kernel
theorem dL_event_6 : decode cL_event 6 = .ok (.iload_n 3, 1) := by decide +kernel
theorem dL_event_7 : decode cL_event 7 = .ok (.invokevirtual 34, 3) := by decide +kernel
theorem dL_event_10 : decode cL_event 10 = .ok (.i2l, 1) := by decide +kernel
theorem dL_event_11 : decode cL_event 11 = .ok (.lastore, 1) := by decide +kernel
theorem dL_event_12 : decode cL_event 12 = .ok (.goto 11, 3) := by decide +kernel
theorem dL_event_15 : decode cL_event 15 = .ok (.astore 5, 2) := by decide +kernel
theorem dL_event_17 : decode cL_event 17 = .ok (.iconst 1, 1) := by decide +kernel
theorem dL_event_18 : decode cL_event 18 = .ok (.ireturn, 1) := by decide +kernel
theorem dL_event_19 : decode cL_event 19 = .ok (.astore 5, 2) := by decide +kernel
theorem dL_event_21 : decode cL_event 21 = .ok (.iconst 2, 1) := by decide +kernel
theorem dL_event_22 : decode cL_event 22 = .ok (.ireturn, 1) := by decide +kernel
theorem dL_event_23 : decode cL_event 23 = .ok (.iconst 0, 1) := by decide +kernel
theorem dL_event_24 : decode cL_event 24 = .ok (.ireturn, 1) := by decide +kernel
theorem dL_at_0 : decode cL_at 0 = .ok (.aload_n 3, 1) := by decide +kernel
theorem dL_at_1 : decode cL_at 1 = .ok (.iconst 0, 1) := by decide +kernel
theorem dL_at_2 : decode cL_at 2 = .ok (.aload_n 0, 1) := by decide +kernel
theorem dL_at_3 : decode cL_at 3 = .ok (.iload_n 1, 1) := by decide +kernel
theorem dL_at_4 : decode cL_at 4 = .ok (.iload_n 2, 1) := by decide +kernel
theorem dL_at_5 : decode cL_at 5 = .ok (.invokevirtual 38, 3) := by decide +kernel
theorem dL_at_8 : decode cL_at 8 = .ok (.lastore, 1) := by decide +kernel
theorem dL_at_9 : decode cL_at 9 = .ok (.goto 11, 3) := by decide +kernel
theorem dL_at_12 : decode cL_at 12 = .ok (.astore 4, 2) := by decide +kernel
theorem dL_at_14 : decode cL_at 14 = .ok (.iconst 1, 1) := by decide +kernel
theorem dL_at_15 : decode cL_at 15 = .ok (.ireturn, 1) := by decide +kernel
theorem dL_at_16 : decode cL_at 16 = .ok (.astore 4, 2) := by decide +kernel
theorem dL_at_18 : decode cL_at 18 = .ok (.iconst 2, 1) := by decide +kernel
theorem dL_at_19 : decode cL_at 19 = .ok (.ireturn, 1) := by decide +kernel
theorem dL_at_20 : decode cL_at 20 = .ok (.iconst 0, 1) := by decide +kernel
theorem dL_at_21 : decode cL_at 21 = .ok (.ireturn, 1) := by decide +kernel
theorem dL_differs_0 : decode cL_differs 0 = .ok (.aload 5, 2) := by decide +kernel
theorem dL_differs_2 : decode cL_differs 2 = .ok (.iconst 0, 1) := by decide +kernel
theorem dL_differs_3 : decode cL_differs 3 = .ok (.aload_n 0, 1) := by decide +kernel
theorem dL_differs_4 : decode cL_differs 4 = .ok (.iload_n 1, 1) := by decide +kernel
theorem dL_differs_5 : decode cL_differs 5 = .ok (.iload_n 2, 1) := by decide +kernel
theorem dL_differs_6 : decode cL_differs 6 = .ok (.iload_n 3, 1) := by decide +kernel
theorem dL_differs_7 : decode cL_differs 7 = .ok (.iload 4, 2) := by decide +kernel
theorem dL_differs_9 : decode cL_differs 9 = .ok (.invokevirtual 42, 3) := by decide +kernel
theorem dL_differs_12 : decode cL_differs 12 = .ok (.i2l, 1) := by decide +kernel
theorem dL_differs_13 : decode cL_differs 13 = .ok (.lastore, 1) := by decide +kernel
theorem dL_differs_14 : decode cL_differs 14 = .ok (.goto 11, 3) := by decide +kernel
theorem dL_differs_17 : decode cL_differs 17 = .ok (.astore 6, 2) := by decide +kernel
theorem dL_differs_19 : decode cL_differs 19 = .ok (.iconst 1, 1) := by decide +kernel
theorem dL_differs_20 : decode cL_differs 20 = .ok (.ireturn, 1) := by decide +kernel
theorem dL_differs_21 : decode cL_differs 21 = .ok (.astore 6, 2) := by decide +kernel
theorem dL_differs_23 : decode cL_differs 23 = .ok (.iconst 2, 1) := by decide +kernel
theorem dL_differs_24 : decode cL_differs 24 = .ok (.ireturn, 1) := by decide +kernel
theorem dL_differs_25 : decode cL_differs 25 = .ok (.iconst 0, 1) := by decide +kernel
theorem dL_differs_26 : decode cL_differs 26 = .ok (.ireturn, 1) := by decide +kernel
theorem dL_since_0 : decode cL_since 0 = .ok (.aload_n 3, 1) := by decide +kernel
theorem dL_since_1 : decode cL_since 1 = .ok (.iconst 0, 1) := by decide +kernel
theorem dL_since_2 : decode cL_since 2 = .ok (.aload_n 0, 1) := by decide +kernel
theorem dL_since_3 : decode cL_since 3 = .ok (.iload_n 1, 1) := by decide +kernel
theorem dL_since_4 : decode cL_since 4 = .ok (.iload_n 2, 1) := by decide +kernel
theorem dL_since_5 : decode cL_since 5 = .ok (.invokevirtual 46, 3) := by decide +kernel
theorem dL_since_8 : decode cL_since 8 = .ok (.i2l, 1) := by decide +kernel
theorem dL_since_9 : decode cL_since 9 = .ok (.lastore, 1) := by decide +kernel
theorem dL_since_10 : decode cL_since 10 = .ok (.goto 11, 3) := by decide +kernel
theorem dL_since_13 : decode cL_since 13 = .ok (.astore 4, 2) := by decide +kernel
theorem dL_since_15 : decode cL_since 15 = .ok (.iconst 1, 1) := by decide +kernel
theorem dL_since_16 : decode cL_since 16 = .ok (.ireturn, 1) := by decide +kernel
theorem dL_since_17 : decode cL_since 17 = .ok (.astore 4, 2) := by decide +kernel
theorem dL_since_19 : decode cL_since 19 = .ok (.iconst 2, 1) := by decide +kernel
theorem dL_since_20 : decode cL_since 20 = .ok (.ireturn, 1) := by decide +kernel
theorem dL_since_21 : decode cL_since 21 = .ok (.iconst 0, 1) := by decide +kernel
theorem dL_since_22 : decode cL_since 22 = .ok (.ireturn, 1) := by decide +kernel
theorem dL_fullest_0 : decode cL_fullest 0 = .ok (.aload_n 2, 1) := by decide +kernel
theorem dL_fullest_1 : decode cL_fullest 1 = .ok (.iconst 0, 1) := by decide +kernel
theorem dL_fullest_2 : decode cL_fullest 2 = .ok (.aload_n 0, 1) := by decide +kernel
theorem dL_fullest_3 : decode cL_fullest 3 = .ok (.iload_n 1, 1) := by decide +kernel
theorem dL_fullest_4 : decode cL_fullest 4 = .ok (.invokevirtual 49, 3) := by decide +kernel
theorem dL_fullest_7 : decode cL_fullest 7 = .ok (.i2l, 1) := by decide +kernel
theorem dL_fullest_8 : decode cL_fullest 8 = .ok (.lastore, 1) := by decide +kernel
theorem dL_fullest_9 : decode cL_fullest 9 = .ok (.goto 6, 3) := by decide +kernel
theorem dL_fullest_12 : decode cL_fullest 12 = .ok (.astore_n 3, 1) := by decide +kernel
theorem dL_fullest_13 : decode cL_fullest 13 = .ok (.iconst 1, 1) := by decide +kernel
theorem dL_fullest_14 : decode cL_fullest 14 = .ok (.ireturn, 1) := by decide +kernel
theorem dL_fullest_15 : decode cL_fullest 15 = .ok (.iconst 0, 1) := by decide +kernel
theorem dL_fullest_16 : decode cL_fullest 16 = .ok (.ireturn, 1) := by decide +kernel
theorem dL_cursor_0 : decode cL_cursor 0 = .ok (.aload_n 3, 1) := by decide +kernel
theorem dL_cursor_1 : decode cL_cursor 1 = .ok (.iconst 0, 1) := by decide +kernel
theorem dL_cursor_2 : decode cL_cursor 2 = .ok (.aload_n 0, 1) := by decide +kernel
theorem dL_cursor_3 : decode cL_cursor 3 = .ok (.iload_n 1, 1) := by decide +kernel
theorem dL_cursor_4 : decode cL_cursor 4 = .ok (.iload_n 2, 1) := by decide +kernel
theorem dL_cursor_5 : decode cL_cursor 5 = .ok (.invokevirtual 52, 3) := by decide +kernel
theorem dL_cursor_8 : decode cL_cursor 8 = .ok (.i2l, 1) := by decide +kernel
theorem dL_cursor_9 : decode cL_cursor 9 = .ok (.lastore, 1) := by decide +kernel
theorem dL_cursor_10 : decode cL_cursor 10 = .ok (.goto 11, 3) := by decide +kernel
theorem dL_cursor_13 : decode cL_cursor 13 = .ok (.astore 4, 2) := by decide +kernel
theorem dL_cursor_15 : decode cL_cursor 15 = .ok (.iconst 1, 1) := by decide +kernel
theorem dL_cursor_16 : decode cL_cursor 16 = .ok (.ireturn, 1) := by decide +kernel
theorem dL_cursor_17 : decode cL_cursor 17 = .ok (.astore 4, 2) := by decide +kernel
theorem dL_cursor_19 : decode cL_cursor 19 = .ok (.iconst 2, 1) := by decide +kernel
theorem dL_cursor_20 : decode cL_cursor 20 = .ok (.ireturn, 1) := by decide +kernel
theorem dL_cursor_21 : decode cL_cursor 21 = .ok (.iconst 0, 1) := by decide +kernel
theorem dL_cursor_22 : decode cL_cursor 22 = .ok (.ireturn, 1) := by decide +kernel
theorem dL_ahead_0 : decode cL_ahead 0 = .ok (.aload_n 2, 1) := by decide +kernel
theorem dL_ahead_1 : decode cL_ahead 1 = .ok (.iconst 0, 1) := by decide +kernel
theorem dL_ahead_2 : decode cL_ahead 2 = .ok (.aload_n 0, 1) := by decide +kernel
theorem dL_ahead_3 : decode cL_ahead 3 = .ok (.iload_n 1, 1) := by decide +kernel
theorem dL_ahead_4 : decode cL_ahead 4 = .ok (.invokevirtual 55, 3) := by decide +kernel
theorem dL_ahead_7 : decode cL_ahead 7 = .ok (.i2l, 1) := by decide +kernel
theorem dL_ahead_8 : decode cL_ahead 8 = .ok (.lastore, 1) := by decide +kernel
theorem dL_ahead_9 : decode cL_ahead 9 = .ok (.goto 6, 3) := by decide +kernel
theorem dL_ahead_12 : decode cL_ahead 12 = .ok (.astore_n 3, 1) := by decide +kernel
theorem dL_ahead_13 : decode cL_ahead 13 = .ok (.iconst 1, 1) := by decide +kernel
theorem dL_ahead_14 : decode cL_ahead 14 = .ok (.ireturn, 1) := by decide +kernel
theorem dL_ahead_15 : decode cL_ahead 15 = .ok (.iconst 0, 1) := by decide +kernel
theorem dL_ahead_16 : decode cL_ahead 16 = .ok (.ireturn, 1) := by decide +kernel
theorem dL_common_0 : decode cL_common 0 = .ok (.aload_n 3, 1) := by decide +kernel
theorem dL_common_1 : decode cL_common 1 = .ok (.iconst 0, 1) := by decide +kernel
theorem dL_common_2 : decode cL_common 2 = .ok (.aload_n 0, 1) := by decide +kernel
theorem dL_common_3 : decode cL_common 3 = .ok (.iload_n 1, 1) := by decide +kernel
theorem dL_common_4 : decode cL_common 4 = .ok (.iload_n 2, 1) := by decide +kernel
theorem dL_common_5 : decode cL_common 5 = .ok (.invokevirtual 58, 3) := by decide +kernel
theorem dL_common_8 : decode cL_common 8 = .ok (.i2l, 1) := by decide +kernel
theorem dL_common_9 : decode cL_common 9 = .ok (.lastore, 1) := by decide +kernel
theorem dL_common_10 : decode cL_common 10 = .ok (.goto 7, 3) := by decide +kernel
theorem dL_common_13 : decode cL_common 13 = .ok (.astore 4, 2) := by decide +kernel
theorem dL_common_15 : decode cL_common 15 = .ok (.iconst 1, 1) := by decide +kernel
theorem dL_common_16 : decode cL_common 16 = .ok (.ireturn, 1) := by decide +kernel
theorem dL_common_17 : decode cL_common 17 = .ok (.iconst 0, 1) := by decide +kernel
theorem dL_common_18 : decode cL_common 18 = .ok (.ireturn, 1) := by decide +kernel
theorem dL_isWithin_0 : decode cL_isWithin 0 = .ok (.aload_n 3, 1) := by decide +kernel
theorem dL_isWithin_1 : decode cL_isWithin 1 = .ok (.iconst 0, 1) := by decide +kernel
theorem dL_isWithin_2 : decode cL_isWithin 2 = .ok (.aload_n 0, 1) := by decide +kernel
theorem dL_isWithin_3 : decode cL_isWithin 3 = .ok (.iload_n 1, 1) := by decide +kernel
theorem dL_isWithin_4 : decode cL_isWithin 4 = .ok (.iload_n 2, 1) := by decide +kernel
theorem dL_isWithin_5 : decode cL_isWithin 5 = .ok (.invokevirtual 61, 3) := by decide +kernel
theorem dL_isWithin_8 : decode cL_isWithin 8 = .ok (.ifCond .eq 7, 3) := by decide +kernel
theorem dL_isWithin_11 : decode cL_isWithin 11 = .ok (.lconst 1, 1) := by decide +kernel
theorem dL_isWithin_12 : decode cL_isWithin 12 = .ok (.goto 4, 3) := by decide +kernel
theorem dL_isWithin_15 : decode cL_isWithin 15 = .ok (.lconst 0, 1) := by decide +kernel
theorem dL_isWithin_16 : decode cL_isWithin 16 = .ok (.lastore, 1) := by decide +kernel
theorem dL_isWithin_17 : decode cL_isWithin 17 = .ok (.goto 7, 3) := by decide +kernel
theorem dL_isWithin_20 : decode cL_isWithin 20 = .ok (.astore 4, 2) := by decide +kernel
theorem dL_isWithin_22 : decode cL_isWithin 22 = .ok (.iconst 1, 1) := by decide +kernel
theorem dL_isWithin_23 : decode cL_isWithin 23 = .ok (.ireturn, 1) := by decide +kernel
theorem dL_isWithin_24 : decode cL_isWithin 24 = .ok (.iconst 0, 1) := by decide +kernel
theorem dL_isWithin_25 : decode cL_isWithin 25 = .ok (.ireturn, 1) := by decide +kernel
theorem dL_likeness_0 : decode cL_likeness 0 = .ok (.aload_n 3, 1) := by decide +kernel
theorem dL_likeness_1 : decode cL_likeness 1 = .ok (.iconst 0, 1) := by decide +kernel
theorem dL_likeness_2 : decode cL_likeness 2 = .ok (.aload_n 0, 1) := by decide +kernel
theorem dL_likeness_3 : decode cL_likeness 3 = .ok (.iload_n 1, 1) := by decide +kernel
theorem dL_likeness_4 : decode cL_likeness 4 = .ok (.iload_n 2, 1) := by decide +kernel
theorem dL_likeness_5 : decode cL_likeness 5 = .ok (.invokevirtual 65, 3) := by decide +kernel
theorem dL_likeness_8 : decode cL_likeness 8 = .ok (.dastore, 1) := by decide +kernel
theorem dL_likeness_9 : decode cL_likeness 9 = .ok (.goto 7, 3) := by decide +kernel
theorem dL_likeness_12 : decode cL_likeness 12 = .ok (.astore 4, 2) := by decide +kernel
theorem dL_likeness_14 : decode cL_likeness 14 = .ok (.iconst 1, 1) := by decide +kernel
theorem dL_likeness_15 : decode cL_likeness 15 = .ok (.ireturn, 1) := by decide +kernel
theorem dL_likeness_16 : decode cL_likeness 16 = .ok (.iconst 0, 1) := by decide +kernel
theorem dL_likeness_17 : decode cL_likeness 17 = .ok (.ireturn, 1) := by decide +kernel
theorem dL_add_0 : decode cL_add 0 = .ok (.aload_n 3, 1) := by decide +kernel
theorem dL_add_1 : decode cL_add 1 = .ok (.iconst 0, 1) := by decide +kernel
theorem dL_add_2 : decode cL_add 2 = .ok (.aload_n 0, 1) := by decide +kernel
theorem dL_add_3 : decode cL_add 3 = .ok (.iload_n 1, 1) := by decide +kernel
theorem dL_add_4 : decode cL_add 4 = .ok (.iload_n 2, 1) := by decide +kernel
theorem dL_add_5 : decode cL_add 5 = .ok (.invokevirtual 69, 3) := by decide +kernel
theorem dL_add_8 : decode cL_add 8 = .ok (.i2l, 1) := by decide +kernel
theorem dL_add_9 : decode cL_add 9 = .ok (.lastore, 1) := by decide +kernel
theorem dL_add_10 : decode cL_add 10 = .ok (.goto 11, 3) := by decide +kernel
theorem dL_add_13 : decode cL_add 13 = .ok (.astore 4, 2) := by decide +kernel
theorem dL_add_15 : decode cL_add 15 = .ok (.iconst 1, 1) := by decide +kernel
theorem dL_add_16 : decode cL_add 16 = .ok (.ireturn, 1) := by decide +kernel
theorem dL_add_17 : decode cL_add 17 = .ok (.astore 4, 2) := by decide +kernel
theorem dL_add_19 : decode cL_add 19 = .ok (.iconst 2, 1) := by decide +kernel
theorem dL_add_20 : decode cL_add 20 = .ok (.ireturn, 1) := by decide +kernel
theorem dL_add_21 : decode cL_add 21 = .ok (.iconst 0, 1) := by decide +kernel
theorem dL_add_22 : decode cL_add 22 = .ok (.ireturn, 1) := by decide +kernel
theorem dL_remove_0 : decode cL_remove 0 = .ok (.aload_n 3, 1) := by decide +kernel
theorem dL_remove_1 : decode cL_remove 1 = .ok (.iconst 0, 1) := by decide +kernel
theorem dL_remove_2 : decode cL_remove 2 = .ok (.aload_n 0, 1) := by decide +kernel
theorem dL_remove_3 : decode cL_remove 3 = .ok (.iload_n 1, 1) := by decide +kernel
theorem dL_remove_4 : decode cL_remove 4 = .ok (.iload_n 2, 1) := by decide +kernel
theorem dL_remove_5 : decode cL_remove 5 = .ok (.invokevirtual 72, 3) := by decide +kernel
theorem dL_remove_8 : decode cL_remove 8 = .ok (.ifCond .eq 7, 3) := by decide +kernel
theorem dL_remove_11 : decode cL_remove 11 = .ok (.lconst 1, 1) := by decide +kernel
theorem dL_remove_12 : decode cL_remove 12 = .ok (.goto 4, 3) := by decide +kernel
theorem dL_remove_15 : decode cL_remove 15 = .ok (.lconst 0, 1) := by decide +kernel
theorem dL_remove_16 : decode cL_remove 16 = .ok (.lastore, 1) := by decide +kernel
theorem dL_remove_17 : decode cL_remove 17 = .ok (.goto 11, 3) := by decide +kernel
theorem dL_remove_20 : decode cL_remove 20 = .ok (.astore 4, 2) := by decide +kernel
theorem dL_remove_22 : decode cL_remove 22 = .ok (.iconst 1, 1) := by decide +kernel
theorem dL_remove_23 : decode cL_remove 23 = .ok (.ireturn, 1) := by decide +kernel
theorem dL_remove_24 : decode cL_remove 24 = .ok (.astore 4, 2) := by decide +kernel
theorem dL_remove_26 : decode cL_remove 26 = .ok (.iconst 2, 1) := by decide +kernel
theorem dL_remove_27 : decode cL_remove 27 = .ok (.ireturn, 1) := by decide +kernel
theorem dL_remove_28 : decode cL_remove 28 = .ok (.iconst 0, 1) := by decide +kernel
theorem dL_remove_29 : decode cL_remove 29 = .ok (.ireturn, 1) := by decide +kernel
theorem dL_clear_0 : decode cL_clear 0 = .ok (.aload_n 2, 1) := by decide +kernel
theorem dL_clear_1 : decode cL_clear 1 = .ok (.iconst 0, 1) := by decide +kernel
theorem dL_clear_2 : decode cL_clear 2 = .ok (.aload_n 0, 1) := by decide +kernel
theorem dL_clear_3 : decode cL_clear 3 = .ok (.iload_n 1, 1) := by decide +kernel
theorem dL_clear_4 : decode cL_clear 4 = .ok (.invokevirtual 75, 3) := by decide +kernel
theorem dL_clear_7 : decode cL_clear 7 = .ok (.i2l, 1) := by decide +kernel
theorem dL_clear_8 : decode cL_clear 8 = .ok (.lastore, 1) := by decide +kernel
theorem dL_clear_9 : decode cL_clear 9 = .ok (.goto 6, 3) := by decide +kernel
theorem dL_clear_12 : decode cL_clear 12 = .ok (.astore_n 3, 1) := by decide +kernel
theorem dL_clear_13 : decode cL_clear 13 = .ok (.iconst 1, 1) := by decide +kernel
theorem dL_clear_14 : decode cL_clear 14 = .ok (.ireturn, 1) := by decide +kernel
theorem dL_clear_15 : decode cL_clear 15 = .ok (.iconst 0, 1) := by decide +kernel
theorem dL_clear_16 : decode cL_clear 16 = .ok (.ireturn, 1) := by decide +kernel
theorem dL_mark_0 : decode cL_mark 0 = .ok (.aload_n 1, 1) := by decide +kernel
theorem dL_mark_1 : decode cL_mark 1 = .ok (.iconst 0, 1) := by decide +kernel
theorem dL_mark_2 : decode cL_mark 2 = .ok (.aload_n 0, 1) := by decide +kernel
theorem dL_mark_3 : decode cL_mark 3 = .ok (.invokevirtual 78, 3) := by decide +kernel
theorem dL_mark_6 : decode cL_mark 6 = .ok (.i2l, 1) := by decide +kernel
theorem dL_mark_7 : decode cL_mark 7 = .ok (.lastore, 1) := by decide +kernel
theorem dL_mark_8 : decode cL_mark 8 = .ok (.goto 6, 3) := by decide +kernel
theorem dL_mark_11 : decode cL_mark 11 = .ok (.astore_n 2, 1) := by decide +kernel
theorem dL_mark_12 : decode cL_mark 12 = .ok (.iconst 1, 1) := by decide +kernel
theorem dL_mark_13 : decode cL_mark 13 = .ok (.ireturn, 1) := by decide +kernel
theorem dL_mark_14 : decode cL_mark 14 = .ok (.iconst 0, 1) := by decide +kernel
theorem dL_mark_15 : decode cL_mark 15 = .ok (.ireturn, 1) := by decide +kernel
theorem dL_open_0 : decode cL_open 0 = .ok (.aload_n 3, 1) := by decide +kernel
theorem dL_open_1 : decode cL_open 1 = .ok (.iconst 0, 1) := by decide +kernel
theorem dL_open_2 : decode cL_open 2 = .ok (.aload_n 0, 1) := by decide +kernel
theorem dL_open_3 : decode cL_open 3 = .ok (.iload_n 1, 1) := by decide +kernel
theorem dL_open_4 : decode cL_open 4 = .ok (.iload_n 2, 1) := by decide +kernel
theorem dL_open_5 : decode cL_open 5 = .ok (.invokevirtual 84, 3) := by decide +kernel
theorem dL_open_8 : decode cL_open 8 = .ok (.i2l, 1) := by decide +kernel
theorem dL_open_9 : decode cL_open 9 = .ok (.lastore, 1) := by decide +kernel
theorem dL_open_10 : decode cL_open 10 = .ok (.goto 11, 3) := by decide +kernel
theorem dL_open_13 : decode cL_open 13 = .ok (.astore 4, 2) := by decide +kernel
theorem dL_open_15 : decode cL_open 15 = .ok (.iconst 1, 1) := by decide +kernel
theorem dL_open_16 : decode cL_open 16 = .ok (.ireturn, 1) := by decide +kernel
theorem dL_open_17 : decode cL_open 17 = .ok (.astore 4, 2) := by decide +kernel
theorem dL_open_19 : decode cL_open 19 = .ok (.iconst 2, 1) := by decide +kernel
theorem dL_open_20 : decode cL_open 20 = .ok (.ireturn, 1) := by decide +kernel
theorem dL_open_21 : decode cL_open 21 = .ok (.iconst 0, 1) := by decide +kernel
theorem dL_open_22 : decode cL_open 22 = .ok (.ireturn, 1) := by decide +kernel
theorem dL_close_0 : decode cL_close 0 = .ok (.aload_n 2, 1) := by decide +kernel
theorem dL_close_1 : decode cL_close 1 = .ok (.iconst 0, 1) := by decide +kernel
theorem dL_close_2 : decode cL_close 2 = .ok (.aload_n 0, 1) := by decide +kernel
theorem dL_close_3 : decode cL_close 3 = .ok (.iload_n 1, 1) := by decide +kernel
theorem dL_close_4 : decode cL_close 4 = .ok (.invokevirtual 88, 3) := by decide +kernel
theorem dL_close_7 : decode cL_close 7 = .ok (.i2l, 1) := by decide +kernel
theorem dL_close_8 : decode cL_close 8 = .ok (.lastore, 1) := by decide +kernel
theorem dL_close_9 : decode cL_close 9 = .ok (.goto 6, 3) := by decide +kernel
theorem dL_close_12 : decode cL_close 12 = .ok (.astore_n 3, 1) := by decide +kernel
theorem dL_close_13 : decode cL_close 13 = .ok (.iconst 1, 1) := by decide +kernel
theorem dL_close_14 : decode cL_close 14 = .ok (.ireturn, 1) := by decide +kernel
theorem dL_close_15 : decode cL_close 15 = .ok (.iconst 0, 1) := by decide +kernel
theorem dL_close_16 : decode cL_close 16 = .ok (.ireturn, 1) := by decide +kernel
theorem dL_step_0 : decode cL_step 0 = .ok (.aload_n 2, 1) := by decide +kernel
theorem dL_step_1 : decode cL_step 1 = .ok (.iconst 0, 1) := by decide +kernel
theorem dL_step_2 : decode cL_step 2 = .ok (.aload_n 0, 1) := by decide +kernel
theorem dL_step_3 : decode cL_step 3 = .ok (.iload_n 1, 1) := by decide +kernel
theorem dL_step_4 : decode cL_step 4 = .ok (.invokevirtual 91, 3) := by decide +kernel
theorem dL_step_7 : decode cL_step 7 = .ok (.i2l, 1) := by decide +kernel
theorem dL_step_8 : decode cL_step 8 = .ok (.lastore, 1) := by decide +kernel
theorem dL_step_9 : decode cL_step 9 = .ok (.goto 6, 3) := by decide +kernel
theorem dL_step_12 : decode cL_step 12 = .ok (.astore_n 3, 1) := by decide +kernel
theorem dL_step_13 : decode cL_step 13 = .ok (.iconst 1, 1) := by decide +kernel
theorem dL_step_14 : decode cL_step 14 = .ok (.ireturn, 1) := by decide +kernel
theorem dL_step_15 : decode cL_step 15 = .ok (.iconst 0, 1) := by decide +kernel
theorem dL_step_16 : decode cL_step 16 = .ok (.ireturn, 1) := by decide +kernel
theorem dL_removeMet_0 : decode cL_removeMet 0 = .ok (.aload_n 2, 1) := by decide +kernel
theorem dL_removeMet_1 : decode cL_removeMet 1 = .ok (.iconst 0, 1) := by decide +kernel
theorem dL_removeMet_2 : decode cL_removeMet 2 = .ok (.aload_n 0, 1) := by decide +kernel
theorem dL_removeMet_3 : decode cL_removeMet 3 = .ok (.iload_n 1, 1) := by decide +kernel
theorem dL_removeMet_4 : decode cL_removeMet 4 = .ok (.invokevirtual 94, 3) := by decide +kernel
theorem dL_removeMet_7 : decode cL_removeMet 7 = .ok (.i2l, 1) := by decide +kernel
theorem dL_removeMet_8 : decode cL_removeMet 8 = .ok (.lastore, 1) := by decide +kernel
theorem dL_removeMet_9 : decode cL_removeMet 9 = .ok (.goto 9, 3) := by decide +kernel
theorem dL_removeMet_12 : decode cL_removeMet 12 = .ok (.astore_n 3, 1) := by decide +kernel
theorem dL_removeMet_13 : decode cL_removeMet 13 = .ok (.iconst 1, 1) := by decide +kernel
theorem dL_removeMet_14 : decode cL_removeMet 14 = .ok (.ireturn, 1) := by decide +kernel
theorem dL_removeMet_15 : decode cL_removeMet 15 = .ok (.astore_n 3, 1) := by decide +kernel
theorem dL_removeMet_16 : decode cL_removeMet 16 = .ok (.iconst 2, 1) := by decide +kernel
theorem dL_removeMet_17 : decode cL_removeMet 17 = .ok (.ireturn, 1) := by decide +kernel
theorem dL_removeMet_18 : decode cL_removeMet 18 = .ok (.iconst 0, 1) := by decide +kernel
theorem dL_removeMet_19 : decode cL_removeMet 19 = .ok (.ireturn, 1) := by decide +kernel
theorem dL_keep_0 : decode cL_keep 0 = .ok (.aload_n 3, 1) := by decide +kernel
theorem dL_keep_1 : decode cL_keep 1 = .ok (.iconst 0, 1) := by decide +kernel
theorem dL_keep_2 : decode cL_keep 2 = .ok (.aload_n 0, 1) := by decide +kernel
theorem dL_keep_3 : decode cL_keep 3 = .ok (.iload_n 1, 1) := by decide +kernel
theorem dL_keep_4 : decode cL_keep 4 = .ok (.iload_n 2, 1) := by decide +kernel
theorem dL_keep_5 : decode cL_keep 5 = .ok (.invokevirtual 97, 3) := by decide +kernel
theorem dL_keep_8 : decode cL_keep 8 = .ok (.i2l, 1) := by decide +kernel
theorem dL_keep_9 : decode cL_keep 9 = .ok (.lastore, 1) := by decide +kernel
theorem dL_keep_10 : decode cL_keep 10 = .ok (.goto 7, 3) := by decide +kernel
theorem dL_keep_13 : decode cL_keep 13 = .ok (.astore 4, 2) := by decide +kernel
theorem dL_keep_15 : decode cL_keep 15 = .ok (.iconst 1, 1) := by decide +kernel
theorem dL_keep_16 : decode cL_keep 16 = .ok (.ireturn, 1) := by decide +kernel
theorem dL_keep_17 : decode cL_keep 17 = .ok (.iconst 0, 1) := by decide +kernel
theorem dL_keep_18 : decode cL_keep 18 = .ok (.ireturn, 1) := by decide +kernel
theorem dL_unite_0 : decode cL_unite 0 = .ok (.aload_n 3, 1) := by decide +kernel
theorem dL_unite_1 : decode cL_unite 1 = .ok (.iconst 0, 1) := by decide +kernel
theorem dL_unite_2 : decode cL_unite 2 = .ok (.aload_n 0, 1) := by decide +kernel
theorem dL_unite_3 : decode cL_unite 3 = .ok (.iload_n 1, 1) := by decide +kernel
theorem dL_unite_4 : decode cL_unite 4 = .ok (.iload_n 2, 1) := by decide +kernel
theorem dL_unite_5 : decode cL_unite 5 = .ok (.invokevirtual 100, 3) := by decide +kernel
theorem dL_unite_8 : decode cL_unite 8 = .ok (.i2l, 1) := by decide +kernel
theorem dL_unite_9 : decode cL_unite 9 = .ok (.lastore, 1) := by decide +kernel
theorem dL_unite_10 : decode cL_unite 10 = .ok (.goto 7, 3) := by decide +kernel
theorem dL_unite_13 : decode cL_unite 13 = .ok (.astore 4, 2) := by decide +kernel
theorem dL_unite_15 : decode cL_unite 15 = .ok (.iconst 1, 1) := by decide +kernel
theorem dL_unite_16 : decode cL_unite 16 = .ok (.ireturn, 1) := by decide +kernel
theorem dL_unite_17 : decode cL_unite 17 = .ok (.iconst 0, 1) := by decide +kernel
theorem dL_unite_18 : decode cL_unite 18 = .ok (.ireturn, 1) := by decide +kernel
theorem dL_saveSnapshot_0 : decode cL_saveSnapshot 0 = .ok (.aload_n 2, 1) := by decide +kernel
theorem dL_saveSnapshot_1 : decode cL_saveSnapshot 1 = .ok (.iconst 0, 1) := by decide +kernel
theorem dL_saveSnapshot_2 : decode cL_saveSnapshot 2 = .ok (.aload_n 0, 1) := by decide +kernel
theorem dL_saveSnapshot_3 : decode cL_saveSnapshot 3 = .ok (.iload_n 1, 1) := by decide +kernel
theorem dL_saveSnapshot_4 : decode cL_saveSnapshot 4 = .ok (.invokevirtual 103, 3) := by decide +kernel
theorem dL_saveSnapshot_7 : decode cL_saveSnapshot 7 = .ok (.ifCond .eq 7, 3) := by decide +kernel
theorem dL_saveSnapshot_10 : decode cL_saveSnapshot 10 = .ok (.lconst 1, 1) := by decide +kernel
theorem dL_saveSnapshot_11 : decode cL_saveSnapshot 11 = .ok (.goto 4, 3) := by decide +kernel
theorem dL_saveSnapshot_14 : decode cL_saveSnapshot 14 = .ok (.lconst 0, 1) := by decide +kernel
theorem dL_saveSnapshot_15 : decode cL_saveSnapshot 15 = .ok (.lastore, 1) := by decide +kernel
theorem dL_saveSnapshot_16 : decode cL_saveSnapshot 16 = .ok (.goto 6, 3) := by decide +kernel
theorem dL_saveSnapshot_19 : decode cL_saveSnapshot 19 = .ok (.astore_n 3, 1) := by decide +kernel
theorem dL_saveSnapshot_20 : decode cL_saveSnapshot 20 = .ok (.iconst 1, 1) := by decide +kernel
theorem dL_saveSnapshot_21 : decode cL_saveSnapshot 21 = .ok (.ireturn, 1) := by decide +kernel
theorem dL_saveSnapshot_22 : decode cL_saveSnapshot 22 = .ok (.iconst 0, 1) := by decide +kernel
theorem dL_saveSnapshot_23 : decode cL_saveSnapshot 23 = .ok (.ireturn, 1) := by decide +kernel
theorem dL_restoreSnapshot_0 : decode cL_restoreSnapshot 0 = .ok (.aload_n 2, 1) := by decide +kernel
theorem dL_restoreSnapshot_1 : decode cL_restoreSnapshot 1 = .ok (.iconst 0, 1) := by decide +kernel
theorem dL_restoreSnapshot_2 : decode cL_restoreSnapshot 2 = .ok (.aload_n 0, 1) := by decide +kernel
theorem dL_restoreSnapshot_3 : decode cL_restoreSnapshot 3 = .ok (.iload_n 1, 1) := by decide +kernel
theorem dL_restoreSnapshot_4 : decode cL_restoreSnapshot 4 = .ok (.invokevirtual 107, 3) := by decide +kernel
theorem dL_restoreSnapshot_7 : decode cL_restoreSnapshot 7 = .ok (.i2l, 1) := by decide +kernel
theorem dL_restoreSnapshot_8 : decode cL_restoreSnapshot 8 = .ok (.lastore, 1) := by decide +kernel
theorem dL_restoreSnapshot_9 : decode cL_restoreSnapshot 9 = .ok (.goto 9, 3) := by decide +kernel
theorem dL_restoreSnapshot_12 : decode cL_restoreSnapshot 12 = .ok (.astore_n 3, 1) := by decide +kernel
theorem dL_restoreSnapshot_13 : decode cL_restoreSnapshot 13 = .ok (.iconst 1, 1) := by decide +kernel
theorem dL_restoreSnapshot_14 : decode cL_restoreSnapshot 14 = .ok (.ireturn, 1) := by decide +kernel
theorem dL_restoreSnapshot_15 : decode cL_restoreSnapshot 15 = .ok (.astore_n 3, 1) := by decide +kernel
theorem dL_restoreSnapshot_16 : decode cL_restoreSnapshot 16 = .ok (.iconst 2, 1) := by decide +kernel
theorem dL_restoreSnapshot_17 : decode cL_restoreSnapshot 17 = .ok (.ireturn, 1) := by decide +kernel
theorem dL_restoreSnapshot_18 : decode cL_restoreSnapshot 18 = .ok (.iconst 0, 1) := by decide +kernel
theorem dL_restoreSnapshot_19 : decode cL_restoreSnapshot 19 = .ok (.ireturn, 1) := by decide +kernel
