theorem mC1_1_45 : Cond.fieldLink RX8 22 "ClaimTable$Tape" "textLength" "I" ∈ TB := tbT_1 _ (List.mem_of_getElem? (i := 45) rfl) rfl
theorem mC1_1_42 : Cond.fieldLink RX8 11 "ClaimTable$Tape" "bytes" "[B" ∈ TB := tbT_1 _ (List.mem_of_getElem? (i := 42) rfl) rfl
theorem mC1_1_47 : Cond.fieldLink RX8 15 "ClaimTable$Tape" "wrong" "I" ∈ TB := tbT_1 _ (List.mem_of_getElem? (i := 47) rfl) rfl
theorem mC1_3_145 : Cond.methodLink RX8 43 yJ0_length_8abf5 ∈ TB := tbT_3 _ (List.mem_of_getElem? (i := 145) rfl) rfl
theorem mC1_3_146 : Cond.instanceMethod yJ0_length_8abf5 ∈ TB := tbT_3 _ (List.mem_of_getElem? (i := 146) rfl) rfl
theorem mC1_3_147 : Cond.selects RJ0 yJ0_length_8abf5 yJ0_length_8abf5 ∈ TB := tbT_3 _ (List.mem_of_getElem? (i := 147) rfl) rfl
theorem mC1_1_14 : Cond.initialized RJ0 ∈ TB := tbT_1 _ (List.mem_of_getElem? (i := 14) rfl) rfl
theorem mC1_3_148 : Cond.code yJ0_length_8abf5 cJ0_length_8abf5 1 (some .int) ∈ TB := tbT_3 _ (List.mem_of_getElem? (i := 148) rfl) rfl
theorem mC1_1_46 : Cond.fieldLink RX8 29 "ClaimTable$Tape" "place" "I" ∈ TB := tbT_1 _ (List.mem_of_getElem? (i := 46) rfl) rfl
theorem mC1_3_155 : Cond.methodLink RX8 39 yX8_byteAt ∈ TB := tbT_3 _ (List.mem_of_getElem? (i := 155) rfl) rfl
theorem mC1_3_158 : Cond.code yX8_byteAt cX8_byteAt 2 (some .int) ∈ TB := tbT_3 _ (List.mem_of_getElem? (i := 158) rfl) rfl
theorem mC1_3_157 : Cond.instanceMethod yX8_byteAt ∈ TB := tbT_3 _ (List.mem_of_getElem? (i := 157) rfl) rfl
theorem mpC1_1_3 : Cond.selects RX8 yX8_byteAt yX8_byteAt ∈ TB := tbP_1 (yX8_byteAt, 5) (List.mem_of_getElem? (i := 3) rfl)
theorem mC1_1_2 : Cond.initialized RX8 ∈ TB := tbT_1 _ (List.mem_of_getElem? (i := 2) rfl) rfl
theorem mC1_3_129 : Cond.methodLink RX8 25 yX8_moveTo ∈ TB := tbT_3 _ (List.mem_of_getElem? (i := 129) rfl) rfl
theorem mC1_3_132 : Cond.code yX8_moveTo cX8_moveTo 2 none ∈ TB := tbT_3 _ (List.mem_of_getElem? (i := 132) rfl) rfl
theorem mC1_3_131 : Cond.instanceMethod yX8_moveTo ∈ TB := tbT_3 _ (List.mem_of_getElem? (i := 131) rfl) rfl
theorem mpC1_1_2 : Cond.selects RX8 yX8_moveTo yX8_moveTo ∈ TB := tbP_1 (yX8_moveTo, 5) (List.mem_of_getElem? (i := 2) rfl)
theorem mC1_3_159 : Cond.methodLink RX8 48 yJ0_charAt_5068e ∈ TB := tbT_3 _ (List.mem_of_getElem? (i := 159) rfl) rfl
theorem mC1_3_160 : Cond.instanceMethod yJ0_charAt_5068e ∈ TB := tbT_3 _ (List.mem_of_getElem? (i := 160) rfl) rfl
theorem mC1_3_161 : Cond.selects RJ0 yJ0_charAt_5068e yJ0_charAt_5068e ∈ TB := tbT_3 _ (List.mem_of_getElem? (i := 161) rfl) rfl
theorem mC1_3_162 : Cond.code yJ0_charAt_5068e cJ0_charAt_5068e 2 (some .char) ∈ TB := tbT_3 _ (List.mem_of_getElem? (i := 162) rfl) rfl
theorem mC1_3_206 : Cond.methodLink RX8 36 yX8_refuse ∈ TB := tbT_3 _ (List.mem_of_getElem? (i := 206) rfl) rfl
theorem mC1_3_209 : Cond.code yX8_refuse cX8_refuse 1 none ∈ TB := tbT_3 _ (List.mem_of_getElem? (i := 209) rfl) rfl
theorem mC1_3_207 : Cond.instanceMethod yX8_refuse ∈ TB := tbT_3 _ (List.mem_of_getElem? (i := 207) rfl) rfl
theorem mC1_3_208 : Cond.selects RX8 yX8_refuse yX8_refuse ∈ TB := tbT_3 _ (List.mem_of_getElem? (i := 208) rfl) rfl
theorem mC1_3_205 : Cond.methodLink RX8 52 yX8_takeWord ∈ TB := tbT_3 _ (List.mem_of_getElem? (i := 205) rfl) rfl
theorem mC1_3_144 : Cond.code yX8_takeWord cX8_takeWord 3 (some .boolean) ∈ TB := tbT_3 _ (List.mem_of_getElem? (i := 144) rfl) rfl
theorem mC1_3_142 : Cond.instanceMethod yX8_takeWord ∈ TB := tbT_3 _ (List.mem_of_getElem? (i := 142) rfl) rfl
theorem mC1_3_143 : Cond.selects RX8 yX8_takeWord yX8_takeWord ∈ TB := tbT_3 _ (List.mem_of_getElem? (i := 143) rfl) rfl
theorem mC1_3_210 : Cond.methodLink RX8 56 yX8_number ∈ TB := tbT_3 _ (List.mem_of_getElem? (i := 210) rfl) rfl
theorem mC1_3_213 : Cond.code yX8_number cX8_number 7 (some .int) ∈ TB := tbT_3 _ (List.mem_of_getElem? (i := 213) rfl) rfl
theorem mC1_3_211 : Cond.instanceMethod yX8_number ∈ TB := tbT_3 _ (List.mem_of_getElem? (i := 211) rfl) rfl
theorem mC1_3_212 : Cond.selects RX8 yX8_number yX8_number ∈ TB := tbT_3 _ (List.mem_of_getElem? (i := 212) rfl) rfl
theorem mC1_1_157 : Cond.fieldLink RX9 11 "ClaimTable$Version" "state" "I" ∈ TB := tbT_1 _ (List.mem_of_getElem? (i := 157) rfl) rfl
theorem mC1_1_163 : Cond.fieldLink RX9 15 "ClaimTable$Version" "due" "I" ∈ TB := tbT_1 _ (List.mem_of_getElem? (i := 163) rfl) rfl
theorem mC1_1_170 : Cond.fieldLink RX9 18 "ClaimTable$Version" "tries" "I" ∈ TB := tbT_1 _ (List.mem_of_getElem? (i := 170) rfl) rfl
theorem mC1_1_174 : Cond.fieldLink RX9 21 "ClaimTable$Version" "causeCount" "I" ∈ TB := tbT_1 _ (List.mem_of_getElem? (i := 174) rfl) rfl
theorem mC1_1_177 : Cond.fieldLink RX9 24 "ClaimTable$Version" "causeBits" "I" ∈ TB := tbT_1 _ (List.mem_of_getElem? (i := 177) rfl) rfl
theorem mC1_1_178 : Cond.fieldLink RX9 27 "ClaimTable$Version" "token" "I" ∈ TB := tbT_1 _ (List.mem_of_getElem? (i := 178) rfl) rfl
theorem mC1_1_182 : Cond.fieldLink RX9 30 "ClaimTable$Version" "holder" "I" ∈ TB := tbT_1 _ (List.mem_of_getElem? (i := 182) rfl) rfl
theorem mC1_1_187 : Cond.fieldLink RX9 33 "ClaimTable$Version" "until" "I" ∈ TB := tbT_1 _ (List.mem_of_getElem? (i := 187) rfl) rfl
theorem mC1_2_146 : Cond.fieldLink RX6 46 "ClaimTable$Table" "size" "I" ∈ TB := tbT_2 _ (List.mem_of_getElem? (i := 146) rfl) rfl
theorem mC1_2_126 : Cond.fieldLink RX6 11 "ClaimTable$Table" "jobs" "[LClaimTable$Job;" ∈ TB := tbT_2 _ (List.mem_of_getElem? (i := 126) rfl) rfl
theorem mC1_2_170 : Cond.fieldLink RX6 87 "ClaimTable$Table" "came" "I" ∈ TB := tbT_2 _ (List.mem_of_getElem? (i := 170) rfl) rfl
theorem mC1_1_230 : Cond.fieldLinkNest RX6 96 "ClaimTable$Job" "number" "I" "ClaimTable" ∈ NB := nbT_1 _ (List.mem_of_getElem? (i := 230) rfl) rfl
theorem mC1_1_235 : Cond.fieldLinkNest RX6 99 "ClaimTable$Job" "group" "I" "ClaimTable" ∈ NB := nbT_1 _ (List.mem_of_getElem? (i := 235) rfl) rfl
theorem mC1_2_0 : Cond.fieldLinkNest RX6 102 "ClaimTable$Job" "priority" "I" "ClaimTable" ∈ NB := nbT_2 _ (List.mem_of_getElem? (i := 0) rfl) rfl
theorem mC1_2_5 : Cond.fieldLinkNest RX6 105 "ClaimTable$Job" "cost" "I" "ClaimTable" ∈ NB := nbT_2 _ (List.mem_of_getElem? (i := 5) rfl) rfl
theorem mC1_2_160 : Cond.fieldLink RX6 78 "ClaimTable$Table" "mono" "I" ∈ TB := tbT_2 _ (List.mem_of_getElem? (i := 160) rfl) rfl
theorem mC1_2_9 : Cond.fieldLinkNest RX6 108 "ClaimTable$Job" "born" "I" "ClaimTable" ∈ NB := nbT_2 _ (List.mem_of_getElem? (i := 9) rfl) rfl
theorem mC1_2_13 : Cond.fieldLinkNest RX6 111 "ClaimTable$Job" "schedule" "I" "ClaimTable" ∈ NB := nbT_2 _ (List.mem_of_getElem? (i := 13) rfl) rfl
theorem mC1_2_16 : Cond.fieldLinkNest RX6 114 "ClaimTable$Job" "slot" "I" "ClaimTable" ∈ NB := nbT_2 _ (List.mem_of_getElem? (i := 16) rfl) rfl
theorem mC1_1_225 : Cond.fieldLinkNest RX6 117 "ClaimTable$Job" "stored" "Z" "ClaimTable" ∈ NB := nbT_1 _ (List.mem_of_getElem? (i := 225) rfl) rfl
theorem mC1_1_221 : Cond.fieldLinkNest RX6 121 "ClaimTable$Job" "locker" "I" "ClaimTable" ∈ NB := nbT_1 _ (List.mem_of_getElem? (i := 221) rfl) rfl
theorem mC1_1_212 : Cond.fieldLinkNest RX6 124 "ClaimTable$Job" "base" "LClaimTable$Version;" "ClaimTable" ∈ NB := nbT_1 _ (List.mem_of_getElem? (i := 212) rfl) rfl
theorem mC1_3_226 : Cond.methodLink RX6 128 yX9_startAt ∈ TB := tbT_3 _ (List.mem_of_getElem? (i := 226) rfl) rfl
theorem mC1_3_229 : Cond.code yX9_startAt cX9_startAt 2 none ∈ TB := tbT_3 _ (List.mem_of_getElem? (i := 229) rfl) rfl
theorem mC1_3_227 : Cond.instanceMethod yX9_startAt ∈ TB := tbT_3 _ (List.mem_of_getElem? (i := 227) rfl) rfl
theorem mC1_3_228 : Cond.selects RX9 yX9_startAt yX9_startAt ∈ TB := tbT_3 _ (List.mem_of_getElem? (i := 228) rfl) rfl
theorem mC1_1_8 : Cond.initialized RX9 ∈ TB := tbT_1 _ (List.mem_of_getElem? (i := 8) rfl) rfl
theorem mC1_3_201 : Cond.methodLink RX7 78 yX8_numberBehind ∈ TB := tbT_3 _ (List.mem_of_getElem? (i := 201) rfl) rfl
theorem mC1_3_204 : Cond.code yX8_numberBehind cX8_numberBehind 4 (some .int) ∈ TB := tbT_3 _ (List.mem_of_getElem? (i := 204) rfl) rfl
theorem mC1_3_202 : Cond.instanceMethod yX8_numberBehind ∈ TB := tbT_3 _ (List.mem_of_getElem? (i := 202) rfl) rfl
theorem mC1_3_203 : Cond.selects RX8 yX8_numberBehind yX8_numberBehind ∈ TB := tbT_3 _ (List.mem_of_getElem? (i := 203) rfl) rfl
theorem mC1_3_141 : Cond.methodLink RX7 45 yX8_takeWord ∈ TB := tbT_3 _ (List.mem_of_getElem? (i := 141) rfl) rfl
theorem mC1_3_218 : Cond.methodLink RX7 31 yX8_isRight ∈ TB := tbT_3 _ (List.mem_of_getElem? (i := 218) rfl) rfl
theorem mC1_3_221 : Cond.code yX8_isRight cX8_isRight 1 (some .boolean) ∈ TB := tbT_3 _ (List.mem_of_getElem? (i := 221) rfl) rfl
theorem mC1_3_219 : Cond.instanceMethod yX8_isRight ∈ TB := tbT_3 _ (List.mem_of_getElem? (i := 219) rfl) rfl
theorem mC1_3_220 : Cond.selects RX8 yX8_isRight yX8_isRight ∈ TB := tbT_3 _ (List.mem_of_getElem? (i := 220) rfl) rfl
theorem mC1_3_222 : Cond.methodLink RX7 92 yX6_addJob ∈ TB := tbT_3 _ (List.mem_of_getElem? (i := 222) rfl) rfl
theorem mC1_3_225 : Cond.code yX6_addJob cX6_addJob 5 (some (.object "ClaimTable$Job")) ∈ TB := tbT_3 _ (List.mem_of_getElem? (i := 225) rfl) rfl
theorem mC1_3_223 : Cond.instanceMethod yX6_addJob ∈ TB := tbT_3 _ (List.mem_of_getElem? (i := 223) rfl) rfl
theorem mC1_3_224 : Cond.selects RX6 yX6_addJob yX6_addJob ∈ TB := tbT_3 _ (List.mem_of_getElem? (i := 224) rfl) rfl
theorem mC1_1_5 : Cond.initialized RX6 ∈ TB := tbT_1 _ (List.mem_of_getElem? (i := 5) rfl) rfl
theorem mC1_1_213 : Cond.fieldLinkNest RX7 96 "ClaimTable$Job" "base" "LClaimTable$Version;" "ClaimTable" ∈ NB := nbT_1 _ (List.mem_of_getElem? (i := 213) rfl) rfl
theorem mC1_2_161 : Cond.fieldLinkNest RX7 102 "ClaimTable$Table" "mono" "I" "ClaimTable" ∈ NB := nbT_2 _ (List.mem_of_getElem? (i := 161) rfl) rfl
theorem mC1_1_166 : Cond.fieldLinkNest RX7 105 "ClaimTable$Version" "due" "I" "ClaimTable" ∈ NB := nbT_1 _ (List.mem_of_getElem? (i := 166) rfl) rfl
theorem mC1_3_217 : Cond.methodLink RX7 88 yX8_number ∈ TB := tbT_3 _ (List.mem_of_getElem? (i := 217) rfl) rfl
theorem mC1_1_72 : Cond.fieldLink RX3 29 "ClaimTable$Query" "times" "I" ∈ TB := tbT_1 _ (List.mem_of_getElem? (i := 72) rfl) rfl
theorem mC1_1_75 : Cond.fieldLink RX3 33 "ClaimTable$Query" "terms" "I" ∈ TB := tbT_1 _ (List.mem_of_getElem? (i := 75) rfl) rfl
theorem mC1_1_76 : Cond.fieldLink RX3 36 "ClaimTable$Query" "keys" "I" ∈ TB := tbT_1 _ (List.mem_of_getElem? (i := 76) rfl) rfl
theorem mC1_2_62 : Cond.fieldLink RX5 29 "ClaimTable$Session" "open" "Z" ∈ TB := tbT_2 _ (List.mem_of_getElem? (i := 62) rfl) rfl
theorem mC1_2_65 : Cond.fieldLink RX5 33 "ClaimTable$Session" "savepoints" "I" ∈ TB := tbT_2 _ (List.mem_of_getElem? (i := 65) rfl) rfl
theorem mC1_2_52 : Cond.fieldLink RX5 10 "ClaimTable$Session" "query" "LClaimTable$Query;" ∈ TB := tbT_2 _ (List.mem_of_getElem? (i := 52) rfl) rfl
theorem mC1_4_4 : Cond.methodLink RX5 16 yX3_clear ∈ TB := tbT_4 _ (List.mem_of_getElem? (i := 4) rfl) rfl
theorem mC1_4_7 : Cond.code yX3_clear cX3_clear 1 none ∈ TB := tbT_4 _ (List.mem_of_getElem? (i := 7) rfl) rfl
theorem mC1_4_5 : Cond.instanceMethod yX3_clear ∈ TB := tbT_4 _ (List.mem_of_getElem? (i := 5) rfl) rfl
theorem mC1_4_6 : Cond.selects RX3 yX3_clear yX3_clear ∈ TB := tbT_4 _ (List.mem_of_getElem? (i := 6) rfl) rfl
theorem mC1_1_3 : Cond.initialized RX3 ∈ TB := tbT_1 _ (List.mem_of_getElem? (i := 3) rfl) rfl
theorem mC1_2_55 : Cond.fieldLink RX5 19 "ClaimTable$Session" "skew" "I" ∈ TB := tbT_2 _ (List.mem_of_getElem? (i := 55) rfl) rfl
theorem mC1_2_58 : Cond.fieldLink RX5 23 "ClaimTable$Session" "latest" "I" ∈ TB := tbT_2 _ (List.mem_of_getElem? (i := 58) rfl) rfl
theorem mC1_4_8 : Cond.methodLink RX5 26 yX5_close ∈ TB := tbT_4 _ (List.mem_of_getElem? (i := 8) rfl) rfl
theorem mC1_4_11 : Cond.code yX5_close cX5_close 1 none ∈ TB := tbT_4 _ (List.mem_of_getElem? (i := 11) rfl) rfl
theorem mC1_4_9 : Cond.instanceMethod yX5_close ∈ TB := tbT_4 _ (List.mem_of_getElem? (i := 9) rfl) rfl
theorem mC1_4_10 : Cond.selects RX5 yX5_close yX5_close ∈ TB := tbT_4 _ (List.mem_of_getElem? (i := 10) rfl) rfl
theorem mC1_1_9 : Cond.initialized RX5 ∈ TB := tbT_1 _ (List.mem_of_getElem? (i := 9) rfl) rfl
theorem mC1_2_150 : Cond.fieldLink RX6 54 "ClaimTable$Table" "sessionCount" "I" ∈ TB := tbT_2 _ (List.mem_of_getElem? (i := 150) rfl) rfl
theorem mC1_2_129 : Cond.fieldLink RX6 19 "ClaimTable$Table" "sessions" "[LClaimTable$Session;" ∈ TB := tbT_2 _ (List.mem_of_getElem? (i := 129) rfl) rfl
theorem mC1_4_0 : Cond.methodLink RX6 134 yX5_start ∈ TB := tbT_4 _ (List.mem_of_getElem? (i := 0) rfl) rfl
theorem mC1_4_3 : Cond.code yX5_start cX5_start 2 none ∈ TB := tbT_4 _ (List.mem_of_getElem? (i := 3) rfl) rfl
theorem mC1_4_1 : Cond.instanceMethod yX5_start ∈ TB := tbT_4 _ (List.mem_of_getElem? (i := 1) rfl) rfl
theorem mC1_4_2 : Cond.selects RX5 yX5_start yX5_start ∈ TB := tbT_4 _ (List.mem_of_getElem? (i := 2) rfl) rfl
theorem mC1_3_236 : Cond.methodLink RX7 114 yX6_addSession ∈ TB := tbT_3 _ (List.mem_of_getElem? (i := 236) rfl) rfl
theorem mC1_3_239 : Cond.code yX6_addSession cX6_addSession 2 none ∈ TB := tbT_3 _ (List.mem_of_getElem? (i := 239) rfl) rfl
theorem mC1_3_237 : Cond.instanceMethod yX6_addSession ∈ TB := tbT_3 _ (List.mem_of_getElem? (i := 237) rfl) rfl
theorem mC1_3_238 : Cond.selects RX6 yX6_addSession yX6_addSession ∈ TB := tbT_3 _ (List.mem_of_getElem? (i := 238) rfl) rfl
theorem mC1_2_87 : Cond.fieldLink RX4 15 "ClaimTable$Schedule" "at" "I" ∈ TB := tbT_2 _ (List.mem_of_getElem? (i := 87) rfl) rfl
theorem mC1_2_84 : Cond.fieldLink RX4 9 "ClaimTable$Schedule" "every" "I" ∈ TB := tbT_2 _ (List.mem_of_getElem? (i := 84) rfl) rfl
theorem mC1_2_134 : Cond.fieldLinkNest RX7 118 "ClaimTable$Table" "schedules" "[LClaimTable$Schedule;" "ClaimTable" ∈ NB := nbT_2 _ (List.mem_of_getElem? (i := 134) rfl) rfl
theorem mC1_2_154 : Cond.fieldLinkNest RX7 60 "ClaimTable$Table" "scheduleCount" "I" "ClaimTable" ∈ NB := nbT_2 _ (List.mem_of_getElem? (i := 154) rfl) rfl
theorem mC1_2_85 : Cond.fieldLinkNest RX7 122 "ClaimTable$Schedule" "every" "I" "ClaimTable" ∈ NB := nbT_2 _ (List.mem_of_getElem? (i := 85) rfl) rfl
theorem mC1_2_88 : Cond.fieldLinkNest RX7 128 "ClaimTable$Schedule" "at" "I" "ClaimTable" ∈ NB := nbT_2 _ (List.mem_of_getElem? (i := 88) rfl) rfl
theorem mC1_2_91 : Cond.fieldLinkNest RX7 130 "ClaimTable$Schedule" "group" "I" "ClaimTable" ∈ NB := nbT_2 _ (List.mem_of_getElem? (i := 91) rfl) rfl
theorem mC1_2_94 : Cond.fieldLinkNest RX7 132 "ClaimTable$Schedule" "priority" "I" "ClaimTable" ∈ NB := nbT_2 _ (List.mem_of_getElem? (i := 94) rfl) rfl
theorem mC1_2_97 : Cond.fieldLinkNest RX7 134 "ClaimTable$Schedule" "cost" "I" "ClaimTable" ∈ NB := nbT_2 _ (List.mem_of_getElem? (i := 97) rfl) rfl
theorem mC1_2_100 : Cond.fieldLinkNest RX7 136 "ClaimTable$Schedule" "kind" "I" "ClaimTable" ∈ NB := nbT_2 _ (List.mem_of_getElem? (i := 100) rfl) rfl
theorem mC1_2_103 : Cond.fieldLinkNest RX7 139 "ClaimTable$Schedule" "grace" "I" "ClaimTable" ∈ NB := nbT_2 _ (List.mem_of_getElem? (i := 103) rfl) rfl
theorem mC1_2_165 : Cond.fieldLinkNest RX7 145 "ClaimTable$Table" "wall" "I" "ClaimTable" ∈ NB := nbT_2 _ (List.mem_of_getElem? (i := 165) rfl) rfl
theorem mC1_4_19 : Cond.methodLink RX7 148 yX4_slotOf ∈ TB := tbT_4 _ (List.mem_of_getElem? (i := 19) rfl) rfl
theorem mC1_4_22 : Cond.code yX4_slotOf cX4_slotOf 2 (some .int) ∈ TB := tbT_4 _ (List.mem_of_getElem? (i := 22) rfl) rfl
theorem mC1_4_20 : Cond.instanceMethod yX4_slotOf ∈ TB := tbT_4 _ (List.mem_of_getElem? (i := 20) rfl) rfl
theorem mC1_4_21 : Cond.selects RX4 yX4_slotOf yX4_slotOf ∈ TB := tbT_4 _ (List.mem_of_getElem? (i := 21) rfl) rfl
theorem mC1_1_10 : Cond.initialized RX4 ∈ TB := tbT_1 _ (List.mem_of_getElem? (i := 10) rfl) rfl
theorem mC1_2_106 : Cond.fieldLinkNest RX7 152 "ClaimTable$Schedule" "slot" "I" "ClaimTable" ∈ NB := nbT_2 _ (List.mem_of_getElem? (i := 106) rfl) rfl
theorem mC1_2_138 : Cond.fieldLinkNest RX7 155 "ClaimTable$Table" "parallel" "[I" "ClaimTable" ∈ NB := nbT_2 _ (List.mem_of_getElem? (i := 138) rfl) rfl
def rm_X8_byteAt : Room := { frames := 0, cells := 0, slots := 0, locals := 0 }
def B_X8_byteAt_19 (S : sSt) (k : Int32 → sSt → Prop) : Prop := k (-1) S
set_option maxHeartbeats 4000000 in
set_option maxRecDepth 100000 in
theorem Bw_X8_byteAt_19 {p : Program} {l : Launch} {e : Env} {s : State} {m : MethodId} {args : Array Value} {below : List Frame} {meth : Method} {c : Code} {D : va_G} {cy : Nat → ClassId} {b z : Nat} {tx : TX} (C0 : CallFix p m c cX8_byteAt 2 s args TB RX8) (hr : meth.sig.returnType = (some .int)) (hlk : meth.locks = false) (hT : TxR tx s) {k : Int32 → sSt → Prop} : ∀ (S : sSt) (H : Heap) (locs : List Loc) (ls : Array Slot) , B_X8_byteAt_19 S k → RelC D cy b z tx S s H → va_S (gA b 709 z) s.heap H locs → lv_has ls 2 [] → W p l e rm_X8_byteAt s m args below meth c H locs 0 0 (MQ below (PiC D cy b z tx k) args s 0 0 (gA b 709 z)) (F0 m 19 ls []) := by
  intro S H locs ls h hR hS hl
  have hx := C0.1
  have hb := C0.2.1
  unfold B_X8_byteAt_19 at h
  refine lv_iconst (v := (-1)) hx hb dX8_byteAt_19 (by decide) ?_
  refine lv_goto (tgt := 33) hx hb dX8_byteAt_20 (by decide) ?_
  exact rtC_i C0 hr hlk hR hS h dX8_byteAt_33
def F_X8_byteAt (a1 : Int32) (S : sSt) (k : Int32 → sSt → Prop) : Prop := ((a1 < 0 → B_X8_byteAt_19 S k) ∧ (¬ a1 < 0 → (((S.1 1 0 2) ≤ a1 → B_X8_byteAt_19 S k) ∧ (¬ (S.1 1 0 2) ≤ a1 → ((a1 < 400 → ix a1 400 (fun j4 => k ((S.1 2 0 j4) &&& 255) S)) ∧ (¬ a1 < 400 → B_X8_byteAt_19 S k))))))
set_option maxHeartbeats 4000000 in
set_option maxRecDepth 100000 in
theorem c_X8_byteAt (l : Launch) {D : va_G} {cy : Nat → ClassId} {b z : Nat} {tx : TX} {a1 : Int32} {S : sSt} {k : Int32 → sSt → Prop} (h : F_X8_byteAt a1 S k) : Met l yX8_byteAt (Cond.code yX8_byteAt cX8_byteAt 2 (some .int) :: TB) rm_X8_byteAt (va_Pc [.ref (b + adC 1 0), .int a1] (fun U => RelC D cy b z tx S U U.heap ∧ TxR tx U)) (PiC D cy b z tx k) 0 0 (gA b 709 z) := by
  refine Met.ofW (cc := cX8_byteAt) (maxL := 2) (ret := (some .int)) (by decide) rfl ?_
  intro p e s m args below meth c s₁ B hml hv
  obtain ⟨rfl, hR, hT⟩ := hv
  have C0 : CallFix p m c cX8_byteAt 2 s _ TB RX8 := ⟨B.exec, B.bytes, hml, findClass_of_methodNamed B.named, fun w hw => atoms_spec B.pre w (List.mem_cons_of_mem _ hw)⟩
  have hr := B.returns
  have hlk := B.notSynchronized
  have hx := C0.1
  have hb := C0.2.1
  have hS : va_S (gA b 709 z) s.heap s.heap [] := va_S.rf
  have hl := lv_entry ([.ref (b + adC 1 0), .int a1]) (n := 2) (Nat.le_of_ble_eq_true rfl)
  rw [lg_entry_eq]
  generalize (lg_sl ([.ref (b + adC 1 0), .int a1]) ++ List.replicate (2 - (lg_sl ([.ref (b + adC 1 0), .int a1])).length) Slot.unset).toArray = ls at hl ⊢
  have hl : lv_has ls 2 [(0, .ref (b + adC 1 0)), (1, .int a1)] := hl
  show W p l e rm_X8_byteAt s m _ below meth c s.heap [] 0 0 (MQ below (PiC D cy b z tx k) _ s 0 0 (gA b 709 z)) _
  unfold F_X8_byteAt at h
  refine lv_iload_n hx hb dX8_byteAt_0 rfl (lv_at hl 1 rfl) ?_
  refine lv_if_lt (tgt := 19) hx hb dX8_byteAt_1 (by decide) (fun c1 => ?_) (fun c1 => ?_)
  · have h := h.1 c1
    exact Bw_X8_byteAt_19 C0 hr hlk hT S _ _ _ h hR hS (lv_sub hl [] rfl)
  · have h := h.2 c1
    refine lv_iload_n hx hb dX8_byteAt_4 rfl (lv_at hl 1 rfl) ?_
    refine lv_aload_n hx hb dX8_byteAt_5 rfl (lv_at hl 0 rfl) ?_
    refine gC_1_2 C0 hR Nat.zero_lt_one tbs_wsX80 mC1_1_45 dX8_byteAt_6 ?_
    refine lv_icmp_ge (tgt := 19) hx hb dX8_byteAt_9 (by decide) (fun c2 => ?_) (fun c2 => ?_)
    · have h := h.1 c2
      exact Bw_X8_byteAt_19 C0 hr hlk hT S _ _ _ h hR hS (lv_sub hl [] rfl)
    · have h := h.2 c2
      refine lv_iload_n hx hb dX8_byteAt_12 rfl (lv_at hl 1 rfl) ?_
      refine lv_sipush (v := 400) hx hb dX8_byteAt_13 (by decide) ?_
      refine lv_icmp_lt (tgt := 23) hx hb dX8_byteAt_16 (by decide) (fun c3 => ?_) (fun c3 => ?_)
      · have h := h.1 c3
        refine lv_aload_n hx hb dX8_byteAt_23 rfl (lv_at hl 0 rfl) ?_
        refine gC_1_0 C0 hR Nat.zero_lt_one tbs_wsX80 mC1_1_42 dX8_byteAt_24 ?_
        refine lv_iload_n hx hb dX8_byteAt_27 rfl (lv_at hl 1 rfl) ?_
        obtain ⟨j4, hj4, ej4, h⟩ := h
        refine lC_2 C0 hR Nat.zero_lt_one hj4 ej4 dX8_byteAt_28 ?_
        refine lv_sipush (v := 255) hx hb dX8_byteAt_29 (by decide) ?_
        refine lv_iand hx hb dX8_byteAt_32 ?_
        exact rtC_i C0 hr hlk hR hS h dX8_byteAt_33
      · have h := h.2 c3
        exact Bw_X8_byteAt_19 C0 hr hlk hT S _ _ _ h hR hS (lv_sub hl [] rfl)

def rm_X8_takeWord : Room := { frames := 4, cells := 0, slots := 0, locals := 85 }
def B_X8_takeWord_74 (a1 : Nat) (S : sSt) (k : Int32 → sSt → Prop) : Prop := F_X8_moveTo ((S.1 1 0 3) + (nI (lenTx.getD a1 0))) S (fun S7 => k 1 S7)
set_option maxHeartbeats 4000000 in
set_option maxRecDepth 100000 in
theorem Bw_X8_takeWord_74 {p : Program} {l : Launch} {e : Env} {s : State} {m : MethodId} {args : Array Value} {below : List Frame} {meth : Method} {c : Code} {D : va_G} {cy : Nat → ClassId} {b z : Nat} {tx : TX} (C0 : CallFix p m c cX8_takeWord 3 s args TB RX8) (hr : meth.sig.returnType = (some .boolean)) (hlk : meth.locks = false) (hT : TxR tx s) {k : Int32 → sSt → Prop} : ∀ (a1 : Nat) (S : sSt) (H : Heap) (locs : List Loc) (ls : Array Slot) (av1 : a1 < nTx), B_X8_takeWord_74 a1 S k → RelC D cy b z tx S s H → va_S (gA b 709 z) s.heap H locs → lv_has ls 3 [(0, .ref (b + adC 1 0)), (1, .ref (tx.2.1 a1))] → W p l e rm_X8_takeWord s m args below meth c H locs 0 0 (MQ below (PiC D cy b z tx k) args s 0 0 (gA b 709 z)) (F0 m 74 ls []) := by
  intro a1 S H locs ls av1 h hR hS hl
  have hx := C0.1
  have hb := C0.2.1
  unfold B_X8_takeWord_74 at h
  refine lv_aload_n hx hb dX8_takeWord_74 rfl (lv_at hl 0 rfl) ?_
  refine lv_aload_n hx hb dX8_takeWord_75 rfl (lv_at hl 0 rfl) ?_
  refine gC_1_3 C0 hR Nat.zero_lt_one tbs_wsX80 mC1_1_46 dX8_takeWord_76 ?_
  refine lv_aload_n hx hb dX8_takeWord_79 rfl (lv_at hl 1 rfl) ?_
  refine q_Jv (As := []) (rest := [.int (S.1 1 0 3), .ref (b + adC 1 0)]) C0 (c_J_length l av1) (cwV 0 C0.2.2.2.2 (tbV mC1_3_145 ⟨mC1_3_146, mC1_3_147, mC1_1_14, mC1_3_148⟩) rfl rfl rfl (by decide +kernel) ⟨Nat.le_of_ble_eq_true rfl, Nat.le_of_ble_eq_true rfl⟩) (tx_recv hR.2.2.2.2 av1) hR.2.2.2.2 hS rfl hl.1 rfl (Nat.le_of_ble_eq_true rfl) dX8_takeWord_80 ⟨Nat.zero_le _, Nat.zero_le _⟩ (fun H locs hz9 hq9 hS => ?_)
  have hR := hR.stay hz9 hq9
  refine lv_iadd hx hb dX8_takeWord_83 ?_
  refine qC_Vv (As := [.int ((S.1 1 0 3) + (nI (lenTx.getD a1 0)))]) (rest := []) C0 (c_X8_moveTo l h) (cwV 1 C0.2.2.2.2 (tbV mC1_3_129 ⟨mC1_3_131, mpC1_1_2, mC1_1_2, mC1_3_132⟩) rfl rfl rfl (by decide +kernel) ⟨Nat.le_of_ble_eq_true rfl, Nat.le_of_ble_eq_true rfl⟩) (rcC_1 hR Nat.zero_lt_one) hR hT hS rfl hl.1 rfl (Nat.le_of_ble_eq_true rfl) dX8_takeWord_84 ⟨Nat.zero_le _, Nat.zero_le _⟩ (fun S7 H locs h hR hS => ?_)
  refine lv_iconst (v := 1) hx hb dX8_takeWord_87 (by decide) ?_
  exact rtC_z C0 hr hlk hR hS (by decide) h dX8_takeWord_88
def Bb_X8_takeWord_12 (kk12 : Nat → Int32 → sSt → Prop) (a1 : Nat) (a2 : Int32) (S : sSt) (k : Int32 → sSt → Prop) : Prop := (((nI (lenTx.getD a1 0)) ≤ a2 → F_X8_byteAt ((S.1 1 0 3) + (nI (lenTx.getD a1 0))) S (fun r3 S4 => ((r3 < 97 → B_X8_takeWord_74 a1 S4 k) ∧ (¬ r3 < 97 → ((122 < r3 → B_X8_takeWord_74 a1 S4 k) ∧ (¬ 122 < r3 → k 0 S4)))))) ∧ (¬ (nI (lenTx.getD a1 0)) ≤ a2 → F_X8_byteAt ((S.1 1 0 3) + a2) S (fun r9 S10 => ix a2 (lenTx.getD a1 0) (fun j11 => ((r9 = (chTx a1 j11) → ∀ x13 : Int32, x13 = a2 + 1 → kk12 a1 x13 S10) ∧ (¬ r9 = (chTx a1 j11) → k 0 S10))))))
set_option maxHeartbeats 4000000 in
set_option maxRecDepth 100000 in
theorem Bbw_X8_takeWord_12 {p : Program} {l : Launch} {e : Env} {s : State} {m : MethodId} {args : Array Value} {below : List Frame} {meth : Method} {c : Code} {D : va_G} {cy : Nat → ClassId} {b z : Nat} {tx : TX} (C0 : CallFix p m c cX8_takeWord 3 s args TB RX8) (hr : meth.sig.returnType = (some .boolean)) (hlk : meth.locks = false) (hT : TxR tx s) {k : Int32 → sSt → Prop} {kk12 : Nat → Int32 → sSt → Prop} (ih12 : ∀ (a1 : Nat) (a2 : Int32) (S : sSt) (H : Heap) (locs : List Loc) (ls : Array Slot) (av1 : a1 < nTx), kk12 a1 a2 S → RelC D cy b z tx S s H → va_S (gA b 709 z) s.heap H locs → lv_has ls 3 [(0, .ref (b + adC 1 0)), (1, .ref (tx.2.1 a1)), (2, .int a2)] → W p l e rm_X8_takeWord s m args below meth c H locs 0 0 (MQ below (PiC D cy b z tx k) args s 0 0 (gA b 709 z)) (F0 m 12 ls [])) : ∀ (a1 : Nat) (a2 : Int32) (S : sSt) (H : Heap) (locs : List Loc) (ls : Array Slot) (av1 : a1 < nTx), Bb_X8_takeWord_12 kk12 a1 a2 S k → RelC D cy b z tx S s H → va_S (gA b 709 z) s.heap H locs → lv_has ls 3 [(0, .ref (b + adC 1 0)), (1, .ref (tx.2.1 a1)), (2, .int a2)] → W p l e rm_X8_takeWord s m args below meth c H locs 0 0 (MQ below (PiC D cy b z tx k) args s 0 0 (gA b 709 z)) (F0 m 12 ls []) := by
  intro a1 a2 S H locs ls av1 h hR hS hl
  have hx := C0.1
  have hb := C0.2.1
  unfold Bb_X8_takeWord_12 at h
  refine lv_iload_n hx hb dX8_takeWord_12 rfl (lv_at hl 2 rfl) ?_
  refine lv_aload_n hx hb dX8_takeWord_13 rfl (lv_at hl 1 rfl) ?_
  refine q_Jv (As := []) (rest := [.int a2]) C0 (c_J_length l av1) (cwV 0 C0.2.2.2.2 (tbV mC1_3_145 ⟨mC1_3_146, mC1_3_147, mC1_1_14, mC1_3_148⟩) rfl rfl rfl (by decide +kernel) ⟨Nat.le_of_ble_eq_true rfl, Nat.le_of_ble_eq_true rfl⟩) (tx_recv hR.2.2.2.2 av1) hR.2.2.2.2 hS rfl hl.1 rfl (Nat.le_of_ble_eq_true rfl) dX8_takeWord_14 ⟨Nat.zero_le _, Nat.zero_le _⟩ (fun H locs hz9 hq9 hS => ?_)
  have hR := hR.stay hz9 hq9
  refine lv_icmp_ge (tgt := 46) hx hb dX8_takeWord_17 (by decide) (fun c2 => ?_) (fun c2 => ?_)
  · have h := h.1 c2
    refine lv_aload_n hx hb dX8_takeWord_46 rfl (lv_at hl 0 rfl) ?_
    refine lv_aload_n hx hb dX8_takeWord_47 rfl (lv_at hl 0 rfl) ?_
    refine gC_1_3 C0 hR Nat.zero_lt_one tbs_wsX80 mC1_1_46 dX8_takeWord_48 ?_
    refine lv_aload_n hx hb dX8_takeWord_51 rfl (lv_at hl 1 rfl) ?_
    refine q_Jv (As := []) (rest := [.int (S.1 1 0 3), .ref (b + adC 1 0)]) C0 (c_J_length l av1) (cwV 0 C0.2.2.2.2 (tbV mC1_3_145 ⟨mC1_3_146, mC1_3_147, mC1_1_14, mC1_3_148⟩) rfl rfl rfl (by decide +kernel) ⟨Nat.le_of_ble_eq_true rfl, Nat.le_of_ble_eq_true rfl⟩) (tx_recv hR.2.2.2.2 av1) hR.2.2.2.2 hS rfl hl.1 rfl (Nat.le_of_ble_eq_true rfl) dX8_takeWord_52 ⟨Nat.zero_le _, Nat.zero_le _⟩ (fun H locs hz9 hq9 hS => ?_)
    have hR := hR.stay hz9 hq9
    refine lv_iadd hx hb dX8_takeWord_55 ?_
    refine qC_Vi (As := [.int ((S.1 1 0 3) + (nI (lenTx.getD a1 0)))]) (rest := []) C0 (c_X8_byteAt l h) (cwV 1 C0.2.2.2.2 (tbV mC1_3_155 ⟨mC1_3_157, mpC1_1_3, mC1_1_2, mC1_3_158⟩) rfl rfl rfl (by decide +kernel) ⟨Nat.le_of_ble_eq_true rfl, Nat.le_of_ble_eq_true rfl⟩) (rcC_1 hR Nat.zero_lt_one) hR hT hS rfl hl.1 rfl (Nat.le_of_ble_eq_true rfl) dX8_takeWord_56 ⟨Nat.zero_le _, Nat.zero_le _⟩ (fun r3 S4 H locs h hR hS => ?_)
    refine lv_istore_n (lv' := [(2, .int r3), (0, .ref (b + adC 1 0)), (1, .ref (tx.2.1 a1))]) hx hb dX8_takeWord_59 rfl hl (by decide) rfl (fun ls hl => ?_)
    refine lv_iload_n hx hb dX8_takeWord_60 rfl (lv_at hl 0 rfl) ?_
    refine lv_bipush (v := 97) hx hb dX8_takeWord_61 (by decide) ?_
    refine lv_icmp_lt (tgt := 74) hx hb dX8_takeWord_63 (by decide) (fun c5 => ?_) (fun c5 => ?_)
    · have h := h.1 c5
      exact Bw_X8_takeWord_74 C0 hr hlk hT a1 S4 _ _ _ av1 h hR hS (lv_sub hl [1, 2] rfl)
    · have h := h.2 c5
      refine lv_iload_n hx hb dX8_takeWord_66 rfl (lv_at hl 0 rfl) ?_
      refine lv_bipush (v := 122) hx hb dX8_takeWord_67 (by decide) ?_
      refine lv_icmp_gt (tgt := 74) hx hb dX8_takeWord_69 (by decide) (fun c8 => ?_) (fun c8 => ?_)
      · have h := h.1 c8
        exact Bw_X8_takeWord_74 C0 hr hlk hT a1 S4 _ _ _ av1 h hR hS (lv_sub hl [1, 2] rfl)
      · have h := h.2 c8
        refine lv_iconst (v := 0) hx hb dX8_takeWord_72 (by decide) ?_
        exact rtC_z C0 hr hlk hR hS (by decide) h dX8_takeWord_73
  · have h := h.2 c2
    refine lv_aload_n hx hb dX8_takeWord_20 rfl (lv_at hl 0 rfl) ?_
    refine lv_aload_n hx hb dX8_takeWord_21 rfl (lv_at hl 0 rfl) ?_
    refine gC_1_3 C0 hR Nat.zero_lt_one tbs_wsX80 mC1_1_46 dX8_takeWord_22 ?_
    refine lv_iload_n hx hb dX8_takeWord_25 rfl (lv_at hl 2 rfl) ?_
    refine lv_iadd hx hb dX8_takeWord_26 ?_
    refine qC_Vi (As := [.int ((S.1 1 0 3) + a2)]) (rest := []) C0 (c_X8_byteAt l h) (cwV 1 C0.2.2.2.2 (tbV mC1_3_155 ⟨mC1_3_157, mpC1_1_3, mC1_1_2, mC1_3_158⟩) rfl rfl rfl (by decide +kernel) ⟨Nat.le_of_ble_eq_true rfl, Nat.le_of_ble_eq_true rfl⟩) (rcC_1 hR Nat.zero_lt_one) hR hT hS rfl hl.1 rfl (Nat.le_of_ble_eq_true rfl) dX8_takeWord_27 ⟨Nat.zero_le _, Nat.zero_le _⟩ (fun r9 S10 H locs h hR hS => ?_)
    refine lv_aload_n hx hb dX8_takeWord_30 rfl (lv_at hl 1 rfl) ?_
    refine lv_iload_n hx hb dX8_takeWord_31 rfl (lv_at hl 2 rfl) ?_
    obtain ⟨j11, hj11, ej11, h⟩ := h
    refine lv_eqi ej11 ?_
    refine q_Jv (As := [.int (nI j11)]) (rest := [.int r9]) C0 (c_J_char l av1 hj11) (cwV 1 C0.2.2.2.2 (tbV mC1_3_159 ⟨mC1_3_160, mC1_3_161, mC1_1_14, mC1_3_162⟩) rfl rfl rfl (by decide +kernel) ⟨Nat.le_of_ble_eq_true rfl, Nat.le_of_ble_eq_true rfl⟩) (tx_recv hR.2.2.2.2 av1) hR.2.2.2.2 hS rfl hl.1 rfl (Nat.le_of_ble_eq_true rfl) dX8_takeWord_32 ⟨Nat.zero_le _, Nat.zero_le _⟩ (fun H locs hz9 hq9 hS => ?_)
    have hR := hR.stay hz9 hq9
    refine lv_icmp_eq (tgt := 40) hx hb dX8_takeWord_35 (by decide) (fun c12 => ?_) (fun c12 => ?_)
    · have h := h.1 c12
      obtain ⟨x13, ex13⟩ : ∃ x13 : Int32, x13 = a2 + 1 := ⟨_, rfl⟩
      have h := h x13 ex13
      refine w_iinc (v0 := 1) (lv' := [(2, .int x13), (0, .ref (b + adC 1 0)), (1, .ref (tx.2.1 a1))]) C0 dX8_takeWord_40 hl (k := 2) rfl (by decide) (by decide) x13 ex13 rfl (fun ls hl => ?_)
      refine lv_goto (tgt := 12) hx hb dX8_takeWord_43 (by decide) ?_
      exact ih12 a1 x13 S10 _ _ _ av1 h hR hS (lv_sub hl [1, 2, 0] rfl)
    · have h := h.2 c12
      refine lv_iconst (v := 0) hx hb dX8_takeWord_38 (by decide) ?_
      exact rtC_z C0 hr hlk hR hS (by decide) h dX8_takeWord_39
def B_X8_takeWord_12 (n9 : Nat) (a1 : Nat) (a2 : Int32) (S : sSt) (k : Int32 → sSt → Prop) : Prop := (Nat.rec (motive := fun _ => Nat → Int32 → sSt → Prop) (fun _ _ _ => False) (fun _ r9 => fun a1 a2 S => Bb_X8_takeWord_12 r9 a1 a2 S k) n9 : Nat → Int32 → sSt → Prop) a1 a2 S
theorem B_X8_takeWord_12_s (n9 : Nat) (a1 : Nat) (a2 : Int32) (S : sSt) (k : Int32 → sSt → Prop) : B_X8_takeWord_12 (n9 + 1) a1 a2 S k = Bb_X8_takeWord_12 (fun a1 a2 S => B_X8_takeWord_12 n9 a1 a2 S k) a1 a2 S k := rfl
set_option maxHeartbeats 4000000 in
set_option maxRecDepth 100000 in
theorem Bw_X8_takeWord_12 {p : Program} {l : Launch} {e : Env} {s : State} {m : MethodId} {args : Array Value} {below : List Frame} {meth : Method} {c : Code} {D : va_G} {cy : Nat → ClassId} {b z : Nat} {tx : TX} (C0 : CallFix p m c cX8_takeWord 3 s args TB RX8) (hr : meth.sig.returnType = (some .boolean)) (hlk : meth.locks = false) (hT : TxR tx s) {k : Int32 → sSt → Prop} : ∀ (n9 : Nat), ∀ (a1 : Nat) (a2 : Int32) (S : sSt) (H : Heap) (locs : List Loc) (ls : Array Slot) (av1 : a1 < nTx), B_X8_takeWord_12 n9 a1 a2 S k → RelC D cy b z tx S s H → va_S (gA b 709 z) s.heap H locs → lv_has ls 3 [(0, .ref (b + adC 1 0)), (1, .ref (tx.2.1 a1)), (2, .int a2)] → W p l e rm_X8_takeWord s m args below meth c H locs 0 0 (MQ below (PiC D cy b z tx k) args s 0 0 (gA b 709 z)) (F0 m 12 ls []) := by
  intro n9
  induction n9 with
  | zero => intro a1 a2 S H locs ls av1 h; exact h.elim
  | succ n9 ih =>
    intro a1 a2 S H locs ls av1 h hR hS hl
    exact Bbw_X8_takeWord_12 C0 hr hlk hT ih a1 a2 S H locs ls av1 h hR hS hl
def F_X8_takeWord (a1 : Nat) (S : sSt) (k : Int32 → sSt → Prop) : Prop := (((S.1 1 0 4) = (-1) → B_X8_takeWord_12 fuel a1 0 S k) ∧ (¬ (S.1 1 0 4) = (-1) → k 0 S))
set_option maxHeartbeats 4000000 in
set_option maxRecDepth 100000 in
theorem c_X8_takeWord (l : Launch) {D : va_G} {cy : Nat → ClassId} {b z : Nat} {tx : TX} {a1 : Nat} {S : sSt} {k : Int32 → sSt → Prop} (av1 : a1 < nTx) (h : F_X8_takeWord a1 S k) : Met l yX8_takeWord (Cond.code yX8_takeWord cX8_takeWord 3 (some .boolean) :: TB) rm_X8_takeWord (va_Pc [.ref (b + adC 1 0), .ref (tx.2.1 a1)] (fun U => RelC D cy b z tx S U U.heap ∧ TxR tx U)) (PiC D cy b z tx k) 0 0 (gA b 709 z) := by
  refine Met.ofW (cc := cX8_takeWord) (maxL := 3) (ret := (some .boolean)) (by decide) rfl ?_
  intro p e s m args below meth c s₁ B hml hv
  obtain ⟨rfl, hR, hT⟩ := hv
  have C0 : CallFix p m c cX8_takeWord 3 s _ TB RX8 := ⟨B.exec, B.bytes, hml, findClass_of_methodNamed B.named, fun w hw => atoms_spec B.pre w (List.mem_cons_of_mem _ hw)⟩
  have hr := B.returns
  have hlk := B.notSynchronized
  have hx := C0.1
  have hb := C0.2.1
  have hS : va_S (gA b 709 z) s.heap s.heap [] := va_S.rf
  have hl := lv_entry ([.ref (b + adC 1 0), .ref (tx.2.1 a1)]) (n := 3) (Nat.le_of_ble_eq_true rfl)
  rw [lg_entry_eq]
  generalize (lg_sl ([.ref (b + adC 1 0), .ref (tx.2.1 a1)]) ++ List.replicate (3 - (lg_sl ([.ref (b + adC 1 0), .ref (tx.2.1 a1)])).length) Slot.unset).toArray = ls at hl ⊢
  have hl : lv_has ls 3 [(0, .ref (b + adC 1 0)), (1, .ref (tx.2.1 a1))] := hl
  show W p l e rm_X8_takeWord s m _ below meth c s.heap [] 0 0 (MQ below (PiC D cy b z tx k) _ s 0 0 (gA b 709 z)) _
  unfold F_X8_takeWord at h
  refine lv_aload_n hx hb dX8_takeWord_0 rfl (lv_at hl 0 rfl) ?_
  refine gC_1_4 C0 hR Nat.zero_lt_one tbs_wsX80 mC1_1_47 dX8_takeWord_1 ?_
  refine lv_iconst (v := (-1)) hx hb dX8_takeWord_4 (by decide) ?_
  refine lv_icmp_eq (tgt := 10) hx hb dX8_takeWord_5 (by decide) (fun c1 => ?_) (fun c1 => ?_)
  · have h := h.1 c1
    refine lv_iconst (v := 0) hx hb dX8_takeWord_10 (by decide) ?_
    refine lv_istore_n (lv' := [(2, .int 0), (0, .ref (b + adC 1 0)), (1, .ref (tx.2.1 a1))]) hx hb dX8_takeWord_11 rfl hl (by decide) rfl (fun ls hl => ?_)
    exact Bw_X8_takeWord_12 C0 hr hlk hT fuel a1 0 S _ _ _ av1 h hR hS (lv_sub hl [1, 2, 0] rfl)
  · have h := h.2 c1
    refine lv_iconst (v := 0) hx hb dX8_takeWord_8 (by decide) ?_
    exact rtC_z C0 hr hlk hR hS (by decide) h dX8_takeWord_9

def rm_X8_refuse : Room := { frames := 0, cells := 0, slots := 0, locals := 0 }
def F_X8_refuse (S : sSt) (k : sSt → Prop) : Prop := ((¬ (S.1 1 0 4) = (-1) → k S) ∧ ((S.1 1 0 4) = (-1) → ∀ S2, S2 = uI S 1 0 4 (S.1 1 0 3) → k S2))
set_option maxHeartbeats 4000000 in
set_option maxRecDepth 100000 in
theorem c_X8_refuse (l : Launch) {D : va_G} {cy : Nat → ClassId} {b z : Nat} {tx : TX} {S : sSt} {k : sSt → Prop} (h : F_X8_refuse S k) : Met l yX8_refuse (Cond.code yX8_refuse cX8_refuse 1 none :: TB) rm_X8_refuse (va_Pc [.ref (b + adC 1 0)] (fun U => RelC D cy b z tx S U U.heap ∧ TxR tx U)) (PvC D cy b z tx k) 0 0 (gA b 709 z) := by
  refine Met.ofW (cc := cX8_refuse) (maxL := 1) (ret := none) (by decide) rfl ?_
  intro p e s m args below meth c s₁ B hml hv
  obtain ⟨rfl, hR, hT⟩ := hv
  have C0 : CallFix p m c cX8_refuse 1 s _ TB RX8 := ⟨B.exec, B.bytes, hml, findClass_of_methodNamed B.named, fun w hw => atoms_spec B.pre w (List.mem_cons_of_mem _ hw)⟩
  have hr := B.returns
  have hlk := B.notSynchronized
  have hx := C0.1
  have hb := C0.2.1
  have hS : va_S (gA b 709 z) s.heap s.heap [] := va_S.rf
  have hl := lv_entry ([.ref (b + adC 1 0)]) (n := 1) (Nat.le_of_ble_eq_true rfl)
  rw [lg_entry_eq]
  generalize (lg_sl ([.ref (b + adC 1 0)]) ++ List.replicate (1 - (lg_sl ([.ref (b + adC 1 0)])).length) Slot.unset).toArray = ls at hl ⊢
  have hl : lv_has ls 1 [(0, .ref (b + adC 1 0))] := hl
  show W p l e rm_X8_refuse s m _ below meth c s.heap [] 0 0 (MQ below (PvC D cy b z tx k) _ s 0 0 (gA b 709 z)) _
  unfold F_X8_refuse at h
  refine lv_aload_n hx hb dX8_refuse_0 rfl (lv_at hl 0 rfl) ?_
  refine gC_1_4 C0 hR Nat.zero_lt_one tbs_wsX80 mC1_1_47 dX8_refuse_1 ?_
  refine lv_iconst (v := (-1)) hx hb dX8_refuse_4 (by decide) ?_
  refine lv_icmp_ne (tgt := 16) hx hb dX8_refuse_5 (by decide) (fun c1 => ?_) (fun c1 => ?_)
  · have h := h.1 c1
    exact rtC_v C0 hr hlk hR hS h dX8_refuse_16
  · have h := h.2 c1
    refine lv_aload_n hx hb dX8_refuse_8 rfl (lv_at hl 0 rfl) ?_
    refine lv_aload_n hx hb dX8_refuse_9 rfl (lv_at hl 0 rfl) ?_
    refine gC_1_3 C0 hR Nat.zero_lt_one tbs_wsX80 mC1_1_46 dX8_refuse_10 ?_
    refine pC_1_4 C0 hR hS Nat.zero_lt_one tbs_wsX80 mC1_1_47 dX8_refuse_13 (fun S2 eS2 H locs hR hS => ?_)
    have h := h S2 eS2
    exact rtC_v C0 hr hlk hR hS h dX8_refuse_16

def rm_X8_number : Room := { frames := 1, cells := 0, slots := 0, locals := 21 }
def B_X8_number_107 (S : sSt) (k : Int32 → sSt → Prop) : Prop := F_X8_refuse S (fun S7 => k (-1) S7)
set_option maxHeartbeats 4000000 in
set_option maxRecDepth 100000 in
theorem Bw_X8_number_107 {p : Program} {l : Launch} {e : Env} {s : State} {m : MethodId} {args : Array Value} {below : List Frame} {meth : Method} {c : Code} {D : va_G} {cy : Nat → ClassId} {b z : Nat} {tx : TX} (C0 : CallFix p m c cX8_number 7 s args TB RX8) (hr : meth.sig.returnType = (some .int)) (hlk : meth.locks = false) (hT : TxR tx s) {k : Int32 → sSt → Prop} : ∀ (S : sSt) (H : Heap) (locs : List Loc) (ls : Array Slot) , B_X8_number_107 S k → RelC D cy b z tx S s H → va_S (gA b 709 z) s.heap H locs → lv_has ls 7 [(0, .ref (b + adC 1 0))] → W p l e rm_X8_number s m args below meth c H locs 0 0 (MQ below (PiC D cy b z tx k) args s 0 0 (gA b 709 z)) (F0 m 107 ls []) := by
  intro S H locs ls h hR hS hl
  have hx := C0.1
  have hb := C0.2.1
  unfold B_X8_number_107 at h
  refine lv_aload_n hx hb dX8_number_107 rfl (lv_at hl 0 rfl) ?_
  refine qC_Vv (As := []) (rest := []) C0 (c_X8_refuse l h) (cwV 0 C0.2.2.2.2 (tbV mC1_3_206 ⟨mC1_3_207, mC1_3_208, mC1_1_2, mC1_3_209⟩) rfl rfl rfl (by decide +kernel) ⟨Nat.le_of_ble_eq_true rfl, Nat.le_of_ble_eq_true rfl⟩) (rcC_1 hR Nat.zero_lt_one) hR hT hS rfl hl.1 rfl (Nat.le_of_ble_eq_true rfl) dX8_number_108 ⟨Nat.zero_le _, Nat.zero_le _⟩ (fun S7 H locs h hR hS => ?_)
  refine lv_iconst (v := (-1)) hx hb dX8_number_111 (by decide) ?_
  exact rtC_i C0 hr hlk hR hS h dX8_number_112
def B_X8_number_92 (a3 : Int32) (a4 : Int32) (t0 : Int32) (S : sSt) (k : Int32 → sSt → Prop) : Prop := ((¬ (S.1 1 0 4) = (-1) → B_X8_number_107 S k) ∧ ((S.1 1 0 4) = (-1) → ((¬ t0 = 0 → F_X8_moveTo ((S.1 1 0 3) + a4) S (fun S10 => k a3 S10)) ∧ (t0 = 0 → B_X8_number_107 S k))))
set_option maxHeartbeats 4000000 in
set_option maxRecDepth 100000 in
theorem Bw_X8_number_92 {p : Program} {l : Launch} {e : Env} {s : State} {m : MethodId} {args : Array Value} {below : List Frame} {meth : Method} {c : Code} {D : va_G} {cy : Nat → ClassId} {b z : Nat} {tx : TX} (C0 : CallFix p m c cX8_number 7 s args TB RX8) (hr : meth.sig.returnType = (some .int)) (hlk : meth.locks = false) (hT : TxR tx s) {k : Int32 → sSt → Prop} : ∀ (a3 : Int32) (a4 : Int32) (t0 : Int32) (S : sSt) (H : Heap) (locs : List Loc) (ls : Array Slot) , B_X8_number_92 a3 a4 t0 S k → RelC D cy b z tx S s H → va_S (gA b 709 z) s.heap H locs → lv_has ls 7 [(0, .ref (b + adC 1 0)), (3, .int a3), (4, .int a4)] → W p l e rm_X8_number s m args below meth c H locs 0 0 (MQ below (PiC D cy b z tx k) args s 0 0 (gA b 709 z)) (F0 m 92 ls [.int t0]) := by
  intro a3 a4 t0 S H locs ls h hR hS hl
  have hx := C0.1
  have hb := C0.2.1
  unfold B_X8_number_92 at h
  refine lv_istore (lv' := [(6, .int t0), (0, .ref (b + adC 1 0)), (3, .int a3), (4, .int a4)]) hx hb dX8_number_92 hl (by decide) rfl (fun ls hl => ?_)
  refine lv_aload_n hx hb dX8_number_94 rfl (lv_at hl 1 rfl) ?_
  refine gC_1_4 C0 hR Nat.zero_lt_one tbs_wsX80 mC1_1_47 dX8_number_95 ?_
  refine lv_iconst (v := (-1)) hx hb dX8_number_98 (by decide) ?_
  refine lv_icmp_ne (tgt := 107) hx hb dX8_number_99 (by decide) (fun c5 => ?_) (fun c5 => ?_)
  · have h := h.1 c5
    exact Bw_X8_number_107 C0 hr hlk hT S _ _ _ h hR hS (lv_sub hl [1] rfl)
  · have h := h.2 c5
    refine lv_iload hx hb dX8_number_102 (lv_at hl 0 rfl) ?_
    refine lv_if_ne (tgt := 113) hx hb dX8_number_104 (by decide) (fun c8 => ?_) (fun c8 => ?_)
    · have h := h.1 c8
      refine lv_aload_n hx hb dX8_number_113 rfl (lv_at hl 1 rfl) ?_
      refine lv_aload_n hx hb dX8_number_114 rfl (lv_at hl 1 rfl) ?_
      refine gC_1_3 C0 hR Nat.zero_lt_one tbs_wsX80 mC1_1_46 dX8_number_115 ?_
      refine lv_iload hx hb dX8_number_118 (lv_at hl 3 rfl) ?_
      refine lv_iadd hx hb dX8_number_120 ?_
      refine qC_Vv (As := [.int ((S.1 1 0 3) + a4)]) (rest := []) C0 (c_X8_moveTo l h) (cwV 1 C0.2.2.2.2 (tbV mC1_3_129 ⟨mC1_3_131, mpC1_1_2, mC1_1_2, mC1_3_132⟩) rfl rfl rfl (by decide +kernel) ⟨Nat.le_of_ble_eq_true rfl, Nat.le_of_ble_eq_true rfl⟩) (rcC_1 hR Nat.zero_lt_one) hR hT hS rfl hl.1 rfl (Nat.le_of_ble_eq_true rfl) dX8_number_121 ⟨Nat.zero_le _, Nat.zero_le _⟩ (fun S10 H locs h hR hS => ?_)
      refine lv_iload_n hx hb dX8_number_124 rfl (lv_at hl 2 rfl) ?_
      exact rtC_i C0 hr hlk hR hS h dX8_number_125
    · have h := h.2 c8
      exact Bw_X8_number_107 C0 hr hlk hT S _ _ _ h hR hS (lv_sub hl [1] rfl)
def B_X8_number_91 (a3 : Int32) (a4 : Int32) (S : sSt) (k : Int32 → sSt → Prop) : Prop := B_X8_number_92 a3 a4 0 S k
set_option maxHeartbeats 4000000 in
set_option maxRecDepth 100000 in
theorem Bw_X8_number_91 {p : Program} {l : Launch} {e : Env} {s : State} {m : MethodId} {args : Array Value} {below : List Frame} {meth : Method} {c : Code} {D : va_G} {cy : Nat → ClassId} {b z : Nat} {tx : TX} (C0 : CallFix p m c cX8_number 7 s args TB RX8) (hr : meth.sig.returnType = (some .int)) (hlk : meth.locks = false) (hT : TxR tx s) {k : Int32 → sSt → Prop} : ∀ (a3 : Int32) (a4 : Int32) (S : sSt) (H : Heap) (locs : List Loc) (ls : Array Slot) , B_X8_number_91 a3 a4 S k → RelC D cy b z tx S s H → va_S (gA b 709 z) s.heap H locs → lv_has ls 7 [(0, .ref (b + adC 1 0)), (3, .int a3), (4, .int a4)] → W p l e rm_X8_number s m args below meth c H locs 0 0 (MQ below (PiC D cy b z tx k) args s 0 0 (gA b 709 z)) (F0 m 91 ls []) := by
  intro a3 a4 S H locs ls h hR hS hl
  have hx := C0.1
  have hb := C0.2.1
  unfold B_X8_number_91 at h
  refine lv_iconst (v := 0) hx hb dX8_number_91 (by decide) ?_
  exact Bw_X8_number_92 C0 hr hlk hT a3 a4 0 S _ _ _ h hR hS (lv_sub hl [0, 1, 2] rfl)
def B_X8_number_65 (a1 : Int32) (a2 : Int32) (a3 : Int32) (a4 : Int32) (S : sSt) (k : Int32 → sSt → Prop) : Prop := ((a4 < 1 → B_X8_number_91 a3 a4 S k) ∧ (¬ a4 < 1 → ((3 < a4 → B_X8_number_91 a3 a4 S k) ∧ (¬ 3 < a4 → ((a3 < a1 → B_X8_number_91 a3 a4 S k) ∧ (¬ a3 < a1 → ((a2 < a3 → B_X8_number_91 a3 a4 S k) ∧ (¬ a2 < a3 → B_X8_number_92 a3 a4 1 S k))))))))
set_option maxHeartbeats 4000000 in
set_option maxRecDepth 100000 in
theorem Bw_X8_number_65 {p : Program} {l : Launch} {e : Env} {s : State} {m : MethodId} {args : Array Value} {below : List Frame} {meth : Method} {c : Code} {D : va_G} {cy : Nat → ClassId} {b z : Nat} {tx : TX} (C0 : CallFix p m c cX8_number 7 s args TB RX8) (hr : meth.sig.returnType = (some .int)) (hlk : meth.locks = false) (hT : TxR tx s) {k : Int32 → sSt → Prop} : ∀ (a1 : Int32) (a2 : Int32) (a3 : Int32) (a4 : Int32) (S : sSt) (H : Heap) (locs : List Loc) (ls : Array Slot) , B_X8_number_65 a1 a2 a3 a4 S k → RelC D cy b z tx S s H → va_S (gA b 709 z) s.heap H locs → lv_has ls 7 [(0, .ref (b + adC 1 0)), (1, .int a1), (2, .int a2), (3, .int a3), (4, .int a4)] → W p l e rm_X8_number s m args below meth c H locs 0 0 (MQ below (PiC D cy b z tx k) args s 0 0 (gA b 709 z)) (F0 m 65 ls []) := by
  intro a1 a2 a3 a4 S H locs ls h hR hS hl
  have hx := C0.1
  have hb := C0.2.1
  unfold B_X8_number_65 at h
  refine lv_iload hx hb dX8_number_65 (lv_at hl 4 rfl) ?_
  refine lv_iconst (v := 1) hx hb dX8_number_67 (by decide) ?_
  refine lv_icmp_lt (tgt := 91) hx hb dX8_number_68 (by decide) (fun c4 => ?_) (fun c4 => ?_)
  · have h := h.1 c4
    exact Bw_X8_number_91 C0 hr hlk hT a3 a4 S _ _ _ h hR hS (lv_sub hl [0, 3, 4] rfl)
  · have h := h.2 c4
    refine lv_iload hx hb dX8_number_71 (lv_at hl 4 rfl) ?_
    refine lv_iconst (v := 3) hx hb dX8_number_73 (by decide) ?_
    refine lv_icmp_gt (tgt := 91) hx hb dX8_number_74 (by decide) (fun c11 => ?_) (fun c11 => ?_)
    · have h := h.1 c11
      exact Bw_X8_number_91 C0 hr hlk hT a3 a4 S _ _ _ h hR hS (lv_sub hl [0, 3, 4] rfl)
    · have h := h.2 c11
      refine lv_iload_n hx hb dX8_number_77 rfl (lv_at hl 3 rfl) ?_
      refine lv_iload_n hx hb dX8_number_78 rfl (lv_at hl 1 rfl) ?_
      refine lv_icmp_lt (tgt := 91) hx hb dX8_number_79 (by decide) (fun c12 => ?_) (fun c12 => ?_)
      · have h := h.1 c12
        exact Bw_X8_number_91 C0 hr hlk hT a3 a4 S _ _ _ h hR hS (lv_sub hl [0, 3, 4] rfl)
      · have h := h.2 c12
        refine lv_iload_n hx hb dX8_number_82 rfl (lv_at hl 3 rfl) ?_
        refine lv_iload_n hx hb dX8_number_83 rfl (lv_at hl 2 rfl) ?_
        refine lv_icmp_gt (tgt := 91) hx hb dX8_number_84 (by decide) (fun c13 => ?_) (fun c13 => ?_)
        · have h := h.1 c13
          exact Bw_X8_number_91 C0 hr hlk hT a3 a4 S _ _ _ h hR hS (lv_sub hl [0, 3, 4] rfl)
        · have h := h.2 c13
          refine lv_iconst (v := 1) hx hb dX8_number_87 (by decide) ?_
          refine lv_goto (tgt := 92) hx hb dX8_number_88 (by decide) ?_
          exact Bw_X8_number_92 C0 hr hlk hT a3 a4 1 S _ _ _ h hR hS (lv_sub hl [0, 3, 4] rfl)
def Bb_X8_number_15 (kk15 : Int32 → Int32 → Int32 → Int32 → Int32 → sSt → Prop) (a1 : Int32) (a2 : Int32) (a3 : Int32) (a4 : Int32) (a5 : Int32) (S : sSt) (k : Int32 → sSt → Prop) : Prop := ((3 < a4 → B_X8_number_65 a1 a2 a3 a4 S k) ∧ (¬ 3 < a4 → ((a5 < 48 → B_X8_number_65 a1 a2 a3 a4 S k) ∧ (¬ a5 < 48 → ((57 < a5 → B_X8_number_65 a1 a2 a3 a4 S k) ∧ (¬ 57 < a5 → ∀ x16 : Int32, x16 = (((a3 * 10) + a5) - 48) → ∀ x17 : Int32, x17 = a4 + 1 → F_X8_byteAt ((S.1 1 0 3) + x17) S (fun r18 S19 => kk15 a1 a2 x16 x17 r18 S19)))))))
set_option maxHeartbeats 4000000 in
set_option maxRecDepth 100000 in
theorem Bbw_X8_number_15 {p : Program} {l : Launch} {e : Env} {s : State} {m : MethodId} {args : Array Value} {below : List Frame} {meth : Method} {c : Code} {D : va_G} {cy : Nat → ClassId} {b z : Nat} {tx : TX} (C0 : CallFix p m c cX8_number 7 s args TB RX8) (hr : meth.sig.returnType = (some .int)) (hlk : meth.locks = false) (hT : TxR tx s) {k : Int32 → sSt → Prop} {kk15 : Int32 → Int32 → Int32 → Int32 → Int32 → sSt → Prop} (ih15 : ∀ (a1 : Int32) (a2 : Int32) (a3 : Int32) (a4 : Int32) (a5 : Int32) (S : sSt) (H : Heap) (locs : List Loc) (ls : Array Slot) , kk15 a1 a2 a3 a4 a5 S → RelC D cy b z tx S s H → va_S (gA b 709 z) s.heap H locs → lv_has ls 7 [(0, .ref (b + adC 1 0)), (1, .int a1), (2, .int a2), (3, .int a3), (4, .int a4), (5, .int a5)] → W p l e rm_X8_number s m args below meth c H locs 0 0 (MQ below (PiC D cy b z tx k) args s 0 0 (gA b 709 z)) (F0 m 15 ls [])) : ∀ (a1 : Int32) (a2 : Int32) (a3 : Int32) (a4 : Int32) (a5 : Int32) (S : sSt) (H : Heap) (locs : List Loc) (ls : Array Slot) , Bb_X8_number_15 kk15 a1 a2 a3 a4 a5 S k → RelC D cy b z tx S s H → va_S (gA b 709 z) s.heap H locs → lv_has ls 7 [(0, .ref (b + adC 1 0)), (1, .int a1), (2, .int a2), (3, .int a3), (4, .int a4), (5, .int a5)] → W p l e rm_X8_number s m args below meth c H locs 0 0 (MQ below (PiC D cy b z tx k) args s 0 0 (gA b 709 z)) (F0 m 15 ls []) := by
  intro a1 a2 a3 a4 a5 S H locs ls h hR hS hl
  have hx := C0.1
  have hb := C0.2.1
  unfold Bb_X8_number_15 at h
  refine lv_iload hx hb dX8_number_15 (lv_at hl 4 rfl) ?_
  refine lv_iconst (v := 3) hx hb dX8_number_17 (by decide) ?_
  refine lv_icmp_gt (tgt := 65) hx hb dX8_number_18 (by decide) (fun c3 => ?_) (fun c3 => ?_)
  · have h := h.1 c3
    exact Bw_X8_number_65 C0 hr hlk hT a1 a2 a3 a4 S _ _ _ h hR hS (lv_sub hl [0, 1, 2, 3, 4] rfl)
  · have h := h.2 c3
    refine lv_iload hx hb dX8_number_21 (lv_at hl 5 rfl) ?_
    refine lv_bipush (v := 48) hx hb dX8_number_23 (by decide) ?_
    refine lv_icmp_lt (tgt := 65) hx hb dX8_number_25 (by decide) (fun c14 => ?_) (fun c14 => ?_)
    · have h := h.1 c14
      exact Bw_X8_number_65 C0 hr hlk hT a1 a2 a3 a4 S _ _ _ h hR hS (lv_sub hl [0, 1, 2, 3, 4] rfl)
    · have h := h.2 c14
      refine lv_iload hx hb dX8_number_28 (lv_at hl 5 rfl) ?_
      refine lv_bipush (v := 57) hx hb dX8_number_30 (by decide) ?_
      refine lv_icmp_gt (tgt := 65) hx hb dX8_number_32 (by decide) (fun c15 => ?_) (fun c15 => ?_)
      · have h := h.1 c15
        exact Bw_X8_number_65 C0 hr hlk hT a1 a2 a3 a4 S _ _ _ h hR hS (lv_sub hl [0, 1, 2, 3, 4] rfl)
      · have h := h.2 c15
        refine lv_iload_n hx hb dX8_number_35 rfl (lv_at hl 3 rfl) ?_
        refine lv_bipush (v := 10) hx hb dX8_number_36 (by decide) ?_
        refine lv_imul hx hb dX8_number_38 ?_
        refine lv_iload hx hb dX8_number_39 (lv_at hl 5 rfl) ?_
        refine lv_iadd hx hb dX8_number_41 ?_
        refine lv_bipush (v := 48) hx hb dX8_number_42 (by decide) ?_
        refine lv_isub hx hb dX8_number_44 ?_
        refine lv_topi (fun x16 ex16 => ?_)
        have h := h x16 ex16
        refine lv_istore_n (lv' := [(3, .int x16), (0, .ref (b + adC 1 0)), (1, .int a1), (2, .int a2), (4, .int a4), (5, .int a5)]) hx hb dX8_number_45 rfl hl (by decide) rfl (fun ls hl => ?_)
        obtain ⟨x17, ex17⟩ : ∃ x17 : Int32, x17 = a4 + 1 := ⟨_, rfl⟩
        have h := h x17 ex17
        refine w_iinc (v0 := 1) (lv' := [(4, .int x17), (3, .int x16), (0, .ref (b + adC 1 0)), (1, .int a1), (2, .int a2), (5, .int a5)]) C0 dX8_number_46 hl (k := 4) rfl (by decide) (by decide) x17 ex17 rfl (fun ls hl => ?_)
        refine lv_aload_n hx hb dX8_number_49 rfl (lv_at hl 2 rfl) ?_
        refine lv_aload_n hx hb dX8_number_50 rfl (lv_at hl 2 rfl) ?_
        refine gC_1_3 C0 hR Nat.zero_lt_one tbs_wsX80 mC1_1_46 dX8_number_51 ?_
        refine lv_iload hx hb dX8_number_54 (lv_at hl 0 rfl) ?_
        refine lv_iadd hx hb dX8_number_56 ?_
        refine qC_Vi (As := [.int ((S.1 1 0 3) + x17)]) (rest := []) C0 (c_X8_byteAt l h) (cwV 1 C0.2.2.2.2 (tbV mC1_3_155 ⟨mC1_3_157, mpC1_1_3, mC1_1_2, mC1_3_158⟩) rfl rfl rfl (by decide +kernel) ⟨Nat.le_of_ble_eq_true rfl, Nat.le_of_ble_eq_true rfl⟩) (rcC_1 hR Nat.zero_lt_one) hR hT hS rfl hl.1 rfl (Nat.le_of_ble_eq_true rfl) dX8_number_57 ⟨Nat.zero_le _, Nat.zero_le _⟩ (fun r18 S19 H locs h hR hS => ?_)
        refine lv_istore (lv' := [(5, .int r18), (4, .int x17), (3, .int x16), (0, .ref (b + adC 1 0)), (1, .int a1), (2, .int a2)]) hx hb dX8_number_60 hl (by decide) rfl (fun ls hl => ?_)
        refine lv_goto (tgt := 15) hx hb dX8_number_62 (by decide) ?_
        exact ih15 a1 a2 x16 x17 r18 S19 _ _ _  h hR hS (lv_sub hl [3, 4, 5, 2, 1, 0] rfl)
def B_X8_number_15 (n9 : Nat) (a1 : Int32) (a2 : Int32) (a3 : Int32) (a4 : Int32) (a5 : Int32) (S : sSt) (k : Int32 → sSt → Prop) : Prop := (Nat.rec (motive := fun _ => Int32 → Int32 → Int32 → Int32 → Int32 → sSt → Prop) (fun _ _ _ _ _ _ => False) (fun _ r9 => fun a1 a2 a3 a4 a5 S => Bb_X8_number_15 r9 a1 a2 a3 a4 a5 S k) n9 : Int32 → Int32 → Int32 → Int32 → Int32 → sSt → Prop) a1 a2 a3 a4 a5 S
theorem B_X8_number_15_s (n9 : Nat) (a1 : Int32) (a2 : Int32) (a3 : Int32) (a4 : Int32) (a5 : Int32) (S : sSt) (k : Int32 → sSt → Prop) : B_X8_number_15 (n9 + 1) a1 a2 a3 a4 a5 S k = Bb_X8_number_15 (fun a1 a2 a3 a4 a5 S => B_X8_number_15 n9 a1 a2 a3 a4 a5 S k) a1 a2 a3 a4 a5 S k := rfl
set_option maxHeartbeats 4000000 in
set_option maxRecDepth 100000 in
theorem Bw_X8_number_15 {p : Program} {l : Launch} {e : Env} {s : State} {m : MethodId} {args : Array Value} {below : List Frame} {meth : Method} {c : Code} {D : va_G} {cy : Nat → ClassId} {b z : Nat} {tx : TX} (C0 : CallFix p m c cX8_number 7 s args TB RX8) (hr : meth.sig.returnType = (some .int)) (hlk : meth.locks = false) (hT : TxR tx s) {k : Int32 → sSt → Prop} : ∀ (n9 : Nat), ∀ (a1 : Int32) (a2 : Int32) (a3 : Int32) (a4 : Int32) (a5 : Int32) (S : sSt) (H : Heap) (locs : List Loc) (ls : Array Slot) , B_X8_number_15 n9 a1 a2 a3 a4 a5 S k → RelC D cy b z tx S s H → va_S (gA b 709 z) s.heap H locs → lv_has ls 7 [(0, .ref (b + adC 1 0)), (1, .int a1), (2, .int a2), (3, .int a3), (4, .int a4), (5, .int a5)] → W p l e rm_X8_number s m args below meth c H locs 0 0 (MQ below (PiC D cy b z tx k) args s 0 0 (gA b 709 z)) (F0 m 15 ls []) := by
  intro n9
  induction n9 with
  | zero => intro a1 a2 a3 a4 a5 S H locs ls h; exact h.elim
  | succ n9 ih =>
    intro a1 a2 a3 a4 a5 S H locs ls h hR hS hl
    exact Bbw_X8_number_15 C0 hr hlk hT ih a1 a2 a3 a4 a5 S H locs ls h hR hS hl
def F_X8_number (a1 : Int32) (a2 : Int32) (S : sSt) (k : Int32 → sSt → Prop) : Prop := F_X8_byteAt (S.1 1 0 3) S (fun r1 S2 => B_X8_number_15 fuel a1 a2 0 0 r1 S2 k)
set_option maxHeartbeats 4000000 in
set_option maxRecDepth 100000 in
theorem c_X8_number (l : Launch) {D : va_G} {cy : Nat → ClassId} {b z : Nat} {tx : TX} {a1 : Int32} {a2 : Int32} {S : sSt} {k : Int32 → sSt → Prop} (h : F_X8_number a1 a2 S k) : Met l yX8_number (Cond.code yX8_number cX8_number 7 (some .int) :: TB) rm_X8_number (va_Pc [.ref (b + adC 1 0), .int a1, .int a2] (fun U => RelC D cy b z tx S U U.heap ∧ TxR tx U)) (PiC D cy b z tx k) 0 0 (gA b 709 z) := by
  refine Met.ofW (cc := cX8_number) (maxL := 7) (ret := (some .int)) (by decide) rfl ?_
  intro p e s m args below meth c s₁ B hml hv
  obtain ⟨rfl, hR, hT⟩ := hv
  have C0 : CallFix p m c cX8_number 7 s _ TB RX8 := ⟨B.exec, B.bytes, hml, findClass_of_methodNamed B.named, fun w hw => atoms_spec B.pre w (List.mem_cons_of_mem _ hw)⟩
  have hr := B.returns
  have hlk := B.notSynchronized
  have hx := C0.1
  have hb := C0.2.1
  have hS : va_S (gA b 709 z) s.heap s.heap [] := va_S.rf
  have hl := lv_entry ([.ref (b + adC 1 0), .int a1, .int a2]) (n := 7) (Nat.le_of_ble_eq_true rfl)
  rw [lg_entry_eq]
  generalize (lg_sl ([.ref (b + adC 1 0), .int a1, .int a2]) ++ List.replicate (7 - (lg_sl ([.ref (b + adC 1 0), .int a1, .int a2])).length) Slot.unset).toArray = ls at hl ⊢
  have hl : lv_has ls 7 [(0, .ref (b + adC 1 0)), (1, .int a1), (2, .int a2)] := hl
  show W p l e rm_X8_number s m _ below meth c s.heap [] 0 0 (MQ below (PiC D cy b z tx k) _ s 0 0 (gA b 709 z)) _
  unfold F_X8_number at h
  refine lv_iconst (v := 0) hx hb dX8_number_0 (by decide) ?_
  refine lv_istore_n (lv' := [(3, .int 0), (0, .ref (b + adC 1 0)), (1, .int a1), (2, .int a2)]) hx hb dX8_number_1 rfl hl (by decide) rfl (fun ls hl => ?_)
  refine lv_iconst (v := 0) hx hb dX8_number_2 (by decide) ?_
  refine lv_istore (lv' := [(4, .int 0), (3, .int 0), (0, .ref (b + adC 1 0)), (1, .int a1), (2, .int a2)]) hx hb dX8_number_3 hl (by decide) rfl (fun ls hl => ?_)
  refine lv_aload_n hx hb dX8_number_5 rfl (lv_at hl 2 rfl) ?_
  refine lv_aload_n hx hb dX8_number_6 rfl (lv_at hl 2 rfl) ?_
  refine gC_1_3 C0 hR Nat.zero_lt_one tbs_wsX80 mC1_1_46 dX8_number_7 ?_
  refine qC_Vi (As := [.int (S.1 1 0 3)]) (rest := []) C0 (c_X8_byteAt l h) (cwV 1 C0.2.2.2.2 (tbV mC1_3_155 ⟨mC1_3_157, mpC1_1_3, mC1_1_2, mC1_3_158⟩) rfl rfl rfl (by decide +kernel) ⟨Nat.le_of_ble_eq_true rfl, Nat.le_of_ble_eq_true rfl⟩) (rcC_1 hR Nat.zero_lt_one) hR hT hS rfl hl.1 rfl (Nat.le_of_ble_eq_true rfl) dX8_number_10 ⟨Nat.zero_le _, Nat.zero_le _⟩ (fun r1 S2 H locs h hR hS => ?_)
  refine lv_istore (lv' := [(5, .int r1), (4, .int 0), (3, .int 0), (0, .ref (b + adC 1 0)), (1, .int a1), (2, .int a2)]) hx hb dX8_number_13 hl (by decide) rfl (fun ls hl => ?_)
  exact Bw_X8_number_15 C0 hr hlk hT fuel a1 a2 0 0 r1 S2 _ _ _ h hR hS (lv_sub hl [3, 4, 5, 2, 1, 0] rfl)

def rm_X8_numberBehind : Room := { frames := 5, cells := 0, slots := 0, locals := 107 }
def B_X8_numberBehind_12 (a2 : Int32) (a3 : Int32) (S : sSt) (k : Int32 → sSt → Prop) : Prop := F_X8_number a2 a3 S (fun r4 S5 => k r4 S5)
set_option maxHeartbeats 4000000 in
set_option maxRecDepth 100000 in
theorem Bw_X8_numberBehind_12 {p : Program} {l : Launch} {e : Env} {s : State} {m : MethodId} {args : Array Value} {below : List Frame} {meth : Method} {c : Code} {D : va_G} {cy : Nat → ClassId} {b z : Nat} {tx : TX} (C0 : CallFix p m c cX8_numberBehind 4 s args TB RX8) (hr : meth.sig.returnType = (some .int)) (hlk : meth.locks = false) (hT : TxR tx s) {k : Int32 → sSt → Prop} : ∀ (a2 : Int32) (a3 : Int32) (S : sSt) (H : Heap) (locs : List Loc) (ls : Array Slot) , B_X8_numberBehind_12 a2 a3 S k → RelC D cy b z tx S s H → va_S (gA b 709 z) s.heap H locs → lv_has ls 4 [(0, .ref (b + adC 1 0)), (2, .int a2), (3, .int a3)] → W p l e rm_X8_numberBehind s m args below meth c H locs 0 0 (MQ below (PiC D cy b z tx k) args s 0 0 (gA b 709 z)) (F0 m 12 ls []) := by
  intro a2 a3 S H locs ls h hR hS hl
  have hx := C0.1
  have hb := C0.2.1
  unfold B_X8_numberBehind_12 at h
  refine lv_aload_n hx hb dX8_numberBehind_12 rfl (lv_at hl 0 rfl) ?_
  refine lv_iload_n hx hb dX8_numberBehind_13 rfl (lv_at hl 1 rfl) ?_
  refine lv_iload_n hx hb dX8_numberBehind_14 rfl (lv_at hl 2 rfl) ?_
  refine qC_Vi (As := [.int a2, .int a3]) (rest := []) C0 (c_X8_number l h) (cwV 2 C0.2.2.2.2 (tbV mC1_3_210 ⟨mC1_3_211, mC1_3_212, mC1_1_2, mC1_3_213⟩) rfl rfl rfl (by decide +kernel) ⟨Nat.le_of_ble_eq_true rfl, Nat.le_of_ble_eq_true rfl⟩) (rcC_1 hR Nat.zero_lt_one) hR hT hS rfl hl.1 rfl (Nat.le_of_ble_eq_true rfl) dX8_numberBehind_15 ⟨Nat.zero_le _, Nat.zero_le _⟩ (fun r4 S5 H locs h hR hS => ?_)
  exact rtC_i C0 hr hlk hR hS h dX8_numberBehind_18
def F_X8_numberBehind (a1 : Nat) (a2 : Int32) (a3 : Int32) (S : sSt) (k : Int32 → sSt → Prop) : Prop := F_X8_takeWord a1 S (fun r1 S2 => ((¬ r1 = 0 → B_X8_numberBehind_12 a2 a3 S2 k) ∧ (r1 = 0 → F_X8_refuse S2 (fun S7 => B_X8_numberBehind_12 a2 a3 S7 k))))
set_option maxHeartbeats 4000000 in
set_option maxRecDepth 100000 in
theorem c_X8_numberBehind (l : Launch) {D : va_G} {cy : Nat → ClassId} {b z : Nat} {tx : TX} {a1 : Nat} {a2 : Int32} {a3 : Int32} {S : sSt} {k : Int32 → sSt → Prop} (av1 : a1 < nTx) (h : F_X8_numberBehind a1 a2 a3 S k) : Met l yX8_numberBehind (Cond.code yX8_numberBehind cX8_numberBehind 4 (some .int) :: TB) rm_X8_numberBehind (va_Pc [.ref (b + adC 1 0), .ref (tx.2.1 a1), .int a2, .int a3] (fun U => RelC D cy b z tx S U U.heap ∧ TxR tx U)) (PiC D cy b z tx k) 0 0 (gA b 709 z) := by
  refine Met.ofW (cc := cX8_numberBehind) (maxL := 4) (ret := (some .int)) (by decide) rfl ?_
  intro p e s m args below meth c s₁ B hml hv
  obtain ⟨rfl, hR, hT⟩ := hv
  have C0 : CallFix p m c cX8_numberBehind 4 s _ TB RX8 := ⟨B.exec, B.bytes, hml, findClass_of_methodNamed B.named, fun w hw => atoms_spec B.pre w (List.mem_cons_of_mem _ hw)⟩
  have hr := B.returns
  have hlk := B.notSynchronized
  have hx := C0.1
  have hb := C0.2.1
  have hS : va_S (gA b 709 z) s.heap s.heap [] := va_S.rf
  have hl := lv_entry ([.ref (b + adC 1 0), .ref (tx.2.1 a1), .int a2, .int a3]) (n := 4) (Nat.le_of_ble_eq_true rfl)
  rw [lg_entry_eq]
  generalize (lg_sl ([.ref (b + adC 1 0), .ref (tx.2.1 a1), .int a2, .int a3]) ++ List.replicate (4 - (lg_sl ([.ref (b + adC 1 0), .ref (tx.2.1 a1), .int a2, .int a3])).length) Slot.unset).toArray = ls at hl ⊢
  have hl : lv_has ls 4 [(0, .ref (b + adC 1 0)), (1, .ref (tx.2.1 a1)), (2, .int a2), (3, .int a3)] := hl
  show W p l e rm_X8_numberBehind s m _ below meth c s.heap [] 0 0 (MQ below (PiC D cy b z tx k) _ s 0 0 (gA b 709 z)) _
  unfold F_X8_numberBehind at h
  refine lv_aload_n hx hb dX8_numberBehind_0 rfl (lv_at hl 0 rfl) ?_
  refine lv_aload_n hx hb dX8_numberBehind_1 rfl (lv_at hl 1 rfl) ?_
  refine qC_Vi (As := [.ref (tx.2.1 a1)]) (rest := []) C0 (c_X8_takeWord l av1 h) (cwV 1 C0.2.2.2.2 (tbV mC1_3_205 ⟨mC1_3_142, mC1_3_143, mC1_1_2, mC1_3_144⟩) rfl rfl rfl (by decide +kernel) ⟨Nat.le_of_ble_eq_true rfl, Nat.le_of_ble_eq_true rfl⟩) (rcC_1 hR Nat.zero_lt_one) hR hT hS rfl hl.1 rfl (Nat.le_of_ble_eq_true rfl) dX8_numberBehind_2 ⟨Nat.zero_le _, Nat.zero_le _⟩ (fun r1 S2 H locs h hR hS => ?_)
  refine lv_if_ne (tgt := 12) hx hb dX8_numberBehind_5 (by decide) (fun c3 => ?_) (fun c3 => ?_)
  · have h := h.1 c3
    exact Bw_X8_numberBehind_12 C0 hr hlk hT a2 a3 S2 _ _ _ h hR hS (lv_sub hl [0, 2, 3] rfl)
  · have h := h.2 c3
    refine lv_aload_n hx hb dX8_numberBehind_8 rfl (lv_at hl 0 rfl) ?_
    refine qC_Vv (As := []) (rest := []) C0 (c_X8_refuse l h) (cwV 0 C0.2.2.2.2 (tbV mC1_3_206 ⟨mC1_3_207, mC1_3_208, mC1_1_2, mC1_3_209⟩) rfl rfl rfl (by decide +kernel) ⟨Nat.le_of_ble_eq_true rfl, Nat.le_of_ble_eq_true rfl⟩) (rcC_1 hR Nat.zero_lt_one) hR hT hS rfl hl.1 rfl (Nat.le_of_ble_eq_true rfl) dX8_numberBehind_9 ⟨Nat.zero_le _, Nat.zero_le _⟩ (fun S7 H locs h hR hS => ?_)
    exact Bw_X8_numberBehind_12 C0 hr hlk hT a2 a3 S7 _ _ _ h hR hS (lv_sub hl [0, 2, 3] rfl)

def rm_X8_isRight : Room := { frames := 0, cells := 0, slots := 0, locals := 0 }
def F_X8_isRight (S : sSt) (k : Int32 → sSt → Prop) : Prop := ((¬ (S.1 1 0 4) = (-1) → k 0 S) ∧ ((S.1 1 0 4) = (-1) → k 1 S))
set_option maxHeartbeats 4000000 in
set_option maxRecDepth 100000 in
theorem c_X8_isRight (l : Launch) {D : va_G} {cy : Nat → ClassId} {b z : Nat} {tx : TX} {S : sSt} {k : Int32 → sSt → Prop} (h : F_X8_isRight S k) : Met l yX8_isRight (Cond.code yX8_isRight cX8_isRight 1 (some .boolean) :: TB) rm_X8_isRight (va_Pc [.ref (b + adC 1 0)] (fun U => RelC D cy b z tx S U U.heap ∧ TxR tx U)) (PiC D cy b z tx k) 0 0 (gA b 709 z) := by
  refine Met.ofW (cc := cX8_isRight) (maxL := 1) (ret := (some .boolean)) (by decide) rfl ?_
  intro p e s m args below meth c s₁ B hml hv
  obtain ⟨rfl, hR, hT⟩ := hv
  have C0 : CallFix p m c cX8_isRight 1 s _ TB RX8 := ⟨B.exec, B.bytes, hml, findClass_of_methodNamed B.named, fun w hw => atoms_spec B.pre w (List.mem_cons_of_mem _ hw)⟩
  have hr := B.returns
  have hlk := B.notSynchronized
  have hx := C0.1
  have hb := C0.2.1
  have hS : va_S (gA b 709 z) s.heap s.heap [] := va_S.rf
  have hl := lv_entry ([.ref (b + adC 1 0)]) (n := 1) (Nat.le_of_ble_eq_true rfl)
  rw [lg_entry_eq]
  generalize (lg_sl ([.ref (b + adC 1 0)]) ++ List.replicate (1 - (lg_sl ([.ref (b + adC 1 0)])).length) Slot.unset).toArray = ls at hl ⊢
  have hl : lv_has ls 1 [(0, .ref (b + adC 1 0))] := hl
  show W p l e rm_X8_isRight s m _ below meth c s.heap [] 0 0 (MQ below (PiC D cy b z tx k) _ s 0 0 (gA b 709 z)) _
  unfold F_X8_isRight at h
  refine lv_aload_n hx hb dX8_isRight_0 rfl (lv_at hl 0 rfl) ?_
  refine gC_1_4 C0 hR Nat.zero_lt_one tbs_wsX80 mC1_1_47 dX8_isRight_1 ?_
  refine lv_iconst (v := (-1)) hx hb dX8_isRight_4 (by decide) ?_
  refine lv_icmp_ne (tgt := 12) hx hb dX8_isRight_5 (by decide) (fun c1 => ?_) (fun c1 => ?_)
  · have h := h.1 c1
    refine lv_iconst (v := 0) hx hb dX8_isRight_12 (by decide) ?_
    exact rtC_z C0 hr hlk hR hS (by decide) h dX8_isRight_13
  · have h := h.2 c1
    refine lv_iconst (v := 1) hx hb dX8_isRight_8 (by decide) ?_
    refine lv_goto (tgt := 13) hx hb dX8_isRight_9 (by decide) ?_
    exact rtC_z C0 hr hlk hR hS (by decide) h dX8_isRight_13

def rm_X9_startAt : Room := { frames := 0, cells := 0, slots := 0, locals := 0 }
def F_X9_startAt (a0 : Nat) (a1 : Int32) (S : sSt) (k : sSt → Prop) : Prop := ∀ S1, S1 = uI S 22 a0 0 0 → ∀ S2, S2 = uI S1 22 a0 1 a1 → ∀ S3, S3 = uI S2 22 a0 2 0 → ∀ S4, S4 = uI S3 22 a0 3 0 → ∀ S5, S5 = uI S4 22 a0 4 0 → ∀ S6, S6 = uI S5 22 a0 5 0 → ∀ S7, S7 = uI S6 22 a0 6 (-1) → ∀ S8, S8 = uI S7 22 a0 7 0 → k S8
set_option maxHeartbeats 4000000 in
set_option maxRecDepth 100000 in
theorem c_X9_startAt (l : Launch) {D : va_G} {cy : Nat → ClassId} {b z : Nat} {tx : TX} {a0 : Nat} {a1 : Int32} {S : sSt} {k : sSt → Prop} (av0 : a0 < 432) (h : F_X9_startAt a0 a1 S k) : Met l yX9_startAt (Cond.code yX9_startAt cX9_startAt 2 none :: TB) rm_X9_startAt (va_Pc [.ref (b + adC 22 a0), .int a1] (fun U => RelC D cy b z tx S U U.heap ∧ TxR tx U)) (PvC D cy b z tx k) 0 0 (gA b 709 z) := by
  refine Met.ofW (cc := cX9_startAt) (maxL := 2) (ret := none) (by decide) rfl ?_
  intro p e s m args below meth c s₁ B hml hv
  obtain ⟨rfl, hR, hT⟩ := hv
  have C0 : CallFix p m c cX9_startAt 2 s _ TB RX9 := ⟨B.exec, B.bytes, hml, findClass_of_methodNamed B.named, fun w hw => atoms_spec B.pre w (List.mem_cons_of_mem _ hw)⟩
  have hr := B.returns
  have hlk := B.notSynchronized
  have hx := C0.1
  have hb := C0.2.1
  have hS : va_S (gA b 709 z) s.heap s.heap [] := va_S.rf
  have hl := lv_entry ([.ref (b + adC 22 a0), .int a1]) (n := 2) (Nat.le_of_ble_eq_true rfl)
  rw [lg_entry_eq]
  generalize (lg_sl ([.ref (b + adC 22 a0), .int a1]) ++ List.replicate (2 - (lg_sl ([.ref (b + adC 22 a0), .int a1])).length) Slot.unset).toArray = ls at hl ⊢
  have hl : lv_has ls 2 [(0, .ref (b + adC 22 a0)), (1, .int a1)] := hl
  show W p l e rm_X9_startAt s m _ below meth c s.heap [] 0 0 (MQ below (PvC D cy b z tx k) _ s 0 0 (gA b 709 z)) _
  unfold F_X9_startAt at h
  refine lv_aload_n hx hb dX9_startAt_0 rfl (lv_at hl 0 rfl) ?_
  refine lv_iconst (v := 0) hx hb dX9_startAt_1 (by decide) ?_
  refine pC_22_0 C0 hR hS av0 tbs_wsX90 mC1_1_157 dX9_startAt_2 (fun S1 eS1 H locs hR hS => ?_)
  have h := h S1 eS1
  refine lv_aload_n hx hb dX9_startAt_5 rfl (lv_at hl 0 rfl) ?_
  refine lv_iload_n hx hb dX9_startAt_6 rfl (lv_at hl 1 rfl) ?_
  refine pC_22_1 C0 hR hS av0 tbs_wsX90 mC1_1_163 dX9_startAt_7 (fun S2 eS2 H locs hR hS => ?_)
  have h := h S2 eS2
  refine lv_aload_n hx hb dX9_startAt_10 rfl (lv_at hl 0 rfl) ?_
  refine lv_iconst (v := 0) hx hb dX9_startAt_11 (by decide) ?_
  refine pC_22_2 C0 hR hS av0 tbs_wsX90 mC1_1_170 dX9_startAt_12 (fun S3 eS3 H locs hR hS => ?_)
  have h := h S3 eS3
  refine lv_aload_n hx hb dX9_startAt_15 rfl (lv_at hl 0 rfl) ?_
  refine lv_iconst (v := 0) hx hb dX9_startAt_16 (by decide) ?_
  refine pC_22_3 C0 hR hS av0 tbs_wsX90 mC1_1_174 dX9_startAt_17 (fun S4 eS4 H locs hR hS => ?_)
  have h := h S4 eS4
  refine lv_aload_n hx hb dX9_startAt_20 rfl (lv_at hl 0 rfl) ?_
  refine lv_iconst (v := 0) hx hb dX9_startAt_21 (by decide) ?_
  refine pC_22_4 C0 hR hS av0 tbs_wsX90 mC1_1_177 dX9_startAt_22 (fun S5 eS5 H locs hR hS => ?_)
  have h := h S5 eS5
  refine lv_aload_n hx hb dX9_startAt_25 rfl (lv_at hl 0 rfl) ?_
  refine lv_iconst (v := 0) hx hb dX9_startAt_26 (by decide) ?_
  refine pC_22_5 C0 hR hS av0 tbs_wsX90 mC1_1_178 dX9_startAt_27 (fun S6 eS6 H locs hR hS => ?_)
  have h := h S6 eS6
  refine lv_aload_n hx hb dX9_startAt_30 rfl (lv_at hl 0 rfl) ?_
  refine lv_iconst (v := (-1)) hx hb dX9_startAt_31 (by decide) ?_
  refine pC_22_6 C0 hR hS av0 tbs_wsX90 mC1_1_182 dX9_startAt_32 (fun S7 eS7 H locs hR hS => ?_)
  have h := h S7 eS7
  refine lv_aload_n hx hb dX9_startAt_35 rfl (lv_at hl 0 rfl) ?_
  refine lv_iconst (v := 0) hx hb dX9_startAt_36 (by decide) ?_
  refine pC_22_7 C0 hR hS av0 tbs_wsX90 mC1_1_187 dX9_startAt_37 (fun S8 eS8 H locs hR hS => ?_)
  have h := h S8 eS8
  exact rtC_v C0 hr hlk hR hS h dX9_startAt_40

def rm_X6_addJob : Room := { frames := 1, cells := 0, slots := 0, locals := 21 }
def F_X6_addJob (a0 : Nat) (a1 : Int32) (a2 : Int32) (a3 : Int32) (S : sSt) (k : Option Nat → sSt → Prop) : Prop := (((S.1 13 a0 6) < 24 → ix (S.1 13 a0 6) 24 (fun j4 => ∀ S6, S6 = uI S 13 a0 6 ((S.1 13 a0 6) + 1) → ∀ S7, S7 = uI S6 21 (S.2 14 a0 j4) 6 (S6.1 13 a0 13) → ∀ S8, S8 = uI S7 13 a0 13 ((S7.1 13 a0 13) + 1) → ∀ S9, S9 = uI S8 21 (S.2 14 a0 j4) 7 a1 → ∀ S10, S10 = uI S9 21 (S.2 14 a0 j4) 8 a2 → ∀ S11, S11 = uI S10 21 (S.2 14 a0 j4) 9 a3 → ∀ S12, S12 = uI S11 21 (S.2 14 a0 j4) 10 (S11.1 13 a0 10) → ∀ S13, S13 = uI S12 21 (S.2 14 a0 j4) 11 (-1) → ∀ S14, S14 = uI S13 21 (S.2 14 a0 j4) 12 (-1) → ∀ S15, S15 = uI S14 21 (S.2 14 a0 j4) 5 1 → ∀ S16, S16 = uI S15 21 (S.2 14 a0 j4) 4 (-1) → F_X9_startAt (6 * (S.2 14 a0 j4)) (S16.1 13 a0 10) S16 (fun S19 => k (some (S.2 14 a0 j4)) S19))) ∧ (¬ (S.1 13 a0 6) < 24 → k none S))
set_option maxHeartbeats 4000000 in
set_option maxRecDepth 100000 in
theorem c_X6_addJob (l : Launch) {D : va_G} {cy : Nat → ClassId} {b z : Nat} {tx : TX} {a0 : Nat} {a1 : Int32} {a2 : Int32} {a3 : Int32} {S : sSt} {k : Option Nat → sSt → Prop} (av0 : a0 < 3) (h : F_X6_addJob a0 a1 a2 a3 S k) : Met l yX6_addJob (Cond.code yX6_addJob cX6_addJob 5 (some (.object "ClaimTable$Job")) :: TB) rm_X6_addJob (va_Pc [.ref (b + adC 13 a0), .int a1, .int a2, .int a3] (fun U => RelC D cy b z tx S U U.heap ∧ TxR tx U)) (PqC D cy b z tx 21 72 k) 0 0 (gA b 709 z) := by
  refine Met.ofW (cc := cX6_addJob) (maxL := 5) (ret := (some (.object "ClaimTable$Job"))) (by decide) rfl ?_
  intro p e s m args below meth c s₁ B hml hv
  obtain ⟨rfl, hR, hT⟩ := hv
  have C0 : CallFix p m c cX6_addJob 5 s _ TB RX6 := ⟨B.exec, B.bytes, hml, findClass_of_methodNamed B.named, fun w hw => atoms_spec B.pre w (List.mem_cons_of_mem _ hw)⟩
  have hr := B.returns
  have hlk := B.notSynchronized
  have hx := C0.1
  have hb := C0.2.1
  have hS : va_S (gA b 709 z) s.heap s.heap [] := va_S.rf
  have hl := lv_entry ([.ref (b + adC 13 a0), .int a1, .int a2, .int a3]) (n := 5) (Nat.le_of_ble_eq_true rfl)
  rw [lg_entry_eq]
  generalize (lg_sl ([.ref (b + adC 13 a0), .int a1, .int a2, .int a3]) ++ List.replicate (5 - (lg_sl ([.ref (b + adC 13 a0), .int a1, .int a2, .int a3])).length) Slot.unset).toArray = ls at hl ⊢
  have hl : lv_has ls 5 [(0, .ref (b + adC 13 a0)), (1, .int a1), (2, .int a2), (3, .int a3)] := hl
  show W p l e rm_X6_addJob s m _ below meth c s.heap [] 0 0 (MQ below (PqC D cy b z tx 21 72 k) _ s 0 0 (gA b 709 z)) _
  unfold F_X6_addJob at h
  refine lv_aload_n hx hb dX6_addJob_0 rfl (lv_at hl 0 rfl) ?_
  refine gC_13_6 C0 hR av0 tbs_wsX60 mC1_2_146 dX6_addJob_1 ?_
  refine lv_aload_n hx hb dX6_addJob_4 rfl (lv_at hl 0 rfl) ?_
  refine gC_13_0 C0 hR av0 tbs_wsX60 mC1_2_126 dX6_addJob_5 ?_
  have w1 : a0 < 3 := by omega
  refine nC_14 C0 hR w1 dX6_addJob_8 ?_
  refine lv_icmp_lt (tgt := 14) hx hb dX6_addJob_9 (by decide) (fun c2 => ?_) (fun c2 => ?_)
  · have h := h.1 c2
    refine lv_aload_n hx hb dX6_addJob_14 rfl (lv_at hl 0 rfl) ?_
    refine gC_13_0 C0 hR av0 tbs_wsX60 mC1_2_126 dX6_addJob_15 ?_
    have w3 : a0 < 3 := by omega
    refine lv_aload_n hx hb dX6_addJob_18 rfl (lv_at hl 0 rfl) ?_
    refine gC_13_6 C0 hR av0 tbs_wsX60 mC1_2_146 dX6_addJob_19 ?_
    obtain ⟨j4, hj4, ej4, h⟩ := h
    refine lC_14 C0 hR w3 hj4 ej4 dX6_addJob_22 ?_
    have w5 : (S.2 14 a0 j4) < 72 := hR.2.1.1 _ _ w3 hj4
    refine lv_astore (lv' := [(4, .ref (b + adC 21 (S.2 14 a0 j4))), (0, .ref (b + adC 13 a0)), (1, .int a1), (2, .int a2), (3, .int a3)]) hx hb dX6_addJob_23 hl (by decide) rfl (fun ls hl => ?_)
    refine lv_aload_n hx hb dX6_addJob_25 rfl (lv_at hl 1 rfl) ?_
    refine lv_dup hx hb dX6_addJob_26 rfl ?_
    refine gC_13_6 C0 hR av0 tbs_wsX60 mC1_2_146 dX6_addJob_27 ?_
    refine lv_iconst (v := 1) hx hb dX6_addJob_30 (by decide) ?_
    refine lv_iadd hx hb dX6_addJob_31 ?_
    refine pC_13_6 C0 hR hS av0 tbs_wsX60 mC1_2_146 dX6_addJob_32 (fun S6 eS6 H locs hR hS => ?_)
    have h := h S6 eS6
    refine lv_aload hx hb dX6_addJob_35 (lv_at hl 0 rfl) ?_
    refine lv_aload_n hx hb dX6_addJob_37 rfl (lv_at hl 1 rfl) ?_
    refine gC_13_13 C0 hR av0 tbs_wsX60 mC1_2_170 dX6_addJob_38 ?_
    refine pCn_21_6 C0 hR hS w5 tbs_wsX10 mC1_1_230 hT dX6_addJob_41 (fun S7 eS7 H locs hR hS => ?_)
    have h := h S7 eS7
    refine lv_aload_n hx hb dX6_addJob_44 rfl (lv_at hl 1 rfl) ?_
    refine lv_dup hx hb dX6_addJob_45 rfl ?_
    refine gC_13_13 C0 hR av0 tbs_wsX60 mC1_2_170 dX6_addJob_46 ?_
    refine lv_iconst (v := 1) hx hb dX6_addJob_49 (by decide) ?_
    refine lv_iadd hx hb dX6_addJob_50 ?_
    refine pC_13_13 C0 hR hS av0 tbs_wsX60 mC1_2_170 dX6_addJob_51 (fun S8 eS8 H locs hR hS => ?_)
    have h := h S8 eS8
    refine lv_aload hx hb dX6_addJob_54 (lv_at hl 0 rfl) ?_
    refine lv_iload_n hx hb dX6_addJob_56 rfl (lv_at hl 2 rfl) ?_
    refine pCn_21_7 C0 hR hS w5 tbs_wsX10 mC1_1_235 hT dX6_addJob_57 (fun S9 eS9 H locs hR hS => ?_)
    have h := h S9 eS9
    refine lv_aload hx hb dX6_addJob_60 (lv_at hl 0 rfl) ?_
    refine lv_iload_n hx hb dX6_addJob_62 rfl (lv_at hl 3 rfl) ?_
    refine pCn_21_8 C0 hR hS w5 tbs_wsX10 mC1_2_0 hT dX6_addJob_63 (fun S10 eS10 H locs hR hS => ?_)
    have h := h S10 eS10
    refine lv_aload hx hb dX6_addJob_66 (lv_at hl 0 rfl) ?_
    refine lv_iload_n hx hb dX6_addJob_68 rfl (lv_at hl 4 rfl) ?_
    refine pCn_21_9 C0 hR hS w5 tbs_wsX10 mC1_2_5 hT dX6_addJob_69 (fun S11 eS11 H locs hR hS => ?_)
    have h := h S11 eS11
    refine lv_aload hx hb dX6_addJob_72 (lv_at hl 0 rfl) ?_
    refine lv_aload_n hx hb dX6_addJob_74 rfl (lv_at hl 1 rfl) ?_
    refine gC_13_10 C0 hR av0 tbs_wsX60 mC1_2_160 dX6_addJob_75 ?_
    refine pCn_21_10 C0 hR hS w5 tbs_wsX10 mC1_2_9 hT dX6_addJob_78 (fun S12 eS12 H locs hR hS => ?_)
    have h := h S12 eS12
    refine lv_aload hx hb dX6_addJob_81 (lv_at hl 0 rfl) ?_
    refine lv_iconst (v := (-1)) hx hb dX6_addJob_83 (by decide) ?_
    refine pCn_21_11 C0 hR hS w5 tbs_wsX10 mC1_2_13 hT dX6_addJob_84 (fun S13 eS13 H locs hR hS => ?_)
    have h := h S13 eS13
    refine lv_aload hx hb dX6_addJob_87 (lv_at hl 0 rfl) ?_
    refine lv_iconst (v := (-1)) hx hb dX6_addJob_89 (by decide) ?_
    refine pCn_21_12 C0 hR hS w5 tbs_wsX10 mC1_2_16 hT dX6_addJob_90 (fun S14 eS14 H locs hR hS => ?_)
    have h := h S14 eS14
    refine lv_aload hx hb dX6_addJob_93 (lv_at hl 0 rfl) ?_
    refine lv_iconst (v := 1) hx hb dX6_addJob_95 (by decide) ?_
    refine pCn_21_5 C0 hR hS w5 tbs_wsX10 mC1_1_225 hT (by decide) dX6_addJob_96 (fun S15 eS15 H locs hR hS => ?_)
    have h := h S15 eS15
    refine lv_aload hx hb dX6_addJob_99 (lv_at hl 0 rfl) ?_
    refine lv_iconst (v := (-1)) hx hb dX6_addJob_101 (by decide) ?_
    refine pCn_21_4 C0 hR hS w5 tbs_wsX10 mC1_1_221 hT dX6_addJob_102 (fun S16 eS16 H locs hR hS => ?_)
    have h := h S16 eS16
    refine lv_aload hx hb dX6_addJob_105 (lv_at hl 0 rfl) ?_
    refine gCn_21_0 C0 hR w5 tbs_wsX10 mC1_1_212 hT dX6_addJob_107 ?_
    have w17 : (6 * (S.2 14 a0 j4)) < 432 := by omega
    refine lv_aload_n hx hb dX6_addJob_110 rfl (lv_at hl 1 rfl) ?_
    refine gC_13_10 C0 hR av0 tbs_wsX60 mC1_2_160 dX6_addJob_111 ?_
    refine qC_Vv (As := [.int (S16.1 13 a0 10)]) (rest := []) C0 (c_X9_startAt l w17 h) (cwV 1 C0.2.2.2.2 (tbV mC1_3_226 ⟨mC1_3_227, mC1_3_228, mC1_1_8, mC1_3_229⟩) rfl rfl rfl (by decide +kernel) ⟨Nat.le_of_ble_eq_true rfl, Nat.le_of_ble_eq_true rfl⟩) (rcC_22 hR w17) hR hT hS rfl hl.1 rfl (Nat.le_of_ble_eq_true rfl) dX6_addJob_114 ⟨Nat.zero_le _, Nat.zero_le _⟩ (fun S19 H locs h hR hS => ?_)
    refine lv_aload hx hb dX6_addJob_117 (lv_at hl 0 rfl) ?_
    exact rtC_q C0 hr hlk hR hS w5 h dX6_addJob_119
  · have h := h.2 c2
    refine lv_null hx hb dX6_addJob_12 ?_
    exact rtC_n C0 hr hlk hR hS h dX6_addJob_13

def rm_X7_readJob : Room := { frames := 6, cells := 0, slots := 0, locals := 130 }
def B_X7_readJob_50 (a0 : Nat) (a2 : Int32) (a3 : Int32) (a4 : Int32) (t0 : Int32) (S : sSt) (k : sSt → Prop) : Prop := F_X8_isRight S (fun r10 S11 => ((¬ r10 = 0 → F_X6_addJob a0 a2 a3 a4 S11 (fun o17 S14 => ((o17 = none → k S14) ∧ (∀ r13, o17 = some r13 → ∀ S16, S16 = uI S14 22 (6 * r13) 1 ((S14.1 13 a0 10) + t0) → k S16)))) ∧ (r10 = 0 → k S11)))
set_option maxHeartbeats 4000000 in
set_option maxRecDepth 100000 in
theorem Bw_X7_readJob_50 {p : Program} {l : Launch} {e : Env} {s : State} {m : MethodId} {args : Array Value} {below : List Frame} {meth : Method} {c : Code} {D : va_G} {cy : Nat → ClassId} {b z : Nat} {tx : TX} (C0 : CallFix p m c cX7_readJob 7 s args TB RX7) (hr : meth.sig.returnType = none) (hlk : meth.locks = false) (hT : TxR tx s) {k : sSt → Prop} : ∀ (a0 : Nat) (a2 : Int32) (a3 : Int32) (a4 : Int32) (t0 : Int32) (S : sSt) (H : Heap) (locs : List Loc) (ls : Array Slot) (av0 : a0 < 3), B_X7_readJob_50 a0 a2 a3 a4 t0 S k → RelC D cy b z tx S s H → va_S (gA b 709 z) s.heap H locs → lv_has ls 7 [(0, .ref (b + adC 13 a0)), (1, .ref (b + adC 1 0)), (2, .int a2), (3, .int a3), (4, .int a4)] → W p l e rm_X7_readJob s m args below meth c H locs 0 0 (MQ below (PvC D cy b z tx k) args s 0 0 (gA b 709 z)) (F0 m 50 ls [.int t0]) := by
  intro a0 a2 a3 a4 t0 S H locs ls av0 h hR hS hl
  have hx := C0.1
  have hb := C0.2.1
  unfold B_X7_readJob_50 at h
  refine lv_istore (lv' := [(5, .int t0), (0, .ref (b + adC 13 a0)), (1, .ref (b + adC 1 0)), (2, .int a2), (3, .int a3), (4, .int a4)]) hx hb dX7_readJob_50 hl (by decide) rfl (fun ls hl => ?_)
  refine lv_aload_n hx hb dX7_readJob_52 rfl (lv_at hl 2 rfl) ?_
  refine qC_Vi (As := []) (rest := []) C0 (c_X8_isRight l h) (cwV 0 C0.2.2.2.2 (tbV mC1_3_218 ⟨mC1_3_219, mC1_3_220, mC1_1_2, mC1_3_221⟩) rfl rfl rfl (by decide +kernel) ⟨Nat.le_of_ble_eq_true rfl, Nat.le_of_ble_eq_true rfl⟩) (rcC_1 hR Nat.zero_lt_one) hR hT hS rfl hl.1 rfl (Nat.le_of_ble_eq_true rfl) dX7_readJob_53 ⟨Nat.zero_le _, Nat.zero_le _⟩ (fun r10 S11 H locs h hR hS => ?_)
  refine lv_if_ne (tgt := 60) hx hb dX7_readJob_56 (by decide) (fun c12 => ?_) (fun c12 => ?_)
  · have h := h.1 c12
    refine lv_aload_n hx hb dX7_readJob_60 rfl (lv_at hl 1 rfl) ?_
    refine lv_iload_n hx hb dX7_readJob_61 rfl (lv_at hl 3 rfl) ?_
    refine lv_iload_n hx hb dX7_readJob_62 rfl (lv_at hl 4 rfl) ?_
    refine lv_iload hx hb dX7_readJob_63 (lv_at hl 5 rfl) ?_
    refine qC_Vq (As := [.int a2, .int a3, .int a4]) (rest := []) C0 (c_X6_addJob l av0 h) (cwV 3 C0.2.2.2.2 (tbV mC1_3_222 ⟨mC1_3_223, mC1_3_224, mC1_1_5, mC1_3_225⟩) rfl rfl rfl (by decide +kernel) ⟨Nat.le_of_ble_eq_true rfl, Nat.le_of_ble_eq_true rfl⟩) (rcC_13 hR av0) hR hT hS rfl hl.1 rfl (Nat.le_of_ble_eq_true rfl) dX7_readJob_65 ⟨Nat.zero_le _, Nat.zero_le _⟩ (fun S14 H locs h hR hS => ?_) (fun r13 S14 H locs vr13 h hR hS => ?_)
    · have h := h.1 rfl
      refine lv_astoreN (lv' := [(6, .null), (5, .int t0), (0, .ref (b + adC 13 a0)), (1, .ref (b + adC 1 0)), (2, .int a2), (3, .int a3), (4, .int a4)]) hx hb dX7_readJob_68 hl (by decide) rfl (fun ls hl => ?_)
      refine lv_aloadN hx hb dX7_readJob_70 (lv_at hl 0 rfl) ?_
      refine lv_ifnullN (tgt := 90) hx hb dX7_readJob_72 (by decide) ?_
      exact rtC_v C0 hr hlk hR hS h dX7_readJob_90
    · have h := h.2 r13 rfl
      refine lv_astore (lv' := [(6, .ref (b + adC 21 r13)), (5, .int t0), (0, .ref (b + adC 13 a0)), (1, .ref (b + adC 1 0)), (2, .int a2), (3, .int a3), (4, .int a4)]) hx hb dX7_readJob_68 hl (by decide) rfl (fun ls hl => ?_)
      refine lv_aload hx hb dX7_readJob_70 (lv_at hl 0 rfl) ?_
      refine lv_ifnull hx hb dX7_readJob_72 ?_
      refine lv_aload hx hb dX7_readJob_75 (lv_at hl 0 rfl) ?_
      refine gCn_21_0 C0 hR vr13 tbs_wsX10 mC1_1_213 hT dX7_readJob_77 ?_
      have w15 : (6 * r13) < 432 := by omega
      refine lv_aload_n hx hb dX7_readJob_80 rfl (lv_at hl 2 rfl) ?_
      refine gCn_13_10 C0 hR av0 tbs_wsX60 mC1_2_161 hT dX7_readJob_81 ?_
      refine lv_iload hx hb dX7_readJob_84 (lv_at hl 1 rfl) ?_
      refine lv_iadd hx hb dX7_readJob_86 ?_
      refine pCn_22_1 C0 hR hS w15 tbs_wsX90 mC1_1_166 hT dX7_readJob_87 (fun S16 eS16 H locs hR hS => ?_)
      have h := h S16 eS16
      exact rtC_v C0 hr hlk hR hS h dX7_readJob_90
  · have h := h.2 c12
    exact rtC_v C0 hr hlk hR hS h dX7_readJob_59
def F_X7_readJob (a0 : Nat) (S : sSt) (k : sSt → Prop) : Prop := F_X8_numberBehind 1 0 5 S (fun r1 S2 => F_X8_numberBehind 2 0 9 S2 (fun r3 S4 => F_X8_numberBehind 3 1 9 S4 (fun r5 S6 => F_X8_takeWord 4 S6 (fun r7 S8 => ((r7 = 0 → B_X7_readJob_50 a0 r1 r3 r5 0 S8 k) ∧ (¬ r7 = 0 → F_X8_number 0 99 S8 (fun r18 S19 => B_X7_readJob_50 a0 r1 r3 r5 r18 S19 k)))))))
set_option maxHeartbeats 4000000 in
set_option maxRecDepth 100000 in
theorem c_X7_readJob (l : Launch) {D : va_G} {cy : Nat → ClassId} {b z : Nat} {tx : TX} {a0 : Nat} {S : sSt} {k : sSt → Prop} (av0 : a0 < 3) (h : F_X7_readJob a0 S k) : Met l yX7_readJob (Cond.code yX7_readJob cX7_readJob 7 none :: TB) rm_X7_readJob (va_Pc [.ref (b + adC 13 a0), .ref (b + adC 1 0)] (fun U => RelC D cy b z tx S U U.heap ∧ TxR tx U)) (PvC D cy b z tx k) 0 0 (gA b 709 z) := by
  refine Met.ofW (cc := cX7_readJob) (maxL := 7) (ret := none) (by decide) rfl ?_
  intro p e s m args below meth c s₁ B hml hv
  obtain ⟨rfl, hR, hT⟩ := hv
  have C0 : CallFix p m c cX7_readJob 7 s _ TB RX7 := ⟨B.exec, B.bytes, hml, findClass_of_methodNamed B.named, fun w hw => atoms_spec B.pre w (List.mem_cons_of_mem _ hw)⟩
  have hr := B.returns
  have hlk := B.notSynchronized
  have hx := C0.1
  have hb := C0.2.1
  have hS : va_S (gA b 709 z) s.heap s.heap [] := va_S.rf
  have hl := lv_entry ([.ref (b + adC 13 a0), .ref (b + adC 1 0)]) (n := 7) (Nat.le_of_ble_eq_true rfl)
  rw [lg_entry_eq]
  generalize (lg_sl ([.ref (b + adC 13 a0), .ref (b + adC 1 0)]) ++ List.replicate (7 - (lg_sl ([.ref (b + adC 13 a0), .ref (b + adC 1 0)])).length) Slot.unset).toArray = ls at hl ⊢
  have hl : lv_has ls 7 [(0, .ref (b + adC 13 a0)), (1, .ref (b + adC 1 0))] := hl
  show W p l e rm_X7_readJob s m _ below meth c s.heap [] 0 0 (MQ below (PvC D cy b z tx k) _ s 0 0 (gA b 709 z)) _
  unfold F_X7_readJob at h
  refine lv_aload_n hx hb dX7_readJob_0 rfl (lv_at hl 1 rfl) ?_
  refine va_ldcS hx hb C0.2.2.2.1 (tr_1 hT) dX7_readJob_1 ?_
  refine lv_iconst (v := 0) hx hb dX7_readJob_3 (by decide) ?_
  refine lv_iconst (v := 5) hx hb dX7_readJob_4 (by decide) ?_
  refine qC_Vi (As := [.ref (tx.2.1 1), .int 0, .int 5]) (rest := []) C0 (c_X8_numberBehind l (by decide) h) (cwV 3 C0.2.2.2.2 (tbV mC1_3_201 ⟨mC1_3_202, mC1_3_203, mC1_1_2, mC1_3_204⟩) rfl rfl rfl (by decide +kernel) ⟨Nat.le_of_ble_eq_true rfl, Nat.le_of_ble_eq_true rfl⟩) (rcC_1 hR Nat.zero_lt_one) hR hT hS rfl hl.1 rfl (Nat.le_of_ble_eq_true rfl) dX7_readJob_5 ⟨Nat.zero_le _, Nat.zero_le _⟩ (fun r1 S2 H locs h hR hS => ?_)
  refine lv_istore_n (lv' := [(2, .int r1), (0, .ref (b + adC 13 a0)), (1, .ref (b + adC 1 0))]) hx hb dX7_readJob_8 rfl hl (by decide) rfl (fun ls hl => ?_)
  refine lv_aload_n hx hb dX7_readJob_9 rfl (lv_at hl 2 rfl) ?_
  refine va_ldcS hx hb C0.2.2.2.1 (tr_2 hT) dX7_readJob_10 ?_
  refine lv_iconst (v := 0) hx hb dX7_readJob_12 (by decide) ?_
  refine lv_bipush (v := 9) hx hb dX7_readJob_13 (by decide) ?_
  refine qC_Vi (As := [.ref (tx.2.1 2), .int 0, .int 9]) (rest := []) C0 (c_X8_numberBehind l (by decide) h) (cwV 3 C0.2.2.2.2 (tbV mC1_3_201 ⟨mC1_3_202, mC1_3_203, mC1_1_2, mC1_3_204⟩) rfl rfl rfl (by decide +kernel) ⟨Nat.le_of_ble_eq_true rfl, Nat.le_of_ble_eq_true rfl⟩) (rcC_1 hR Nat.zero_lt_one) hR hT hS rfl hl.1 rfl (Nat.le_of_ble_eq_true rfl) dX7_readJob_15 ⟨Nat.zero_le _, Nat.zero_le _⟩ (fun r3 S4 H locs h hR hS => ?_)
  refine lv_istore_n (lv' := [(3, .int r3), (2, .int r1), (0, .ref (b + adC 13 a0)), (1, .ref (b + adC 1 0))]) hx hb dX7_readJob_18 rfl hl (by decide) rfl (fun ls hl => ?_)
  refine lv_aload_n hx hb dX7_readJob_19 rfl (lv_at hl 3 rfl) ?_
  refine va_ldcS hx hb C0.2.2.2.1 (tr_3 hT) dX7_readJob_20 ?_
  refine lv_iconst (v := 1) hx hb dX7_readJob_22 (by decide) ?_
  refine lv_bipush (v := 9) hx hb dX7_readJob_23 (by decide) ?_
  refine qC_Vi (As := [.ref (tx.2.1 3), .int 1, .int 9]) (rest := []) C0 (c_X8_numberBehind l (by decide) h) (cwV 3 C0.2.2.2.2 (tbV mC1_3_201 ⟨mC1_3_202, mC1_3_203, mC1_1_2, mC1_3_204⟩) rfl rfl rfl (by decide +kernel) ⟨Nat.le_of_ble_eq_true rfl, Nat.le_of_ble_eq_true rfl⟩) (rcC_1 hR Nat.zero_lt_one) hR hT hS rfl hl.1 rfl (Nat.le_of_ble_eq_true rfl) dX7_readJob_25 ⟨Nat.zero_le _, Nat.zero_le _⟩ (fun r5 S6 H locs h hR hS => ?_)
  refine lv_istore (lv' := [(4, .int r5), (3, .int r3), (2, .int r1), (0, .ref (b + adC 13 a0)), (1, .ref (b + adC 1 0))]) hx hb dX7_readJob_28 hl (by decide) rfl (fun ls hl => ?_)
  refine lv_aload_n hx hb dX7_readJob_30 rfl (lv_at hl 4 rfl) ?_
  refine va_ldcS hx hb C0.2.2.2.1 (tr_4 hT) dX7_readJob_31 ?_
  refine qC_Vi (As := [.ref (tx.2.1 4)]) (rest := []) C0 (c_X8_takeWord l (by decide) h) (cwV 1 C0.2.2.2.2 (tbV mC1_3_141 ⟨mC1_3_142, mC1_3_143, mC1_1_2, mC1_3_144⟩) rfl rfl rfl (by decide +kernel) ⟨Nat.le_of_ble_eq_true rfl, Nat.le_of_ble_eq_true rfl⟩) (rcC_1 hR Nat.zero_lt_one) hR hT hS rfl hl.1 rfl (Nat.le_of_ble_eq_true rfl) dX7_readJob_33 ⟨Nat.zero_le _, Nat.zero_le _⟩ (fun r7 S8 H locs h hR hS => ?_)
  refine lv_if_eq (tgt := 49) hx hb dX7_readJob_36 (by decide) (fun c9 => ?_) (fun c9 => ?_)
  · have h := h.1 c9
    refine lv_iconst (v := 0) hx hb dX7_readJob_49 (by decide) ?_
    exact Bw_X7_readJob_50 C0 hr hlk hT a0 r1 r3 r5 0 S8 _ _ _ av0 h hR hS (lv_sub hl [3, 4, 2, 1, 0] rfl)
  · have h := h.2 c9
    refine lv_aload_n hx hb dX7_readJob_39 rfl (lv_at hl 4 rfl) ?_
    refine lv_iconst (v := 0) hx hb dX7_readJob_40 (by decide) ?_
    refine lv_bipush (v := 99) hx hb dX7_readJob_41 (by decide) ?_
    refine qC_Vi (As := [.int 0, .int 99]) (rest := []) C0 (c_X8_number l h) (cwV 2 C0.2.2.2.2 (tbV mC1_3_217 ⟨mC1_3_211, mC1_3_212, mC1_1_2, mC1_3_213⟩) rfl rfl rfl (by decide +kernel) ⟨Nat.le_of_ble_eq_true rfl, Nat.le_of_ble_eq_true rfl⟩) (rcC_1 hR Nat.zero_lt_one) hR hT hS rfl hl.1 rfl (Nat.le_of_ble_eq_true rfl) dX7_readJob_43 ⟨Nat.zero_le _, Nat.zero_le _⟩ (fun r18 S19 H locs h hR hS => ?_)
    refine lv_goto (tgt := 50) hx hb dX7_readJob_46 (by decide) ?_
    exact Bw_X7_readJob_50 C0 hr hlk hT a0 r1 r3 r5 r18 S19 _ _ _ av0 h hR hS (lv_sub hl [3, 4, 2, 1, 0] rfl)

def rm_X3_clear : Room := { frames := 0, cells := 0, slots := 0, locals := 0 }
def F_X3_clear (a0 : Nat) (S : sSt) (k : sSt → Prop) : Prop := ∀ S1, S1 = uI S 3 a0 5 1 → ∀ S2, S2 = uI S1 3 a0 6 0 → ∀ S3, S3 = uI S2 3 a0 7 0 → k S3
set_option maxHeartbeats 4000000 in
set_option maxRecDepth 100000 in
theorem c_X3_clear (l : Launch) {D : va_G} {cy : Nat → ClassId} {b z : Nat} {tx : TX} {a0 : Nat} {S : sSt} {k : sSt → Prop} (av0 : a0 < 13) (h : F_X3_clear a0 S k) : Met l yX3_clear (Cond.code yX3_clear cX3_clear 1 none :: TB) rm_X3_clear (va_Pc [.ref (b + adC 3 a0)] (fun U => RelC D cy b z tx S U U.heap ∧ TxR tx U)) (PvC D cy b z tx k) 0 0 (gA b 709 z) := by
  refine Met.ofW (cc := cX3_clear) (maxL := 1) (ret := none) (by decide) rfl ?_
  intro p e s m args below meth c s₁ B hml hv
  obtain ⟨rfl, hR, hT⟩ := hv
  have C0 : CallFix p m c cX3_clear 1 s _ TB RX3 := ⟨B.exec, B.bytes, hml, findClass_of_methodNamed B.named, fun w hw => atoms_spec B.pre w (List.mem_cons_of_mem _ hw)⟩
  have hr := B.returns
  have hlk := B.notSynchronized
  have hx := C0.1
  have hb := C0.2.1
  have hS : va_S (gA b 709 z) s.heap s.heap [] := va_S.rf
  have hl := lv_entry ([.ref (b + adC 3 a0)]) (n := 1) (Nat.le_of_ble_eq_true rfl)
  rw [lg_entry_eq]
  generalize (lg_sl ([.ref (b + adC 3 a0)]) ++ List.replicate (1 - (lg_sl ([.ref (b + adC 3 a0)])).length) Slot.unset).toArray = ls at hl ⊢
  have hl : lv_has ls 1 [(0, .ref (b + adC 3 a0))] := hl
  show W p l e rm_X3_clear s m _ below meth c s.heap [] 0 0 (MQ below (PvC D cy b z tx k) _ s 0 0 (gA b 709 z)) _
  unfold F_X3_clear at h
  refine lv_aload_n hx hb dX3_clear_0 rfl (lv_at hl 0 rfl) ?_
  refine lv_iconst (v := 1) hx hb dX3_clear_1 (by decide) ?_
  refine pC_3_5 C0 hR hS av0 tbs_wsX30 mC1_1_72 dX3_clear_2 (fun S1 eS1 H locs hR hS => ?_)
  have h := h S1 eS1
  refine lv_aload_n hx hb dX3_clear_5 rfl (lv_at hl 0 rfl) ?_
  refine lv_iconst (v := 0) hx hb dX3_clear_6 (by decide) ?_
  refine pC_3_6 C0 hR hS av0 tbs_wsX30 mC1_1_75 dX3_clear_7 (fun S2 eS2 H locs hR hS => ?_)
  have h := h S2 eS2
  refine lv_aload_n hx hb dX3_clear_10 rfl (lv_at hl 0 rfl) ?_
  refine lv_iconst (v := 0) hx hb dX3_clear_11 (by decide) ?_
  refine pC_3_7 C0 hR hS av0 tbs_wsX30 mC1_1_76 dX3_clear_12 (fun S3 eS3 H locs hR hS => ?_)
  have h := h S3 eS3
  exact rtC_v C0 hr hlk hR hS h dX3_clear_15

def rm_X5_close : Room := { frames := 0, cells := 0, slots := 0, locals := 0 }
def F_X5_close (a0 : Nat) (S : sSt) (k : sSt → Prop) : Prop := ∀ S1, S1 = uI S 24 a0 3 0 → ∀ S2, S2 = uI S1 24 a0 4 0 → k S2
set_option maxHeartbeats 4000000 in
set_option maxRecDepth 100000 in
theorem c_X5_close (l : Launch) {D : va_G} {cy : Nat → ClassId} {b z : Nat} {tx : TX} {a0 : Nat} {S : sSt} {k : sSt → Prop} (av0 : a0 < 12) (h : F_X5_close a0 S k) : Met l yX5_close (Cond.code yX5_close cX5_close 1 none :: TB) rm_X5_close (va_Pc [.ref (b + adC 24 a0)] (fun U => RelC D cy b z tx S U U.heap ∧ TxR tx U)) (PvC D cy b z tx k) 0 0 (gA b 709 z) := by
  refine Met.ofW (cc := cX5_close) (maxL := 1) (ret := none) (by decide) rfl ?_
  intro p e s m args below meth c s₁ B hml hv
  obtain ⟨rfl, hR, hT⟩ := hv
  have C0 : CallFix p m c cX5_close 1 s _ TB RX5 := ⟨B.exec, B.bytes, hml, findClass_of_methodNamed B.named, fun w hw => atoms_spec B.pre w (List.mem_cons_of_mem _ hw)⟩
  have hr := B.returns
  have hlk := B.notSynchronized
  have hx := C0.1
  have hb := C0.2.1
  have hS : va_S (gA b 709 z) s.heap s.heap [] := va_S.rf
  have hl := lv_entry ([.ref (b + adC 24 a0)]) (n := 1) (Nat.le_of_ble_eq_true rfl)
  rw [lg_entry_eq]
  generalize (lg_sl ([.ref (b + adC 24 a0)]) ++ List.replicate (1 - (lg_sl ([.ref (b + adC 24 a0)])).length) Slot.unset).toArray = ls at hl ⊢
  have hl : lv_has ls 1 [(0, .ref (b + adC 24 a0))] := hl
  show W p l e rm_X5_close s m _ below meth c s.heap [] 0 0 (MQ below (PvC D cy b z tx k) _ s 0 0 (gA b 709 z)) _
  unfold F_X5_close at h
  refine lv_aload_n hx hb dX5_close_0 rfl (lv_at hl 0 rfl) ?_
  refine lv_iconst (v := 0) hx hb dX5_close_1 (by decide) ?_
  refine pC_24_3 C0 hR hS av0 tbs_wsX50 mC1_2_62 (by decide) dX5_close_2 (fun S1 eS1 H locs hR hS => ?_)
  have h := h S1 eS1
  refine lv_aload_n hx hb dX5_close_5 rfl (lv_at hl 0 rfl) ?_
  refine lv_iconst (v := 0) hx hb dX5_close_6 (by decide) ?_
  refine pC_24_4 C0 hR hS av0 tbs_wsX50 mC1_2_65 dX5_close_7 (fun S2 eS2 H locs hR hS => ?_)
  have h := h S2 eS2
  exact rtC_v C0 hr hlk hR hS h dX5_close_10

def rm_X5_start : Room := { frames := 1, cells := 0, slots := 0, locals := 20 }
def F_X5_start (a0 : Nat) (a1 : Int32) (S : sSt) (k : sSt → Prop) : Prop := F_X3_clear (a0 + 1) S (fun S3 => ∀ S4, S4 = uI S3 24 a0 1 a1 → ∀ S5, S5 = uI S4 24 a0 2 5 → F_X5_close a0 S5 (fun S7 => k S7))
set_option maxHeartbeats 4000000 in
set_option maxRecDepth 100000 in
theorem c_X5_start (l : Launch) {D : va_G} {cy : Nat → ClassId} {b z : Nat} {tx : TX} {a0 : Nat} {a1 : Int32} {S : sSt} {k : sSt → Prop} (av0 : a0 < 12) (h : F_X5_start a0 a1 S k) : Met l yX5_start (Cond.code yX5_start cX5_start 2 none :: TB) rm_X5_start (va_Pc [.ref (b + adC 24 a0), .int a1] (fun U => RelC D cy b z tx S U U.heap ∧ TxR tx U)) (PvC D cy b z tx k) 0 0 (gA b 709 z) := by
  refine Met.ofW (cc := cX5_start) (maxL := 2) (ret := none) (by decide) rfl ?_
  intro p e s m args below meth c s₁ B hml hv
  obtain ⟨rfl, hR, hT⟩ := hv
  have C0 : CallFix p m c cX5_start 2 s _ TB RX5 := ⟨B.exec, B.bytes, hml, findClass_of_methodNamed B.named, fun w hw => atoms_spec B.pre w (List.mem_cons_of_mem _ hw)⟩
  have hr := B.returns
  have hlk := B.notSynchronized
  have hx := C0.1
  have hb := C0.2.1
  have hS : va_S (gA b 709 z) s.heap s.heap [] := va_S.rf
  have hl := lv_entry ([.ref (b + adC 24 a0), .int a1]) (n := 2) (Nat.le_of_ble_eq_true rfl)
  rw [lg_entry_eq]
  generalize (lg_sl ([.ref (b + adC 24 a0), .int a1]) ++ List.replicate (2 - (lg_sl ([.ref (b + adC 24 a0), .int a1])).length) Slot.unset).toArray = ls at hl ⊢
  have hl : lv_has ls 2 [(0, .ref (b + adC 24 a0)), (1, .int a1)] := hl
  show W p l e rm_X5_start s m _ below meth c s.heap [] 0 0 (MQ below (PvC D cy b z tx k) _ s 0 0 (gA b 709 z)) _
  unfold F_X5_start at h
  refine lv_aload_n hx hb dX5_start_0 rfl (lv_at hl 0 rfl) ?_
  refine gC_24_0 C0 hR av0 tbs_wsX50 mC1_2_52 dX5_start_1 ?_
  have w1 : (a0 + 1) < 13 := by omega
  refine qC_Vv (As := []) (rest := []) C0 (c_X3_clear l w1 h) (cwV 0 C0.2.2.2.2 (tbV mC1_4_4 ⟨mC1_4_5, mC1_4_6, mC1_1_3, mC1_4_7⟩) rfl rfl rfl (by decide +kernel) ⟨Nat.le_of_ble_eq_true rfl, Nat.le_of_ble_eq_true rfl⟩) (rcC_3 hR w1) hR hT hS rfl hl.1 rfl (Nat.le_of_ble_eq_true rfl) dX5_start_4 ⟨Nat.zero_le _, Nat.zero_le _⟩ (fun S3 H locs h hR hS => ?_)
  refine lv_aload_n hx hb dX5_start_7 rfl (lv_at hl 0 rfl) ?_
  refine lv_iload_n hx hb dX5_start_8 rfl (lv_at hl 1 rfl) ?_
  refine pC_24_1 C0 hR hS av0 tbs_wsX50 mC1_2_55 dX5_start_9 (fun S4 eS4 H locs hR hS => ?_)
  have h := h S4 eS4
  refine lv_aload_n hx hb dX5_start_12 rfl (lv_at hl 0 rfl) ?_
  refine lv_iconst (v := 5) hx hb dX5_start_13 (by decide) ?_
  refine pC_24_2 C0 hR hS av0 tbs_wsX50 mC1_2_58 dX5_start_14 (fun S5 eS5 H locs hR hS => ?_)
  have h := h S5 eS5
  refine lv_aload_n hx hb dX5_start_17 rfl (lv_at hl 0 rfl) ?_
  refine qC_Vv (As := []) (rest := []) C0 (c_X5_close l av0 h) (cwV 0 C0.2.2.2.2 (tbV mC1_4_8 ⟨mC1_4_9, mC1_4_10, mC1_1_9, mC1_4_11⟩) rfl rfl rfl (by decide +kernel) ⟨Nat.le_of_ble_eq_true rfl, Nat.le_of_ble_eq_true rfl⟩) (rcC_24 hR av0) hR hT hS rfl hl.1 rfl (Nat.le_of_ble_eq_true rfl) dX5_start_18 ⟨Nat.zero_le _, Nat.zero_le _⟩ (fun S7 H locs h hR hS => ?_)
  exact rtC_v C0 hr hlk hR hS h dX5_start_21

def rm_X6_addSession : Room := { frames := 2, cells := 0, slots := 0, locals := 41 }
def F_X6_addSession (a0 : Nat) (a1 : Int32) (S : sSt) (k : sSt → Prop) : Prop := ((4 ≤ (S.1 13 a0 7) → k S) ∧ (¬ 4 ≤ (S.1 13 a0 7) → ix (S.1 13 a0 7) 4 (fun j4 => F_X5_start (4 * a0 + j4) a1 S (fun S7 => ∀ S8, S8 = uI S7 13 a0 7 ((S7.1 13 a0 7) + 1) → k S8))))
set_option maxHeartbeats 4000000 in
set_option maxRecDepth 100000 in
theorem c_X6_addSession (l : Launch) {D : va_G} {cy : Nat → ClassId} {b z : Nat} {tx : TX} {a0 : Nat} {a1 : Int32} {S : sSt} {k : sSt → Prop} (av0 : a0 < 3) (h : F_X6_addSession a0 a1 S k) : Met l yX6_addSession (Cond.code yX6_addSession cX6_addSession 2 none :: TB) rm_X6_addSession (va_Pc [.ref (b + adC 13 a0), .int a1] (fun U => RelC D cy b z tx S U U.heap ∧ TxR tx U)) (PvC D cy b z tx k) 0 0 (gA b 709 z) := by
  refine Met.ofW (cc := cX6_addSession) (maxL := 2) (ret := none) (by decide) rfl ?_
  intro p e s m args below meth c s₁ B hml hv
  obtain ⟨rfl, hR, hT⟩ := hv
  have C0 : CallFix p m c cX6_addSession 2 s _ TB RX6 := ⟨B.exec, B.bytes, hml, findClass_of_methodNamed B.named, fun w hw => atoms_spec B.pre w (List.mem_cons_of_mem _ hw)⟩
  have hr := B.returns
  have hlk := B.notSynchronized
  have hx := C0.1
  have hb := C0.2.1
  have hS : va_S (gA b 709 z) s.heap s.heap [] := va_S.rf
  have hl := lv_entry ([.ref (b + adC 13 a0), .int a1]) (n := 2) (Nat.le_of_ble_eq_true rfl)
  rw [lg_entry_eq]
  generalize (lg_sl ([.ref (b + adC 13 a0), .int a1]) ++ List.replicate (2 - (lg_sl ([.ref (b + adC 13 a0), .int a1])).length) Slot.unset).toArray = ls at hl ⊢
  have hl : lv_has ls 2 [(0, .ref (b + adC 13 a0)), (1, .int a1)] := hl
  show W p l e rm_X6_addSession s m _ below meth c s.heap [] 0 0 (MQ below (PvC D cy b z tx k) _ s 0 0 (gA b 709 z)) _
  unfold F_X6_addSession at h
  refine lv_aload_n hx hb dX6_addSession_0 rfl (lv_at hl 0 rfl) ?_
  refine gC_13_7 C0 hR av0 tbs_wsX60 mC1_2_150 dX6_addSession_1 ?_
  refine lv_aload_n hx hb dX6_addSession_4 rfl (lv_at hl 0 rfl) ?_
  refine gC_13_1 C0 hR av0 tbs_wsX60 mC1_2_129 dX6_addSession_5 ?_
  have w1 : a0 < 3 := by omega
  refine nC_15 C0 hR w1 dX6_addSession_8 ?_
  refine lv_icmp_ge (tgt := 35) hx hb dX6_addSession_9 (by decide) (fun c2 => ?_) (fun c2 => ?_)
  · have h := h.1 c2
    exact rtC_v C0 hr hlk hR hS h dX6_addSession_35
  · have h := h.2 c2
    refine lv_aload_n hx hb dX6_addSession_12 rfl (lv_at hl 0 rfl) ?_
    refine gC_13_1 C0 hR av0 tbs_wsX60 mC1_2_129 dX6_addSession_13 ?_
    have w3 : a0 < 3 := by omega
    refine lv_aload_n hx hb dX6_addSession_16 rfl (lv_at hl 0 rfl) ?_
    refine gC_13_7 C0 hR av0 tbs_wsX60 mC1_2_150 dX6_addSession_17 ?_
    obtain ⟨j4, hj4, ej4, h⟩ := h
    refine lC_15 C0 hR w3 hj4 ej4 dX6_addSession_20 ?_
    have w5 : (4 * a0 + j4) < 12 := by omega
    refine lv_iload_n hx hb dX6_addSession_21 rfl (lv_at hl 1 rfl) ?_
    refine qC_Vv (As := [.int a1]) (rest := []) C0 (c_X5_start l w5 h) (cwV 1 C0.2.2.2.2 (tbV mC1_4_0 ⟨mC1_4_1, mC1_4_2, mC1_1_9, mC1_4_3⟩) rfl rfl rfl (by decide +kernel) ⟨Nat.le_of_ble_eq_true rfl, Nat.le_of_ble_eq_true rfl⟩) (rcC_24 hR w5) hR hT hS rfl hl.1 rfl (Nat.le_of_ble_eq_true rfl) dX6_addSession_22 ⟨Nat.zero_le _, Nat.zero_le _⟩ (fun S7 H locs h hR hS => ?_)
    refine lv_aload_n hx hb dX6_addSession_25 rfl (lv_at hl 0 rfl) ?_
    refine lv_dup hx hb dX6_addSession_26 rfl ?_
    refine gC_13_7 C0 hR av0 tbs_wsX60 mC1_2_150 dX6_addSession_27 ?_
    refine lv_iconst (v := 1) hx hb dX6_addSession_30 (by decide) ?_
    refine lv_iadd hx hb dX6_addSession_31 ?_
    refine pC_13_7 C0 hR hS av0 tbs_wsX60 mC1_2_150 dX6_addSession_32 (fun S8 eS8 H locs hR hS => ?_)
    have h := h S8 eS8
    exact rtC_v C0 hr hlk hR hS h dX6_addSession_35

def rm_X7_readSession : Room := { frames := 5, cells := 0, slots := 0, locals := 107 }
def B_X7_readSession_40 (a0 : Nat) (a2 : Int32) (S : sSt) (k : sSt → Prop) : Prop := F_X8_isRight S (fun r7 S8 => ((r7 = 0 → k S8) ∧ (¬ r7 = 0 → F_X6_addSession a0 a2 S8 (fun S11 => k S11))))
set_option maxHeartbeats 4000000 in
set_option maxRecDepth 100000 in
theorem Bw_X7_readSession_40 {p : Program} {l : Launch} {e : Env} {s : State} {m : MethodId} {args : Array Value} {below : List Frame} {meth : Method} {c : Code} {D : va_G} {cy : Nat → ClassId} {b z : Nat} {tx : TX} (C0 : CallFix p m c cX7_readSession 3 s args TB RX7) (hr : meth.sig.returnType = none) (hlk : meth.locks = false) (hT : TxR tx s) {k : sSt → Prop} : ∀ (a0 : Nat) (a2 : Int32) (S : sSt) (H : Heap) (locs : List Loc) (ls : Array Slot) (av0 : a0 < 3), B_X7_readSession_40 a0 a2 S k → RelC D cy b z tx S s H → va_S (gA b 709 z) s.heap H locs → lv_has ls 3 [(0, .ref (b + adC 13 a0)), (1, .ref (b + adC 1 0)), (2, .int a2)] → W p l e rm_X7_readSession s m args below meth c H locs 0 0 (MQ below (PvC D cy b z tx k) args s 0 0 (gA b 709 z)) (F0 m 40 ls []) := by
  intro a0 a2 S H locs ls av0 h hR hS hl
  have hx := C0.1
  have hb := C0.2.1
  unfold B_X7_readSession_40 at h
  refine lv_aload_n hx hb dX7_readSession_40 rfl (lv_at hl 1 rfl) ?_
  refine qC_Vi (As := []) (rest := []) C0 (c_X8_isRight l h) (cwV 0 C0.2.2.2.2 (tbV mC1_3_218 ⟨mC1_3_219, mC1_3_220, mC1_1_2, mC1_3_221⟩) rfl rfl rfl (by decide +kernel) ⟨Nat.le_of_ble_eq_true rfl, Nat.le_of_ble_eq_true rfl⟩) (rcC_1 hR Nat.zero_lt_one) hR hT hS rfl hl.1 rfl (Nat.le_of_ble_eq_true rfl) dX7_readSession_41 ⟨Nat.zero_le _, Nat.zero_le _⟩ (fun r7 S8 H locs h hR hS => ?_)
  refine lv_if_eq (tgt := 52) hx hb dX7_readSession_44 (by decide) (fun c9 => ?_) (fun c9 => ?_)
  · have h := h.1 c9
    exact rtC_v C0 hr hlk hR hS h dX7_readSession_52
  · have h := h.2 c9
    refine lv_aload_n hx hb dX7_readSession_47 rfl (lv_at hl 0 rfl) ?_
    refine lv_iload_n hx hb dX7_readSession_48 rfl (lv_at hl 2 rfl) ?_
    refine qC_Vv (As := [.int a2]) (rest := []) C0 (c_X6_addSession l av0 h) (cwV 1 C0.2.2.2.2 (tbV mC1_3_236 ⟨mC1_3_237, mC1_3_238, mC1_1_5, mC1_3_239⟩) rfl rfl rfl (by decide +kernel) ⟨Nat.le_of_ble_eq_true rfl, Nat.le_of_ble_eq_true rfl⟩) (rcC_13 hR av0) hR hT hS rfl hl.1 rfl (Nat.le_of_ble_eq_true rfl) dX7_readSession_49 ⟨Nat.zero_le _, Nat.zero_le _⟩ (fun S11 H locs h hR hS => ?_)
    exact rtC_v C0 hr hlk hR hS h dX7_readSession_52
def F_X7_readSession (a0 : Nat) (S : sSt) (k : sSt → Prop) : Prop := F_X8_takeWord 6 S (fun r1 S2 => ((r1 = 0 → F_X8_takeWord 7 S2 (fun r4 S5 => ((r4 = 0 → B_X7_readSession_40 a0 0 S5 k) ∧ (¬ r4 = 0 → F_X8_number 0 9 S5 (fun r12 S13 => ∀ x14 : Int32, x14 = (-r12) → B_X7_readSession_40 a0 x14 S13 k))))) ∧ (¬ r1 = 0 → F_X8_number 0 9 S2 (fun r15 S16 => B_X7_readSession_40 a0 r15 S16 k))))
set_option maxHeartbeats 4000000 in
set_option maxRecDepth 100000 in
theorem c_X7_readSession (l : Launch) {D : va_G} {cy : Nat → ClassId} {b z : Nat} {tx : TX} {a0 : Nat} {S : sSt} {k : sSt → Prop} (av0 : a0 < 3) (h : F_X7_readSession a0 S k) : Met l yX7_readSession (Cond.code yX7_readSession cX7_readSession 3 none :: TB) rm_X7_readSession (va_Pc [.ref (b + adC 13 a0), .ref (b + adC 1 0)] (fun U => RelC D cy b z tx S U U.heap ∧ TxR tx U)) (PvC D cy b z tx k) 0 0 (gA b 709 z) := by
  refine Met.ofW (cc := cX7_readSession) (maxL := 3) (ret := none) (by decide) rfl ?_
  intro p e s m args below meth c s₁ B hml hv
  obtain ⟨rfl, hR, hT⟩ := hv
  have C0 : CallFix p m c cX7_readSession 3 s _ TB RX7 := ⟨B.exec, B.bytes, hml, findClass_of_methodNamed B.named, fun w hw => atoms_spec B.pre w (List.mem_cons_of_mem _ hw)⟩
  have hr := B.returns
  have hlk := B.notSynchronized
  have hx := C0.1
  have hb := C0.2.1
  have hS : va_S (gA b 709 z) s.heap s.heap [] := va_S.rf
  have hl := lv_entry ([.ref (b + adC 13 a0), .ref (b + adC 1 0)]) (n := 3) (Nat.le_of_ble_eq_true rfl)
  rw [lg_entry_eq]
  generalize (lg_sl ([.ref (b + adC 13 a0), .ref (b + adC 1 0)]) ++ List.replicate (3 - (lg_sl ([.ref (b + adC 13 a0), .ref (b + adC 1 0)])).length) Slot.unset).toArray = ls at hl ⊢
  have hl : lv_has ls 3 [(0, .ref (b + adC 13 a0)), (1, .ref (b + adC 1 0))] := hl
  show W p l e rm_X7_readSession s m _ below meth c s.heap [] 0 0 (MQ below (PvC D cy b z tx k) _ s 0 0 (gA b 709 z)) _
  unfold F_X7_readSession at h
  refine lv_iconst (v := 0) hx hb dX7_readSession_0 (by decide) ?_
  refine lv_istore_n (lv' := [(2, .int 0), (0, .ref (b + adC 13 a0)), (1, .ref (b + adC 1 0))]) hx hb dX7_readSession_1 rfl hl (by decide) rfl (fun ls hl => ?_)
  refine lv_aload_n hx hb dX7_readSession_2 rfl (lv_at hl 2 rfl) ?_
  refine va_ldcS hx hb C0.2.2.2.1 (tr_6 hT) dX7_readSession_3 ?_
  refine qC_Vi (As := [.ref (tx.2.1 6)]) (rest := []) C0 (c_X8_takeWord l (by decide) h) (cwV 1 C0.2.2.2.2 (tbV mC1_3_141 ⟨mC1_3_142, mC1_3_143, mC1_1_2, mC1_3_144⟩) rfl rfl rfl (by decide +kernel) ⟨Nat.le_of_ble_eq_true rfl, Nat.le_of_ble_eq_true rfl⟩) (rcC_1 hR Nat.zero_lt_one) hR hT hS rfl hl.1 rfl (Nat.le_of_ble_eq_true rfl) dX7_readSession_5 ⟨Nat.zero_le _, Nat.zero_le _⟩ (fun r1 S2 H locs h hR hS => ?_)
  refine lv_if_eq (tgt := 22) hx hb dX7_readSession_8 (by decide) (fun c3 => ?_) (fun c3 => ?_)
  · have h := h.1 c3
    refine lv_aload_n hx hb dX7_readSession_22 rfl (lv_at hl 2 rfl) ?_
    refine va_ldcS hx hb C0.2.2.2.1 (tr_7 hT) dX7_readSession_23 ?_
    refine qC_Vi (As := [.ref (tx.2.1 7)]) (rest := []) C0 (c_X8_takeWord l (by decide) h) (cwV 1 C0.2.2.2.2 (tbV mC1_3_141 ⟨mC1_3_142, mC1_3_143, mC1_1_2, mC1_3_144⟩) rfl rfl rfl (by decide +kernel) ⟨Nat.le_of_ble_eq_true rfl, Nat.le_of_ble_eq_true rfl⟩) (rcC_1 hR Nat.zero_lt_one) hR hT hS rfl hl.1 rfl (Nat.le_of_ble_eq_true rfl) dX7_readSession_25 ⟨Nat.zero_le _, Nat.zero_le _⟩ (fun r4 S5 H locs h hR hS => ?_)
    refine lv_if_eq (tgt := 40) hx hb dX7_readSession_28 (by decide) (fun c6 => ?_) (fun c6 => ?_)
    · have h := h.1 c6
      exact Bw_X7_readSession_40 C0 hr hlk hT a0 0 S5 _ _ _ av0 h hR hS (lv_sub hl [1, 2, 0] rfl)
    · have h := h.2 c6
      refine lv_aload_n hx hb dX7_readSession_31 rfl (lv_at hl 2 rfl) ?_
      refine lv_iconst (v := 0) hx hb dX7_readSession_32 (by decide) ?_
      refine lv_bipush (v := 9) hx hb dX7_readSession_33 (by decide) ?_
      refine qC_Vi (As := [.int 0, .int 9]) (rest := []) C0 (c_X8_number l h) (cwV 2 C0.2.2.2.2 (tbV mC1_3_217 ⟨mC1_3_211, mC1_3_212, mC1_1_2, mC1_3_213⟩) rfl rfl rfl (by decide +kernel) ⟨Nat.le_of_ble_eq_true rfl, Nat.le_of_ble_eq_true rfl⟩) (rcC_1 hR Nat.zero_lt_one) hR hT hS rfl hl.1 rfl (Nat.le_of_ble_eq_true rfl) dX7_readSession_35 ⟨Nat.zero_le _, Nat.zero_le _⟩ (fun r12 S13 H locs h hR hS => ?_)
      refine lv_ineg hx hb dX7_readSession_38 ?_
      refine lv_topi (fun x14 ex14 => ?_)
      have h := h x14 ex14
      refine lv_istore_n (lv' := [(2, .int x14), (0, .ref (b + adC 13 a0)), (1, .ref (b + adC 1 0))]) hx hb dX7_readSession_39 rfl hl (by decide) rfl (fun ls hl => ?_)
      exact Bw_X7_readSession_40 C0 hr hlk hT a0 x14 S13 _ _ _ av0 h hR hS (lv_sub hl [1, 2, 0] rfl)
  · have h := h.2 c3
    refine lv_aload_n hx hb dX7_readSession_11 rfl (lv_at hl 2 rfl) ?_
    refine lv_iconst (v := 0) hx hb dX7_readSession_12 (by decide) ?_
    refine lv_bipush (v := 9) hx hb dX7_readSession_13 (by decide) ?_
    refine qC_Vi (As := [.int 0, .int 9]) (rest := []) C0 (c_X8_number l h) (cwV 2 C0.2.2.2.2 (tbV mC1_3_217 ⟨mC1_3_211, mC1_3_212, mC1_1_2, mC1_3_213⟩) rfl rfl rfl (by decide +kernel) ⟨Nat.le_of_ble_eq_true rfl, Nat.le_of_ble_eq_true rfl⟩) (rcC_1 hR Nat.zero_lt_one) hR hT hS rfl hl.1 rfl (Nat.le_of_ble_eq_true rfl) dX7_readSession_15 ⟨Nat.zero_le _, Nat.zero_le _⟩ (fun r15 S16 H locs h hR hS => ?_)
    refine lv_istore_n (lv' := [(2, .int r15), (0, .ref (b + adC 13 a0)), (1, .ref (b + adC 1 0))]) hx hb dX7_readSession_18 rfl hl (by decide) rfl (fun ls hl => ?_)
    refine lv_goto (tgt := 40) hx hb dX7_readSession_19 (by decide) ?_
    exact Bw_X7_readSession_40 C0 hr hlk hT a0 r15 S16 _ _ _ av0 h hR hS (lv_sub hl [1, 2, 0] rfl)

def rm_X4_slotOf : Room := { frames := 0, cells := 0, slots := 0, locals := 0 }
def B_X4_slotOf_16 (S : sSt) (k : Int32 → sSt → Prop) : Prop := k (-1) S
set_option maxHeartbeats 4000000 in
set_option maxRecDepth 100000 in
theorem Bw_X4_slotOf_16 {p : Program} {l : Launch} {e : Env} {s : State} {m : MethodId} {args : Array Value} {below : List Frame} {meth : Method} {c : Code} {D : va_G} {cy : Nat → ClassId} {b z : Nat} {tx : TX} (C0 : CallFix p m c cX4_slotOf 2 s args TB RX4) (hr : meth.sig.returnType = (some .int)) (hlk : meth.locks = false) (hT : TxR tx s) {k : Int32 → sSt → Prop} : ∀ (S : sSt) (H : Heap) (locs : List Loc) (ls : Array Slot) , B_X4_slotOf_16 S k → RelC D cy b z tx S s H → va_S (gA b 709 z) s.heap H locs → lv_has ls 2 [] → W p l e rm_X4_slotOf s m args below meth c H locs 0 0 (MQ below (PiC D cy b z tx k) args s 0 0 (gA b 709 z)) (F0 m 16 ls []) := by
  intro S H locs ls h hR hS hl
  have hx := C0.1
  have hb := C0.2.1
  unfold B_X4_slotOf_16 at h
  refine lv_iconst (v := (-1)) hx hb dX4_slotOf_16 (by decide) ?_
  refine lv_goto (tgt := 31) hx hb dX4_slotOf_17 (by decide) ?_
  exact rtC_i C0 hr hlk hR hS h dX4_slotOf_31
def F_X4_slotOf (a0 : Nat) (a1 : Int32) (S : sSt) (k : Int32 → sSt → Prop) : Prop := ((a1 < (S.1 25 a0 1) → B_X4_slotOf_16 S k) ∧ (¬ a1 < (S.1 25 a0 1) → ((1 ≤ (S.1 25 a0 0) → (¬ (S.1 25 a0 0) = 0) ∧ (k ((a1 - (S.1 25 a0 1)) / (S.1 25 a0 0)) S)) ∧ (¬ 1 ≤ (S.1 25 a0 0) → B_X4_slotOf_16 S k))))
set_option maxHeartbeats 4000000 in
set_option maxRecDepth 100000 in
theorem c_X4_slotOf (l : Launch) {D : va_G} {cy : Nat → ClassId} {b z : Nat} {tx : TX} {a0 : Nat} {a1 : Int32} {S : sSt} {k : Int32 → sSt → Prop} (av0 : a0 < 12) (h : F_X4_slotOf a0 a1 S k) : Met l yX4_slotOf (Cond.code yX4_slotOf cX4_slotOf 2 (some .int) :: TB) rm_X4_slotOf (va_Pc [.ref (b + adC 25 a0), .int a1] (fun U => RelC D cy b z tx S U U.heap ∧ TxR tx U)) (PiC D cy b z tx k) 0 0 (gA b 709 z) := by
  refine Met.ofW (cc := cX4_slotOf) (maxL := 2) (ret := (some .int)) (by decide) rfl ?_
  intro p e s m args below meth c s₁ B hml hv
  obtain ⟨rfl, hR, hT⟩ := hv
  have C0 : CallFix p m c cX4_slotOf 2 s _ TB RX4 := ⟨B.exec, B.bytes, hml, findClass_of_methodNamed B.named, fun w hw => atoms_spec B.pre w (List.mem_cons_of_mem _ hw)⟩
  have hr := B.returns
  have hlk := B.notSynchronized
  have hx := C0.1
  have hb := C0.2.1
  have hS : va_S (gA b 709 z) s.heap s.heap [] := va_S.rf
  have hl := lv_entry ([.ref (b + adC 25 a0), .int a1]) (n := 2) (Nat.le_of_ble_eq_true rfl)
  rw [lg_entry_eq]
  generalize (lg_sl ([.ref (b + adC 25 a0), .int a1]) ++ List.replicate (2 - (lg_sl ([.ref (b + adC 25 a0), .int a1])).length) Slot.unset).toArray = ls at hl ⊢
  have hl : lv_has ls 2 [(0, .ref (b + adC 25 a0)), (1, .int a1)] := hl
  show W p l e rm_X4_slotOf s m _ below meth c s.heap [] 0 0 (MQ below (PiC D cy b z tx k) _ s 0 0 (gA b 709 z)) _
  unfold F_X4_slotOf at h
  refine lv_iload_n hx hb dX4_slotOf_0 rfl (lv_at hl 1 rfl) ?_
  refine lv_aload_n hx hb dX4_slotOf_1 rfl (lv_at hl 0 rfl) ?_
  refine gC_25_1 C0 hR av0 tbs_wsX40 mC1_2_87 dX4_slotOf_2 ?_
  refine lv_icmp_lt (tgt := 16) hx hb dX4_slotOf_5 (by decide) (fun c1 => ?_) (fun c1 => ?_)
  · have h := h.1 c1
    exact Bw_X4_slotOf_16 C0 hr hlk hT S _ _ _ h hR hS (lv_sub hl [] rfl)
  · have h := h.2 c1
    refine lv_aload_n hx hb dX4_slotOf_8 rfl (lv_at hl 0 rfl) ?_
    refine gC_25_0 C0 hR av0 tbs_wsX40 mC1_2_84 dX4_slotOf_9 ?_
    refine lv_iconst (v := 1) hx hb dX4_slotOf_12 (by decide) ?_
    refine lv_icmp_ge (tgt := 20) hx hb dX4_slotOf_13 (by decide) (fun c2 => ?_) (fun c2 => ?_)
    · have h := h.1 c2
      refine lv_iload_n hx hb dX4_slotOf_20 rfl (lv_at hl 1 rfl) ?_
      refine lv_aload_n hx hb dX4_slotOf_21 rfl (lv_at hl 0 rfl) ?_
      refine gC_25_1 C0 hR av0 tbs_wsX40 mC1_2_87 dX4_slotOf_22 ?_
      refine lv_isub hx hb dX4_slotOf_25 ?_
      refine lv_aload_n hx hb dX4_slotOf_26 rfl (lv_at hl 0 rfl) ?_
      refine gC_25_0 C0 hR av0 tbs_wsX40 mC1_2_84 dX4_slotOf_27 ?_
      obtain ⟨n3, h⟩ := h
      refine lv_idiv hx hb dX4_slotOf_30 n3 ?_
      exact rtC_i C0 hr hlk hR hS h dX4_slotOf_31
    · have h := h.2 c2
      exact Bw_X4_slotOf_16 C0 hr hlk hT S _ _ _ h hR hS (lv_sub hl [] rfl)

def rm_X7_readSchedule : Room := { frames := 6, cells := 0, slots := 0, locals := 130 }
def B_X7_readSchedule_124 (a0 : Nat) (a2 : Nat) (S : sSt) (k : sSt → Prop) : Prop := F_X8_isRight S (fun r27 S28 => ((r27 = 0 → k S28) ∧ (¬ r27 = 0 → F_X4_slotOf a2 (S28.1 13 a0 11) S28 (fun r30 S31 => ∀ S32, S32 = uI S31 25 a2 7 r30 → ∀ S33, S33 = uI S32 13 a0 8 ((S32.1 13 a0 8) + 1) → k S33))))
set_option maxHeartbeats 4000000 in
set_option maxRecDepth 100000 in
theorem Bw_X7_readSchedule_124 {p : Program} {l : Launch} {e : Env} {s : State} {m : MethodId} {args : Array Value} {below : List Frame} {meth : Method} {c : Code} {D : va_G} {cy : Nat → ClassId} {b z : Nat} {tx : TX} (C0 : CallFix p m c cX7_readSchedule 3 s args TB RX7) (hr : meth.sig.returnType = none) (hlk : meth.locks = false) (hT : TxR tx s) {k : sSt → Prop} : ∀ (a0 : Nat) (a2 : Nat) (S : sSt) (H : Heap) (locs : List Loc) (ls : Array Slot) (av0 : a0 < 3) (av2 : a2 < 12), B_X7_readSchedule_124 a0 a2 S k → RelC D cy b z tx S s H → va_S (gA b 709 z) s.heap H locs → lv_has ls 3 [(0, .ref (b + adC 13 a0)), (1, .ref (b + adC 1 0)), (2, .ref (b + adC 25 a2))] → W p l e rm_X7_readSchedule s m args below meth c H locs 0 0 (MQ below (PvC D cy b z tx k) args s 0 0 (gA b 709 z)) (F0 m 124 ls []) := by
  intro a0 a2 S H locs ls av0 av2 h hR hS hl
  have hx := C0.1
  have hb := C0.2.1
  unfold B_X7_readSchedule_124 at h
  refine lv_aload_n hx hb dX7_readSchedule_124 rfl (lv_at hl 1 rfl) ?_
  refine qC_Vi (As := []) (rest := []) C0 (c_X8_isRight l h) (cwV 0 C0.2.2.2.2 (tbV mC1_3_218 ⟨mC1_3_219, mC1_3_220, mC1_1_2, mC1_3_221⟩) rfl rfl rfl (by decide +kernel) ⟨Nat.le_of_ble_eq_true rfl, Nat.le_of_ble_eq_true rfl⟩) (rcC_1 hR Nat.zero_lt_one) hR hT hS rfl hl.1 rfl (Nat.le_of_ble_eq_true rfl) dX7_readSchedule_125 ⟨Nat.zero_le _, Nat.zero_le _⟩ (fun r27 S28 H locs h hR hS => ?_)
  refine lv_if_eq (tgt := 153) hx hb dX7_readSchedule_128 (by decide) (fun c29 => ?_) (fun c29 => ?_)
  · have h := h.1 c29
    exact rtC_v C0 hr hlk hR hS h dX7_readSchedule_153
  · have h := h.2 c29
    refine lv_aload_n hx hb dX7_readSchedule_131 rfl (lv_at hl 2 rfl) ?_
    refine lv_aload_n hx hb dX7_readSchedule_132 rfl (lv_at hl 2 rfl) ?_
    refine lv_aload_n hx hb dX7_readSchedule_133 rfl (lv_at hl 0 rfl) ?_
    refine gCn_13_11 C0 hR av0 tbs_wsX60 mC1_2_165 hT dX7_readSchedule_134 ?_
    refine qC_Vi (As := [.int (S28.1 13 a0 11)]) (rest := [.ref (b + adC 25 a2)]) C0 (c_X4_slotOf l av2 h) (cwV 1 C0.2.2.2.2 (tbV mC1_4_19 ⟨mC1_4_20, mC1_4_21, mC1_1_10, mC1_4_22⟩) rfl rfl rfl (by decide +kernel) ⟨Nat.le_of_ble_eq_true rfl, Nat.le_of_ble_eq_true rfl⟩) (rcC_25 hR av2) hR hT hS rfl hl.1 rfl (Nat.le_of_ble_eq_true rfl) dX7_readSchedule_137 ⟨Nat.zero_le _, Nat.zero_le _⟩ (fun r30 S31 H locs h hR hS => ?_)
    refine pCn_25_7 C0 hR hS av2 tbs_wsX40 mC1_2_106 hT dX7_readSchedule_140 (fun S32 eS32 H locs hR hS => ?_)
    have h := h S32 eS32
    refine lv_aload_n hx hb dX7_readSchedule_143 rfl (lv_at hl 0 rfl) ?_
    refine lv_dup hx hb dX7_readSchedule_144 rfl ?_
    refine gCn_13_8 C0 hR av0 tbs_wsX60 mC1_2_154 hT dX7_readSchedule_145 ?_
    refine lv_iconst (v := 1) hx hb dX7_readSchedule_148 (by decide) ?_
    refine lv_iadd hx hb dX7_readSchedule_149 ?_
    refine pCn_13_8 C0 hR hS av0 tbs_wsX60 mC1_2_154 hT dX7_readSchedule_150 (fun S33 eS33 H locs hR hS => ?_)
    have h := h S33 eS33
    exact rtC_v C0 hr hlk hR hS h dX7_readSchedule_153
def F_X7_readSchedule (a0 : Nat) (S : sSt) (k : sSt → Prop) : Prop := ix (S.1 13 a0 8) 4 (fun j2 => F_X8_number 1 60 S (fun r4 S5 => ∀ S6, S6 = uI S5 25 (4 * a0 + j2) 0 r4 → F_X8_numberBehind 9 0 59 S6 (fun r7 S8 => ∀ S9, S9 = uI S8 25 (4 * a0 + j2) 1 r7 → F_X8_numberBehind 1 0 5 S9 (fun r10 S11 => ∀ S12, S12 = uI S11 25 (4 * a0 + j2) 2 r10 → F_X8_numberBehind 2 0 9 S12 (fun r13 S14 => ∀ S15, S15 = uI S14 25 (4 * a0 + j2) 3 r13 → F_X8_numberBehind 3 1 9 S15 (fun r16 S17 => ∀ S18, S18 = uI S17 25 (4 * a0 + j2) 4 r16 → ∀ S19, S19 = uI S18 25 (4 * a0 + j2) 5 0 → ∀ S20, S20 = uI S19 25 (4 * a0 + j2) 6 0 → F_X8_takeWord 10 S20 (fun r21 S22 => ((r21 = 0 → F_X8_takeWord 11 S22 (fun r24 S25 => ((r24 = 0 → B_X7_readSchedule_124 a0 (4 * a0 + j2) S25 k) ∧ (¬ r24 = 0 → ∀ S34, S34 = uI S25 25 (4 * a0 + j2) 5 2 → F_X8_number 0 9 S34 (fun r35 S36 => ∀ S37, S37 = uI S36 25 (4 * a0 + j2) 6 r35 → B_X7_readSchedule_124 a0 (4 * a0 + j2) S37 k))))) ∧ (¬ r21 = 0 → ∀ S38, S38 = uI S22 25 (4 * a0 + j2) 5 1 → B_X7_readSchedule_124 a0 (4 * a0 + j2) S38 k)))))))))
set_option maxHeartbeats 4000000 in
set_option maxRecDepth 100000 in
theorem c_X7_readSchedule (l : Launch) {D : va_G} {cy : Nat → ClassId} {b z : Nat} {tx : TX} {a0 : Nat} {S : sSt} {k : sSt → Prop} (av0 : a0 < 3) (h : F_X7_readSchedule a0 S k) : Met l yX7_readSchedule (Cond.code yX7_readSchedule cX7_readSchedule 3 none :: TB) rm_X7_readSchedule (va_Pc [.ref (b + adC 13 a0), .ref (b + adC 1 0)] (fun U => RelC D cy b z tx S U U.heap ∧ TxR tx U)) (PvC D cy b z tx k) 0 0 (gA b 709 z) := by
  refine Met.ofW (cc := cX7_readSchedule) (maxL := 3) (ret := none) (by decide) rfl ?_
  intro p e s m args below meth c s₁ B hml hv
  obtain ⟨rfl, hR, hT⟩ := hv
  have C0 : CallFix p m c cX7_readSchedule 3 s _ TB RX7 := ⟨B.exec, B.bytes, hml, findClass_of_methodNamed B.named, fun w hw => atoms_spec B.pre w (List.mem_cons_of_mem _ hw)⟩
  have hr := B.returns
  have hlk := B.notSynchronized
  have hx := C0.1
  have hb := C0.2.1
  have hS : va_S (gA b 709 z) s.heap s.heap [] := va_S.rf
  have hl := lv_entry ([.ref (b + adC 13 a0), .ref (b + adC 1 0)]) (n := 3) (Nat.le_of_ble_eq_true rfl)
  rw [lg_entry_eq]
  generalize (lg_sl ([.ref (b + adC 13 a0), .ref (b + adC 1 0)]) ++ List.replicate (3 - (lg_sl ([.ref (b + adC 13 a0), .ref (b + adC 1 0)])).length) Slot.unset).toArray = ls at hl ⊢
  have hl : lv_has ls 3 [(0, .ref (b + adC 13 a0)), (1, .ref (b + adC 1 0))] := hl
  show W p l e rm_X7_readSchedule s m _ below meth c s.heap [] 0 0 (MQ below (PvC D cy b z tx k) _ s 0 0 (gA b 709 z)) _
  unfold F_X7_readSchedule at h
  refine lv_aload_n hx hb dX7_readSchedule_0 rfl (lv_at hl 0 rfl) ?_
  refine gCn_13_2 C0 hR av0 tbs_wsX60 mC1_2_134 hT dX7_readSchedule_1 ?_
  have w1 : a0 < 3 := by omega
  refine lv_aload_n hx hb dX7_readSchedule_4 rfl (lv_at hl 0 rfl) ?_
  refine gCn_13_8 C0 hR av0 tbs_wsX60 mC1_2_154 hT dX7_readSchedule_5 ?_
  obtain ⟨j2, hj2, ej2, h⟩ := h
  refine lC_16 C0 hR w1 hj2 ej2 dX7_readSchedule_8 ?_
  have w3 : (4 * a0 + j2) < 12 := by omega
  refine lv_astore_n (lv' := [(2, .ref (b + adC 25 (4 * a0 + j2))), (0, .ref (b + adC 13 a0)), (1, .ref (b + adC 1 0))]) hx hb dX7_readSchedule_9 rfl hl (by decide) rfl (fun ls hl => ?_)
  refine lv_aload_n hx hb dX7_readSchedule_10 rfl (lv_at hl 0 rfl) ?_
  refine lv_aload_n hx hb dX7_readSchedule_11 rfl (lv_at hl 2 rfl) ?_
  refine lv_iconst (v := 1) hx hb dX7_readSchedule_12 (by decide) ?_
  refine lv_bipush (v := 60) hx hb dX7_readSchedule_13 (by decide) ?_
  refine qC_Vi (As := [.int 1, .int 60]) (rest := [.ref (b + adC 25 (4 * a0 + j2))]) C0 (c_X8_number l h) (cwV 2 C0.2.2.2.2 (tbV mC1_3_217 ⟨mC1_3_211, mC1_3_212, mC1_1_2, mC1_3_213⟩) rfl rfl rfl (by decide +kernel) ⟨Nat.le_of_ble_eq_true rfl, Nat.le_of_ble_eq_true rfl⟩) (rcC_1 hR Nat.zero_lt_one) hR hT hS rfl hl.1 rfl (Nat.le_of_ble_eq_true rfl) dX7_readSchedule_15 ⟨Nat.zero_le _, Nat.zero_le _⟩ (fun r4 S5 H locs h hR hS => ?_)
  refine pCn_25_0 C0 hR hS w3 tbs_wsX40 mC1_2_85 hT dX7_readSchedule_18 (fun S6 eS6 H locs hR hS => ?_)
  have h := h S6 eS6
  refine lv_aload_n hx hb dX7_readSchedule_21 rfl (lv_at hl 0 rfl) ?_
  refine lv_aload_n hx hb dX7_readSchedule_22 rfl (lv_at hl 2 rfl) ?_
  refine va_ldcS hx hb C0.2.2.2.1 (tr_9 hT) dX7_readSchedule_23 ?_
  refine lv_iconst (v := 0) hx hb dX7_readSchedule_25 (by decide) ?_
  refine lv_bipush (v := 59) hx hb dX7_readSchedule_26 (by decide) ?_
  refine qC_Vi (As := [.ref (tx.2.1 9), .int 0, .int 59]) (rest := [.ref (b + adC 25 (4 * a0 + j2))]) C0 (c_X8_numberBehind l (by decide) h) (cwV 3 C0.2.2.2.2 (tbV mC1_3_201 ⟨mC1_3_202, mC1_3_203, mC1_1_2, mC1_3_204⟩) rfl rfl rfl (by decide +kernel) ⟨Nat.le_of_ble_eq_true rfl, Nat.le_of_ble_eq_true rfl⟩) (rcC_1 hR Nat.zero_lt_one) hR hT hS rfl hl.1 rfl (Nat.le_of_ble_eq_true rfl) dX7_readSchedule_28 ⟨Nat.zero_le _, Nat.zero_le _⟩ (fun r7 S8 H locs h hR hS => ?_)
  refine pCn_25_1 C0 hR hS w3 tbs_wsX40 mC1_2_88 hT dX7_readSchedule_31 (fun S9 eS9 H locs hR hS => ?_)
  have h := h S9 eS9
  refine lv_aload_n hx hb dX7_readSchedule_34 rfl (lv_at hl 0 rfl) ?_
  refine lv_aload_n hx hb dX7_readSchedule_35 rfl (lv_at hl 2 rfl) ?_
  refine va_ldcS hx hb C0.2.2.2.1 (tr_1 hT) dX7_readSchedule_36 ?_
  refine lv_iconst (v := 0) hx hb dX7_readSchedule_38 (by decide) ?_
  refine lv_iconst (v := 5) hx hb dX7_readSchedule_39 (by decide) ?_
  refine qC_Vi (As := [.ref (tx.2.1 1), .int 0, .int 5]) (rest := [.ref (b + adC 25 (4 * a0 + j2))]) C0 (c_X8_numberBehind l (by decide) h) (cwV 3 C0.2.2.2.2 (tbV mC1_3_201 ⟨mC1_3_202, mC1_3_203, mC1_1_2, mC1_3_204⟩) rfl rfl rfl (by decide +kernel) ⟨Nat.le_of_ble_eq_true rfl, Nat.le_of_ble_eq_true rfl⟩) (rcC_1 hR Nat.zero_lt_one) hR hT hS rfl hl.1 rfl (Nat.le_of_ble_eq_true rfl) dX7_readSchedule_40 ⟨Nat.zero_le _, Nat.zero_le _⟩ (fun r10 S11 H locs h hR hS => ?_)
  refine pCn_25_2 C0 hR hS w3 tbs_wsX40 mC1_2_91 hT dX7_readSchedule_43 (fun S12 eS12 H locs hR hS => ?_)
  have h := h S12 eS12
  refine lv_aload_n hx hb dX7_readSchedule_46 rfl (lv_at hl 0 rfl) ?_
  refine lv_aload_n hx hb dX7_readSchedule_47 rfl (lv_at hl 2 rfl) ?_
  refine va_ldcS hx hb C0.2.2.2.1 (tr_2 hT) dX7_readSchedule_48 ?_
  refine lv_iconst (v := 0) hx hb dX7_readSchedule_50 (by decide) ?_
  refine lv_bipush (v := 9) hx hb dX7_readSchedule_51 (by decide) ?_
  refine qC_Vi (As := [.ref (tx.2.1 2), .int 0, .int 9]) (rest := [.ref (b + adC 25 (4 * a0 + j2))]) C0 (c_X8_numberBehind l (by decide) h) (cwV 3 C0.2.2.2.2 (tbV mC1_3_201 ⟨mC1_3_202, mC1_3_203, mC1_1_2, mC1_3_204⟩) rfl rfl rfl (by decide +kernel) ⟨Nat.le_of_ble_eq_true rfl, Nat.le_of_ble_eq_true rfl⟩) (rcC_1 hR Nat.zero_lt_one) hR hT hS rfl hl.1 rfl (Nat.le_of_ble_eq_true rfl) dX7_readSchedule_53 ⟨Nat.zero_le _, Nat.zero_le _⟩ (fun r13 S14 H locs h hR hS => ?_)
  refine pCn_25_3 C0 hR hS w3 tbs_wsX40 mC1_2_94 hT dX7_readSchedule_56 (fun S15 eS15 H locs hR hS => ?_)
  have h := h S15 eS15
  refine lv_aload_n hx hb dX7_readSchedule_59 rfl (lv_at hl 0 rfl) ?_
  refine lv_aload_n hx hb dX7_readSchedule_60 rfl (lv_at hl 2 rfl) ?_
  refine va_ldcS hx hb C0.2.2.2.1 (tr_3 hT) dX7_readSchedule_61 ?_
  refine lv_iconst (v := 1) hx hb dX7_readSchedule_63 (by decide) ?_
  refine lv_bipush (v := 9) hx hb dX7_readSchedule_64 (by decide) ?_
  refine qC_Vi (As := [.ref (tx.2.1 3), .int 1, .int 9]) (rest := [.ref (b + adC 25 (4 * a0 + j2))]) C0 (c_X8_numberBehind l (by decide) h) (cwV 3 C0.2.2.2.2 (tbV mC1_3_201 ⟨mC1_3_202, mC1_3_203, mC1_1_2, mC1_3_204⟩) rfl rfl rfl (by decide +kernel) ⟨Nat.le_of_ble_eq_true rfl, Nat.le_of_ble_eq_true rfl⟩) (rcC_1 hR Nat.zero_lt_one) hR hT hS rfl hl.1 rfl (Nat.le_of_ble_eq_true rfl) dX7_readSchedule_66 ⟨Nat.zero_le _, Nat.zero_le _⟩ (fun r16 S17 H locs h hR hS => ?_)
  refine pCn_25_4 C0 hR hS w3 tbs_wsX40 mC1_2_97 hT dX7_readSchedule_69 (fun S18 eS18 H locs hR hS => ?_)
  have h := h S18 eS18
  refine lv_aload_n hx hb dX7_readSchedule_72 rfl (lv_at hl 0 rfl) ?_
  refine lv_iconst (v := 0) hx hb dX7_readSchedule_73 (by decide) ?_
  refine pCn_25_5 C0 hR hS w3 tbs_wsX40 mC1_2_100 hT dX7_readSchedule_74 (fun S19 eS19 H locs hR hS => ?_)
  have h := h S19 eS19
  refine lv_aload_n hx hb dX7_readSchedule_77 rfl (lv_at hl 0 rfl) ?_
  refine lv_iconst (v := 0) hx hb dX7_readSchedule_78 (by decide) ?_
  refine pCn_25_6 C0 hR hS w3 tbs_wsX40 mC1_2_103 hT dX7_readSchedule_79 (fun S20 eS20 H locs hR hS => ?_)
  have h := h S20 eS20
  refine lv_aload_n hx hb dX7_readSchedule_82 rfl (lv_at hl 2 rfl) ?_
  refine va_ldcS hx hb C0.2.2.2.1 (tr_10 hT) dX7_readSchedule_83 ?_
  refine qC_Vi (As := [.ref (tx.2.1 10)]) (rest := []) C0 (c_X8_takeWord l (by decide) h) (cwV 1 C0.2.2.2.2 (tbV mC1_3_141 ⟨mC1_3_142, mC1_3_143, mC1_1_2, mC1_3_144⟩) rfl rfl rfl (by decide +kernel) ⟨Nat.le_of_ble_eq_true rfl, Nat.le_of_ble_eq_true rfl⟩) (rcC_1 hR Nat.zero_lt_one) hR hT hS rfl hl.1 rfl (Nat.le_of_ble_eq_true rfl) dX7_readSchedule_85 ⟨Nat.zero_le _, Nat.zero_le _⟩ (fun r21 S22 H locs h hR hS => ?_)
  refine lv_if_eq (tgt := 99) hx hb dX7_readSchedule_88 (by decide) (fun c23 => ?_) (fun c23 => ?_)
  · have h := h.1 c23
    refine lv_aload_n hx hb dX7_readSchedule_99 rfl (lv_at hl 2 rfl) ?_
    refine va_ldcS hx hb C0.2.2.2.1 (tr_11 hT) dX7_readSchedule_100 ?_
    refine qC_Vi (As := [.ref (tx.2.1 11)]) (rest := []) C0 (c_X8_takeWord l (by decide) h) (cwV 1 C0.2.2.2.2 (tbV mC1_3_141 ⟨mC1_3_142, mC1_3_143, mC1_1_2, mC1_3_144⟩) rfl rfl rfl (by decide +kernel) ⟨Nat.le_of_ble_eq_true rfl, Nat.le_of_ble_eq_true rfl⟩) (rcC_1 hR Nat.zero_lt_one) hR hT hS rfl hl.1 rfl (Nat.le_of_ble_eq_true rfl) dX7_readSchedule_102 ⟨Nat.zero_le _, Nat.zero_le _⟩ (fun r24 S25 H locs h hR hS => ?_)
    refine lv_if_eq (tgt := 124) hx hb dX7_readSchedule_105 (by decide) (fun c26 => ?_) (fun c26 => ?_)
    · have h := h.1 c26
      exact Bw_X7_readSchedule_124 C0 hr hlk hT a0 (4 * a0 + j2) S25 _ _ _ av0 w3 h hR hS (lv_sub hl [1, 2, 0] rfl)
    · have h := h.2 c26
      refine lv_aload_n hx hb dX7_readSchedule_108 rfl (lv_at hl 0 rfl) ?_
      refine lv_iconst (v := 2) hx hb dX7_readSchedule_109 (by decide) ?_
      refine pCn_25_5 C0 hR hS w3 tbs_wsX40 mC1_2_100 hT dX7_readSchedule_110 (fun S34 eS34 H locs hR hS => ?_)
      have h := h S34 eS34
      refine lv_aload_n hx hb dX7_readSchedule_113 rfl (lv_at hl 0 rfl) ?_
      refine lv_aload_n hx hb dX7_readSchedule_114 rfl (lv_at hl 2 rfl) ?_
      refine lv_iconst (v := 0) hx hb dX7_readSchedule_115 (by decide) ?_
      refine lv_bipush (v := 9) hx hb dX7_readSchedule_116 (by decide) ?_
      refine qC_Vi (As := [.int 0, .int 9]) (rest := [.ref (b + adC 25 (4 * a0 + j2))]) C0 (c_X8_number l h) (cwV 2 C0.2.2.2.2 (tbV mC1_3_217 ⟨mC1_3_211, mC1_3_212, mC1_1_2, mC1_3_213⟩) rfl rfl rfl (by decide +kernel) ⟨Nat.le_of_ble_eq_true rfl, Nat.le_of_ble_eq_true rfl⟩) (rcC_1 hR Nat.zero_lt_one) hR hT hS rfl hl.1 rfl (Nat.le_of_ble_eq_true rfl) dX7_readSchedule_118 ⟨Nat.zero_le _, Nat.zero_le _⟩ (fun r35 S36 H locs h hR hS => ?_)
      refine pCn_25_6 C0 hR hS w3 tbs_wsX40 mC1_2_103 hT dX7_readSchedule_121 (fun S37 eS37 H locs hR hS => ?_)
      have h := h S37 eS37
      exact Bw_X7_readSchedule_124 C0 hr hlk hT a0 (4 * a0 + j2) S37 _ _ _ av0 w3 h hR hS (lv_sub hl [1, 2, 0] rfl)
  · have h := h.2 c23
    refine lv_aload_n hx hb dX7_readSchedule_91 rfl (lv_at hl 0 rfl) ?_
    refine lv_iconst (v := 1) hx hb dX7_readSchedule_92 (by decide) ?_
    refine pCn_25_5 C0 hR hS w3 tbs_wsX40 mC1_2_100 hT dX7_readSchedule_93 (fun S38 eS38 H locs hR hS => ?_)
    have h := h S38 eS38
    refine lv_goto (tgt := 124) hx hb dX7_readSchedule_96 (by decide) ?_
    exact Bw_X7_readSchedule_124 C0 hr hlk hT a0 (4 * a0 + j2) S38 _ _ _ av0 w3 h hR hS (lv_sub hl [1, 2, 0] rfl)

def rm_X7_readParallel : Room := { frames := 2, cells := 0, slots := 0, locals := 47 }
def F_X7_readParallel (a0 : Nat) (S : sSt) (k : sSt → Prop) : Prop := F_X8_number 0 5 S (fun r1 S2 => F_X8_number 1 4 S2 (fun r3 S4 => F_X8_isRight S4 (fun r5 S6 => ((r5 = 0 → k S6) ∧ (¬ r5 = 0 → ix r1 6 (fun j9 => ∀ S10, S10 = uI S6 17 a0 j9 r3 → k S10))))))
set_option maxHeartbeats 4000000 in
set_option maxRecDepth 100000 in
theorem c_X7_readParallel (l : Launch) {D : va_G} {cy : Nat → ClassId} {b z : Nat} {tx : TX} {a0 : Nat} {S : sSt} {k : sSt → Prop} (av0 : a0 < 3) (h : F_X7_readParallel a0 S k) : Met l yX7_readParallel (Cond.code yX7_readParallel cX7_readParallel 4 none :: TB) rm_X7_readParallel (va_Pc [.ref (b + adC 13 a0), .ref (b + adC 1 0)] (fun U => RelC D cy b z tx S U U.heap ∧ TxR tx U)) (PvC D cy b z tx k) 0 0 (gA b 709 z) := by
  refine Met.ofW (cc := cX7_readParallel) (maxL := 4) (ret := none) (by decide) rfl ?_
  intro p e s m args below meth c s₁ B hml hv
  obtain ⟨rfl, hR, hT⟩ := hv
  have C0 : CallFix p m c cX7_readParallel 4 s _ TB RX7 := ⟨B.exec, B.bytes, hml, findClass_of_methodNamed B.named, fun w hw => atoms_spec B.pre w (List.mem_cons_of_mem _ hw)⟩
  have hr := B.returns
  have hlk := B.notSynchronized
  have hx := C0.1
  have hb := C0.2.1
  have hS : va_S (gA b 709 z) s.heap s.heap [] := va_S.rf
  have hl := lv_entry ([.ref (b + adC 13 a0), .ref (b + adC 1 0)]) (n := 4) (Nat.le_of_ble_eq_true rfl)
  rw [lg_entry_eq]
  generalize (lg_sl ([.ref (b + adC 13 a0), .ref (b + adC 1 0)]) ++ List.replicate (4 - (lg_sl ([.ref (b + adC 13 a0), .ref (b + adC 1 0)])).length) Slot.unset).toArray = ls at hl ⊢
  have hl : lv_has ls 4 [(0, .ref (b + adC 13 a0)), (1, .ref (b + adC 1 0))] := hl
  show W p l e rm_X7_readParallel s m _ below meth c s.heap [] 0 0 (MQ below (PvC D cy b z tx k) _ s 0 0 (gA b 709 z)) _
  unfold F_X7_readParallel at h
  refine lv_aload_n hx hb dX7_readParallel_0 rfl (lv_at hl 1 rfl) ?_
  refine lv_iconst (v := 0) hx hb dX7_readParallel_1 (by decide) ?_
  refine lv_iconst (v := 5) hx hb dX7_readParallel_2 (by decide) ?_
  refine qC_Vi (As := [.int 0, .int 5]) (rest := []) C0 (c_X8_number l h) (cwV 2 C0.2.2.2.2 (tbV mC1_3_217 ⟨mC1_3_211, mC1_3_212, mC1_1_2, mC1_3_213⟩) rfl rfl rfl (by decide +kernel) ⟨Nat.le_of_ble_eq_true rfl, Nat.le_of_ble_eq_true rfl⟩) (rcC_1 hR Nat.zero_lt_one) hR hT hS rfl hl.1 rfl (Nat.le_of_ble_eq_true rfl) dX7_readParallel_3 ⟨Nat.zero_le _, Nat.zero_le _⟩ (fun r1 S2 H locs h hR hS => ?_)
  refine lv_istore_n (lv' := [(2, .int r1), (0, .ref (b + adC 13 a0)), (1, .ref (b + adC 1 0))]) hx hb dX7_readParallel_6 rfl hl (by decide) rfl (fun ls hl => ?_)
  refine lv_aload_n hx hb dX7_readParallel_7 rfl (lv_at hl 2 rfl) ?_
  refine lv_iconst (v := 1) hx hb dX7_readParallel_8 (by decide) ?_
  refine lv_iconst (v := 4) hx hb dX7_readParallel_9 (by decide) ?_
  refine qC_Vi (As := [.int 1, .int 4]) (rest := []) C0 (c_X8_number l h) (cwV 2 C0.2.2.2.2 (tbV mC1_3_217 ⟨mC1_3_211, mC1_3_212, mC1_1_2, mC1_3_213⟩) rfl rfl rfl (by decide +kernel) ⟨Nat.le_of_ble_eq_true rfl, Nat.le_of_ble_eq_true rfl⟩) (rcC_1 hR Nat.zero_lt_one) hR hT hS rfl hl.1 rfl (Nat.le_of_ble_eq_true rfl) dX7_readParallel_10 ⟨Nat.zero_le _, Nat.zero_le _⟩ (fun r3 S4 H locs h hR hS => ?_)
  refine lv_istore_n (lv' := [(3, .int r3), (2, .int r1), (0, .ref (b + adC 13 a0)), (1, .ref (b + adC 1 0))]) hx hb dX7_readParallel_13 rfl hl (by decide) rfl (fun ls hl => ?_)
  refine lv_aload_n hx hb dX7_readParallel_14 rfl (lv_at hl 3 rfl) ?_
  refine qC_Vi (As := []) (rest := []) C0 (c_X8_isRight l h) (cwV 0 C0.2.2.2.2 (tbV mC1_3_218 ⟨mC1_3_219, mC1_3_220, mC1_1_2, mC1_3_221⟩) rfl rfl rfl (by decide +kernel) ⟨Nat.le_of_ble_eq_true rfl, Nat.le_of_ble_eq_true rfl⟩) (rcC_1 hR Nat.zero_lt_one) hR hT hS rfl hl.1 rfl (Nat.le_of_ble_eq_true rfl) dX7_readParallel_15 ⟨Nat.zero_le _, Nat.zero_le _⟩ (fun r5 S6 H locs h hR hS => ?_)
  refine lv_if_eq (tgt := 28) hx hb dX7_readParallel_18 (by decide) (fun c7 => ?_) (fun c7 => ?_)
  · have h := h.1 c7
    exact rtC_v C0 hr hlk hR hS h dX7_readParallel_28
  · have h := h.2 c7
    refine lv_aload_n hx hb dX7_readParallel_21 rfl (lv_at hl 2 rfl) ?_
    refine gCn_13_3 C0 hR av0 tbs_wsX60 mC1_2_138 hT dX7_readParallel_22 ?_
    have w8 : a0 < 3 := by omega
    refine lv_iload_n hx hb dX7_readParallel_25 rfl (lv_at hl 1 rfl) ?_
    refine lv_iload_n hx hb dX7_readParallel_26 rfl (lv_at hl 0 rfl) ?_
    obtain ⟨j9, hj9, ej9, h⟩ := h
    refine sC_17 C0 hR hS w8 hj9 ej9 dX7_readParallel_27 (fun S10 eS10 H locs hR hS => ?_)
    have h := h S10 eS10
    exact rtC_v C0 hr hlk hR hS h dX7_readParallel_28
