theorem mC2_3_141 : Cond.methodLink RX7 45 yX8_takeWord ∈ TB := tbT_3 _ (List.mem_of_getElem? (i := 141) rfl) rfl
theorem mC2_3_144 : Cond.code yX8_takeWord cX8_takeWord 3 (some .boolean) ∈ TB := tbT_3 _ (List.mem_of_getElem? (i := 144) rfl) rfl
theorem mC2_3_142 : Cond.instanceMethod yX8_takeWord ∈ TB := tbT_3 _ (List.mem_of_getElem? (i := 142) rfl) rfl
theorem mC2_3_143 : Cond.selects RX8 yX8_takeWord yX8_takeWord ∈ TB := tbT_3 _ (List.mem_of_getElem? (i := 143) rfl) rfl
theorem mC2_1_2 : Cond.initialized RX8 ∈ TB := tbT_1 _ (List.mem_of_getElem? (i := 2) rfl) rfl
theorem mC2_4_35 : Cond.methodLink RX7 34 yX8_refuse ∈ TB := tbT_4 _ (List.mem_of_getElem? (i := 35) rfl) rfl
theorem mC2_3_209 : Cond.code yX8_refuse cX8_refuse 1 none ∈ TB := tbT_3 _ (List.mem_of_getElem? (i := 209) rfl) rfl
theorem mC2_3_207 : Cond.instanceMethod yX8_refuse ∈ TB := tbT_3 _ (List.mem_of_getElem? (i := 207) rfl) rfl
theorem mC2_3_208 : Cond.selects RX8 yX8_refuse yX8_refuse ∈ TB := tbT_3 _ (List.mem_of_getElem? (i := 208) rfl) rfl
theorem mC2_2_142 : Cond.fieldLinkNest RX7 160 "ClaimTable$Table" "settings" "[I" "ClaimTable" ∈ NB := nbT_2 _ (List.mem_of_getElem? (i := 142) rfl) rfl
theorem mC2_3_217 : Cond.methodLink RX7 88 yX8_number ∈ TB := tbT_3 _ (List.mem_of_getElem? (i := 217) rfl) rfl
theorem mC2_3_213 : Cond.code yX8_number cX8_number 7 (some .int) ∈ TB := tbT_3 _ (List.mem_of_getElem? (i := 213) rfl) rfl
theorem mC2_3_211 : Cond.instanceMethod yX8_number ∈ TB := tbT_3 _ (List.mem_of_getElem? (i := 211) rfl) rfl
theorem mC2_3_212 : Cond.selects RX8 yX8_number yX8_number ∈ TB := tbT_3 _ (List.mem_of_getElem? (i := 212) rfl) rfl
theorem mC2_2_147 : Cond.fieldLinkNest RX7 37 "ClaimTable$Table" "size" "I" "ClaimTable" ∈ NB := nbT_2 _ (List.mem_of_getElem? (i := 147) rfl) rfl
theorem mC2_2_151 : Cond.fieldLinkNest RX7 52 "ClaimTable$Table" "sessionCount" "I" "ClaimTable" ∈ NB := nbT_2 _ (List.mem_of_getElem? (i := 151) rfl) rfl
theorem mC2_2_154 : Cond.fieldLinkNest RX7 60 "ClaimTable$Table" "scheduleCount" "I" "ClaimTable" ∈ NB := nbT_2 _ (List.mem_of_getElem? (i := 154) rfl) rfl
theorem mC2_4_27 : Cond.methodLink RX7 73 yX7_readSetting ∈ TB := tbT_4 _ (List.mem_of_getElem? (i := 27) rfl) rfl
theorem mC2_4_29 : Cond.code yX7_readSetting cX7_readSetting 2 none ∈ TB := tbT_4 _ (List.mem_of_getElem? (i := 29) rfl) rfl
theorem mC2_4_28 : Cond.static yX7_readSetting ∈ TB := tbT_4 _ (List.mem_of_getElem? (i := 28) rfl) rfl
theorem mC2_1_13 : Cond.initialized RX7 ∈ TB := tbT_1 _ (List.mem_of_getElem? (i := 13) rfl) rfl
theorem mC2_4_24 : Cond.methodLink RX7 70 yX7_readParallel ∈ TB := tbT_4 _ (List.mem_of_getElem? (i := 24) rfl) rfl
theorem mC2_4_26 : Cond.code yX7_readParallel cX7_readParallel 4 none ∈ TB := tbT_4 _ (List.mem_of_getElem? (i := 26) rfl) rfl
theorem mC2_4_25 : Cond.static yX7_readParallel ∈ TB := tbT_4 _ (List.mem_of_getElem? (i := 25) rfl) rfl
theorem mC2_4_13 : Cond.methodLink RX7 65 yX7_readSchedule ∈ TB := tbT_4 _ (List.mem_of_getElem? (i := 13) rfl) rfl
theorem mC2_4_15 : Cond.code yX7_readSchedule cX7_readSchedule 3 none ∈ TB := tbT_4 _ (List.mem_of_getElem? (i := 15) rfl) rfl
theorem mC2_4_14 : Cond.static yX7_readSchedule ∈ TB := tbT_4 _ (List.mem_of_getElem? (i := 14) rfl) rfl
theorem mC2_3_231 : Cond.methodLink RX7 57 yX7_readSession ∈ TB := tbT_3 _ (List.mem_of_getElem? (i := 231) rfl) rfl
theorem mC2_3_233 : Cond.code yX7_readSession cX7_readSession 3 none ∈ TB := tbT_3 _ (List.mem_of_getElem? (i := 233) rfl) rfl
theorem mC2_3_232 : Cond.static yX7_readSession ∈ TB := tbT_3 _ (List.mem_of_getElem? (i := 232) rfl) rfl
theorem mC2_3_197 : Cond.methodLink RX7 49 yX7_readJob ∈ TB := tbT_3 _ (List.mem_of_getElem? (i := 197) rfl) rfl
theorem mC2_3_199 : Cond.code yX7_readJob cX7_readJob 7 none ∈ TB := tbT_3 _ (List.mem_of_getElem? (i := 199) rfl) rfl
theorem mC2_3_198 : Cond.static yX7_readJob ∈ TB := tbT_3 _ (List.mem_of_getElem? (i := 198) rfl) rfl
theorem mC2_1_47 : Cond.fieldLink RX8 15 "ClaimTable$Tape" "wrong" "I" ∈ TB := tbT_1 _ (List.mem_of_getElem? (i := 47) rfl) rfl
theorem mC2_1_46 : Cond.fieldLink RX8 29 "ClaimTable$Tape" "place" "I" ∈ TB := tbT_1 _ (List.mem_of_getElem? (i := 46) rfl) rfl
theorem mC2_3_155 : Cond.methodLink RX8 39 yX8_byteAt ∈ TB := tbT_3 _ (List.mem_of_getElem? (i := 155) rfl) rfl
theorem mC2_3_158 : Cond.code yX8_byteAt cX8_byteAt 2 (some .int) ∈ TB := tbT_3 _ (List.mem_of_getElem? (i := 158) rfl) rfl
theorem mC2_3_157 : Cond.instanceMethod yX8_byteAt ∈ TB := tbT_3 _ (List.mem_of_getElem? (i := 157) rfl) rfl
theorem mpC2_1_3 : Cond.selects RX8 yX8_byteAt yX8_byteAt ∈ TB := tbP_1 (yX8_byteAt, 5) (List.mem_of_getElem? (i := 3) rfl)
theorem mC2_3_129 : Cond.methodLink RX8 25 yX8_moveTo ∈ TB := tbT_3 _ (List.mem_of_getElem? (i := 129) rfl) rfl
theorem mC2_3_132 : Cond.code yX8_moveTo cX8_moveTo 2 none ∈ TB := tbT_3 _ (List.mem_of_getElem? (i := 132) rfl) rfl
theorem mC2_3_131 : Cond.instanceMethod yX8_moveTo ∈ TB := tbT_3 _ (List.mem_of_getElem? (i := 131) rfl) rfl
theorem mpC2_1_2 : Cond.selects RX8 yX8_moveTo yX8_moveTo ∈ TB := tbP_1 (yX8_moveTo, 5) (List.mem_of_getElem? (i := 2) rfl)
theorem mC2_4_44 : Cond.methodLink RX8 32 yX8_isAtEnd ∈ TB := tbT_4 _ (List.mem_of_getElem? (i := 44) rfl) rfl
theorem mC2_3_136 : Cond.code yX8_isAtEnd cX8_isAtEnd 1 (some .boolean) ∈ TB := tbT_3 _ (List.mem_of_getElem? (i := 136) rfl) rfl
theorem mC2_3_134 : Cond.instanceMethod yX8_isAtEnd ∈ TB := tbT_3 _ (List.mem_of_getElem? (i := 134) rfl) rfl
theorem mC2_3_135 : Cond.selects RX8 yX8_isAtEnd yX8_isAtEnd ∈ TB := tbT_3 _ (List.mem_of_getElem? (i := 135) rfl) rfl
theorem mC2_3_206 : Cond.methodLink RX8 36 yX8_refuse ∈ TB := tbT_3 _ (List.mem_of_getElem? (i := 206) rfl) rfl
theorem mC2_3_125 : Cond.methodLink RX7 9 yX8_startReading ∈ TB := tbT_3 _ (List.mem_of_getElem? (i := 125) rfl) rfl
theorem mC2_3_128 : Cond.code yX8_startReading cX8_startReading 1 none ∈ TB := tbT_3 _ (List.mem_of_getElem? (i := 128) rfl) rfl
theorem mC2_3_126 : Cond.instanceMethod yX8_startReading ∈ TB := tbT_3 _ (List.mem_of_getElem? (i := 126) rfl) rfl
theorem mC2_3_127 : Cond.selects RX8 yX8_startReading yX8_startReading ∈ TB := tbT_3 _ (List.mem_of_getElem? (i := 127) rfl) rfl
theorem mC2_3_133 : Cond.methodLink RX7 14 yX8_isAtEnd ∈ TB := tbT_3 _ (List.mem_of_getElem? (i := 133) rfl) rfl
theorem mC2_3_137 : Cond.methodLink RX7 20 yX7_readLine ∈ TB := tbT_3 _ (List.mem_of_getElem? (i := 137) rfl) rfl
theorem mC2_3_139 : Cond.code yX7_readLine cX7_readLine 2 none ∈ TB := tbT_3 _ (List.mem_of_getElem? (i := 139) rfl) rfl
theorem mC2_3_138 : Cond.static yX7_readLine ∈ TB := tbT_3 _ (List.mem_of_getElem? (i := 138) rfl) rfl
theorem mC2_4_36 : Cond.methodLink RX7 24 yX8_takeSign ∈ TB := tbT_4 _ (List.mem_of_getElem? (i := 36) rfl) rfl
theorem mC2_4_39 : Cond.code yX8_takeSign cX8_takeSign 2 (some .boolean) ∈ TB := tbT_4 _ (List.mem_of_getElem? (i := 39) rfl) rfl
theorem mC2_4_37 : Cond.instanceMethod yX8_takeSign ∈ TB := tbT_4 _ (List.mem_of_getElem? (i := 37) rfl) rfl
theorem mC2_4_38 : Cond.selects RX8 yX8_takeSign yX8_takeSign ∈ TB := tbT_4 _ (List.mem_of_getElem? (i := 38) rfl) rfl
theorem mC2_4_40 : Cond.methodLink RX7 28 yX8_needEnd ∈ TB := tbT_4 _ (List.mem_of_getElem? (i := 40) rfl) rfl
theorem mC2_4_43 : Cond.code yX8_needEnd cX8_needEnd 1 none ∈ TB := tbT_4 _ (List.mem_of_getElem? (i := 43) rfl) rfl
theorem mC2_4_41 : Cond.instanceMethod yX8_needEnd ∈ TB := tbT_4 _ (List.mem_of_getElem? (i := 41) rfl) rfl
theorem mC2_4_42 : Cond.selects RX8 yX8_needEnd yX8_needEnd ∈ TB := tbT_4 _ (List.mem_of_getElem? (i := 42) rfl) rfl
theorem mC2_3_218 : Cond.methodLink RX7 31 yX8_isRight ∈ TB := tbT_3 _ (List.mem_of_getElem? (i := 218) rfl) rfl
theorem mC2_3_221 : Cond.code yX8_isRight cX8_isRight 1 (some .boolean) ∈ TB := tbT_3 _ (List.mem_of_getElem? (i := 221) rfl) rfl
theorem mC2_3_219 : Cond.instanceMethod yX8_isRight ∈ TB := tbT_3 _ (List.mem_of_getElem? (i := 219) rfl) rfl
theorem mC2_3_220 : Cond.selects RX8 yX8_isRight yX8_isRight ∈ TB := tbT_3 _ (List.mem_of_getElem? (i := 220) rfl) rfl
theorem mC2_2_209 : Cond.fieldLink RX11 10 "ClaimTable" "tape" "LClaimTable$Tape;" ∈ TB := tbT_2 _ (List.mem_of_getElem? (i := 209) rfl) rfl
theorem mC2_3_118 : Cond.methodLink RX11 55 yX8_useUp ∈ TB := tbT_3 _ (List.mem_of_getElem? (i := 118) rfl) rfl
theorem mC2_3_121 : Cond.code yX8_useUp cX8_useUp 1 none ∈ TB := tbT_3 _ (List.mem_of_getElem? (i := 121) rfl) rfl
theorem mC2_3_119 : Cond.instanceMethod yX8_useUp ∈ TB := tbT_3 _ (List.mem_of_getElem? (i := 119) rfl) rfl
theorem mC2_3_120 : Cond.selects RX8 yX8_useUp yX8_useUp ∈ TB := tbT_3 _ (List.mem_of_getElem? (i := 120) rfl) rfl
theorem mC2_2_214 : Cond.fieldLink RX11 40 "ClaimTable" "spare" "LClaimTable$Table;" ∈ TB := tbT_2 _ (List.mem_of_getElem? (i := 214) rfl) rfl
theorem mC2_2_213 : Cond.fieldLink RX11 37 "ClaimTable" "live" "LClaimTable$Table;" ∈ TB := tbT_2 _ (List.mem_of_getElem? (i := 213) rfl) rfl
theorem mC2_3_53 : Cond.methodLink RX11 58 yX6_copyFrom ∈ TB := tbT_3 _ (List.mem_of_getElem? (i := 53) rfl) rfl
theorem mC2_3_56 : Cond.code yX6_copyFrom cX6_copyFrom 3 none ∈ TB := tbT_3 _ (List.mem_of_getElem? (i := 56) rfl) rfl
theorem mC2_3_54 : Cond.instanceMethod yX6_copyFrom ∈ TB := tbT_3 _ (List.mem_of_getElem? (i := 54) rfl) rfl
theorem mC2_3_55 : Cond.selects RX6 yX6_copyFrom yX6_copyFrom ∈ TB := tbT_3 _ (List.mem_of_getElem? (i := 55) rfl) rfl
theorem mC2_1_5 : Cond.initialized RX6 ∈ TB := tbT_1 _ (List.mem_of_getElem? (i := 5) rfl) rfl
theorem mC2_3_122 : Cond.methodLink RX11 62 yX7_readInto ∈ TB := tbT_3 _ (List.mem_of_getElem? (i := 122) rfl) rfl
theorem mC2_3_124 : Cond.code yX7_readInto cX7_readInto 3 (some .boolean) ∈ TB := tbT_3 _ (List.mem_of_getElem? (i := 124) rfl) rfl
theorem mC2_3_123 : Cond.static yX7_readInto ∈ TB := tbT_3 _ (List.mem_of_getElem? (i := 123) rfl) rfl
theorem mC2_2_157 : Cond.fieldLinkNest RX11 71 "ClaimTable$Table" "texts" "I" "ClaimTable" ∈ NB := nbT_2 _ (List.mem_of_getElem? (i := 157) rfl) rfl
theorem mC2_4_110 : Cond.classLink RX11 74 "java/lang/UnsupportedOperationException" ∈ TB := tbT_4 _ (List.mem_of_getElem? (i := 110) rfl) rfl
theorem mC2_1_22 : Cond.initialized "java/lang/UnsupportedOperationException" ∈ TB := tbT_1 _ (List.mem_of_getElem? (i := 22) rfl) rfl
theorem mC2_4_45 : Cond.classLink RX11 68 "java/lang/IllegalArgumentException" ∈ TB := tbT_4 _ (List.mem_of_getElem? (i := 45) rfl) rfl
theorem mC2_1_21 : Cond.initialized "java/lang/IllegalArgumentException" ∈ TB := tbT_1 _ (List.mem_of_getElem? (i := 21) rfl) rfl
theorem mC2_4_137 : Cond.classLink RX11 271 "java/lang/IndexOutOfBoundsException" ∈ TB := tbT_4 _ (List.mem_of_getElem? (i := 137) rfl) rfl
theorem mC2_1_23 : Cond.initialized "java/lang/IndexOutOfBoundsException" ∈ TB := tbT_1 _ (List.mem_of_getElem? (i := 23) rfl) rfl
theorem mC2_2_152 : Cond.fieldLinkNest RX11 376 "ClaimTable$Table" "sessionCount" "I" "ClaimTable" ∈ NB := nbT_2 _ (List.mem_of_getElem? (i := 152) rfl) rfl
theorem mC2_4_161 : Cond.methodLink RX3 55 yX8_takeWord ∈ TB := tbT_4 _ (List.mem_of_getElem? (i := 161) rfl) rfl
theorem mC2_4_177 : Cond.methodLink RX3 89 yX8_refuse ∈ TB := tbT_4 _ (List.mem_of_getElem? (i := 177) rfl) rfl
theorem mC2_4_181 : Cond.methodLink RX3 96 yX8_takeSign ∈ TB := tbT_4 _ (List.mem_of_getElem? (i := 181) rfl) rfl
theorem mC2_1_67 : Cond.fieldLink RX3 11 "ClaimTable$Query" "termColumns" "[I" ∈ TB := tbT_1 _ (List.mem_of_getElem? (i := 67) rfl) rfl
theorem mC2_4_166 : Cond.methodLink RX3 75 yX3_readColumn ∈ TB := tbT_4 _ (List.mem_of_getElem? (i := 166) rfl) rfl
theorem mC2_4_168 : Cond.code yX3_readColumn cX3_readColumn 1 (some .int) ∈ TB := tbT_4 _ (List.mem_of_getElem? (i := 168) rfl) rfl
theorem mC2_4_167 : Cond.static yX3_readColumn ∈ TB := tbT_4 _ (List.mem_of_getElem? (i := 167) rfl) rfl
theorem mC2_1_3 : Cond.initialized RX3 ∈ TB := tbT_1 _ (List.mem_of_getElem? (i := 3) rfl) rfl
theorem mC2_1_68 : Cond.fieldLink RX3 15 "ClaimTable$Query" "termSigns" "[C" ∈ TB := tbT_1 _ (List.mem_of_getElem? (i := 68) rfl) rfl
theorem mC2_4_178 : Cond.methodLink RX3 79 yX3_readSign ∈ TB := tbT_4 _ (List.mem_of_getElem? (i := 178) rfl) rfl
theorem mC2_4_180 : Cond.code yX3_readSign cX3_readSign 1 (some .char) ∈ TB := tbT_4 _ (List.mem_of_getElem? (i := 180) rfl) rfl
theorem mC2_4_179 : Cond.static yX3_readSign ∈ TB := tbT_4 _ (List.mem_of_getElem? (i := 179) rfl) rfl
theorem mC2_1_69 : Cond.fieldLink RX3 19 "ClaimTable$Query" "termNumbers" "[I" ∈ TB := tbT_1 _ (List.mem_of_getElem? (i := 69) rfl) rfl
theorem mC2_4_182 : Cond.methodLink RX3 83 yX8_number ∈ TB := tbT_4 _ (List.mem_of_getElem? (i := 182) rfl) rfl
theorem mC2_1_75 : Cond.fieldLink RX3 33 "ClaimTable$Query" "terms" "I" ∈ TB := tbT_1 _ (List.mem_of_getElem? (i := 75) rfl) rfl
theorem mC2_1_70 : Cond.fieldLink RX3 22 "ClaimTable$Query" "keyColumns" "[I" ∈ TB := tbT_1 _ (List.mem_of_getElem? (i := 70) rfl) rfl
theorem mC2_1_71 : Cond.fieldLink RX3 25 "ClaimTable$Query" "keysDescend" "[Z" ∈ TB := tbT_1 _ (List.mem_of_getElem? (i := 71) rfl) rfl
theorem mC2_1_76 : Cond.fieldLink RX3 36 "ClaimTable$Query" "keys" "I" ∈ TB := tbT_1 _ (List.mem_of_getElem? (i := 76) rfl) rfl
theorem mC2_4_156 : Cond.methodLink RX3 39 yX3_clear ∈ TB := tbT_4 _ (List.mem_of_getElem? (i := 156) rfl) rfl
theorem mC2_4_7 : Cond.code yX3_clear cX3_clear 1 none ∈ TB := tbT_4 _ (List.mem_of_getElem? (i := 7) rfl) rfl
theorem mC2_4_5 : Cond.instanceMethod yX3_clear ∈ TB := tbT_4 _ (List.mem_of_getElem? (i := 5) rfl) rfl
theorem mC2_4_6 : Cond.selects RX3 yX3_clear yX3_clear ∈ TB := tbT_4 _ (List.mem_of_getElem? (i := 6) rfl) rfl
theorem mC2_4_157 : Cond.methodLink RX3 42 yX8_startReading ∈ TB := tbT_4 _ (List.mem_of_getElem? (i := 157) rfl) rfl
theorem mC2_4_159 : Cond.methodLink RX3 49 yX8_numberBehind ∈ TB := tbT_4 _ (List.mem_of_getElem? (i := 159) rfl) rfl
theorem mC2_3_204 : Cond.code yX8_numberBehind cX8_numberBehind 4 (some .int) ∈ TB := tbT_3 _ (List.mem_of_getElem? (i := 204) rfl) rfl
theorem mC2_3_202 : Cond.instanceMethod yX8_numberBehind ∈ TB := tbT_3 _ (List.mem_of_getElem? (i := 202) rfl) rfl
theorem mC2_3_203 : Cond.selects RX8 yX8_numberBehind yX8_numberBehind ∈ TB := tbT_3 _ (List.mem_of_getElem? (i := 203) rfl) rfl
theorem mC2_1_72 : Cond.fieldLink RX3 29 "ClaimTable$Query" "times" "I" ∈ TB := tbT_1 _ (List.mem_of_getElem? (i := 72) rfl) rfl
theorem mC2_4_191 : Cond.methodLink RX3 68 yX8_needEnd ∈ TB := tbT_4 _ (List.mem_of_getElem? (i := 191) rfl) rfl
theorem mC2_4_192 : Cond.methodLink RX3 71 yX8_isRight ∈ TB := tbT_4 _ (List.mem_of_getElem? (i := 192) rfl) rfl
theorem mC2_4_185 : Cond.methodLink RX3 65 yX3_readKeys ∈ TB := tbT_4 _ (List.mem_of_getElem? (i := 185) rfl) rfl
theorem mC2_4_188 : Cond.code yX3_readKeys cX3_readKeys 3 none ∈ TB := tbT_4 _ (List.mem_of_getElem? (i := 188) rfl) rfl
theorem mC2_4_187 : Cond.instanceMethod yX3_readKeys ∈ TB := tbT_4 _ (List.mem_of_getElem? (i := 187) rfl) rfl
theorem mpC2_1_7 : Cond.selects RX3 yX3_readKeys yX3_readKeys ∈ TB := tbP_1 (yX3_readKeys, 8) (List.mem_of_getElem? (i := 7) rfl)
theorem mC2_4_162 : Cond.methodLink RX3 59 yX3_readTerms ∈ TB := tbT_4 _ (List.mem_of_getElem? (i := 162) rfl) rfl
theorem mC2_4_165 : Cond.code yX3_readTerms cX3_readTerms 3 none ∈ TB := tbT_4 _ (List.mem_of_getElem? (i := 165) rfl) rfl
theorem mC2_4_164 : Cond.instanceMethod yX3_readTerms ∈ TB := tbT_4 _ (List.mem_of_getElem? (i := 164) rfl) rfl
theorem mpC2_1_6 : Cond.selects RX3 yX3_readTerms yX3_readTerms ∈ TB := tbP_1 (yX3_readTerms, 8) (List.mem_of_getElem? (i := 6) rfl)
theorem mC2_4_133 : Cond.methodLink RX11 77 yX11_needSession ∈ TB := tbT_4 _ (List.mem_of_getElem? (i := 133) rfl) rfl
theorem mC2_4_136 : Cond.code yX11_needSession cX11_needSession 2 none ∈ TB := tbT_4 _ (List.mem_of_getElem? (i := 136) rfl) rfl
theorem mC2_4_135 : Cond.instanceMethod yX11_needSession ∈ TB := tbT_4 _ (List.mem_of_getElem? (i := 135) rfl) rfl
theorem mpC2_1_5 : Cond.selects RX11 yX11_needSession yX11_needSession ∈ TB := tbP_1 (yX11_needSession, 8) (List.mem_of_getElem? (i := 5) rfl)
theorem mC2_1_1 : Cond.initialized RX11 ∈ TB := tbT_1 _ (List.mem_of_getElem? (i := 1) rfl) rfl
theorem mC2_2_210 : Cond.fieldLink RX11 19 "ClaimTable" "draft" "LClaimTable$Query;" ∈ TB := tbT_2 _ (List.mem_of_getElem? (i := 210) rfl) rfl
theorem mC2_4_152 : Cond.methodLink RX11 80 yX3_readFrom ∈ TB := tbT_4 _ (List.mem_of_getElem? (i := 152) rfl) rfl
theorem mC2_4_155 : Cond.code yX3_readFrom cX3_readFrom 2 (some .boolean) ∈ TB := tbT_4 _ (List.mem_of_getElem? (i := 155) rfl) rfl
theorem mC2_4_153 : Cond.instanceMethod yX3_readFrom ∈ TB := tbT_4 _ (List.mem_of_getElem? (i := 153) rfl) rfl
theorem mC2_4_154 : Cond.selects RX3 yX3_readFrom yX3_readFrom ∈ TB := tbT_4 _ (List.mem_of_getElem? (i := 154) rfl) rfl
theorem mC2_2_131 : Cond.fieldLinkNest RX11 84 "ClaimTable$Table" "sessions" "[LClaimTable$Session;" "ClaimTable" ∈ NB := nbT_2 _ (List.mem_of_getElem? (i := 131) rfl) rfl
theorem mC2_2_54 : Cond.fieldLinkNest RX11 88 "ClaimTable$Session" "query" "LClaimTable$Query;" "ClaimTable" ∈ NB := nbT_2 _ (List.mem_of_getElem? (i := 54) rfl) rfl
theorem mC2_4_193 : Cond.methodLink RX11 93 yX3_copyFrom ∈ TB := tbT_4 _ (List.mem_of_getElem? (i := 193) rfl) rfl
theorem mC2_3_76 : Cond.code yX3_copyFrom cX3_copyFrom 3 none ∈ TB := tbT_3 _ (List.mem_of_getElem? (i := 76) rfl) rfl
theorem mC2_3_74 : Cond.instanceMethod yX3_copyFrom ∈ TB := tbT_3 _ (List.mem_of_getElem? (i := 74) rfl) rfl
theorem mC2_3_75 : Cond.selects RX3 yX3_copyFrom yX3_copyFrom ∈ TB := tbT_3 _ (List.mem_of_getElem? (i := 75) rfl) rfl
theorem mC2_1_73 : Cond.fieldLinkNest RX11 96 "ClaimTable$Query" "times" "I" "ClaimTable" ∈ NB := nbT_1 _ (List.mem_of_getElem? (i := 73) rfl) rfl
theorem mC2_1_48 : Cond.fieldLinkNest RX11 99 "ClaimTable$Tape" "wrong" "I" "ClaimTable" ∈ NB := nbT_1 _ (List.mem_of_getElem? (i := 48) rfl) rfl
theorem mC2_2_216 : Cond.fieldLink RX11 102 "ClaimTable" "why" "I" ∈ TB := tbT_2 _ (List.mem_of_getElem? (i := 216) rfl) rfl
def rm_X7_readSetting : Room := { frames := 5, cells := 0, slots := 0, locals := 107 }
def F_X7_readSetting (a0 : Nat) (S : sSt) (k : sSt → Prop) : Prop := F_X8_takeWord 13 S (fun r1 S2 => ((r1 = 0 → F_X8_takeWord 14 S2 (fun r4 S5 => ((r4 = 0 → F_X8_takeWord 15 S5 (fun r7 S8 => ((r7 = 0 → F_X8_takeWord 16 S8 (fun r10 S11 => ((r10 = 0 → F_X8_takeWord 17 S11 (fun r13 S14 => ((r13 = 0 → F_X8_refuse S14 (fun S17 => k S17)) ∧ (¬ r13 = 0 → F_X8_number 1 9 S14 (fun r19 S20 => ∀ S21, S21 = uI S20 18 a0 4 r19 → k S21))))) ∧ (¬ r10 = 0 → F_X8_number 0 9 S11 (fun r23 S24 => ∀ S25, S25 = uI S24 18 a0 3 r23 → k S25))))) ∧ (¬ r7 = 0 → F_X8_number 1 99 S8 (fun r27 S28 => ∀ S29, S29 = uI S28 18 a0 2 r27 → k S29))))) ∧ (¬ r4 = 0 → F_X8_number 1 9 S5 (fun r31 S32 => ∀ S33, S33 = uI S32 18 a0 1 r31 → k S33))))) ∧ (¬ r1 = 0 → F_X8_number 1 60 S2 (fun r35 S36 => ∀ S37, S37 = uI S36 18 a0 0 r35 → k S37))))
set_option maxHeartbeats 4000000 in
set_option maxRecDepth 100000 in
theorem c_X7_readSetting (l : Launch) {D : va_G} {cy : Nat → ClassId} {b z : Nat} {tx : TX} {a0 : Nat} {S : sSt} {k : sSt → Prop} (av0 : a0 < 3) (h : F_X7_readSetting a0 S k) : Met l yX7_readSetting (Cond.code yX7_readSetting cX7_readSetting 2 none :: TB) rm_X7_readSetting (va_Pc [.ref (b + adC 13 a0), .ref (b + adC 1 0)] (fun U => RelC D cy b z tx S U U.heap ∧ TxR tx U)) (PvC D cy b z tx k) 0 0 (gA b 709 z) := by
  refine Met.ofW (cc := cX7_readSetting) (maxL := 2) (ret := none) (by decide) rfl ?_
  intro p e s m args below meth c s₁ B hml hv
  obtain ⟨rfl, hR, hT⟩ := hv
  have C0 : CallFix p m c cX7_readSetting 2 s _ TB RX7 := ⟨B.exec, B.bytes, hml, findClass_of_methodNamed B.named, fun w hw => atoms_spec B.pre w (List.mem_cons_of_mem _ hw)⟩
  have hr := B.returns
  have hlk := B.notSynchronized
  have hx := C0.1
  have hb := C0.2.1
  have hS : va_S (gA b 709 z) s.heap s.heap [] := va_S.rf
  have hl := lv_entry ([.ref (b + adC 13 a0), .ref (b + adC 1 0)]) (n := 2) (Nat.le_of_ble_eq_true rfl)
  rw [lg_entry_eq]
  generalize (lg_sl ([.ref (b + adC 13 a0), .ref (b + adC 1 0)]) ++ List.replicate (2 - (lg_sl ([.ref (b + adC 13 a0), .ref (b + adC 1 0)])).length) Slot.unset).toArray = ls at hl ⊢
  have hl : lv_has ls 2 [(0, .ref (b + adC 13 a0)), (1, .ref (b + adC 1 0))] := hl
  show W p l e rm_X7_readSetting s m _ below meth c s.heap [] 0 0 (MQ below (PvC D cy b z tx k) _ s 0 0 (gA b 709 z)) _
  unfold F_X7_readSetting at h
  refine lv_aload_n hx hb dX7_readSetting_0 rfl (lv_at hl 1 rfl) ?_
  refine va_ldcS hx hb C0.2.2.2.1 (tr_13 hT) dX7_readSetting_1 ?_
  refine qC_Vi (As := [.ref (tx.2.1 13)]) (rest := []) C0 (c_X8_takeWord l (by decide) h) (cwV 1 C0.2.2.2.2 (tbV mC2_3_141 ⟨mC2_3_142, mC2_3_143, mC2_1_2, mC2_3_144⟩) rfl rfl rfl (by decide +kernel) ⟨Nat.le_of_ble_eq_true rfl, Nat.le_of_ble_eq_true rfl⟩) (rcC_1 hR Nat.zero_lt_one) hR hT hS rfl hl.1 rfl (Nat.le_of_ble_eq_true rfl) dX7_readSetting_3 ⟨Nat.zero_le _, Nat.zero_le _⟩ (fun r1 S2 H locs h hR hS => ?_)
  refine lv_if_eq (tgt := 25) hx hb dX7_readSetting_6 (by decide) (fun c3 => ?_) (fun c3 => ?_)
  · have h := h.1 c3
    refine lv_aload_n hx hb dX7_readSetting_25 rfl (lv_at hl 1 rfl) ?_
    refine va_ldcS hx hb C0.2.2.2.1 (tr_14 hT) dX7_readSetting_26 ?_
    refine qC_Vi (As := [.ref (tx.2.1 14)]) (rest := []) C0 (c_X8_takeWord l (by decide) h) (cwV 1 C0.2.2.2.2 (tbV mC2_3_141 ⟨mC2_3_142, mC2_3_143, mC2_1_2, mC2_3_144⟩) rfl rfl rfl (by decide +kernel) ⟨Nat.le_of_ble_eq_true rfl, Nat.le_of_ble_eq_true rfl⟩) (rcC_1 hR Nat.zero_lt_one) hR hT hS rfl hl.1 rfl (Nat.le_of_ble_eq_true rfl) dX7_readSetting_28 ⟨Nat.zero_le _, Nat.zero_le _⟩ (fun r4 S5 H locs h hR hS => ?_)
    refine lv_if_eq (tgt := 50) hx hb dX7_readSetting_31 (by decide) (fun c6 => ?_) (fun c6 => ?_)
    · have h := h.1 c6
      refine lv_aload_n hx hb dX7_readSetting_50 rfl (lv_at hl 1 rfl) ?_
      refine va_ldcS hx hb C0.2.2.2.1 (tr_15 hT) dX7_readSetting_51 ?_
      refine qC_Vi (As := [.ref (tx.2.1 15)]) (rest := []) C0 (c_X8_takeWord l (by decide) h) (cwV 1 C0.2.2.2.2 (tbV mC2_3_141 ⟨mC2_3_142, mC2_3_143, mC2_1_2, mC2_3_144⟩) rfl rfl rfl (by decide +kernel) ⟨Nat.le_of_ble_eq_true rfl, Nat.le_of_ble_eq_true rfl⟩) (rcC_1 hR Nat.zero_lt_one) hR hT hS rfl hl.1 rfl (Nat.le_of_ble_eq_true rfl) dX7_readSetting_53 ⟨Nat.zero_le _, Nat.zero_le _⟩ (fun r7 S8 H locs h hR hS => ?_)
      refine lv_if_eq (tgt := 75) hx hb dX7_readSetting_56 (by decide) (fun c9 => ?_) (fun c9 => ?_)
      · have h := h.1 c9
        refine lv_aload_n hx hb dX7_readSetting_75 rfl (lv_at hl 1 rfl) ?_
        refine va_ldcS hx hb C0.2.2.2.1 (tr_16 hT) dX7_readSetting_76 ?_
        refine qC_Vi (As := [.ref (tx.2.1 16)]) (rest := []) C0 (c_X8_takeWord l (by decide) h) (cwV 1 C0.2.2.2.2 (tbV mC2_3_141 ⟨mC2_3_142, mC2_3_143, mC2_1_2, mC2_3_144⟩) rfl rfl rfl (by decide +kernel) ⟨Nat.le_of_ble_eq_true rfl, Nat.le_of_ble_eq_true rfl⟩) (rcC_1 hR Nat.zero_lt_one) hR hT hS rfl hl.1 rfl (Nat.le_of_ble_eq_true rfl) dX7_readSetting_78 ⟨Nat.zero_le _, Nat.zero_le _⟩ (fun r10 S11 H locs h hR hS => ?_)
        refine lv_if_eq (tgt := 100) hx hb dX7_readSetting_81 (by decide) (fun c12 => ?_) (fun c12 => ?_)
        · have h := h.1 c12
          refine lv_aload_n hx hb dX7_readSetting_100 rfl (lv_at hl 1 rfl) ?_
          refine va_ldcS hx hb C0.2.2.2.1 (tr_17 hT) dX7_readSetting_101 ?_
          refine qC_Vi (As := [.ref (tx.2.1 17)]) (rest := []) C0 (c_X8_takeWord l (by decide) h) (cwV 1 C0.2.2.2.2 (tbV mC2_3_141 ⟨mC2_3_142, mC2_3_143, mC2_1_2, mC2_3_144⟩) rfl rfl rfl (by decide +kernel) ⟨Nat.le_of_ble_eq_true rfl, Nat.le_of_ble_eq_true rfl⟩) (rcC_1 hR Nat.zero_lt_one) hR hT hS rfl hl.1 rfl (Nat.le_of_ble_eq_true rfl) dX7_readSetting_103 ⟨Nat.zero_le _, Nat.zero_le _⟩ (fun r13 S14 H locs h hR hS => ?_)
          refine lv_if_eq (tgt := 125) hx hb dX7_readSetting_106 (by decide) (fun c15 => ?_) (fun c15 => ?_)
          · have h := h.1 c15
            refine lv_aload_n hx hb dX7_readSetting_125 rfl (lv_at hl 1 rfl) ?_
            refine qC_Vv (As := []) (rest := []) C0 (c_X8_refuse l h) (cwV 0 C0.2.2.2.2 (tbV mC2_4_35 ⟨mC2_3_207, mC2_3_208, mC2_1_2, mC2_3_209⟩) rfl rfl rfl (by decide +kernel) ⟨Nat.le_of_ble_eq_true rfl, Nat.le_of_ble_eq_true rfl⟩) (rcC_1 hR Nat.zero_lt_one) hR hT hS rfl hl.1 rfl (Nat.le_of_ble_eq_true rfl) dX7_readSetting_126 ⟨Nat.zero_le _, Nat.zero_le _⟩ (fun S17 H locs h hR hS => ?_)
            exact rtC_v C0 hr hlk hR hS h dX7_readSetting_129
          · have h := h.2 c15
            refine lv_aload_n hx hb dX7_readSetting_109 rfl (lv_at hl 0 rfl) ?_
            refine gCn_13_4 C0 hR av0 tbs_wsX60 mC2_2_142 hT dX7_readSetting_110 ?_
            have w18 : a0 < 3 := by omega
            refine lv_iconst (v := 4) hx hb dX7_readSetting_113 (by decide) ?_
            refine lv_aload_n hx hb dX7_readSetting_114 rfl (lv_at hl 1 rfl) ?_
            refine lv_iconst (v := 1) hx hb dX7_readSetting_115 (by decide) ?_
            refine lv_bipush (v := 9) hx hb dX7_readSetting_116 (by decide) ?_
            refine qC_Vi (As := [.int 1, .int 9]) (rest := [.int 4, .ref (b + adC 18 a0)]) C0 (c_X8_number l h) (cwV 2 C0.2.2.2.2 (tbV mC2_3_217 ⟨mC2_3_211, mC2_3_212, mC2_1_2, mC2_3_213⟩) rfl rfl rfl (by decide +kernel) ⟨Nat.le_of_ble_eq_true rfl, Nat.le_of_ble_eq_true rfl⟩) (rcC_1 hR Nat.zero_lt_one) hR hT hS rfl hl.1 rfl (Nat.le_of_ble_eq_true rfl) dX7_readSetting_118 ⟨Nat.zero_le _, Nat.zero_le _⟩ (fun r19 S20 H locs h hR hS => ?_)
            refine sC_18 C0 hR hS w18 (by decide) rfl dX7_readSetting_121 (fun S21 eS21 H locs hR hS => ?_)
            have h := h S21 eS21
            refine lv_goto (tgt := 129) hx hb dX7_readSetting_122 (by decide) ?_
            exact rtC_v C0 hr hlk hR hS h dX7_readSetting_129
        · have h := h.2 c12
          refine lv_aload_n hx hb dX7_readSetting_84 rfl (lv_at hl 0 rfl) ?_
          refine gCn_13_4 C0 hR av0 tbs_wsX60 mC2_2_142 hT dX7_readSetting_85 ?_
          have w22 : a0 < 3 := by omega
          refine lv_iconst (v := 3) hx hb dX7_readSetting_88 (by decide) ?_
          refine lv_aload_n hx hb dX7_readSetting_89 rfl (lv_at hl 1 rfl) ?_
          refine lv_iconst (v := 0) hx hb dX7_readSetting_90 (by decide) ?_
          refine lv_bipush (v := 9) hx hb dX7_readSetting_91 (by decide) ?_
          refine qC_Vi (As := [.int 0, .int 9]) (rest := [.int 3, .ref (b + adC 18 a0)]) C0 (c_X8_number l h) (cwV 2 C0.2.2.2.2 (tbV mC2_3_217 ⟨mC2_3_211, mC2_3_212, mC2_1_2, mC2_3_213⟩) rfl rfl rfl (by decide +kernel) ⟨Nat.le_of_ble_eq_true rfl, Nat.le_of_ble_eq_true rfl⟩) (rcC_1 hR Nat.zero_lt_one) hR hT hS rfl hl.1 rfl (Nat.le_of_ble_eq_true rfl) dX7_readSetting_93 ⟨Nat.zero_le _, Nat.zero_le _⟩ (fun r23 S24 H locs h hR hS => ?_)
          refine sC_18 C0 hR hS w22 (by decide) rfl dX7_readSetting_96 (fun S25 eS25 H locs hR hS => ?_)
          have h := h S25 eS25
          refine lv_goto (tgt := 129) hx hb dX7_readSetting_97 (by decide) ?_
          exact rtC_v C0 hr hlk hR hS h dX7_readSetting_129
      · have h := h.2 c9
        refine lv_aload_n hx hb dX7_readSetting_59 rfl (lv_at hl 0 rfl) ?_
        refine gCn_13_4 C0 hR av0 tbs_wsX60 mC2_2_142 hT dX7_readSetting_60 ?_
        have w26 : a0 < 3 := by omega
        refine lv_iconst (v := 2) hx hb dX7_readSetting_63 (by decide) ?_
        refine lv_aload_n hx hb dX7_readSetting_64 rfl (lv_at hl 1 rfl) ?_
        refine lv_iconst (v := 1) hx hb dX7_readSetting_65 (by decide) ?_
        refine lv_bipush (v := 99) hx hb dX7_readSetting_66 (by decide) ?_
        refine qC_Vi (As := [.int 1, .int 99]) (rest := [.int 2, .ref (b + adC 18 a0)]) C0 (c_X8_number l h) (cwV 2 C0.2.2.2.2 (tbV mC2_3_217 ⟨mC2_3_211, mC2_3_212, mC2_1_2, mC2_3_213⟩) rfl rfl rfl (by decide +kernel) ⟨Nat.le_of_ble_eq_true rfl, Nat.le_of_ble_eq_true rfl⟩) (rcC_1 hR Nat.zero_lt_one) hR hT hS rfl hl.1 rfl (Nat.le_of_ble_eq_true rfl) dX7_readSetting_68 ⟨Nat.zero_le _, Nat.zero_le _⟩ (fun r27 S28 H locs h hR hS => ?_)
        refine sC_18 C0 hR hS w26 (by decide) rfl dX7_readSetting_71 (fun S29 eS29 H locs hR hS => ?_)
        have h := h S29 eS29
        refine lv_goto (tgt := 129) hx hb dX7_readSetting_72 (by decide) ?_
        exact rtC_v C0 hr hlk hR hS h dX7_readSetting_129
    · have h := h.2 c6
      refine lv_aload_n hx hb dX7_readSetting_34 rfl (lv_at hl 0 rfl) ?_
      refine gCn_13_4 C0 hR av0 tbs_wsX60 mC2_2_142 hT dX7_readSetting_35 ?_
      have w30 : a0 < 3 := by omega
      refine lv_iconst (v := 1) hx hb dX7_readSetting_38 (by decide) ?_
      refine lv_aload_n hx hb dX7_readSetting_39 rfl (lv_at hl 1 rfl) ?_
      refine lv_iconst (v := 1) hx hb dX7_readSetting_40 (by decide) ?_
      refine lv_bipush (v := 9) hx hb dX7_readSetting_41 (by decide) ?_
      refine qC_Vi (As := [.int 1, .int 9]) (rest := [.int 1, .ref (b + adC 18 a0)]) C0 (c_X8_number l h) (cwV 2 C0.2.2.2.2 (tbV mC2_3_217 ⟨mC2_3_211, mC2_3_212, mC2_1_2, mC2_3_213⟩) rfl rfl rfl (by decide +kernel) ⟨Nat.le_of_ble_eq_true rfl, Nat.le_of_ble_eq_true rfl⟩) (rcC_1 hR Nat.zero_lt_one) hR hT hS rfl hl.1 rfl (Nat.le_of_ble_eq_true rfl) dX7_readSetting_43 ⟨Nat.zero_le _, Nat.zero_le _⟩ (fun r31 S32 H locs h hR hS => ?_)
      refine sC_18 C0 hR hS w30 (by decide) rfl dX7_readSetting_46 (fun S33 eS33 H locs hR hS => ?_)
      have h := h S33 eS33
      refine lv_goto (tgt := 129) hx hb dX7_readSetting_47 (by decide) ?_
      exact rtC_v C0 hr hlk hR hS h dX7_readSetting_129
  · have h := h.2 c3
    refine lv_aload_n hx hb dX7_readSetting_9 rfl (lv_at hl 0 rfl) ?_
    refine gCn_13_4 C0 hR av0 tbs_wsX60 mC2_2_142 hT dX7_readSetting_10 ?_
    have w34 : a0 < 3 := by omega
    refine lv_iconst (v := 0) hx hb dX7_readSetting_13 (by decide) ?_
    refine lv_aload_n hx hb dX7_readSetting_14 rfl (lv_at hl 1 rfl) ?_
    refine lv_iconst (v := 1) hx hb dX7_readSetting_15 (by decide) ?_
    refine lv_bipush (v := 60) hx hb dX7_readSetting_16 (by decide) ?_
    refine qC_Vi (As := [.int 1, .int 60]) (rest := [.int 0, .ref (b + adC 18 a0)]) C0 (c_X8_number l h) (cwV 2 C0.2.2.2.2 (tbV mC2_3_217 ⟨mC2_3_211, mC2_3_212, mC2_1_2, mC2_3_213⟩) rfl rfl rfl (by decide +kernel) ⟨Nat.le_of_ble_eq_true rfl, Nat.le_of_ble_eq_true rfl⟩) (rcC_1 hR Nat.zero_lt_one) hR hT hS rfl hl.1 rfl (Nat.le_of_ble_eq_true rfl) dX7_readSetting_18 ⟨Nat.zero_le _, Nat.zero_le _⟩ (fun r35 S36 H locs h hR hS => ?_)
    refine sC_18 C0 hR hS w34 (by decide) rfl dX7_readSetting_21 (fun S37 eS37 H locs hR hS => ?_)
    have h := h S37 eS37
    refine lv_goto (tgt := 129) hx hb dX7_readSetting_22 (by decide) ?_
    exact rtC_v C0 hr hlk hR hS h dX7_readSetting_129

def rm_X7_readLine : Room := { frames := 7, cells := 0, slots := 0, locals := 156 }
def B_X7_readLine_76 (a0 : Nat) (S : sSt) (k : sSt → Prop) : Prop := F_X8_takeWord 12 S (fun r4 S5 => ((r4 = 0 → F_X7_readSetting a0 S5 (fun S8 => k S8)) ∧ (¬ r4 = 0 → F_X7_readParallel a0 S5 (fun S10 => k S10))))
set_option maxHeartbeats 4000000 in
set_option maxRecDepth 100000 in
theorem Bw_X7_readLine_76 {p : Program} {l : Launch} {e : Env} {s : State} {m : MethodId} {args : Array Value} {below : List Frame} {meth : Method} {c : Code} {D : va_G} {cy : Nat → ClassId} {b z : Nat} {tx : TX} (C0 : CallFix p m c cX7_readLine 2 s args TB RX7) (hr : meth.sig.returnType = none) (hlk : meth.locks = false) (hT : TxR tx s) {k : sSt → Prop} : ∀ (a0 : Nat) (S : sSt) (H : Heap) (locs : List Loc) (ls : Array Slot) (av0 : a0 < 3), B_X7_readLine_76 a0 S k → RelC D cy b z tx S s H → va_S (gA b 709 z) s.heap H locs → lv_has ls 2 [(0, .ref (b + adC 13 a0)), (1, .ref (b + adC 1 0))] → W p l e rm_X7_readLine s m args below meth c H locs 0 0 (MQ below (PvC D cy b z tx k) args s 0 0 (gA b 709 z)) (F0 m 76 ls []) := by
  intro a0 S H locs ls av0 h hR hS hl
  have hx := C0.1
  have hb := C0.2.1
  unfold B_X7_readLine_76 at h
  refine lv_aload_n hx hb dX7_readLine_76 rfl (lv_at hl 1 rfl) ?_
  refine va_ldcS hx hb C0.2.2.2.1 (tr_12 hT) dX7_readLine_77 ?_
  refine qC_Vi (As := [.ref (tx.2.1 12)]) (rest := []) C0 (c_X8_takeWord l (by decide) h) (cwV 1 C0.2.2.2.2 (tbV mC2_3_141 ⟨mC2_3_142, mC2_3_143, mC2_1_2, mC2_3_144⟩) rfl rfl rfl (by decide +kernel) ⟨Nat.le_of_ble_eq_true rfl, Nat.le_of_ble_eq_true rfl⟩) (rcC_1 hR Nat.zero_lt_one) hR hT hS rfl hl.1 rfl (Nat.le_of_ble_eq_true rfl) dX7_readLine_79 ⟨Nat.zero_le _, Nat.zero_le _⟩ (fun r4 S5 H locs h hR hS => ?_)
  refine lv_if_eq (tgt := 93) hx hb dX7_readLine_82 (by decide) (fun c6 => ?_) (fun c6 => ?_)
  · have h := h.1 c6
    refine lv_aload_n hx hb dX7_readLine_93 rfl (lv_at hl 0 rfl) ?_
    refine lv_aload_n hx hb dX7_readLine_94 rfl (lv_at hl 1 rfl) ?_
    refine qC_Sv (As := [.ref (b + adC 13 a0), .ref (b + adC 1 0)]) (rest := []) C0 (c_X7_readSetting l av0 h) (va_cwS 2 C0.2.2.2.2 (tbS mC2_4_27 ⟨mC2_4_28, mC2_1_13, mC2_4_29⟩) rfl rfl rfl (by decide +kernel) ⟨Nat.le_of_ble_eq_true rfl, Nat.le_of_ble_eq_true rfl⟩) hR hT hS rfl hl.1 rfl (Nat.le_of_ble_eq_true rfl) dX7_readLine_95 ⟨Nat.zero_le _, Nat.zero_le _⟩ (fun S8 H locs h hR hS => ?_)
    exact rtC_v C0 hr hlk hR hS h dX7_readLine_98
  · have h := h.2 c6
    refine lv_aload_n hx hb dX7_readLine_85 rfl (lv_at hl 0 rfl) ?_
    refine lv_aload_n hx hb dX7_readLine_86 rfl (lv_at hl 1 rfl) ?_
    refine qC_Sv (As := [.ref (b + adC 13 a0), .ref (b + adC 1 0)]) (rest := []) C0 (c_X7_readParallel l av0 h) (va_cwS 2 C0.2.2.2.2 (tbS mC2_4_24 ⟨mC2_4_25, mC2_1_13, mC2_4_26⟩) rfl rfl rfl (by decide +kernel) ⟨Nat.le_of_ble_eq_true rfl, Nat.le_of_ble_eq_true rfl⟩) hR hT hS rfl hl.1 rfl (Nat.le_of_ble_eq_true rfl) dX7_readLine_87 ⟨Nat.zero_le _, Nat.zero_le _⟩ (fun S10 H locs h hR hS => ?_)
    refine lv_goto (tgt := 98) hx hb dX7_readLine_90 (by decide) ?_
    exact rtC_v C0 hr hlk hR hS h dX7_readLine_98
def B_X7_readLine_51 (a0 : Nat) (S : sSt) (k : sSt → Prop) : Prop := ((4 ≤ (S.1 13 a0 8) → B_X7_readLine_76 a0 S k) ∧ (¬ 4 ≤ (S.1 13 a0 8) → F_X8_takeWord 8 S (fun r11 S12 => ((r11 = 0 → B_X7_readLine_76 a0 S12 k) ∧ (¬ r11 = 0 → F_X7_readSchedule a0 S12 (fun S15 => k S15))))))
set_option maxHeartbeats 4000000 in
set_option maxRecDepth 100000 in
theorem Bw_X7_readLine_51 {p : Program} {l : Launch} {e : Env} {s : State} {m : MethodId} {args : Array Value} {below : List Frame} {meth : Method} {c : Code} {D : va_G} {cy : Nat → ClassId} {b z : Nat} {tx : TX} (C0 : CallFix p m c cX7_readLine 2 s args TB RX7) (hr : meth.sig.returnType = none) (hlk : meth.locks = false) (hT : TxR tx s) {k : sSt → Prop} : ∀ (a0 : Nat) (S : sSt) (H : Heap) (locs : List Loc) (ls : Array Slot) (av0 : a0 < 3), B_X7_readLine_51 a0 S k → RelC D cy b z tx S s H → va_S (gA b 709 z) s.heap H locs → lv_has ls 2 [(0, .ref (b + adC 13 a0)), (1, .ref (b + adC 1 0))] → W p l e rm_X7_readLine s m args below meth c H locs 0 0 (MQ below (PvC D cy b z tx k) args s 0 0 (gA b 709 z)) (F0 m 51 ls []) := by
  intro a0 S H locs ls av0 h hR hS hl
  have hx := C0.1
  have hb := C0.2.1
  unfold B_X7_readLine_51 at h
  refine lv_aload_n hx hb dX7_readLine_51 rfl (lv_at hl 0 rfl) ?_
  refine gCn_13_8 C0 hR av0 tbs_wsX60 mC2_2_154 hT dX7_readLine_52 ?_
  refine lv_iconst (v := 4) hx hb dX7_readLine_55 (by decide) ?_
  refine lv_icmp_ge (tgt := 76) hx hb dX7_readLine_56 (by decide) (fun c3 => ?_) (fun c3 => ?_)
  · have h := h.1 c3
    exact Bw_X7_readLine_76 C0 hr hlk hT a0 S _ _ _ av0 h hR hS (lv_sub hl [0, 1] rfl)
  · have h := h.2 c3
    refine lv_aload_n hx hb dX7_readLine_59 rfl (lv_at hl 1 rfl) ?_
    refine va_ldcS hx hb C0.2.2.2.1 (tr_8 hT) dX7_readLine_60 ?_
    refine qC_Vi (As := [.ref (tx.2.1 8)]) (rest := []) C0 (c_X8_takeWord l (by decide) h) (cwV 1 C0.2.2.2.2 (tbV mC2_3_141 ⟨mC2_3_142, mC2_3_143, mC2_1_2, mC2_3_144⟩) rfl rfl rfl (by decide +kernel) ⟨Nat.le_of_ble_eq_true rfl, Nat.le_of_ble_eq_true rfl⟩) (rcC_1 hR Nat.zero_lt_one) hR hT hS rfl hl.1 rfl (Nat.le_of_ble_eq_true rfl) dX7_readLine_62 ⟨Nat.zero_le _, Nat.zero_le _⟩ (fun r11 S12 H locs h hR hS => ?_)
    refine lv_if_eq (tgt := 76) hx hb dX7_readLine_65 (by decide) (fun c13 => ?_) (fun c13 => ?_)
    · have h := h.1 c13
      exact Bw_X7_readLine_76 C0 hr hlk hT a0 S12 _ _ _ av0 h hR hS (lv_sub hl [0, 1] rfl)
    · have h := h.2 c13
      refine lv_aload_n hx hb dX7_readLine_68 rfl (lv_at hl 0 rfl) ?_
      refine lv_aload_n hx hb dX7_readLine_69 rfl (lv_at hl 1 rfl) ?_
      refine qC_Sv (As := [.ref (b + adC 13 a0), .ref (b + adC 1 0)]) (rest := []) C0 (c_X7_readSchedule l av0 h) (va_cwS 2 C0.2.2.2.2 (tbS mC2_4_13 ⟨mC2_4_14, mC2_1_13, mC2_4_15⟩) rfl rfl rfl (by decide +kernel) ⟨Nat.le_of_ble_eq_true rfl, Nat.le_of_ble_eq_true rfl⟩) hR hT hS rfl hl.1 rfl (Nat.le_of_ble_eq_true rfl) dX7_readLine_70 ⟨Nat.zero_le _, Nat.zero_le _⟩ (fun S15 H locs h hR hS => ?_)
      refine lv_goto (tgt := 98) hx hb dX7_readLine_73 (by decide) ?_
      exact rtC_v C0 hr hlk hR hS h dX7_readLine_98
def B_X7_readLine_26 (a0 : Nat) (S : sSt) (k : sSt → Prop) : Prop := ((4 ≤ (S.1 13 a0 7) → B_X7_readLine_51 a0 S k) ∧ (¬ 4 ≤ (S.1 13 a0 7) → F_X8_takeWord 5 S (fun r16 S17 => ((r16 = 0 → B_X7_readLine_51 a0 S17 k) ∧ (¬ r16 = 0 → F_X7_readSession a0 S17 (fun S20 => k S20))))))
set_option maxHeartbeats 4000000 in
set_option maxRecDepth 100000 in
theorem Bw_X7_readLine_26 {p : Program} {l : Launch} {e : Env} {s : State} {m : MethodId} {args : Array Value} {below : List Frame} {meth : Method} {c : Code} {D : va_G} {cy : Nat → ClassId} {b z : Nat} {tx : TX} (C0 : CallFix p m c cX7_readLine 2 s args TB RX7) (hr : meth.sig.returnType = none) (hlk : meth.locks = false) (hT : TxR tx s) {k : sSt → Prop} : ∀ (a0 : Nat) (S : sSt) (H : Heap) (locs : List Loc) (ls : Array Slot) (av0 : a0 < 3), B_X7_readLine_26 a0 S k → RelC D cy b z tx S s H → va_S (gA b 709 z) s.heap H locs → lv_has ls 2 [(0, .ref (b + adC 13 a0)), (1, .ref (b + adC 1 0))] → W p l e rm_X7_readLine s m args below meth c H locs 0 0 (MQ below (PvC D cy b z tx k) args s 0 0 (gA b 709 z)) (F0 m 26 ls []) := by
  intro a0 S H locs ls av0 h hR hS hl
  have hx := C0.1
  have hb := C0.2.1
  unfold B_X7_readLine_26 at h
  refine lv_aload_n hx hb dX7_readLine_26 rfl (lv_at hl 0 rfl) ?_
  refine gCn_13_7 C0 hR av0 tbs_wsX60 mC2_2_151 hT dX7_readLine_27 ?_
  refine lv_iconst (v := 4) hx hb dX7_readLine_30 (by decide) ?_
  refine lv_icmp_ge (tgt := 51) hx hb dX7_readLine_31 (by decide) (fun c2 => ?_) (fun c2 => ?_)
  · have h := h.1 c2
    exact Bw_X7_readLine_51 C0 hr hlk hT a0 S _ _ _ av0 h hR hS (lv_sub hl [0, 1] rfl)
  · have h := h.2 c2
    refine lv_aload_n hx hb dX7_readLine_34 rfl (lv_at hl 1 rfl) ?_
    refine va_ldcS hx hb C0.2.2.2.1 (tr_5 hT) dX7_readLine_35 ?_
    refine qC_Vi (As := [.ref (tx.2.1 5)]) (rest := []) C0 (c_X8_takeWord l (by decide) h) (cwV 1 C0.2.2.2.2 (tbV mC2_3_141 ⟨mC2_3_142, mC2_3_143, mC2_1_2, mC2_3_144⟩) rfl rfl rfl (by decide +kernel) ⟨Nat.le_of_ble_eq_true rfl, Nat.le_of_ble_eq_true rfl⟩) (rcC_1 hR Nat.zero_lt_one) hR hT hS rfl hl.1 rfl (Nat.le_of_ble_eq_true rfl) dX7_readLine_37 ⟨Nat.zero_le _, Nat.zero_le _⟩ (fun r16 S17 H locs h hR hS => ?_)
    refine lv_if_eq (tgt := 51) hx hb dX7_readLine_40 (by decide) (fun c18 => ?_) (fun c18 => ?_)
    · have h := h.1 c18
      exact Bw_X7_readLine_51 C0 hr hlk hT a0 S17 _ _ _ av0 h hR hS (lv_sub hl [0, 1] rfl)
    · have h := h.2 c18
      refine lv_aload_n hx hb dX7_readLine_43 rfl (lv_at hl 0 rfl) ?_
      refine lv_aload_n hx hb dX7_readLine_44 rfl (lv_at hl 1 rfl) ?_
      refine qC_Sv (As := [.ref (b + adC 13 a0), .ref (b + adC 1 0)]) (rest := []) C0 (c_X7_readSession l av0 h) (va_cwS 2 C0.2.2.2.2 (tbS mC2_3_231 ⟨mC2_3_232, mC2_1_13, mC2_3_233⟩) rfl rfl rfl (by decide +kernel) ⟨Nat.le_of_ble_eq_true rfl, Nat.le_of_ble_eq_true rfl⟩) hR hT hS rfl hl.1 rfl (Nat.le_of_ble_eq_true rfl) dX7_readLine_45 ⟨Nat.zero_le _, Nat.zero_le _⟩ (fun S20 H locs h hR hS => ?_)
      refine lv_goto (tgt := 98) hx hb dX7_readLine_48 (by decide) ?_
      exact rtC_v C0 hr hlk hR hS h dX7_readLine_98
def F_X7_readLine (a0 : Nat) (S : sSt) (k : sSt → Prop) : Prop := ((24 ≤ (S.1 13 a0 6) → B_X7_readLine_26 a0 S k) ∧ (¬ 24 ≤ (S.1 13 a0 6) → F_X8_takeWord 0 S (fun r21 S22 => ((r21 = 0 → B_X7_readLine_26 a0 S22 k) ∧ (¬ r21 = 0 → F_X7_readJob a0 S22 (fun S25 => k S25))))))
set_option maxHeartbeats 4000000 in
set_option maxRecDepth 100000 in
theorem c_X7_readLine (l : Launch) {D : va_G} {cy : Nat → ClassId} {b z : Nat} {tx : TX} {a0 : Nat} {S : sSt} {k : sSt → Prop} (av0 : a0 < 3) (h : F_X7_readLine a0 S k) : Met l yX7_readLine (Cond.code yX7_readLine cX7_readLine 2 none :: TB) rm_X7_readLine (va_Pc [.ref (b + adC 13 a0), .ref (b + adC 1 0)] (fun U => RelC D cy b z tx S U U.heap ∧ TxR tx U)) (PvC D cy b z tx k) 0 0 (gA b 709 z) := by
  refine Met.ofW (cc := cX7_readLine) (maxL := 2) (ret := none) (by decide) rfl ?_
  intro p e s m args below meth c s₁ B hml hv
  obtain ⟨rfl, hR, hT⟩ := hv
  have C0 : CallFix p m c cX7_readLine 2 s _ TB RX7 := ⟨B.exec, B.bytes, hml, findClass_of_methodNamed B.named, fun w hw => atoms_spec B.pre w (List.mem_cons_of_mem _ hw)⟩
  have hr := B.returns
  have hlk := B.notSynchronized
  have hx := C0.1
  have hb := C0.2.1
  have hS : va_S (gA b 709 z) s.heap s.heap [] := va_S.rf
  have hl := lv_entry ([.ref (b + adC 13 a0), .ref (b + adC 1 0)]) (n := 2) (Nat.le_of_ble_eq_true rfl)
  rw [lg_entry_eq]
  generalize (lg_sl ([.ref (b + adC 13 a0), .ref (b + adC 1 0)]) ++ List.replicate (2 - (lg_sl ([.ref (b + adC 13 a0), .ref (b + adC 1 0)])).length) Slot.unset).toArray = ls at hl ⊢
  have hl : lv_has ls 2 [(0, .ref (b + adC 13 a0)), (1, .ref (b + adC 1 0))] := hl
  show W p l e rm_X7_readLine s m _ below meth c s.heap [] 0 0 (MQ below (PvC D cy b z tx k) _ s 0 0 (gA b 709 z)) _
  unfold F_X7_readLine at h
  refine lv_aload_n hx hb dX7_readLine_0 rfl (lv_at hl 0 rfl) ?_
  refine gCn_13_6 C0 hR av0 tbs_wsX60 mC2_2_147 hT dX7_readLine_1 ?_
  refine lv_bipush (v := 24) hx hb dX7_readLine_4 (by decide) ?_
  refine lv_icmp_ge (tgt := 26) hx hb dX7_readLine_6 (by decide) (fun c1 => ?_) (fun c1 => ?_)
  · have h := h.1 c1
    exact Bw_X7_readLine_26 C0 hr hlk hT a0 S _ _ _ av0 h hR hS (lv_sub hl [0, 1] rfl)
  · have h := h.2 c1
    refine lv_aload_n hx hb dX7_readLine_9 rfl (lv_at hl 1 rfl) ?_
    refine va_ldcS hx hb C0.2.2.2.1 (tr_0 hT) dX7_readLine_10 ?_
    refine qC_Vi (As := [.ref (tx.2.1 0)]) (rest := []) C0 (c_X8_takeWord l (by decide) h) (cwV 1 C0.2.2.2.2 (tbV mC2_3_141 ⟨mC2_3_142, mC2_3_143, mC2_1_2, mC2_3_144⟩) rfl rfl rfl (by decide +kernel) ⟨Nat.le_of_ble_eq_true rfl, Nat.le_of_ble_eq_true rfl⟩) (rcC_1 hR Nat.zero_lt_one) hR hT hS rfl hl.1 rfl (Nat.le_of_ble_eq_true rfl) dX7_readLine_12 ⟨Nat.zero_le _, Nat.zero_le _⟩ (fun r21 S22 H locs h hR hS => ?_)
    refine lv_if_eq (tgt := 26) hx hb dX7_readLine_15 (by decide) (fun c23 => ?_) (fun c23 => ?_)
    · have h := h.1 c23
      exact Bw_X7_readLine_26 C0 hr hlk hT a0 S22 _ _ _ av0 h hR hS (lv_sub hl [0, 1] rfl)
    · have h := h.2 c23
      refine lv_aload_n hx hb dX7_readLine_18 rfl (lv_at hl 0 rfl) ?_
      refine lv_aload_n hx hb dX7_readLine_19 rfl (lv_at hl 1 rfl) ?_
      refine qC_Sv (As := [.ref (b + adC 13 a0), .ref (b + adC 1 0)]) (rest := []) C0 (c_X7_readJob l av0 h) (va_cwS 2 C0.2.2.2.2 (tbS mC2_3_197 ⟨mC2_3_198, mC2_1_13, mC2_3_199⟩) rfl rfl rfl (by decide +kernel) ⟨Nat.le_of_ble_eq_true rfl, Nat.le_of_ble_eq_true rfl⟩) hR hT hS rfl hl.1 rfl (Nat.le_of_ble_eq_true rfl) dX7_readLine_20 ⟨Nat.zero_le _, Nat.zero_le _⟩ (fun S25 H locs h hR hS => ?_)
      refine lv_goto (tgt := 98) hx hb dX7_readLine_23 (by decide) ?_
      exact rtC_v C0 hr hlk hR hS h dX7_readLine_98

def rm_X8_takeSign : Room := { frames := 1, cells := 0, slots := 0, locals := 21 }
def F_X8_takeSign (a1 : Int32) (S : sSt) (k : Int32 → sSt → Prop) : Prop := ((¬ (S.1 1 0 4) = (-1) → k 0 S) ∧ ((S.1 1 0 4) = (-1) → F_X8_byteAt (S.1 1 0 3) S (fun r2 S3 => ((r2 = a1 → F_X8_moveTo ((S3.1 1 0 3) + 1) S3 (fun S6 => k 1 S6)) ∧ (¬ r2 = a1 → k 0 S3)))))
set_option maxHeartbeats 4000000 in
set_option maxRecDepth 100000 in
theorem c_X8_takeSign (l : Launch) {D : va_G} {cy : Nat → ClassId} {b z : Nat} {tx : TX} {a1 : Int32} {S : sSt} {k : Int32 → sSt → Prop} (h : F_X8_takeSign a1 S k) : Met l yX8_takeSign (Cond.code yX8_takeSign cX8_takeSign 2 (some .boolean) :: TB) rm_X8_takeSign (va_Pc [.ref (b + adC 1 0), .int a1] (fun U => RelC D cy b z tx S U U.heap ∧ TxR tx U)) (PiC D cy b z tx k) 0 0 (gA b 709 z) := by
  refine Met.ofW (cc := cX8_takeSign) (maxL := 2) (ret := (some .boolean)) (by decide) rfl ?_
  intro p e s m args below meth c s₁ B hml hv
  obtain ⟨rfl, hR, hT⟩ := hv
  have C0 : CallFix p m c cX8_takeSign 2 s _ TB RX8 := ⟨B.exec, B.bytes, hml, findClass_of_methodNamed B.named, fun w hw => atoms_spec B.pre w (List.mem_cons_of_mem _ hw)⟩
  have hr := B.returns
  have hlk := B.notSynchronized
  have hx := C0.1
  have hb := C0.2.1
  have hS : va_S (gA b 709 z) s.heap s.heap [] := va_S.rf
  have hl := lv_entry ([.ref (b + adC 1 0), .int a1]) (n := 2) (Nat.le_of_ble_eq_true rfl)
  rw [lg_entry_eq]
  generalize (lg_sl ([.ref (b + adC 1 0), .int a1]) ++ List.replicate (2 - (lg_sl ([.ref (b + adC 1 0), .int a1])).length) Slot.unset).toArray = ls at hl ⊢
  have hl : lv_has ls 2 [(0, .ref (b + adC 1 0)), (1, .int a1)] := hl
  show W p l e rm_X8_takeSign s m _ below meth c s.heap [] 0 0 (MQ below (PiC D cy b z tx k) _ s 0 0 (gA b 709 z)) _
  unfold F_X8_takeSign at h
  refine lv_aload_n hx hb dX8_takeSign_0 rfl (lv_at hl 0 rfl) ?_
  refine gC_1_4 C0 hR Nat.zero_lt_one tbs_wsX80 mC2_1_47 dX8_takeSign_1 ?_
  refine lv_iconst (v := (-1)) hx hb dX8_takeSign_4 (by decide) ?_
  refine lv_icmp_ne (tgt := 20) hx hb dX8_takeSign_5 (by decide) (fun c1 => ?_) (fun c1 => ?_)
  · have h := h.1 c1
    refine lv_iconst (v := 0) hx hb dX8_takeSign_20 (by decide) ?_
    exact rtC_z C0 hr hlk hR hS (by decide) h dX8_takeSign_21
  · have h := h.2 c1
    refine lv_aload_n hx hb dX8_takeSign_8 rfl (lv_at hl 0 rfl) ?_
    refine lv_aload_n hx hb dX8_takeSign_9 rfl (lv_at hl 0 rfl) ?_
    refine gC_1_3 C0 hR Nat.zero_lt_one tbs_wsX80 mC2_1_46 dX8_takeSign_10 ?_
    refine qC_Vi (As := [.int (S.1 1 0 3)]) (rest := []) C0 (c_X8_byteAt l h) (cwV 1 C0.2.2.2.2 (tbV mC2_3_155 ⟨mC2_3_157, mpC2_1_3, mC2_1_2, mC2_3_158⟩) rfl rfl rfl (by decide +kernel) ⟨Nat.le_of_ble_eq_true rfl, Nat.le_of_ble_eq_true rfl⟩) (rcC_1 hR Nat.zero_lt_one) hR hT hS rfl hl.1 rfl (Nat.le_of_ble_eq_true rfl) dX8_takeSign_13 ⟨Nat.zero_le _, Nat.zero_le _⟩ (fun r2 S3 H locs h hR hS => ?_)
    refine lv_iload_n hx hb dX8_takeSign_16 rfl (lv_at hl 1 rfl) ?_
    refine lv_icmp_eq (tgt := 22) hx hb dX8_takeSign_17 (by decide) (fun c4 => ?_) (fun c4 => ?_)
    · have h := h.1 c4
      refine lv_aload_n hx hb dX8_takeSign_22 rfl (lv_at hl 0 rfl) ?_
      refine lv_aload_n hx hb dX8_takeSign_23 rfl (lv_at hl 0 rfl) ?_
      refine gC_1_3 C0 hR Nat.zero_lt_one tbs_wsX80 mC2_1_46 dX8_takeSign_24 ?_
      refine lv_iconst (v := 1) hx hb dX8_takeSign_27 (by decide) ?_
      refine lv_iadd hx hb dX8_takeSign_28 ?_
      refine qC_Vv (As := [.int ((S3.1 1 0 3) + 1)]) (rest := []) C0 (c_X8_moveTo l h) (cwV 1 C0.2.2.2.2 (tbV mC2_3_129 ⟨mC2_3_131, mpC2_1_2, mC2_1_2, mC2_3_132⟩) rfl rfl rfl (by decide +kernel) ⟨Nat.le_of_ble_eq_true rfl, Nat.le_of_ble_eq_true rfl⟩) (rcC_1 hR Nat.zero_lt_one) hR hT hS rfl hl.1 rfl (Nat.le_of_ble_eq_true rfl) dX8_takeSign_29 ⟨Nat.zero_le _, Nat.zero_le _⟩ (fun S6 H locs h hR hS => ?_)
      refine lv_iconst (v := 1) hx hb dX8_takeSign_32 (by decide) ?_
      exact rtC_z C0 hr hlk hR hS (by decide) h dX8_takeSign_33
    · have h := h.2 c4
      refine lv_iconst (v := 0) hx hb dX8_takeSign_20 (by decide) ?_
      exact rtC_z C0 hr hlk hR hS (by decide) h dX8_takeSign_21

def rm_X8_needEnd : Room := { frames := 1, cells := 0, slots := 0, locals := 20 }
def F_X8_needEnd (S : sSt) (k : sSt → Prop) : Prop := F_X8_isAtEnd S (fun r1 S2 => ((¬ r1 = 0 → k S2) ∧ (r1 = 0 → F_X8_refuse S2 (fun S5 => k S5))))
set_option maxHeartbeats 4000000 in
set_option maxRecDepth 100000 in
theorem c_X8_needEnd (l : Launch) {D : va_G} {cy : Nat → ClassId} {b z : Nat} {tx : TX} {S : sSt} {k : sSt → Prop} (h : F_X8_needEnd S k) : Met l yX8_needEnd (Cond.code yX8_needEnd cX8_needEnd 1 none :: TB) rm_X8_needEnd (va_Pc [.ref (b + adC 1 0)] (fun U => RelC D cy b z tx S U U.heap ∧ TxR tx U)) (PvC D cy b z tx k) 0 0 (gA b 709 z) := by
  refine Met.ofW (cc := cX8_needEnd) (maxL := 1) (ret := none) (by decide) rfl ?_
  intro p e s m args below meth c s₁ B hml hv
  obtain ⟨rfl, hR, hT⟩ := hv
  have C0 : CallFix p m c cX8_needEnd 1 s _ TB RX8 := ⟨B.exec, B.bytes, hml, findClass_of_methodNamed B.named, fun w hw => atoms_spec B.pre w (List.mem_cons_of_mem _ hw)⟩
  have hr := B.returns
  have hlk := B.notSynchronized
  have hx := C0.1
  have hb := C0.2.1
  have hS : va_S (gA b 709 z) s.heap s.heap [] := va_S.rf
  have hl := lv_entry ([.ref (b + adC 1 0)]) (n := 1) (Nat.le_of_ble_eq_true rfl)
  rw [lg_entry_eq]
  generalize (lg_sl ([.ref (b + adC 1 0)]) ++ List.replicate (1 - (lg_sl ([.ref (b + adC 1 0)])).length) Slot.unset).toArray = ls at hl ⊢
  have hl : lv_has ls 1 [(0, .ref (b + adC 1 0))] := hl
  show W p l e rm_X8_needEnd s m _ below meth c s.heap [] 0 0 (MQ below (PvC D cy b z tx k) _ s 0 0 (gA b 709 z)) _
  unfold F_X8_needEnd at h
  refine lv_aload_n hx hb dX8_needEnd_0 rfl (lv_at hl 0 rfl) ?_
  refine qC_Vi (As := []) (rest := []) C0 (c_X8_isAtEnd l h) (cwV 0 C0.2.2.2.2 (tbV mC2_4_44 ⟨mC2_3_134, mC2_3_135, mC2_1_2, mC2_3_136⟩) rfl rfl rfl (by decide +kernel) ⟨Nat.le_of_ble_eq_true rfl, Nat.le_of_ble_eq_true rfl⟩) (rcC_1 hR Nat.zero_lt_one) hR hT hS rfl hl.1 rfl (Nat.le_of_ble_eq_true rfl) dX8_needEnd_1 ⟨Nat.zero_le _, Nat.zero_le _⟩ (fun r1 S2 H locs h hR hS => ?_)
  refine lv_if_ne (tgt := 11) hx hb dX8_needEnd_4 (by decide) (fun c3 => ?_) (fun c3 => ?_)
  · have h := h.1 c3
    exact rtC_v C0 hr hlk hR hS h dX8_needEnd_11
  · have h := h.2 c3
    refine lv_aload_n hx hb dX8_needEnd_7 rfl (lv_at hl 0 rfl) ?_
    refine qC_Vv (As := []) (rest := []) C0 (c_X8_refuse l h) (cwV 0 C0.2.2.2.2 (tbV mC2_3_206 ⟨mC2_3_207, mC2_3_208, mC2_1_2, mC2_3_209⟩) rfl rfl rfl (by decide +kernel) ⟨Nat.le_of_ble_eq_true rfl, Nat.le_of_ble_eq_true rfl⟩) (rcC_1 hR Nat.zero_lt_one) hR hT hS rfl hl.1 rfl (Nat.le_of_ble_eq_true rfl) dX8_needEnd_8 ⟨Nat.zero_le _, Nat.zero_le _⟩ (fun S5 H locs h hR hS => ?_)
    exact rtC_v C0 hr hlk hR hS h dX8_needEnd_11

def rm_X7_readInto : Room := { frames := 8, cells := 0, slots := 0, locals := 177 }
def Bb_X7_readInto_15 (kk15 : Nat → Int32 → sSt → Prop) (a0 : Nat) (a2 : Int32) (S : sSt) (k : Int32 → sSt → Prop) : Prop := ((14 ≤ a2 → F_X8_refuse S (fun S8 => k 0 S8)) ∧ (¬ 14 ≤ a2 → F_X7_readLine a0 S (fun S10 => F_X8_takeSign 59 S10 (fun r11 S12 => ((¬ r11 = 0 → ∀ x14 : Int32, x14 = a2 + 1 → kk15 a0 x14 S12) ∧ (r11 = 0 → F_X8_needEnd S12 (fun S16 => F_X8_isRight S16 (fun r17 S18 => bz r17 (k r17 S18)))))))))
set_option maxHeartbeats 4000000 in
set_option maxRecDepth 100000 in
theorem Bbw_X7_readInto_15 {p : Program} {l : Launch} {e : Env} {s : State} {m : MethodId} {args : Array Value} {below : List Frame} {meth : Method} {c : Code} {D : va_G} {cy : Nat → ClassId} {b z : Nat} {tx : TX} (C0 : CallFix p m c cX7_readInto 3 s args TB RX7) (hr : meth.sig.returnType = (some .boolean)) (hlk : meth.locks = false) (hT : TxR tx s) {k : Int32 → sSt → Prop} {kk15 : Nat → Int32 → sSt → Prop} (ih15 : ∀ (a0 : Nat) (a2 : Int32) (S : sSt) (H : Heap) (locs : List Loc) (ls : Array Slot) (av0 : a0 < 3), kk15 a0 a2 S → RelC D cy b z tx S s H → va_S (gA b 709 z) s.heap H locs → lv_has ls 3 [(0, .ref (b + adC 13 a0)), (1, .ref (b + adC 1 0)), (2, .int a2)] → W p l e rm_X7_readInto s m args below meth c H locs 0 0 (MQ below (PiC D cy b z tx k) args s 0 0 (gA b 709 z)) (F0 m 15 ls [])) : ∀ (a0 : Nat) (a2 : Int32) (S : sSt) (H : Heap) (locs : List Loc) (ls : Array Slot) (av0 : a0 < 3), Bb_X7_readInto_15 kk15 a0 a2 S k → RelC D cy b z tx S s H → va_S (gA b 709 z) s.heap H locs → lv_has ls 3 [(0, .ref (b + adC 13 a0)), (1, .ref (b + adC 1 0)), (2, .int a2)] → W p l e rm_X7_readInto s m args below meth c H locs 0 0 (MQ below (PiC D cy b z tx k) args s 0 0 (gA b 709 z)) (F0 m 15 ls []) := by
  intro a0 a2 S H locs ls av0 h hR hS hl
  have hx := C0.1
  have hb := C0.2.1
  unfold Bb_X7_readInto_15 at h
  refine lv_iload_n hx hb dX7_readInto_15 rfl (lv_at hl 2 rfl) ?_
  refine lv_bipush (v := 14) hx hb dX7_readInto_16 (by decide) ?_
  refine lv_icmp_ge (tgt := 50) hx hb dX7_readInto_18 (by decide) (fun c6 => ?_) (fun c6 => ?_)
  · have h := h.1 c6
    refine lv_aload_n hx hb dX7_readInto_50 rfl (lv_at hl 1 rfl) ?_
    refine qC_Vv (As := []) (rest := []) C0 (c_X8_refuse l h) (cwV 0 C0.2.2.2.2 (tbV mC2_4_35 ⟨mC2_3_207, mC2_3_208, mC2_1_2, mC2_3_209⟩) rfl rfl rfl (by decide +kernel) ⟨Nat.le_of_ble_eq_true rfl, Nat.le_of_ble_eq_true rfl⟩) (rcC_1 hR Nat.zero_lt_one) hR hT hS rfl hl.1 rfl (Nat.le_of_ble_eq_true rfl) dX7_readInto_51 ⟨Nat.zero_le _, Nat.zero_le _⟩ (fun S8 H locs h hR hS => ?_)
    refine lv_iconst (v := 0) hx hb dX7_readInto_54 (by decide) ?_
    exact rtC_z C0 hr hlk hR hS (by decide) h dX7_readInto_55
  · have h := h.2 c6
    refine lv_aload_n hx hb dX7_readInto_21 rfl (lv_at hl 0 rfl) ?_
    refine lv_aload_n hx hb dX7_readInto_22 rfl (lv_at hl 1 rfl) ?_
    refine qC_Sv (As := [.ref (b + adC 13 a0), .ref (b + adC 1 0)]) (rest := []) C0 (c_X7_readLine l av0 h) (va_cwS 2 C0.2.2.2.2 (tbS mC2_3_137 ⟨mC2_3_138, mC2_1_13, mC2_3_139⟩) rfl rfl rfl (by decide +kernel) ⟨Nat.le_of_ble_eq_true rfl, Nat.le_of_ble_eq_true rfl⟩) hR hT hS rfl hl.1 rfl (Nat.le_of_ble_eq_true rfl) dX7_readInto_23 ⟨Nat.zero_le _, Nat.zero_le _⟩ (fun S10 H locs h hR hS => ?_)
    refine lv_aload_n hx hb dX7_readInto_26 rfl (lv_at hl 1 rfl) ?_
    refine lv_bipush (v := 59) hx hb dX7_readInto_27 (by decide) ?_
    refine qC_Vi (As := [.int 59]) (rest := []) C0 (c_X8_takeSign l h) (cwV 1 C0.2.2.2.2 (tbV mC2_4_36 ⟨mC2_4_37, mC2_4_38, mC2_1_2, mC2_4_39⟩) rfl rfl rfl (by decide +kernel) ⟨Nat.le_of_ble_eq_true rfl, Nat.le_of_ble_eq_true rfl⟩) (rcC_1 hR Nat.zero_lt_one) hR hT hS rfl hl.1 rfl (Nat.le_of_ble_eq_true rfl) dX7_readInto_29 ⟨Nat.zero_le _, Nat.zero_le _⟩ (fun r11 S12 H locs h hR hS => ?_)
    refine lv_if_ne (tgt := 44) hx hb dX7_readInto_32 (by decide) (fun c13 => ?_) (fun c13 => ?_)
    · have h := h.1 c13
      obtain ⟨x14, ex14⟩ : ∃ x14 : Int32, x14 = a2 + 1 := ⟨_, rfl⟩
      have h := h x14 ex14
      refine w_iinc (v0 := 1) (lv' := [(2, .int x14), (0, .ref (b + adC 13 a0)), (1, .ref (b + adC 1 0))]) C0 dX7_readInto_44 hl (k := 2) rfl (by decide) (by decide) x14 ex14 rfl (fun ls hl => ?_)
      refine lv_goto (tgt := 15) hx hb dX7_readInto_47 (by decide) ?_
      exact ih15 a0 x14 S12 _ _ _ av0 h hR hS (lv_sub hl [1, 2, 0] rfl)
    · have h := h.2 c13
      refine lv_aload_n hx hb dX7_readInto_35 rfl (lv_at hl 1 rfl) ?_
      refine qC_Vv (As := []) (rest := []) C0 (c_X8_needEnd l h) (cwV 0 C0.2.2.2.2 (tbV mC2_4_40 ⟨mC2_4_41, mC2_4_42, mC2_1_2, mC2_4_43⟩) rfl rfl rfl (by decide +kernel) ⟨Nat.le_of_ble_eq_true rfl, Nat.le_of_ble_eq_true rfl⟩) (rcC_1 hR Nat.zero_lt_one) hR hT hS rfl hl.1 rfl (Nat.le_of_ble_eq_true rfl) dX7_readInto_36 ⟨Nat.zero_le _, Nat.zero_le _⟩ (fun S16 H locs h hR hS => ?_)
      refine lv_aload_n hx hb dX7_readInto_39 rfl (lv_at hl 1 rfl) ?_
      refine qC_Vi (As := []) (rest := []) C0 (c_X8_isRight l h) (cwV 0 C0.2.2.2.2 (tbV mC2_3_218 ⟨mC2_3_219, mC2_3_220, mC2_1_2, mC2_3_221⟩) rfl rfl rfl (by decide +kernel) ⟨Nat.le_of_ble_eq_true rfl, Nat.le_of_ble_eq_true rfl⟩) (rcC_1 hR Nat.zero_lt_one) hR hT hS rfl hl.1 rfl (Nat.le_of_ble_eq_true rfl) dX7_readInto_40 ⟨Nat.zero_le _, Nat.zero_le _⟩ (fun r17 S18 H locs h hR hS => ?_)
      exact rtC_z C0 hr hlk hR hS h.1 h.2 dX7_readInto_43
def B_X7_readInto_15 (n9 : Nat) (a0 : Nat) (a2 : Int32) (S : sSt) (k : Int32 → sSt → Prop) : Prop := (Nat.rec (motive := fun _ => Nat → Int32 → sSt → Prop) (fun _ _ _ => False) (fun _ r9 => fun a0 a2 S => Bb_X7_readInto_15 r9 a0 a2 S k) n9 : Nat → Int32 → sSt → Prop) a0 a2 S
theorem B_X7_readInto_15_s (n9 : Nat) (a0 : Nat) (a2 : Int32) (S : sSt) (k : Int32 → sSt → Prop) : B_X7_readInto_15 (n9 + 1) a0 a2 S k = Bb_X7_readInto_15 (fun a0 a2 S => B_X7_readInto_15 n9 a0 a2 S k) a0 a2 S k := rfl
set_option maxHeartbeats 4000000 in
set_option maxRecDepth 100000 in
theorem Bw_X7_readInto_15 {p : Program} {l : Launch} {e : Env} {s : State} {m : MethodId} {args : Array Value} {below : List Frame} {meth : Method} {c : Code} {D : va_G} {cy : Nat → ClassId} {b z : Nat} {tx : TX} (C0 : CallFix p m c cX7_readInto 3 s args TB RX7) (hr : meth.sig.returnType = (some .boolean)) (hlk : meth.locks = false) (hT : TxR tx s) {k : Int32 → sSt → Prop} : ∀ (n9 : Nat), ∀ (a0 : Nat) (a2 : Int32) (S : sSt) (H : Heap) (locs : List Loc) (ls : Array Slot) (av0 : a0 < 3), B_X7_readInto_15 n9 a0 a2 S k → RelC D cy b z tx S s H → va_S (gA b 709 z) s.heap H locs → lv_has ls 3 [(0, .ref (b + adC 13 a0)), (1, .ref (b + adC 1 0)), (2, .int a2)] → W p l e rm_X7_readInto s m args below meth c H locs 0 0 (MQ below (PiC D cy b z tx k) args s 0 0 (gA b 709 z)) (F0 m 15 ls []) := by
  intro n9
  induction n9 with
  | zero => intro a0 a2 S H locs ls av0 h; exact h.elim
  | succ n9 ih =>
    intro a0 a2 S H locs ls av0 h hR hS hl
    exact Bbw_X7_readInto_15 C0 hr hlk hT ih a0 a2 S H locs ls av0 h hR hS hl
def F_X7_readInto (a0 : Nat) (S : sSt) (k : Int32 → sSt → Prop) : Prop := F_X8_startReading S (fun S2 => F_X8_isAtEnd S2 (fun r3 S4 => ((r3 = 0 → B_X7_readInto_15 fuel a0 0 S4 k) ∧ (¬ r3 = 0 → k 1 S4))))
set_option maxHeartbeats 4000000 in
set_option maxRecDepth 100000 in
theorem c_X7_readInto (l : Launch) {D : va_G} {cy : Nat → ClassId} {b z : Nat} {tx : TX} {a0 : Nat} {S : sSt} {k : Int32 → sSt → Prop} (av0 : a0 < 3) (h : F_X7_readInto a0 S k) : Met l yX7_readInto (Cond.code yX7_readInto cX7_readInto 3 (some .boolean) :: TB) rm_X7_readInto (va_Pc [.ref (b + adC 13 a0), .ref (b + adC 1 0)] (fun U => RelC D cy b z tx S U U.heap ∧ TxR tx U)) (PiC D cy b z tx k) 0 0 (gA b 709 z) := by
  refine Met.ofW (cc := cX7_readInto) (maxL := 3) (ret := (some .boolean)) (by decide) rfl ?_
  intro p e s m args below meth c s₁ B hml hv
  obtain ⟨rfl, hR, hT⟩ := hv
  have C0 : CallFix p m c cX7_readInto 3 s _ TB RX7 := ⟨B.exec, B.bytes, hml, findClass_of_methodNamed B.named, fun w hw => atoms_spec B.pre w (List.mem_cons_of_mem _ hw)⟩
  have hr := B.returns
  have hlk := B.notSynchronized
  have hx := C0.1
  have hb := C0.2.1
  have hS : va_S (gA b 709 z) s.heap s.heap [] := va_S.rf
  have hl := lv_entry ([.ref (b + adC 13 a0), .ref (b + adC 1 0)]) (n := 3) (Nat.le_of_ble_eq_true rfl)
  rw [lg_entry_eq]
  generalize (lg_sl ([.ref (b + adC 13 a0), .ref (b + adC 1 0)]) ++ List.replicate (3 - (lg_sl ([.ref (b + adC 13 a0), .ref (b + adC 1 0)])).length) Slot.unset).toArray = ls at hl ⊢
  have hl : lv_has ls 3 [(0, .ref (b + adC 13 a0)), (1, .ref (b + adC 1 0))] := hl
  show W p l e rm_X7_readInto s m _ below meth c s.heap [] 0 0 (MQ below (PiC D cy b z tx k) _ s 0 0 (gA b 709 z)) _
  unfold F_X7_readInto at h
  refine lv_aload_n hx hb dX7_readInto_0 rfl (lv_at hl 1 rfl) ?_
  refine qC_Vv (As := []) (rest := []) C0 (c_X8_startReading l h) (cwV 0 C0.2.2.2.2 (tbV mC2_3_125 ⟨mC2_3_126, mC2_3_127, mC2_1_2, mC2_3_128⟩) rfl rfl rfl (by decide +kernel) ⟨Nat.le_of_ble_eq_true rfl, Nat.le_of_ble_eq_true rfl⟩) (rcC_1 hR Nat.zero_lt_one) hR hT hS rfl hl.1 rfl (Nat.le_of_ble_eq_true rfl) dX7_readInto_1 ⟨Nat.zero_le _, Nat.zero_le _⟩ (fun S2 H locs h hR hS => ?_)
  refine lv_aload_n hx hb dX7_readInto_4 rfl (lv_at hl 1 rfl) ?_
  refine qC_Vi (As := []) (rest := []) C0 (c_X8_isAtEnd l h) (cwV 0 C0.2.2.2.2 (tbV mC2_3_133 ⟨mC2_3_134, mC2_3_135, mC2_1_2, mC2_3_136⟩) rfl rfl rfl (by decide +kernel) ⟨Nat.le_of_ble_eq_true rfl, Nat.le_of_ble_eq_true rfl⟩) (rcC_1 hR Nat.zero_lt_one) hR hT hS rfl hl.1 rfl (Nat.le_of_ble_eq_true rfl) dX7_readInto_5 ⟨Nat.zero_le _, Nat.zero_le _⟩ (fun r3 S4 H locs h hR hS => ?_)
  refine lv_if_eq (tgt := 13) hx hb dX7_readInto_8 (by decide) (fun c5 => ?_) (fun c5 => ?_)
  · have h := h.1 c5
    refine lv_iconst (v := 0) hx hb dX7_readInto_13 (by decide) ?_
    refine lv_istore_n (lv' := [(2, .int 0), (0, .ref (b + adC 13 a0)), (1, .ref (b + adC 1 0))]) hx hb dX7_readInto_14 rfl hl (by decide) rfl (fun ls hl => ?_)
    exact Bw_X7_readInto_15 C0 hr hlk hT fuel a0 0 S4 _ _ _ av0 h hR hS (lv_sub hl [1, 2, 0] rfl)
  · have h := h.2 c5
    refine lv_iconst (v := 1) hx hb dX7_readInto_11 (by decide) ?_
    exact rtC_z C0 hr hlk hR hS (by decide) h dX7_readInto_12

def rm_X11_table : Room := { frames := 9, cells := 2, slots := 12, locals := 199 }
def F_X11_table (S : sSt) (k : Int32 → sSt → Prop) (kx : String → sSt → Prop) : Prop := F_X8_useUp S (fun S2 => F_X6_copyFrom (S2.2 0 0 5) (S2.2 0 0 4) S2 (fun S6 => F_X7_readInto (S6.2 0 0 5) S6 (fun r8 S9 => ((¬ r8 = 0 → (((S9.1 13 (S9.2 0 0 4) 9) < 12 → ∀ S15, S15 = uR S9 0 0 4 (S9.2 0 0 5) → ∀ S16, S16 = uR S15 0 0 5 (S9.2 0 0 4) → ∀ S18, S18 = uI S16 13 (S16.2 0 0 4) 9 ((S16.1 13 (S16.2 0 0 4) 9) + 1) → k (S18.1 13 (S18.2 0 0 4) 9) S18) ∧ (¬ (S9.1 13 (S9.2 0 0 4) 9) < 12 → kx "java/lang/UnsupportedOperationException" S9))) ∧ (r8 = 0 → kx "java/lang/IllegalArgumentException" S9)))))
set_option maxHeartbeats 4000000 in
set_option maxRecDepth 100000 in
theorem c_X11_table (l : Launch) (hl0 : l.stackTraces = false) {D : va_G} {cy : Nat → ClassId} {b z : Nat} {tx : TX} {S : sSt} {k : Int32 → sSt → Prop} {kx : String → sSt → Prop} (h : F_X11_table S k kx) : vx_Met l yX11_table (Cond.code yX11_table cX11_table 2 (some .int) :: TB) rm_X11_table (va_Pc [.ref (b + adC 0 0)] (fun U => RelC D cy b z tx S U U.heap ∧ TxR tx U)) (PiC D cy b z tx k) (XeC D cy b z tx kx) 2 12 (gA b 709 z) := by
  refine vx_ofW (cc := cX11_table) (maxL := 2) (ret := (some .int)) (by decide) rfl ?_
  intro p e s m args below meth c s₁ B hml hexc hv
  obtain ⟨rfl, hR, hT⟩ := hv
  have hX0 := hR.2.2
  have C0 : CallFix p m c cX11_table 2 s _ TB RX11 := ⟨B.exec, B.bytes, hml, findClass_of_methodNamed B.named, fun w hw => atoms_spec B.pre w (List.mem_cons_of_mem _ hw)⟩
  have hr := B.returns
  have hlk := B.notSynchronized
  have hx := C0.1
  have hb := C0.2.1
  have hS : va_S (gA b 709 z) s.heap s.heap [] := va_S.rf
  have hl := lv_entry ([.ref (b + adC 0 0)]) (n := 2) (Nat.le_of_ble_eq_true rfl)
  rw [lg_entry_eq]
  generalize (lg_sl ([.ref (b + adC 0 0)]) ++ List.replicate (2 - (lg_sl ([.ref (b + adC 0 0)])).length) Slot.unset).toArray = ls at hl ⊢
  have hl : lv_has ls 2 [(0, .ref (b + adC 0 0))] := hl
  show W p l e rm_X11_table s m _ below meth c s.heap [] 0 0 (vx_MQ below (PiC D cy b z tx k) (XeC D cy b z tx kx) _ s 2 12 (gA b 709 z)) _
  unfold F_X11_table at h
  refine lv_aload_n hx hb dX11_table_0 rfl (lv_at hl 0 rfl) ?_
  refine gC_0_0 C0 hR Nat.zero_lt_one tbs_wsX110 mC2_2_209 dX11_table_1 ?_
  refine qC_Vv (As := []) (rest := []) C0 (c_X8_useUp l h) (cwV 0 C0.2.2.2.2 (tbV mC2_3_118 ⟨mC2_3_119, mC2_3_120, mC2_1_2, mC2_3_121⟩) rfl rfl rfl (by decide +kernel) ⟨Nat.le_of_ble_eq_true rfl, Nat.le_of_ble_eq_true rfl⟩) (rcC_1 hR Nat.zero_lt_one) hR hT hS rfl hl.1 rfl (Nat.le_of_ble_eq_true rfl) dX11_table_4 ⟨Nat.le_of_ble_eq_true rfl, Nat.le_of_ble_eq_true rfl⟩ (fun S2 H locs h hR hS => ?_)
  refine lv_aload_n hx hb dX11_table_7 rfl (lv_at hl 0 rfl) ?_
  refine gC_0_5 C0 hR Nat.zero_lt_one tbs_wsX110 mC2_2_214 dX11_table_8 ?_
  have w3 : (S2.2 0 0 5) < 3 := hR.2.1.2.2
  refine lv_aload_n hx hb dX11_table_11 rfl (lv_at hl 0 rfl) ?_
  refine gC_0_4 C0 hR Nat.zero_lt_one tbs_wsX110 mC2_2_213 dX11_table_12 ?_
  have w4 : (S2.2 0 0 4) < 3 := hR.2.1.2.1
  refine qC_Vv (As := [.ref (b + adC 13 (S2.2 0 0 4))]) (rest := []) C0 (c_X6_copyFrom l w3 w4 h) (cwV 1 C0.2.2.2.2 (tbV mC2_3_53 ⟨mC2_3_54, mC2_3_55, mC2_1_5, mC2_3_56⟩) rfl rfl rfl (by decide +kernel) ⟨Nat.le_of_ble_eq_true rfl, Nat.le_of_ble_eq_true rfl⟩) (rcC_13 hR w3) hR hT hS rfl hl.1 rfl (Nat.le_of_ble_eq_true rfl) dX11_table_15 ⟨Nat.le_of_ble_eq_true rfl, Nat.le_of_ble_eq_true rfl⟩ (fun S6 H locs h hR hS => ?_)
  refine lv_aload_n hx hb dX11_table_18 rfl (lv_at hl 0 rfl) ?_
  refine gC_0_5 C0 hR Nat.zero_lt_one tbs_wsX110 mC2_2_214 dX11_table_19 ?_
  have w7 : (S6.2 0 0 5) < 3 := hR.2.1.2.2
  refine lv_aload_n hx hb dX11_table_22 rfl (lv_at hl 0 rfl) ?_
  refine gC_0_0 C0 hR Nat.zero_lt_one tbs_wsX110 mC2_2_209 dX11_table_23 ?_
  refine qC_Si (As := [.ref (b + adC 13 (S6.2 0 0 5)), .ref (b + adC 1 0)]) (rest := []) C0 (c_X7_readInto l w7 h) (va_cwS 2 C0.2.2.2.2 (tbS mC2_3_122 ⟨mC2_3_123, mC2_1_13, mC2_3_124⟩) rfl rfl rfl (by decide +kernel) ⟨Nat.le_of_ble_eq_true rfl, Nat.le_of_ble_eq_true rfl⟩) hR hT hS rfl hl.1 rfl (Nat.le_of_ble_eq_true rfl) dX11_table_26 ⟨Nat.le_of_ble_eq_true rfl, Nat.le_of_ble_eq_true rfl⟩ (fun r8 S9 H locs h hR hS => ?_)
  refine lv_if_ne (tgt := 40) hx hb dX11_table_29 (by decide) (fun c10 => ?_) (fun c10 => ?_)
  · have h := h.1 c10
    refine lv_aload_n hx hb dX11_table_40 rfl (lv_at hl 0 rfl) ?_
    refine gC_0_4 C0 hR Nat.zero_lt_one tbs_wsX110 mC2_2_213 dX11_table_41 ?_
    have w11 : (S9.2 0 0 4) < 3 := hR.2.1.2.1
    refine gCn_13_9 C0 hR w11 tbs_wsX60 mC2_2_157 hT dX11_table_44 ?_
    refine lv_bipush (v := 12) hx hb dX11_table_47 (by decide) ?_
    refine lv_icmp_lt (tgt := 60) hx hb dX11_table_49 (by decide) (fun c12 => ?_) (fun c12 => ?_)
    · have h := h.1 c12
      refine lv_aload_n hx hb dX11_table_60 rfl (lv_at hl 0 rfl) ?_
      refine gC_0_4 C0 hR Nat.zero_lt_one tbs_wsX110 mC2_2_213 dX11_table_61 ?_
      have w13 : (S9.2 0 0 4) < 3 := hR.2.1.2.1
      refine lv_astore_n (lv' := [(1, .ref (b + adC 13 (S9.2 0 0 4))), (0, .ref (b + adC 0 0))]) hx hb dX11_table_64 rfl hl (by decide) rfl (fun ls hl => ?_)
      refine lv_aload_n hx hb dX11_table_65 rfl (lv_at hl 1 rfl) ?_
      refine lv_aload_n hx hb dX11_table_66 rfl (lv_at hl 1 rfl) ?_
      refine gC_0_5 C0 hR Nat.zero_lt_one tbs_wsX110 mC2_2_214 dX11_table_67 ?_
      have w14 : (S9.2 0 0 5) < 3 := hR.2.1.2.2
      refine pC_0_4 C0 hR hS Nat.zero_lt_one tbs_wsX110 mC2_2_213 w14 dX11_table_70 (fun S15 eS15 H locs hR hS => ?_)
      have h := h S15 eS15
      refine lv_aload_n hx hb dX11_table_73 rfl (lv_at hl 1 rfl) ?_
      refine lv_aload_n hx hb dX11_table_74 rfl (lv_at hl 0 rfl) ?_
      refine pC_0_5 C0 hR hS Nat.zero_lt_one tbs_wsX110 mC2_2_214 w13 dX11_table_75 (fun S16 eS16 H locs hR hS => ?_)
      have h := h S16 eS16
      refine lv_aload_n hx hb dX11_table_78 rfl (lv_at hl 1 rfl) ?_
      refine gC_0_4 C0 hR Nat.zero_lt_one tbs_wsX110 mC2_2_213 dX11_table_79 ?_
      have w17 : (S16.2 0 0 4) < 3 := hR.2.1.2.1
      refine lv_dup hx hb dX11_table_82 rfl ?_
      refine gCn_13_9 C0 hR w17 tbs_wsX60 mC2_2_157 hT dX11_table_83 ?_
      refine lv_iconst (v := 1) hx hb dX11_table_86 (by decide) ?_
      refine lv_iadd hx hb dX11_table_87 ?_
      refine pCn_13_9 C0 hR hS w17 tbs_wsX60 mC2_2_157 hT dX11_table_88 (fun S18 eS18 H locs hR hS => ?_)
      have h := h S18 eS18
      refine lv_aload_n hx hb dX11_table_91 rfl (lv_at hl 1 rfl) ?_
      refine gC_0_4 C0 hR Nat.zero_lt_one tbs_wsX110 mC2_2_213 dX11_table_92 ?_
      have w19 : (S18.2 0 0 4) < 3 := hR.2.1.2.1
      refine gCn_13_9 C0 hR w19 tbs_wsX60 mC2_2_157 hT dX11_table_95 ?_
      refine vx_ret (W.widen (k := 2) (n := 12) (Nat.le_of_ble_eq_true rfl) (Nat.le_of_ble_eq_true rfl) ?_); exact rtC_i C0 hr hlk hR hS h dX11_table_98
    · have h := h.2 c12
      exact w_throw_1 C0 hl0 hX0 hT hR hS hl.1 hexc hlk h mC2_4_110 mC2_1_22 dX11_table_52 dX11_table_55 dX11_table_56 dX11_table_59 (Nat.le_of_ble_eq_true rfl) (Nat.le_of_ble_eq_true rfl) (Nat.le_of_ble_eq_true rfl) (Nat.le_of_ble_eq_true rfl) (Nat.le_of_ble_eq_true rfl) (Nat.le_of_ble_eq_true rfl)
  · have h := h.2 c10
    exact w_throw_0 C0 hl0 hX0 hT hR hS hl.1 hexc hlk h mC2_4_45 mC2_1_21 dX11_table_32 dX11_table_35 dX11_table_36 dX11_table_39 (Nat.le_of_ble_eq_true rfl) (Nat.le_of_ble_eq_true rfl) (Nat.le_of_ble_eq_true rfl) (Nat.le_of_ble_eq_true rfl) (Nat.le_of_ble_eq_true rfl) (Nat.le_of_ble_eq_true rfl)

def rm_X11_needSession : Room := { frames := 6, cells := 1, slots := 6, locals := 89 }
def B_X11_needSession_15 (S : sSt) (k : sSt → Prop) (kx : String → sSt → Prop) : Prop := kx "java/lang/IndexOutOfBoundsException" S
set_option maxHeartbeats 4000000 in
set_option maxRecDepth 100000 in
theorem Bw_X11_needSession_15 {p : Program} {l : Launch} {e : Env} {s : State} {m : MethodId} {args : Array Value} {below : List Frame} {meth : Method} {c : Code} {D : va_G} {cy : Nat → ClassId} {b z : Nat} {tx : TX} (C0 : CallFix p m c cX11_needSession 2 s args TB RX11) (hr : meth.sig.returnType = none) (hlk : meth.locks = false) (hT : TxR tx s) (hl0 : l.stackTraces = false) (hX0 : TxP tx b z s s.heap) (hexc : ∀ x ∈ c.exceptionTable.toList, False) {k : sSt → Prop} {kx : String → sSt → Prop} : ∀ (S : sSt) (H : Heap) (locs : List Loc) (ls : Array Slot) , B_X11_needSession_15 S k kx → RelC D cy b z tx S s H → va_S (gA b 709 z) s.heap H locs → lv_has ls 2 [] → W p l e rm_X11_needSession s m args below meth c H locs 0 0 (vx_MQ below (PvC D cy b z tx k) (XeC D cy b z tx kx) args s 1 6 (gA b 709 z)) (F0 m 15 ls []) := by
  intro S H locs ls h hR hS hl
  have hx := C0.1
  have hb := C0.2.1
  unfold B_X11_needSession_15 at h
  exact w_throw_2 C0 hl0 hX0 hT hR hS hl.1 hexc hlk h mC2_4_137 mC2_1_23 dX11_needSession_15 dX11_needSession_18 dX11_needSession_19 dX11_needSession_22 (Nat.le_of_ble_eq_true rfl) (Nat.le_of_ble_eq_true rfl) (Nat.le_of_ble_eq_true rfl) (Nat.le_of_ble_eq_true rfl) (Nat.le_of_ble_eq_true rfl) (Nat.le_of_ble_eq_true rfl)
def F_X11_needSession (a1 : Int32) (S : sSt) (k : sSt → Prop) (kx : String → sSt → Prop) : Prop := ((a1 < 0 → B_X11_needSession_15 S k kx) ∧ (¬ a1 < 0 → ((a1 < (S.1 13 (S.2 0 0 4) 7) → k S) ∧ (¬ a1 < (S.1 13 (S.2 0 0 4) 7) → B_X11_needSession_15 S k kx))))
set_option maxHeartbeats 4000000 in
set_option maxRecDepth 100000 in
theorem c_X11_needSession (l : Launch) (hl0 : l.stackTraces = false) {D : va_G} {cy : Nat → ClassId} {b z : Nat} {tx : TX} {a1 : Int32} {S : sSt} {k : sSt → Prop} {kx : String → sSt → Prop} (h : F_X11_needSession a1 S k kx) : vx_Met l yX11_needSession (Cond.code yX11_needSession cX11_needSession 2 none :: TB) rm_X11_needSession (va_Pc [.ref (b + adC 0 0), .int a1] (fun U => RelC D cy b z tx S U U.heap ∧ TxR tx U)) (PvC D cy b z tx k) (XeC D cy b z tx kx) 1 6 (gA b 709 z) := by
  refine vx_ofW (cc := cX11_needSession) (maxL := 2) (ret := none) (by decide) rfl ?_
  intro p e s m args below meth c s₁ B hml hexc hv
  obtain ⟨rfl, hR, hT⟩ := hv
  have hX0 := hR.2.2
  have C0 : CallFix p m c cX11_needSession 2 s _ TB RX11 := ⟨B.exec, B.bytes, hml, findClass_of_methodNamed B.named, fun w hw => atoms_spec B.pre w (List.mem_cons_of_mem _ hw)⟩
  have hr := B.returns
  have hlk := B.notSynchronized
  have hx := C0.1
  have hb := C0.2.1
  have hS : va_S (gA b 709 z) s.heap s.heap [] := va_S.rf
  have hl := lv_entry ([.ref (b + adC 0 0), .int a1]) (n := 2) (Nat.le_of_ble_eq_true rfl)
  rw [lg_entry_eq]
  generalize (lg_sl ([.ref (b + adC 0 0), .int a1]) ++ List.replicate (2 - (lg_sl ([.ref (b + adC 0 0), .int a1])).length) Slot.unset).toArray = ls at hl ⊢
  have hl : lv_has ls 2 [(0, .ref (b + adC 0 0)), (1, .int a1)] := hl
  show W p l e rm_X11_needSession s m _ below meth c s.heap [] 0 0 (vx_MQ below (PvC D cy b z tx k) (XeC D cy b z tx kx) _ s 1 6 (gA b 709 z)) _
  unfold F_X11_needSession at h
  refine lv_iload_n hx hb dX11_needSession_0 rfl (lv_at hl 1 rfl) ?_
  refine lv_if_lt (tgt := 15) hx hb dX11_needSession_1 (by decide) (fun c1 => ?_) (fun c1 => ?_)
  · have h := h.1 c1
    refine W.widen (k := 0) (n := 0) (Nat.le_of_ble_eq_true rfl) (Nat.le_of_ble_eq_true rfl) ?_
    exact Bw_X11_needSession_15 C0 hr hlk hT hl0 hX0 hexc S _ _ _ h hR hS (lv_sub hl [] rfl)
  · have h := h.2 c1
    refine lv_iload_n hx hb dX11_needSession_4 rfl (lv_at hl 1 rfl) ?_
    refine lv_aload_n hx hb dX11_needSession_5 rfl (lv_at hl 0 rfl) ?_
    refine gC_0_4 C0 hR Nat.zero_lt_one tbs_wsX110 mC2_2_213 dX11_needSession_6 ?_
    have w2 : (S.2 0 0 4) < 3 := hR.2.1.2.1
    refine gCn_13_7 C0 hR w2 tbs_wsX60 mC2_2_152 hT dX11_needSession_9 ?_
    refine lv_icmp_lt (tgt := 23) hx hb dX11_needSession_12 (by decide) (fun c3 => ?_) (fun c3 => ?_)
    · have h := h.1 c3
      refine vx_ret (W.widen (k := 1) (n := 6) (Nat.le_of_ble_eq_true rfl) (Nat.le_of_ble_eq_true rfl) ?_); exact rtC_v C0 hr hlk hR hS h dX11_needSession_23
    · have h := h.2 c3
      refine W.widen (k := 0) (n := 0) (Nat.le_of_ble_eq_true rfl) (Nat.le_of_ble_eq_true rfl) ?_
      exact Bw_X11_needSession_15 C0 hr hlk hT hl0 hX0 hexc S _ _ _ h hR hS (lv_sub hl [] rfl)

def rm_X3_readColumn : Room := { frames := 5, cells := 0, slots := 0, locals := 107 }
def F_X3_readColumn (S : sSt) (k : Int32 → sSt → Prop) : Prop := F_X8_takeWord 20 S (fun r1 S2 => ((r1 = 0 → F_X8_takeWord 1 S2 (fun r4 S5 => ((r4 = 0 → F_X8_takeWord 2 S5 (fun r7 S8 => ((r7 = 0 → F_X8_takeWord 3 S8 (fun r10 S11 => ((r10 = 0 → F_X8_takeWord 21 S11 (fun r13 S14 => ((r13 = 0 → F_X8_takeWord 22 S14 (fun r16 S17 => ((r16 = 0 → F_X8_takeWord 23 S17 (fun r19 S20 => ((r19 = 0 → F_X8_takeWord 24 S20 (fun r22 S23 => ((¬ r22 = 0 → k 7 S23) ∧ (r22 = 0 → F_X8_refuse S23 (fun S26 => k 7 S26))))) ∧ (¬ r19 = 0 → k 6 S20)))) ∧ (¬ r16 = 0 → k 5 S17)))) ∧ (¬ r13 = 0 → k 4 S14)))) ∧ (¬ r10 = 0 → k 3 S11)))) ∧ (¬ r7 = 0 → k 2 S8)))) ∧ (¬ r4 = 0 → k 1 S5)))) ∧ (¬ r1 = 0 → k 0 S2)))
set_option maxHeartbeats 4000000 in
set_option maxRecDepth 100000 in
theorem c_X3_readColumn (l : Launch) {D : va_G} {cy : Nat → ClassId} {b z : Nat} {tx : TX} {S : sSt} {k : Int32 → sSt → Prop} (h : F_X3_readColumn S k) : Met l yX3_readColumn (Cond.code yX3_readColumn cX3_readColumn 1 (some .int) :: TB) rm_X3_readColumn (va_Pc [.ref (b + adC 1 0)] (fun U => RelC D cy b z tx S U U.heap ∧ TxR tx U)) (PiC D cy b z tx k) 0 0 (gA b 709 z) := by
  refine Met.ofW (cc := cX3_readColumn) (maxL := 1) (ret := (some .int)) (by decide) rfl ?_
  intro p e s m args below meth c s₁ B hml hv
  obtain ⟨rfl, hR, hT⟩ := hv
  have C0 : CallFix p m c cX3_readColumn 1 s _ TB RX3 := ⟨B.exec, B.bytes, hml, findClass_of_methodNamed B.named, fun w hw => atoms_spec B.pre w (List.mem_cons_of_mem _ hw)⟩
  have hr := B.returns
  have hlk := B.notSynchronized
  have hx := C0.1
  have hb := C0.2.1
  have hS : va_S (gA b 709 z) s.heap s.heap [] := va_S.rf
  have hl := lv_entry ([.ref (b + adC 1 0)]) (n := 1) (Nat.le_of_ble_eq_true rfl)
  rw [lg_entry_eq]
  generalize (lg_sl ([.ref (b + adC 1 0)]) ++ List.replicate (1 - (lg_sl ([.ref (b + adC 1 0)])).length) Slot.unset).toArray = ls at hl ⊢
  have hl : lv_has ls 1 [(0, .ref (b + adC 1 0))] := hl
  show W p l e rm_X3_readColumn s m _ below meth c s.heap [] 0 0 (MQ below (PiC D cy b z tx k) _ s 0 0 (gA b 709 z)) _
  unfold F_X3_readColumn at h
  refine lv_aload_n hx hb dX3_readColumn_0 rfl (lv_at hl 0 rfl) ?_
  refine va_ldcS hx hb C0.2.2.2.1 (tr_20 hT) dX3_readColumn_1 ?_
  refine qC_Vi (As := [.ref (tx.2.1 20)]) (rest := []) C0 (c_X8_takeWord l (by decide) h) (cwV 1 C0.2.2.2.2 (tbV mC2_4_161 ⟨mC2_3_142, mC2_3_143, mC2_1_2, mC2_3_144⟩) rfl rfl rfl (by decide +kernel) ⟨Nat.le_of_ble_eq_true rfl, Nat.le_of_ble_eq_true rfl⟩) (rcC_1 hR Nat.zero_lt_one) hR hT hS rfl hl.1 rfl (Nat.le_of_ble_eq_true rfl) dX3_readColumn_3 ⟨Nat.zero_le _, Nat.zero_le _⟩ (fun r1 S2 H locs h hR hS => ?_)
  refine lv_if_eq (tgt := 11) hx hb dX3_readColumn_6 (by decide) (fun c3 => ?_) (fun c3 => ?_)
  · have h := h.1 c3
    refine lv_aload_n hx hb dX3_readColumn_11 rfl (lv_at hl 0 rfl) ?_
    refine va_ldcS hx hb C0.2.2.2.1 (tr_21 hT) dX3_readColumn_12 ?_
    refine qC_Vi (As := [.ref (tx.2.1 1)]) (rest := []) C0 (c_X8_takeWord l (by decide) h) (cwV 1 C0.2.2.2.2 (tbV mC2_4_161 ⟨mC2_3_142, mC2_3_143, mC2_1_2, mC2_3_144⟩) rfl rfl rfl (by decide +kernel) ⟨Nat.le_of_ble_eq_true rfl, Nat.le_of_ble_eq_true rfl⟩) (rcC_1 hR Nat.zero_lt_one) hR hT hS rfl hl.1 rfl (Nat.le_of_ble_eq_true rfl) dX3_readColumn_14 ⟨Nat.zero_le _, Nat.zero_le _⟩ (fun r4 S5 H locs h hR hS => ?_)
    refine lv_if_eq (tgt := 22) hx hb dX3_readColumn_17 (by decide) (fun c6 => ?_) (fun c6 => ?_)
    · have h := h.1 c6
      refine lv_aload_n hx hb dX3_readColumn_22 rfl (lv_at hl 0 rfl) ?_
      refine va_ldcS hx hb C0.2.2.2.1 (tr_22 hT) dX3_readColumn_23 ?_
      refine qC_Vi (As := [.ref (tx.2.1 2)]) (rest := []) C0 (c_X8_takeWord l (by decide) h) (cwV 1 C0.2.2.2.2 (tbV mC2_4_161 ⟨mC2_3_142, mC2_3_143, mC2_1_2, mC2_3_144⟩) rfl rfl rfl (by decide +kernel) ⟨Nat.le_of_ble_eq_true rfl, Nat.le_of_ble_eq_true rfl⟩) (rcC_1 hR Nat.zero_lt_one) hR hT hS rfl hl.1 rfl (Nat.le_of_ble_eq_true rfl) dX3_readColumn_25 ⟨Nat.zero_le _, Nat.zero_le _⟩ (fun r7 S8 H locs h hR hS => ?_)
      refine lv_if_eq (tgt := 33) hx hb dX3_readColumn_28 (by decide) (fun c9 => ?_) (fun c9 => ?_)
      · have h := h.1 c9
        refine lv_aload_n hx hb dX3_readColumn_33 rfl (lv_at hl 0 rfl) ?_
        refine va_ldcS hx hb C0.2.2.2.1 (tr_23 hT) dX3_readColumn_34 ?_
        refine qC_Vi (As := [.ref (tx.2.1 3)]) (rest := []) C0 (c_X8_takeWord l (by decide) h) (cwV 1 C0.2.2.2.2 (tbV mC2_4_161 ⟨mC2_3_142, mC2_3_143, mC2_1_2, mC2_3_144⟩) rfl rfl rfl (by decide +kernel) ⟨Nat.le_of_ble_eq_true rfl, Nat.le_of_ble_eq_true rfl⟩) (rcC_1 hR Nat.zero_lt_one) hR hT hS rfl hl.1 rfl (Nat.le_of_ble_eq_true rfl) dX3_readColumn_36 ⟨Nat.zero_le _, Nat.zero_le _⟩ (fun r10 S11 H locs h hR hS => ?_)
        refine lv_if_eq (tgt := 44) hx hb dX3_readColumn_39 (by decide) (fun c12 => ?_) (fun c12 => ?_)
        · have h := h.1 c12
          refine lv_aload_n hx hb dX3_readColumn_44 rfl (lv_at hl 0 rfl) ?_
          refine va_ldcS hx hb C0.2.2.2.1 (tr_24 hT) dX3_readColumn_45 ?_
          refine qC_Vi (As := [.ref (tx.2.1 21)]) (rest := []) C0 (c_X8_takeWord l (by decide) h) (cwV 1 C0.2.2.2.2 (tbV mC2_4_161 ⟨mC2_3_142, mC2_3_143, mC2_1_2, mC2_3_144⟩) rfl rfl rfl (by decide +kernel) ⟨Nat.le_of_ble_eq_true rfl, Nat.le_of_ble_eq_true rfl⟩) (rcC_1 hR Nat.zero_lt_one) hR hT hS rfl hl.1 rfl (Nat.le_of_ble_eq_true rfl) dX3_readColumn_47 ⟨Nat.zero_le _, Nat.zero_le _⟩ (fun r13 S14 H locs h hR hS => ?_)
          refine lv_if_eq (tgt := 55) hx hb dX3_readColumn_50 (by decide) (fun c15 => ?_) (fun c15 => ?_)
          · have h := h.1 c15
            refine lv_aload_n hx hb dX3_readColumn_55 rfl (lv_at hl 0 rfl) ?_
            refine va_ldcS hx hb C0.2.2.2.1 (tr_25 hT) dX3_readColumn_56 ?_
            refine qC_Vi (As := [.ref (tx.2.1 22)]) (rest := []) C0 (c_X8_takeWord l (by decide) h) (cwV 1 C0.2.2.2.2 (tbV mC2_4_161 ⟨mC2_3_142, mC2_3_143, mC2_1_2, mC2_3_144⟩) rfl rfl rfl (by decide +kernel) ⟨Nat.le_of_ble_eq_true rfl, Nat.le_of_ble_eq_true rfl⟩) (rcC_1 hR Nat.zero_lt_one) hR hT hS rfl hl.1 rfl (Nat.le_of_ble_eq_true rfl) dX3_readColumn_58 ⟨Nat.zero_le _, Nat.zero_le _⟩ (fun r16 S17 H locs h hR hS => ?_)
            refine lv_if_eq (tgt := 66) hx hb dX3_readColumn_61 (by decide) (fun c18 => ?_) (fun c18 => ?_)
            · have h := h.1 c18
              refine lv_aload_n hx hb dX3_readColumn_66 rfl (lv_at hl 0 rfl) ?_
              refine va_ldcS hx hb C0.2.2.2.1 (tr_26 hT) dX3_readColumn_67 ?_
              refine qC_Vi (As := [.ref (tx.2.1 23)]) (rest := []) C0 (c_X8_takeWord l (by decide) h) (cwV 1 C0.2.2.2.2 (tbV mC2_4_161 ⟨mC2_3_142, mC2_3_143, mC2_1_2, mC2_3_144⟩) rfl rfl rfl (by decide +kernel) ⟨Nat.le_of_ble_eq_true rfl, Nat.le_of_ble_eq_true rfl⟩) (rcC_1 hR Nat.zero_lt_one) hR hT hS rfl hl.1 rfl (Nat.le_of_ble_eq_true rfl) dX3_readColumn_69 ⟨Nat.zero_le _, Nat.zero_le _⟩ (fun r19 S20 H locs h hR hS => ?_)
              refine lv_if_eq (tgt := 78) hx hb dX3_readColumn_72 (by decide) (fun c21 => ?_) (fun c21 => ?_)
              · have h := h.1 c21
                refine lv_aload_n hx hb dX3_readColumn_78 rfl (lv_at hl 0 rfl) ?_
                refine va_ldcS hx hb C0.2.2.2.1 (tr_27 hT) dX3_readColumn_79 ?_
                refine qC_Vi (As := [.ref (tx.2.1 24)]) (rest := []) C0 (c_X8_takeWord l (by decide) h) (cwV 1 C0.2.2.2.2 (tbV mC2_4_161 ⟨mC2_3_142, mC2_3_143, mC2_1_2, mC2_3_144⟩) rfl rfl rfl (by decide +kernel) ⟨Nat.le_of_ble_eq_true rfl, Nat.le_of_ble_eq_true rfl⟩) (rcC_1 hR Nat.zero_lt_one) hR hT hS rfl hl.1 rfl (Nat.le_of_ble_eq_true rfl) dX3_readColumn_81 ⟨Nat.zero_le _, Nat.zero_le _⟩ (fun r22 S23 H locs h hR hS => ?_)
                refine lv_if_ne (tgt := 91) hx hb dX3_readColumn_84 (by decide) (fun c24 => ?_) (fun c24 => ?_)
                · have h := h.1 c24
                  refine lv_bipush (v := 7) hx hb dX3_readColumn_91 (by decide) ?_
                  exact rtC_i C0 hr hlk hR hS h dX3_readColumn_93
                · have h := h.2 c24
                  refine lv_aload_n hx hb dX3_readColumn_87 rfl (lv_at hl 0 rfl) ?_
                  refine qC_Vv (As := []) (rest := []) C0 (c_X8_refuse l h) (cwV 0 C0.2.2.2.2 (tbV mC2_4_177 ⟨mC2_3_207, mC2_3_208, mC2_1_2, mC2_3_209⟩) rfl rfl rfl (by decide +kernel) ⟨Nat.le_of_ble_eq_true rfl, Nat.le_of_ble_eq_true rfl⟩) (rcC_1 hR Nat.zero_lt_one) hR hT hS rfl hl.1 rfl (Nat.le_of_ble_eq_true rfl) dX3_readColumn_88 ⟨Nat.zero_le _, Nat.zero_le _⟩ (fun S26 H locs h hR hS => ?_)
                  refine lv_bipush (v := 7) hx hb dX3_readColumn_91 (by decide) ?_
                  exact rtC_i C0 hr hlk hR hS h dX3_readColumn_93
              · have h := h.2 c21
                refine lv_bipush (v := 6) hx hb dX3_readColumn_75 (by decide) ?_
                exact rtC_i C0 hr hlk hR hS h dX3_readColumn_77
            · have h := h.2 c18
              refine lv_iconst (v := 5) hx hb dX3_readColumn_64 (by decide) ?_
              exact rtC_i C0 hr hlk hR hS h dX3_readColumn_65
          · have h := h.2 c15
            refine lv_iconst (v := 4) hx hb dX3_readColumn_53 (by decide) ?_
            exact rtC_i C0 hr hlk hR hS h dX3_readColumn_54
        · have h := h.2 c12
          refine lv_iconst (v := 3) hx hb dX3_readColumn_42 (by decide) ?_
          exact rtC_i C0 hr hlk hR hS h dX3_readColumn_43
      · have h := h.2 c9
        refine lv_iconst (v := 2) hx hb dX3_readColumn_31 (by decide) ?_
        exact rtC_i C0 hr hlk hR hS h dX3_readColumn_32
    · have h := h.2 c6
      refine lv_iconst (v := 1) hx hb dX3_readColumn_20 (by decide) ?_
      exact rtC_i C0 hr hlk hR hS h dX3_readColumn_21
  · have h := h.2 c3
    refine lv_iconst (v := 0) hx hb dX3_readColumn_9 (by decide) ?_
    exact rtC_i C0 hr hlk hR hS h dX3_readColumn_10

def rm_X3_readSign : Room := { frames := 2, cells := 0, slots := 0, locals := 42 }
def F_X3_readSign (S : sSt) (k : Int32 → sSt → Prop) : Prop := F_X8_takeSign 61 S (fun r1 S2 => ((r1 = 0 → F_X8_takeSign 33 S2 (fun r4 S5 => ((r4 = 0 → F_X8_takeSign 60 S5 (fun r7 S8 => ((r7 = 0 → F_X8_takeSign 62 S8 (fun r10 S11 => ((¬ r10 = 0 → k 62 S11) ∧ (r10 = 0 → F_X8_refuse S11 (fun S14 => k 62 S14))))) ∧ (¬ r7 = 0 → k 60 S8)))) ∧ (¬ r4 = 0 → k 33 S5)))) ∧ (¬ r1 = 0 → k 61 S2)))
set_option maxHeartbeats 4000000 in
set_option maxRecDepth 100000 in
theorem c_X3_readSign (l : Launch) {D : va_G} {cy : Nat → ClassId} {b z : Nat} {tx : TX} {S : sSt} {k : Int32 → sSt → Prop} (h : F_X3_readSign S k) : Met l yX3_readSign (Cond.code yX3_readSign cX3_readSign 1 (some .char) :: TB) rm_X3_readSign (va_Pc [.ref (b + adC 1 0)] (fun U => RelC D cy b z tx S U U.heap ∧ TxR tx U)) (PiC D cy b z tx k) 0 0 (gA b 709 z) := by
  refine Met.ofW (cc := cX3_readSign) (maxL := 1) (ret := (some .char)) (by decide) rfl ?_
  intro p e s m args below meth c s₁ B hml hv
  obtain ⟨rfl, hR, hT⟩ := hv
  have C0 : CallFix p m c cX3_readSign 1 s _ TB RX3 := ⟨B.exec, B.bytes, hml, findClass_of_methodNamed B.named, fun w hw => atoms_spec B.pre w (List.mem_cons_of_mem _ hw)⟩
  have hr := B.returns
  have hlk := B.notSynchronized
  have hx := C0.1
  have hb := C0.2.1
  have hS : va_S (gA b 709 z) s.heap s.heap [] := va_S.rf
  have hl := lv_entry ([.ref (b + adC 1 0)]) (n := 1) (Nat.le_of_ble_eq_true rfl)
  rw [lg_entry_eq]
  generalize (lg_sl ([.ref (b + adC 1 0)]) ++ List.replicate (1 - (lg_sl ([.ref (b + adC 1 0)])).length) Slot.unset).toArray = ls at hl ⊢
  have hl : lv_has ls 1 [(0, .ref (b + adC 1 0))] := hl
  show W p l e rm_X3_readSign s m _ below meth c s.heap [] 0 0 (MQ below (PiC D cy b z tx k) _ s 0 0 (gA b 709 z)) _
  unfold F_X3_readSign at h
  refine lv_aload_n hx hb dX3_readSign_0 rfl (lv_at hl 0 rfl) ?_
  refine lv_bipush (v := 61) hx hb dX3_readSign_1 (by decide) ?_
  refine qC_Vi (As := [.int 61]) (rest := []) C0 (c_X8_takeSign l h) (cwV 1 C0.2.2.2.2 (tbV mC2_4_181 ⟨mC2_4_37, mC2_4_38, mC2_1_2, mC2_4_39⟩) rfl rfl rfl (by decide +kernel) ⟨Nat.le_of_ble_eq_true rfl, Nat.le_of_ble_eq_true rfl⟩) (rcC_1 hR Nat.zero_lt_one) hR hT hS rfl hl.1 rfl (Nat.le_of_ble_eq_true rfl) dX3_readSign_3 ⟨Nat.zero_le _, Nat.zero_le _⟩ (fun r1 S2 H locs h hR hS => ?_)
  refine lv_if_eq (tgt := 12) hx hb dX3_readSign_6 (by decide) (fun c3 => ?_) (fun c3 => ?_)
  · have h := h.1 c3
    refine lv_aload_n hx hb dX3_readSign_12 rfl (lv_at hl 0 rfl) ?_
    refine lv_bipush (v := 33) hx hb dX3_readSign_13 (by decide) ?_
    refine qC_Vi (As := [.int 33]) (rest := []) C0 (c_X8_takeSign l h) (cwV 1 C0.2.2.2.2 (tbV mC2_4_181 ⟨mC2_4_37, mC2_4_38, mC2_1_2, mC2_4_39⟩) rfl rfl rfl (by decide +kernel) ⟨Nat.le_of_ble_eq_true rfl, Nat.le_of_ble_eq_true rfl⟩) (rcC_1 hR Nat.zero_lt_one) hR hT hS rfl hl.1 rfl (Nat.le_of_ble_eq_true rfl) dX3_readSign_15 ⟨Nat.zero_le _, Nat.zero_le _⟩ (fun r4 S5 H locs h hR hS => ?_)
    refine lv_if_eq (tgt := 24) hx hb dX3_readSign_18 (by decide) (fun c6 => ?_) (fun c6 => ?_)
    · have h := h.1 c6
      refine lv_aload_n hx hb dX3_readSign_24 rfl (lv_at hl 0 rfl) ?_
      refine lv_bipush (v := 60) hx hb dX3_readSign_25 (by decide) ?_
      refine qC_Vi (As := [.int 60]) (rest := []) C0 (c_X8_takeSign l h) (cwV 1 C0.2.2.2.2 (tbV mC2_4_181 ⟨mC2_4_37, mC2_4_38, mC2_1_2, mC2_4_39⟩) rfl rfl rfl (by decide +kernel) ⟨Nat.le_of_ble_eq_true rfl, Nat.le_of_ble_eq_true rfl⟩) (rcC_1 hR Nat.zero_lt_one) hR hT hS rfl hl.1 rfl (Nat.le_of_ble_eq_true rfl) dX3_readSign_27 ⟨Nat.zero_le _, Nat.zero_le _⟩ (fun r7 S8 H locs h hR hS => ?_)
      refine lv_if_eq (tgt := 36) hx hb dX3_readSign_30 (by decide) (fun c9 => ?_) (fun c9 => ?_)
      · have h := h.1 c9
        refine lv_aload_n hx hb dX3_readSign_36 rfl (lv_at hl 0 rfl) ?_
        refine lv_bipush (v := 62) hx hb dX3_readSign_37 (by decide) ?_
        refine qC_Vi (As := [.int 62]) (rest := []) C0 (c_X8_takeSign l h) (cwV 1 C0.2.2.2.2 (tbV mC2_4_181 ⟨mC2_4_37, mC2_4_38, mC2_1_2, mC2_4_39⟩) rfl rfl rfl (by decide +kernel) ⟨Nat.le_of_ble_eq_true rfl, Nat.le_of_ble_eq_true rfl⟩) (rcC_1 hR Nat.zero_lt_one) hR hT hS rfl hl.1 rfl (Nat.le_of_ble_eq_true rfl) dX3_readSign_39 ⟨Nat.zero_le _, Nat.zero_le _⟩ (fun r10 S11 H locs h hR hS => ?_)
        refine lv_if_ne (tgt := 49) hx hb dX3_readSign_42 (by decide) (fun c12 => ?_) (fun c12 => ?_)
        · have h := h.1 c12
          refine lv_bipush (v := 62) hx hb dX3_readSign_49 (by decide) ?_
          exact rtC_c C0 hr hlk hR hS rfl h dX3_readSign_51
        · have h := h.2 c12
          refine lv_aload_n hx hb dX3_readSign_45 rfl (lv_at hl 0 rfl) ?_
          refine qC_Vv (As := []) (rest := []) C0 (c_X8_refuse l h) (cwV 0 C0.2.2.2.2 (tbV mC2_4_177 ⟨mC2_3_207, mC2_3_208, mC2_1_2, mC2_3_209⟩) rfl rfl rfl (by decide +kernel) ⟨Nat.le_of_ble_eq_true rfl, Nat.le_of_ble_eq_true rfl⟩) (rcC_1 hR Nat.zero_lt_one) hR hT hS rfl hl.1 rfl (Nat.le_of_ble_eq_true rfl) dX3_readSign_46 ⟨Nat.zero_le _, Nat.zero_le _⟩ (fun S14 H locs h hR hS => ?_)
          refine lv_bipush (v := 62) hx hb dX3_readSign_49 (by decide) ?_
          exact rtC_c C0 hr hlk hR hS rfl h dX3_readSign_51
      · have h := h.2 c9
        refine lv_bipush (v := 60) hx hb dX3_readSign_33 (by decide) ?_
        exact rtC_c C0 hr hlk hR hS rfl h dX3_readSign_35
    · have h := h.2 c6
      refine lv_bipush (v := 33) hx hb dX3_readSign_21 (by decide) ?_
      exact rtC_c C0 hr hlk hR hS rfl h dX3_readSign_23
  · have h := h.2 c3
    refine lv_bipush (v := 61) hx hb dX3_readSign_9 (by decide) ?_
    exact rtC_c C0 hr hlk hR hS rfl h dX3_readSign_11

def rm_X3_readTerms : Room := { frames := 6, cells := 0, slots := 0, locals := 127 }
def Bb_X3_readTerms_2 (kk2 : Nat → Int32 → sSt → Prop) (a0 : Nat) (a2 : Int32) (S : sSt) (k : sSt → Prop) : Prop := ((4 ≤ a2 → F_X8_refuse S (fun S3 => k S3)) ∧ (¬ 4 ≤ a2 → F_X3_readColumn S (fun r5 S6 => ix a2 4 (fun j7 => ∀ S8, S8 = uI S6 4 a0 j7 r5 → F_X3_readSign S8 (fun r10 S11 => ∀ S12, S12 = uI S11 5 a0 j7 (vp_nar .char r10) → F_X8_number 0 999 S12 (fun r14 S15 => ∀ S16, S16 = uI S15 6 a0 j7 r14 → ∀ S17, S17 = uI S16 3 a0 6 (a2 + 1) → F_X8_takeWord 25 S17 (fun r18 S19 => ((¬ r18 = 0 → ∀ x21 : Int32, x21 = a2 + 1 → kk2 a0 x21 S19) ∧ (r18 = 0 → k S19)))))))))
set_option maxHeartbeats 4000000 in
set_option maxRecDepth 100000 in
theorem Bbw_X3_readTerms_2 {p : Program} {l : Launch} {e : Env} {s : State} {m : MethodId} {args : Array Value} {below : List Frame} {meth : Method} {c : Code} {D : va_G} {cy : Nat → ClassId} {b z : Nat} {tx : TX} (C0 : CallFix p m c cX3_readTerms 3 s args TB RX3) (hr : meth.sig.returnType = none) (hlk : meth.locks = false) (hT : TxR tx s) {k : sSt → Prop} {kk2 : Nat → Int32 → sSt → Prop} (ih2 : ∀ (a0 : Nat) (a2 : Int32) (S : sSt) (H : Heap) (locs : List Loc) (ls : Array Slot) (av0 : a0 < 13), kk2 a0 a2 S → RelC D cy b z tx S s H → va_S (gA b 709 z) s.heap H locs → lv_has ls 3 [(0, .ref (b + adC 3 a0)), (1, .ref (b + adC 1 0)), (2, .int a2)] → W p l e rm_X3_readTerms s m args below meth c H locs 0 0 (MQ below (PvC D cy b z tx k) args s 0 0 (gA b 709 z)) (F0 m 2 ls [])) : ∀ (a0 : Nat) (a2 : Int32) (S : sSt) (H : Heap) (locs : List Loc) (ls : Array Slot) (av0 : a0 < 13), Bb_X3_readTerms_2 kk2 a0 a2 S k → RelC D cy b z tx S s H → va_S (gA b 709 z) s.heap H locs → lv_has ls 3 [(0, .ref (b + adC 3 a0)), (1, .ref (b + adC 1 0)), (2, .int a2)] → W p l e rm_X3_readTerms s m args below meth c H locs 0 0 (MQ below (PvC D cy b z tx k) args s 0 0 (gA b 709 z)) (F0 m 2 ls []) := by
  intro a0 a2 S H locs ls av0 h hR hS hl
  have hx := C0.1
  have hb := C0.2.1
  unfold Bb_X3_readTerms_2 at h
  refine lv_iload_n hx hb dX3_readTerms_2 rfl (lv_at hl 2 rfl) ?_
  refine lv_iconst (v := 4) hx hb dX3_readTerms_3 (by decide) ?_
  refine lv_icmp_ge (tgt := 64) hx hb dX3_readTerms_4 (by decide) (fun c1 => ?_) (fun c1 => ?_)
  · have h := h.1 c1
    refine lv_aload_n hx hb dX3_readTerms_64 rfl (lv_at hl 1 rfl) ?_
    refine qC_Vv (As := []) (rest := []) C0 (c_X8_refuse l h) (cwV 0 C0.2.2.2.2 (tbV mC2_4_177 ⟨mC2_3_207, mC2_3_208, mC2_1_2, mC2_3_209⟩) rfl rfl rfl (by decide +kernel) ⟨Nat.le_of_ble_eq_true rfl, Nat.le_of_ble_eq_true rfl⟩) (rcC_1 hR Nat.zero_lt_one) hR hT hS rfl hl.1 rfl (Nat.le_of_ble_eq_true rfl) dX3_readTerms_65 ⟨Nat.zero_le _, Nat.zero_le _⟩ (fun S3 H locs h hR hS => ?_)
    exact rtC_v C0 hr hlk hR hS h dX3_readTerms_68
  · have h := h.2 c1
    refine lv_aload_n hx hb dX3_readTerms_7 rfl (lv_at hl 0 rfl) ?_
    refine gC_3_0 C0 hR av0 tbs_wsX30 mC2_1_67 dX3_readTerms_8 ?_
    have w4 : a0 < 13 := by omega
    refine lv_iload_n hx hb dX3_readTerms_11 rfl (lv_at hl 2 rfl) ?_
    refine lv_aload_n hx hb dX3_readTerms_12 rfl (lv_at hl 1 rfl) ?_
    refine qC_Si (As := [.ref (b + adC 1 0)]) (rest := [.int a2, .ref (b + adC 4 a0)]) C0 (c_X3_readColumn l h) (va_cwS 1 C0.2.2.2.2 (tbS mC2_4_166 ⟨mC2_4_167, mC2_1_3, mC2_4_168⟩) rfl rfl rfl (by decide +kernel) ⟨Nat.le_of_ble_eq_true rfl, Nat.le_of_ble_eq_true rfl⟩) hR hT hS rfl hl.1 rfl (Nat.le_of_ble_eq_true rfl) dX3_readTerms_13 ⟨Nat.zero_le _, Nat.zero_le _⟩ (fun r5 S6 H locs h hR hS => ?_)
    obtain ⟨j7, hj7, ej7, h⟩ := h
    refine sC_4 C0 hR hS w4 hj7 ej7 dX3_readTerms_16 (fun S8 eS8 H locs hR hS => ?_)
    have h := h S8 eS8
    refine lv_aload_n hx hb dX3_readTerms_17 rfl (lv_at hl 0 rfl) ?_
    refine gC_3_1 C0 hR av0 tbs_wsX30 mC2_1_68 dX3_readTerms_18 ?_
    have w9 : a0 < 13 := by omega
    refine lv_iload_n hx hb dX3_readTerms_21 rfl (lv_at hl 2 rfl) ?_
    refine lv_aload_n hx hb dX3_readTerms_22 rfl (lv_at hl 1 rfl) ?_
    refine qC_Si (As := [.ref (b + adC 1 0)]) (rest := [.int a2, .ref (b + adC 5 a0)]) C0 (c_X3_readSign l h) (va_cwS 1 C0.2.2.2.2 (tbS mC2_4_178 ⟨mC2_4_179, mC2_1_3, mC2_4_180⟩) rfl rfl rfl (by decide +kernel) ⟨Nat.le_of_ble_eq_true rfl, Nat.le_of_ble_eq_true rfl⟩) hR hT hS rfl hl.1 rfl (Nat.le_of_ble_eq_true rfl) dX3_readTerms_23 ⟨Nat.zero_le _, Nat.zero_le _⟩ (fun r10 S11 H locs h hR hS => ?_)
    refine sC_5 C0 hR hS w9 hj7 ej7 dX3_readTerms_26 (fun S12 eS12 H locs hR hS => ?_)
    have h := h S12 eS12
    refine lv_aload_n hx hb dX3_readTerms_27 rfl (lv_at hl 0 rfl) ?_
    refine gC_3_2 C0 hR av0 tbs_wsX30 mC2_1_69 dX3_readTerms_28 ?_
    have w13 : a0 < 13 := by omega
    refine lv_iload_n hx hb dX3_readTerms_31 rfl (lv_at hl 2 rfl) ?_
    refine lv_aload_n hx hb dX3_readTerms_32 rfl (lv_at hl 1 rfl) ?_
    refine lv_iconst (v := 0) hx hb dX3_readTerms_33 (by decide) ?_
    refine lv_sipush (v := 999) hx hb dX3_readTerms_34 (by decide) ?_
    refine qC_Vi (As := [.int 0, .int 999]) (rest := [.int a2, .ref (b + adC 6 a0)]) C0 (c_X8_number l h) (cwV 2 C0.2.2.2.2 (tbV mC2_4_182 ⟨mC2_3_211, mC2_3_212, mC2_1_2, mC2_3_213⟩) rfl rfl rfl (by decide +kernel) ⟨Nat.le_of_ble_eq_true rfl, Nat.le_of_ble_eq_true rfl⟩) (rcC_1 hR Nat.zero_lt_one) hR hT hS rfl hl.1 rfl (Nat.le_of_ble_eq_true rfl) dX3_readTerms_37 ⟨Nat.zero_le _, Nat.zero_le _⟩ (fun r14 S15 H locs h hR hS => ?_)
    refine sC_6 C0 hR hS w13 hj7 ej7 dX3_readTerms_40 (fun S16 eS16 H locs hR hS => ?_)
    have h := h S16 eS16
    refine lv_aload_n hx hb dX3_readTerms_41 rfl (lv_at hl 0 rfl) ?_
    refine lv_iload_n hx hb dX3_readTerms_42 rfl (lv_at hl 2 rfl) ?_
    refine lv_iconst (v := 1) hx hb dX3_readTerms_43 (by decide) ?_
    refine lv_iadd hx hb dX3_readTerms_44 ?_
    refine pC_3_6 C0 hR hS av0 tbs_wsX30 mC2_1_75 dX3_readTerms_45 (fun S17 eS17 H locs hR hS => ?_)
    have h := h S17 eS17
    refine lv_aload_n hx hb dX3_readTerms_48 rfl (lv_at hl 1 rfl) ?_
    refine va_ldcS hx hb C0.2.2.2.1 (tr_28 hT) dX3_readTerms_49 ?_
    refine qC_Vi (As := [.ref (tx.2.1 25)]) (rest := []) C0 (c_X8_takeWord l (by decide) h) (cwV 1 C0.2.2.2.2 (tbV mC2_4_161 ⟨mC2_3_142, mC2_3_143, mC2_1_2, mC2_3_144⟩) rfl rfl rfl (by decide +kernel) ⟨Nat.le_of_ble_eq_true rfl, Nat.le_of_ble_eq_true rfl⟩) (rcC_1 hR Nat.zero_lt_one) hR hT hS rfl hl.1 rfl (Nat.le_of_ble_eq_true rfl) dX3_readTerms_51 ⟨Nat.zero_le _, Nat.zero_le _⟩ (fun r18 S19 H locs h hR hS => ?_)
    refine lv_if_ne (tgt := 58) hx hb dX3_readTerms_54 (by decide) (fun c20 => ?_) (fun c20 => ?_)
    · have h := h.1 c20
      obtain ⟨x21, ex21⟩ : ∃ x21 : Int32, x21 = a2 + 1 := ⟨_, rfl⟩
      have h := h x21 ex21
      refine w_iinc (v0 := 1) (lv' := [(2, .int x21), (0, .ref (b + adC 3 a0)), (1, .ref (b + adC 1 0))]) C0 dX3_readTerms_58 hl (k := 2) rfl (by decide) (by decide) x21 ex21 rfl (fun ls hl => ?_)
      refine lv_goto (tgt := 2) hx hb dX3_readTerms_61 (by decide) ?_
      exact ih2 a0 x21 S19 _ _ _ av0 h hR hS (lv_sub hl [1, 2, 0] rfl)
    · have h := h.2 c20
      exact rtC_v C0 hr hlk hR hS h dX3_readTerms_57
def B_X3_readTerms_2 (n9 : Nat) (a0 : Nat) (a2 : Int32) (S : sSt) (k : sSt → Prop) : Prop := (Nat.rec (motive := fun _ => Nat → Int32 → sSt → Prop) (fun _ _ _ => False) (fun _ r9 => fun a0 a2 S => Bb_X3_readTerms_2 r9 a0 a2 S k) n9 : Nat → Int32 → sSt → Prop) a0 a2 S
theorem B_X3_readTerms_2_s (n9 : Nat) (a0 : Nat) (a2 : Int32) (S : sSt) (k : sSt → Prop) : B_X3_readTerms_2 (n9 + 1) a0 a2 S k = Bb_X3_readTerms_2 (fun a0 a2 S => B_X3_readTerms_2 n9 a0 a2 S k) a0 a2 S k := rfl
set_option maxHeartbeats 4000000 in
set_option maxRecDepth 100000 in
theorem Bw_X3_readTerms_2 {p : Program} {l : Launch} {e : Env} {s : State} {m : MethodId} {args : Array Value} {below : List Frame} {meth : Method} {c : Code} {D : va_G} {cy : Nat → ClassId} {b z : Nat} {tx : TX} (C0 : CallFix p m c cX3_readTerms 3 s args TB RX3) (hr : meth.sig.returnType = none) (hlk : meth.locks = false) (hT : TxR tx s) {k : sSt → Prop} : ∀ (n9 : Nat), ∀ (a0 : Nat) (a2 : Int32) (S : sSt) (H : Heap) (locs : List Loc) (ls : Array Slot) (av0 : a0 < 13), B_X3_readTerms_2 n9 a0 a2 S k → RelC D cy b z tx S s H → va_S (gA b 709 z) s.heap H locs → lv_has ls 3 [(0, .ref (b + adC 3 a0)), (1, .ref (b + adC 1 0)), (2, .int a2)] → W p l e rm_X3_readTerms s m args below meth c H locs 0 0 (MQ below (PvC D cy b z tx k) args s 0 0 (gA b 709 z)) (F0 m 2 ls []) := by
  intro n9
  induction n9 with
  | zero => intro a0 a2 S H locs ls av0 h; exact h.elim
  | succ n9 ih =>
    intro a0 a2 S H locs ls av0 h hR hS hl
    exact Bbw_X3_readTerms_2 C0 hr hlk hT ih a0 a2 S H locs ls av0 h hR hS hl
def F_X3_readTerms (a0 : Nat) (S : sSt) (k : sSt → Prop) : Prop := B_X3_readTerms_2 fuel a0 0 S k
set_option maxHeartbeats 4000000 in
set_option maxRecDepth 100000 in
theorem c_X3_readTerms (l : Launch) {D : va_G} {cy : Nat → ClassId} {b z : Nat} {tx : TX} {a0 : Nat} {S : sSt} {k : sSt → Prop} (av0 : a0 < 13) (h : F_X3_readTerms a0 S k) : Met l yX3_readTerms (Cond.code yX3_readTerms cX3_readTerms 3 none :: TB) rm_X3_readTerms (va_Pc [.ref (b + adC 3 a0), .ref (b + adC 1 0)] (fun U => RelC D cy b z tx S U U.heap ∧ TxR tx U)) (PvC D cy b z tx k) 0 0 (gA b 709 z) := by
  refine Met.ofW (cc := cX3_readTerms) (maxL := 3) (ret := none) (by decide) rfl ?_
  intro p e s m args below meth c s₁ B hml hv
  obtain ⟨rfl, hR, hT⟩ := hv
  have C0 : CallFix p m c cX3_readTerms 3 s _ TB RX3 := ⟨B.exec, B.bytes, hml, findClass_of_methodNamed B.named, fun w hw => atoms_spec B.pre w (List.mem_cons_of_mem _ hw)⟩
  have hr := B.returns
  have hlk := B.notSynchronized
  have hx := C0.1
  have hb := C0.2.1
  have hS : va_S (gA b 709 z) s.heap s.heap [] := va_S.rf
  have hl := lv_entry ([.ref (b + adC 3 a0), .ref (b + adC 1 0)]) (n := 3) (Nat.le_of_ble_eq_true rfl)
  rw [lg_entry_eq]
  generalize (lg_sl ([.ref (b + adC 3 a0), .ref (b + adC 1 0)]) ++ List.replicate (3 - (lg_sl ([.ref (b + adC 3 a0), .ref (b + adC 1 0)])).length) Slot.unset).toArray = ls at hl ⊢
  have hl : lv_has ls 3 [(0, .ref (b + adC 3 a0)), (1, .ref (b + adC 1 0))] := hl
  show W p l e rm_X3_readTerms s m _ below meth c s.heap [] 0 0 (MQ below (PvC D cy b z tx k) _ s 0 0 (gA b 709 z)) _
  unfold F_X3_readTerms at h
  refine lv_iconst (v := 0) hx hb dX3_readTerms_0 (by decide) ?_
  refine lv_istore_n (lv' := [(2, .int 0), (0, .ref (b + adC 3 a0)), (1, .ref (b + adC 1 0))]) hx hb dX3_readTerms_1 rfl hl (by decide) rfl (fun ls hl => ?_)
  exact Bw_X3_readTerms_2 C0 hr hlk hT fuel a0 0 S _ _ _ av0 h hR hS (lv_sub hl [1, 2, 0] rfl)

def rm_X3_readKeys : Room := { frames := 6, cells := 0, slots := 0, locals := 127 }
def Bb_X3_readKeys_15 (kk15 : Nat → Int32 → sSt → Prop) (a0 : Nat) (a2 : Int32) (S : sSt) (k : sSt → Prop) : Prop := ((4 ≤ a2 → F_X8_refuse S (fun S6 => k S6)) ∧ (¬ 4 ≤ a2 → F_X3_readColumn S (fun r8 S9 => ix a2 4 (fun j10 => ∀ S11, S11 = uI S9 7 a0 j10 r8 → F_X8_takeWord 28 S11 (fun r13 S14 => ∀ S15, S15 = uI S14 8 a0 j10 (vp_nar .boolean r13) → ∀ S16, S16 = uI S15 3 a0 7 (a2 + 1) → F_X8_takeSign 44 S16 (fun r17 S18 => ((¬ r17 = 0 → ∀ x20 : Int32, x20 = a2 + 1 → kk15 a0 x20 S18) ∧ (r17 = 0 → k S18))))))))
set_option maxHeartbeats 4000000 in
set_option maxRecDepth 100000 in
theorem Bbw_X3_readKeys_15 {p : Program} {l : Launch} {e : Env} {s : State} {m : MethodId} {args : Array Value} {below : List Frame} {meth : Method} {c : Code} {D : va_G} {cy : Nat → ClassId} {b z : Nat} {tx : TX} (C0 : CallFix p m c cX3_readKeys 3 s args TB RX3) (hr : meth.sig.returnType = none) (hlk : meth.locks = false) (hT : TxR tx s) {k : sSt → Prop} {kk15 : Nat → Int32 → sSt → Prop} (ih15 : ∀ (a0 : Nat) (a2 : Int32) (S : sSt) (H : Heap) (locs : List Loc) (ls : Array Slot) (av0 : a0 < 13), kk15 a0 a2 S → RelC D cy b z tx S s H → va_S (gA b 709 z) s.heap H locs → lv_has ls 3 [(0, .ref (b + adC 3 a0)), (1, .ref (b + adC 1 0)), (2, .int a2)] → W p l e rm_X3_readKeys s m args below meth c H locs 0 0 (MQ below (PvC D cy b z tx k) args s 0 0 (gA b 709 z)) (F0 m 15 ls [])) : ∀ (a0 : Nat) (a2 : Int32) (S : sSt) (H : Heap) (locs : List Loc) (ls : Array Slot) (av0 : a0 < 13), Bb_X3_readKeys_15 kk15 a0 a2 S k → RelC D cy b z tx S s H → va_S (gA b 709 z) s.heap H locs → lv_has ls 3 [(0, .ref (b + adC 3 a0)), (1, .ref (b + adC 1 0)), (2, .int a2)] → W p l e rm_X3_readKeys s m args below meth c H locs 0 0 (MQ below (PvC D cy b z tx k) args s 0 0 (gA b 709 z)) (F0 m 15 ls []) := by
  intro a0 a2 S H locs ls av0 h hR hS hl
  have hx := C0.1
  have hb := C0.2.1
  unfold Bb_X3_readKeys_15 at h
  refine lv_iload_n hx hb dX3_readKeys_15 rfl (lv_at hl 2 rfl) ?_
  refine lv_iconst (v := 4) hx hb dX3_readKeys_16 (by decide) ?_
  refine lv_icmp_ge (tgt := 65) hx hb dX3_readKeys_17 (by decide) (fun c4 => ?_) (fun c4 => ?_)
  · have h := h.1 c4
    refine lv_aload_n hx hb dX3_readKeys_65 rfl (lv_at hl 1 rfl) ?_
    refine qC_Vv (As := []) (rest := []) C0 (c_X8_refuse l h) (cwV 0 C0.2.2.2.2 (tbV mC2_4_177 ⟨mC2_3_207, mC2_3_208, mC2_1_2, mC2_3_209⟩) rfl rfl rfl (by decide +kernel) ⟨Nat.le_of_ble_eq_true rfl, Nat.le_of_ble_eq_true rfl⟩) (rcC_1 hR Nat.zero_lt_one) hR hT hS rfl hl.1 rfl (Nat.le_of_ble_eq_true rfl) dX3_readKeys_66 ⟨Nat.zero_le _, Nat.zero_le _⟩ (fun S6 H locs h hR hS => ?_)
    exact rtC_v C0 hr hlk hR hS h dX3_readKeys_69
  · have h := h.2 c4
    refine lv_aload_n hx hb dX3_readKeys_20 rfl (lv_at hl 0 rfl) ?_
    refine gC_3_3 C0 hR av0 tbs_wsX30 mC2_1_70 dX3_readKeys_21 ?_
    have w7 : a0 < 13 := by omega
    refine lv_iload_n hx hb dX3_readKeys_24 rfl (lv_at hl 2 rfl) ?_
    refine lv_aload_n hx hb dX3_readKeys_25 rfl (lv_at hl 1 rfl) ?_
    refine qC_Si (As := [.ref (b + adC 1 0)]) (rest := [.int a2, .ref (b + adC 7 a0)]) C0 (c_X3_readColumn l h) (va_cwS 1 C0.2.2.2.2 (tbS mC2_4_166 ⟨mC2_4_167, mC2_1_3, mC2_4_168⟩) rfl rfl rfl (by decide +kernel) ⟨Nat.le_of_ble_eq_true rfl, Nat.le_of_ble_eq_true rfl⟩) hR hT hS rfl hl.1 rfl (Nat.le_of_ble_eq_true rfl) dX3_readKeys_26 ⟨Nat.zero_le _, Nat.zero_le _⟩ (fun r8 S9 H locs h hR hS => ?_)
    obtain ⟨j10, hj10, ej10, h⟩ := h
    refine sC_7 C0 hR hS w7 hj10 ej10 dX3_readKeys_29 (fun S11 eS11 H locs hR hS => ?_)
    have h := h S11 eS11
    refine lv_aload_n hx hb dX3_readKeys_30 rfl (lv_at hl 0 rfl) ?_
    refine gC_3_4 C0 hR av0 tbs_wsX30 mC2_1_71 dX3_readKeys_31 ?_
    have w12 : a0 < 13 := by omega
    refine lv_iload_n hx hb dX3_readKeys_34 rfl (lv_at hl 2 rfl) ?_
    refine lv_aload_n hx hb dX3_readKeys_35 rfl (lv_at hl 1 rfl) ?_
    refine va_ldcS hx hb C0.2.2.2.1 (tr_31 hT) dX3_readKeys_36 ?_
    refine qC_Vi (As := [.ref (tx.2.1 28)]) (rest := [.int a2, .ref (b + adC 8 a0)]) C0 (c_X8_takeWord l (by decide) h) (cwV 1 C0.2.2.2.2 (tbV mC2_4_161 ⟨mC2_3_142, mC2_3_143, mC2_1_2, mC2_3_144⟩) rfl rfl rfl (by decide +kernel) ⟨Nat.le_of_ble_eq_true rfl, Nat.le_of_ble_eq_true rfl⟩) (rcC_1 hR Nat.zero_lt_one) hR hT hS rfl hl.1 rfl (Nat.le_of_ble_eq_true rfl) dX3_readKeys_38 ⟨Nat.zero_le _, Nat.zero_le _⟩ (fun r13 S14 H locs h hR hS => ?_)
    refine sC_8 C0 hR hS w12 hj10 ej10 dX3_readKeys_41 (fun S15 eS15 H locs hR hS => ?_)
    have h := h S15 eS15
    refine lv_aload_n hx hb dX3_readKeys_42 rfl (lv_at hl 0 rfl) ?_
    refine lv_iload_n hx hb dX3_readKeys_43 rfl (lv_at hl 2 rfl) ?_
    refine lv_iconst (v := 1) hx hb dX3_readKeys_44 (by decide) ?_
    refine lv_iadd hx hb dX3_readKeys_45 ?_
    refine pC_3_7 C0 hR hS av0 tbs_wsX30 mC2_1_76 dX3_readKeys_46 (fun S16 eS16 H locs hR hS => ?_)
    have h := h S16 eS16
    refine lv_aload_n hx hb dX3_readKeys_49 rfl (lv_at hl 1 rfl) ?_
    refine lv_bipush (v := 44) hx hb dX3_readKeys_50 (by decide) ?_
    refine qC_Vi (As := [.int 44]) (rest := []) C0 (c_X8_takeSign l h) (cwV 1 C0.2.2.2.2 (tbV mC2_4_181 ⟨mC2_4_37, mC2_4_38, mC2_1_2, mC2_4_39⟩) rfl rfl rfl (by decide +kernel) ⟨Nat.le_of_ble_eq_true rfl, Nat.le_of_ble_eq_true rfl⟩) (rcC_1 hR Nat.zero_lt_one) hR hT hS rfl hl.1 rfl (Nat.le_of_ble_eq_true rfl) dX3_readKeys_52 ⟨Nat.zero_le _, Nat.zero_le _⟩ (fun r17 S18 H locs h hR hS => ?_)
    refine lv_if_ne (tgt := 59) hx hb dX3_readKeys_55 (by decide) (fun c19 => ?_) (fun c19 => ?_)
    · have h := h.1 c19
      obtain ⟨x20, ex20⟩ : ∃ x20 : Int32, x20 = a2 + 1 := ⟨_, rfl⟩
      have h := h x20 ex20
      refine w_iinc (v0 := 1) (lv' := [(2, .int x20), (0, .ref (b + adC 3 a0)), (1, .ref (b + adC 1 0))]) C0 dX3_readKeys_59 hl (k := 2) rfl (by decide) (by decide) x20 ex20 rfl (fun ls hl => ?_)
      refine lv_goto (tgt := 15) hx hb dX3_readKeys_62 (by decide) ?_
      exact ih15 a0 x20 S18 _ _ _ av0 h hR hS (lv_sub hl [1, 2, 0] rfl)
    · have h := h.2 c19
      exact rtC_v C0 hr hlk hR hS h dX3_readKeys_58
def B_X3_readKeys_15 (n9 : Nat) (a0 : Nat) (a2 : Int32) (S : sSt) (k : sSt → Prop) : Prop := (Nat.rec (motive := fun _ => Nat → Int32 → sSt → Prop) (fun _ _ _ => False) (fun _ r9 => fun a0 a2 S => Bb_X3_readKeys_15 r9 a0 a2 S k) n9 : Nat → Int32 → sSt → Prop) a0 a2 S
theorem B_X3_readKeys_15_s (n9 : Nat) (a0 : Nat) (a2 : Int32) (S : sSt) (k : sSt → Prop) : B_X3_readKeys_15 (n9 + 1) a0 a2 S k = Bb_X3_readKeys_15 (fun a0 a2 S => B_X3_readKeys_15 n9 a0 a2 S k) a0 a2 S k := rfl
set_option maxHeartbeats 4000000 in
set_option maxRecDepth 100000 in
theorem Bw_X3_readKeys_15 {p : Program} {l : Launch} {e : Env} {s : State} {m : MethodId} {args : Array Value} {below : List Frame} {meth : Method} {c : Code} {D : va_G} {cy : Nat → ClassId} {b z : Nat} {tx : TX} (C0 : CallFix p m c cX3_readKeys 3 s args TB RX3) (hr : meth.sig.returnType = none) (hlk : meth.locks = false) (hT : TxR tx s) {k : sSt → Prop} : ∀ (n9 : Nat), ∀ (a0 : Nat) (a2 : Int32) (S : sSt) (H : Heap) (locs : List Loc) (ls : Array Slot) (av0 : a0 < 13), B_X3_readKeys_15 n9 a0 a2 S k → RelC D cy b z tx S s H → va_S (gA b 709 z) s.heap H locs → lv_has ls 3 [(0, .ref (b + adC 3 a0)), (1, .ref (b + adC 1 0)), (2, .int a2)] → W p l e rm_X3_readKeys s m args below meth c H locs 0 0 (MQ below (PvC D cy b z tx k) args s 0 0 (gA b 709 z)) (F0 m 15 ls []) := by
  intro n9
  induction n9 with
  | zero => intro a0 a2 S H locs ls av0 h; exact h.elim
  | succ n9 ih =>
    intro a0 a2 S H locs ls av0 h hR hS hl
    exact Bbw_X3_readKeys_15 C0 hr hlk hT ih a0 a2 S H locs ls av0 h hR hS hl
def B_X3_readKeys_13 (a0 : Nat) (S : sSt) (k : sSt → Prop) : Prop := B_X3_readKeys_15 fuel a0 0 S k
set_option maxHeartbeats 4000000 in
set_option maxRecDepth 100000 in
theorem Bw_X3_readKeys_13 {p : Program} {l : Launch} {e : Env} {s : State} {m : MethodId} {args : Array Value} {below : List Frame} {meth : Method} {c : Code} {D : va_G} {cy : Nat → ClassId} {b z : Nat} {tx : TX} (C0 : CallFix p m c cX3_readKeys 3 s args TB RX3) (hr : meth.sig.returnType = none) (hlk : meth.locks = false) (hT : TxR tx s) {k : sSt → Prop} : ∀ (a0 : Nat) (S : sSt) (H : Heap) (locs : List Loc) (ls : Array Slot) (av0 : a0 < 13), B_X3_readKeys_13 a0 S k → RelC D cy b z tx S s H → va_S (gA b 709 z) s.heap H locs → lv_has ls 3 [(0, .ref (b + adC 3 a0)), (1, .ref (b + adC 1 0))] → W p l e rm_X3_readKeys s m args below meth c H locs 0 0 (MQ below (PvC D cy b z tx k) args s 0 0 (gA b 709 z)) (F0 m 13 ls []) := by
  intro a0 S H locs ls av0 h hR hS hl
  have hx := C0.1
  have hb := C0.2.1
  unfold B_X3_readKeys_13 at h
  refine lv_iconst (v := 0) hx hb dX3_readKeys_13 (by decide) ?_
  refine lv_istore_n (lv' := [(2, .int 0), (0, .ref (b + adC 3 a0)), (1, .ref (b + adC 1 0))]) hx hb dX3_readKeys_14 rfl hl (by decide) rfl (fun ls hl => ?_)
  exact Bw_X3_readKeys_15 C0 hr hlk hT fuel a0 0 S _ _ _ av0 h hR hS (lv_sub hl [1, 2, 0] rfl)
def F_X3_readKeys (a0 : Nat) (S : sSt) (k : sSt → Prop) : Prop := F_X8_takeWord 27 S (fun r1 S2 => ((¬ r1 = 0 → B_X3_readKeys_13 a0 S2 k) ∧ (r1 = 0 → F_X8_refuse S2 (fun S22 => B_X3_readKeys_13 a0 S22 k))))
set_option maxHeartbeats 4000000 in
set_option maxRecDepth 100000 in
theorem c_X3_readKeys (l : Launch) {D : va_G} {cy : Nat → ClassId} {b z : Nat} {tx : TX} {a0 : Nat} {S : sSt} {k : sSt → Prop} (av0 : a0 < 13) (h : F_X3_readKeys a0 S k) : Met l yX3_readKeys (Cond.code yX3_readKeys cX3_readKeys 3 none :: TB) rm_X3_readKeys (va_Pc [.ref (b + adC 3 a0), .ref (b + adC 1 0)] (fun U => RelC D cy b z tx S U U.heap ∧ TxR tx U)) (PvC D cy b z tx k) 0 0 (gA b 709 z) := by
  refine Met.ofW (cc := cX3_readKeys) (maxL := 3) (ret := none) (by decide) rfl ?_
  intro p e s m args below meth c s₁ B hml hv
  obtain ⟨rfl, hR, hT⟩ := hv
  have C0 : CallFix p m c cX3_readKeys 3 s _ TB RX3 := ⟨B.exec, B.bytes, hml, findClass_of_methodNamed B.named, fun w hw => atoms_spec B.pre w (List.mem_cons_of_mem _ hw)⟩
  have hr := B.returns
  have hlk := B.notSynchronized
  have hx := C0.1
  have hb := C0.2.1
  have hS : va_S (gA b 709 z) s.heap s.heap [] := va_S.rf
  have hl := lv_entry ([.ref (b + adC 3 a0), .ref (b + adC 1 0)]) (n := 3) (Nat.le_of_ble_eq_true rfl)
  rw [lg_entry_eq]
  generalize (lg_sl ([.ref (b + adC 3 a0), .ref (b + adC 1 0)]) ++ List.replicate (3 - (lg_sl ([.ref (b + adC 3 a0), .ref (b + adC 1 0)])).length) Slot.unset).toArray = ls at hl ⊢
  have hl : lv_has ls 3 [(0, .ref (b + adC 3 a0)), (1, .ref (b + adC 1 0))] := hl
  show W p l e rm_X3_readKeys s m _ below meth c s.heap [] 0 0 (MQ below (PvC D cy b z tx k) _ s 0 0 (gA b 709 z)) _
  unfold F_X3_readKeys at h
  refine lv_aload_n hx hb dX3_readKeys_0 rfl (lv_at hl 1 rfl) ?_
  refine va_ldcS hx hb C0.2.2.2.1 (tr_30 hT) dX3_readKeys_1 ?_
  refine qC_Vi (As := [.ref (tx.2.1 27)]) (rest := []) C0 (c_X8_takeWord l (by decide) h) (cwV 1 C0.2.2.2.2 (tbV mC2_4_161 ⟨mC2_3_142, mC2_3_143, mC2_1_2, mC2_3_144⟩) rfl rfl rfl (by decide +kernel) ⟨Nat.le_of_ble_eq_true rfl, Nat.le_of_ble_eq_true rfl⟩) (rcC_1 hR Nat.zero_lt_one) hR hT hS rfl hl.1 rfl (Nat.le_of_ble_eq_true rfl) dX3_readKeys_3 ⟨Nat.zero_le _, Nat.zero_le _⟩ (fun r1 S2 H locs h hR hS => ?_)
  refine lv_if_ne (tgt := 13) hx hb dX3_readKeys_6 (by decide) (fun c3 => ?_) (fun c3 => ?_)
  · have h := h.1 c3
    exact Bw_X3_readKeys_13 C0 hr hlk hT a0 S2 _ _ _ av0 h hR hS (lv_sub hl [0, 1] rfl)
  · have h := h.2 c3
    refine lv_aload_n hx hb dX3_readKeys_9 rfl (lv_at hl 1 rfl) ?_
    refine qC_Vv (As := []) (rest := []) C0 (c_X8_refuse l h) (cwV 0 C0.2.2.2.2 (tbV mC2_4_177 ⟨mC2_3_207, mC2_3_208, mC2_1_2, mC2_3_209⟩) rfl rfl rfl (by decide +kernel) ⟨Nat.le_of_ble_eq_true rfl, Nat.le_of_ble_eq_true rfl⟩) (rcC_1 hR Nat.zero_lt_one) hR hT hS rfl hl.1 rfl (Nat.le_of_ble_eq_true rfl) dX3_readKeys_10 ⟨Nat.zero_le _, Nat.zero_le _⟩ (fun S22 H locs h hR hS => ?_)
    exact Bw_X3_readKeys_13 C0 hr hlk hT a0 S22 _ _ _ av0 h hR hS (lv_sub hl [0, 1] rfl)

def rm_X3_readFrom : Room := { frames := 7, cells := 0, slots := 0, locals := 149 }
def B_X3_readFrom_49 (S : sSt) (k : Int32 → sSt → Prop) : Prop := F_X8_needEnd S (fun S15 => F_X8_isRight S15 (fun r16 S17 => bz r16 (k r16 S17)))
set_option maxHeartbeats 4000000 in
set_option maxRecDepth 100000 in
theorem Bw_X3_readFrom_49 {p : Program} {l : Launch} {e : Env} {s : State} {m : MethodId} {args : Array Value} {below : List Frame} {meth : Method} {c : Code} {D : va_G} {cy : Nat → ClassId} {b z : Nat} {tx : TX} (C0 : CallFix p m c cX3_readFrom 2 s args TB RX3) (hr : meth.sig.returnType = (some .boolean)) (hlk : meth.locks = false) (hT : TxR tx s) {k : Int32 → sSt → Prop} : ∀ (S : sSt) (H : Heap) (locs : List Loc) (ls : Array Slot) , B_X3_readFrom_49 S k → RelC D cy b z tx S s H → va_S (gA b 709 z) s.heap H locs → lv_has ls 2 [(1, .ref (b + adC 1 0))] → W p l e rm_X3_readFrom s m args below meth c H locs 0 0 (MQ below (PiC D cy b z tx k) args s 0 0 (gA b 709 z)) (F0 m 49 ls []) := by
  intro S H locs ls h hR hS hl
  have hx := C0.1
  have hb := C0.2.1
  unfold B_X3_readFrom_49 at h
  refine lv_aload_n hx hb dX3_readFrom_49 rfl (lv_at hl 0 rfl) ?_
  refine qC_Vv (As := []) (rest := []) C0 (c_X8_needEnd l h) (cwV 0 C0.2.2.2.2 (tbV mC2_4_191 ⟨mC2_4_41, mC2_4_42, mC2_1_2, mC2_4_43⟩) rfl rfl rfl (by decide +kernel) ⟨Nat.le_of_ble_eq_true rfl, Nat.le_of_ble_eq_true rfl⟩) (rcC_1 hR Nat.zero_lt_one) hR hT hS rfl hl.1 rfl (Nat.le_of_ble_eq_true rfl) dX3_readFrom_50 ⟨Nat.zero_le _, Nat.zero_le _⟩ (fun S15 H locs h hR hS => ?_)
  refine lv_aload_n hx hb dX3_readFrom_53 rfl (lv_at hl 0 rfl) ?_
  refine qC_Vi (As := []) (rest := []) C0 (c_X8_isRight l h) (cwV 0 C0.2.2.2.2 (tbV mC2_4_192 ⟨mC2_3_219, mC2_3_220, mC2_1_2, mC2_3_221⟩) rfl rfl rfl (by decide +kernel) ⟨Nat.le_of_ble_eq_true rfl, Nat.le_of_ble_eq_true rfl⟩) (rcC_1 hR Nat.zero_lt_one) hR hT hS rfl hl.1 rfl (Nat.le_of_ble_eq_true rfl) dX3_readFrom_54 ⟨Nat.zero_le _, Nat.zero_le _⟩ (fun r16 S17 H locs h hR hS => ?_)
  exact rtC_z C0 hr hlk hR hS h.1 h.2 dX3_readFrom_57
def B_X3_readFrom_35 (a0 : Nat) (S : sSt) (k : Int32 → sSt → Prop) : Prop := F_X8_takeWord 26 S (fun r11 S12 => ((r11 = 0 → B_X3_readFrom_49 S12 k) ∧ (¬ r11 = 0 → F_X3_readKeys a0 S12 (fun S19 => B_X3_readFrom_49 S19 k))))
set_option maxHeartbeats 4000000 in
set_option maxRecDepth 100000 in
theorem Bw_X3_readFrom_35 {p : Program} {l : Launch} {e : Env} {s : State} {m : MethodId} {args : Array Value} {below : List Frame} {meth : Method} {c : Code} {D : va_G} {cy : Nat → ClassId} {b z : Nat} {tx : TX} (C0 : CallFix p m c cX3_readFrom 2 s args TB RX3) (hr : meth.sig.returnType = (some .boolean)) (hlk : meth.locks = false) (hT : TxR tx s) {k : Int32 → sSt → Prop} : ∀ (a0 : Nat) (S : sSt) (H : Heap) (locs : List Loc) (ls : Array Slot) (av0 : a0 < 13), B_X3_readFrom_35 a0 S k → RelC D cy b z tx S s H → va_S (gA b 709 z) s.heap H locs → lv_has ls 2 [(0, .ref (b + adC 3 a0)), (1, .ref (b + adC 1 0))] → W p l e rm_X3_readFrom s m args below meth c H locs 0 0 (MQ below (PiC D cy b z tx k) args s 0 0 (gA b 709 z)) (F0 m 35 ls []) := by
  intro a0 S H locs ls av0 h hR hS hl
  have hx := C0.1
  have hb := C0.2.1
  unfold B_X3_readFrom_35 at h
  refine lv_aload_n hx hb dX3_readFrom_35 rfl (lv_at hl 1 rfl) ?_
  refine va_ldcS hx hb C0.2.2.2.1 (tr_29 hT) dX3_readFrom_36 ?_
  refine qC_Vi (As := [.ref (tx.2.1 26)]) (rest := []) C0 (c_X8_takeWord l (by decide) h) (cwV 1 C0.2.2.2.2 (tbV mC2_4_161 ⟨mC2_3_142, mC2_3_143, mC2_1_2, mC2_3_144⟩) rfl rfl rfl (by decide +kernel) ⟨Nat.le_of_ble_eq_true rfl, Nat.le_of_ble_eq_true rfl⟩) (rcC_1 hR Nat.zero_lt_one) hR hT hS rfl hl.1 rfl (Nat.le_of_ble_eq_true rfl) dX3_readFrom_38 ⟨Nat.zero_le _, Nat.zero_le _⟩ (fun r11 S12 H locs h hR hS => ?_)
  refine lv_if_eq (tgt := 49) hx hb dX3_readFrom_41 (by decide) (fun c13 => ?_) (fun c13 => ?_)
  · have h := h.1 c13
    exact Bw_X3_readFrom_49 C0 hr hlk hT S12 _ _ _ h hR hS (lv_sub hl [1] rfl)
  · have h := h.2 c13
    refine lv_aload_n hx hb dX3_readFrom_44 rfl (lv_at hl 0 rfl) ?_
    refine lv_aload_n hx hb dX3_readFrom_45 rfl (lv_at hl 1 rfl) ?_
    refine qC_Vv (As := [.ref (b + adC 1 0)]) (rest := []) C0 (c_X3_readKeys l av0 h) (cwV 1 C0.2.2.2.2 (tbV mC2_4_185 ⟨mC2_4_187, mpC2_1_7, mC2_1_3, mC2_4_188⟩) rfl rfl rfl (by decide +kernel) ⟨Nat.le_of_ble_eq_true rfl, Nat.le_of_ble_eq_true rfl⟩) (rcC_3 hR av0) hR hT hS rfl hl.1 rfl (Nat.le_of_ble_eq_true rfl) dX3_readFrom_46 ⟨Nat.zero_le _, Nat.zero_le _⟩ (fun S19 H locs h hR hS => ?_)
    exact Bw_X3_readFrom_49 C0 hr hlk hT S19 _ _ _ h hR hS (lv_sub hl [1] rfl)
def F_X3_readFrom (a0 : Nat) (S : sSt) (k : Int32 → sSt → Prop) : Prop := F_X3_clear a0 S (fun S2 => F_X8_startReading S2 (fun S4 => F_X8_numberBehind 18 1 6 S4 (fun r5 S6 => ∀ S7, S7 = uI S6 3 a0 5 r5 → F_X8_takeWord 19 S7 (fun r8 S9 => ((r8 = 0 → B_X3_readFrom_35 a0 S9 k) ∧ (¬ r8 = 0 → F_X3_readTerms a0 S9 (fun S21 => B_X3_readFrom_35 a0 S21 k)))))))
set_option maxHeartbeats 4000000 in
set_option maxRecDepth 100000 in
theorem c_X3_readFrom (l : Launch) {D : va_G} {cy : Nat → ClassId} {b z : Nat} {tx : TX} {a0 : Nat} {S : sSt} {k : Int32 → sSt → Prop} (av0 : a0 < 13) (h : F_X3_readFrom a0 S k) : Met l yX3_readFrom (Cond.code yX3_readFrom cX3_readFrom 2 (some .boolean) :: TB) rm_X3_readFrom (va_Pc [.ref (b + adC 3 a0), .ref (b + adC 1 0)] (fun U => RelC D cy b z tx S U U.heap ∧ TxR tx U)) (PiC D cy b z tx k) 0 0 (gA b 709 z) := by
  refine Met.ofW (cc := cX3_readFrom) (maxL := 2) (ret := (some .boolean)) (by decide) rfl ?_
  intro p e s m args below meth c s₁ B hml hv
  obtain ⟨rfl, hR, hT⟩ := hv
  have C0 : CallFix p m c cX3_readFrom 2 s _ TB RX3 := ⟨B.exec, B.bytes, hml, findClass_of_methodNamed B.named, fun w hw => atoms_spec B.pre w (List.mem_cons_of_mem _ hw)⟩
  have hr := B.returns
  have hlk := B.notSynchronized
  have hx := C0.1
  have hb := C0.2.1
  have hS : va_S (gA b 709 z) s.heap s.heap [] := va_S.rf
  have hl := lv_entry ([.ref (b + adC 3 a0), .ref (b + adC 1 0)]) (n := 2) (Nat.le_of_ble_eq_true rfl)
  rw [lg_entry_eq]
  generalize (lg_sl ([.ref (b + adC 3 a0), .ref (b + adC 1 0)]) ++ List.replicate (2 - (lg_sl ([.ref (b + adC 3 a0), .ref (b + adC 1 0)])).length) Slot.unset).toArray = ls at hl ⊢
  have hl : lv_has ls 2 [(0, .ref (b + adC 3 a0)), (1, .ref (b + adC 1 0))] := hl
  show W p l e rm_X3_readFrom s m _ below meth c s.heap [] 0 0 (MQ below (PiC D cy b z tx k) _ s 0 0 (gA b 709 z)) _
  unfold F_X3_readFrom at h
  refine lv_aload_n hx hb dX3_readFrom_0 rfl (lv_at hl 0 rfl) ?_
  refine qC_Vv (As := []) (rest := []) C0 (c_X3_clear l av0 h) (cwV 0 C0.2.2.2.2 (tbV mC2_4_156 ⟨mC2_4_5, mC2_4_6, mC2_1_3, mC2_4_7⟩) rfl rfl rfl (by decide +kernel) ⟨Nat.le_of_ble_eq_true rfl, Nat.le_of_ble_eq_true rfl⟩) (rcC_3 hR av0) hR hT hS rfl hl.1 rfl (Nat.le_of_ble_eq_true rfl) dX3_readFrom_1 ⟨Nat.zero_le _, Nat.zero_le _⟩ (fun S2 H locs h hR hS => ?_)
  refine lv_aload_n hx hb dX3_readFrom_4 rfl (lv_at hl 1 rfl) ?_
  refine qC_Vv (As := []) (rest := []) C0 (c_X8_startReading l h) (cwV 0 C0.2.2.2.2 (tbV mC2_4_157 ⟨mC2_3_126, mC2_3_127, mC2_1_2, mC2_3_128⟩) rfl rfl rfl (by decide +kernel) ⟨Nat.le_of_ble_eq_true rfl, Nat.le_of_ble_eq_true rfl⟩) (rcC_1 hR Nat.zero_lt_one) hR hT hS rfl hl.1 rfl (Nat.le_of_ble_eq_true rfl) dX3_readFrom_5 ⟨Nat.zero_le _, Nat.zero_le _⟩ (fun S4 H locs h hR hS => ?_)
  refine lv_aload_n hx hb dX3_readFrom_8 rfl (lv_at hl 0 rfl) ?_
  refine lv_aload_n hx hb dX3_readFrom_9 rfl (lv_at hl 1 rfl) ?_
  refine va_ldcS hx hb C0.2.2.2.1 (tr_18 hT) dX3_readFrom_10 ?_
  refine lv_iconst (v := 1) hx hb dX3_readFrom_12 (by decide) ?_
  refine lv_bipush (v := 6) hx hb dX3_readFrom_13 (by decide) ?_
  refine qC_Vi (As := [.ref (tx.2.1 18), .int 1, .int 6]) (rest := [.ref (b + adC 3 a0)]) C0 (c_X8_numberBehind l (by decide) h) (cwV 3 C0.2.2.2.2 (tbV mC2_4_159 ⟨mC2_3_202, mC2_3_203, mC2_1_2, mC2_3_204⟩) rfl rfl rfl (by decide +kernel) ⟨Nat.le_of_ble_eq_true rfl, Nat.le_of_ble_eq_true rfl⟩) (rcC_1 hR Nat.zero_lt_one) hR hT hS rfl hl.1 rfl (Nat.le_of_ble_eq_true rfl) dX3_readFrom_15 ⟨Nat.zero_le _, Nat.zero_le _⟩ (fun r5 S6 H locs h hR hS => ?_)
  refine pC_3_5 C0 hR hS av0 tbs_wsX30 mC2_1_72 dX3_readFrom_18 (fun S7 eS7 H locs hR hS => ?_)
  have h := h S7 eS7
  refine lv_aload_n hx hb dX3_readFrom_21 rfl (lv_at hl 1 rfl) ?_
  refine va_ldcS hx hb C0.2.2.2.1 (tr_19 hT) dX3_readFrom_22 ?_
  refine qC_Vi (As := [.ref (tx.2.1 19)]) (rest := []) C0 (c_X8_takeWord l (by decide) h) (cwV 1 C0.2.2.2.2 (tbV mC2_4_161 ⟨mC2_3_142, mC2_3_143, mC2_1_2, mC2_3_144⟩) rfl rfl rfl (by decide +kernel) ⟨Nat.le_of_ble_eq_true rfl, Nat.le_of_ble_eq_true rfl⟩) (rcC_1 hR Nat.zero_lt_one) hR hT hS rfl hl.1 rfl (Nat.le_of_ble_eq_true rfl) dX3_readFrom_24 ⟨Nat.zero_le _, Nat.zero_le _⟩ (fun r8 S9 H locs h hR hS => ?_)
  refine lv_if_eq (tgt := 35) hx hb dX3_readFrom_27 (by decide) (fun c10 => ?_) (fun c10 => ?_)
  · have h := h.1 c10
    exact Bw_X3_readFrom_35 C0 hr hlk hT a0 S9 _ _ _ av0 h hR hS (lv_sub hl [0, 1] rfl)
  · have h := h.2 c10
    refine lv_aload_n hx hb dX3_readFrom_30 rfl (lv_at hl 0 rfl) ?_
    refine lv_aload_n hx hb dX3_readFrom_31 rfl (lv_at hl 1 rfl) ?_
    refine qC_Vv (As := [.ref (b + adC 1 0)]) (rest := []) C0 (c_X3_readTerms l av0 h) (cwV 1 C0.2.2.2.2 (tbV mC2_4_162 ⟨mC2_4_164, mpC2_1_6, mC2_1_3, mC2_4_165⟩) rfl rfl rfl (by decide +kernel) ⟨Nat.le_of_ble_eq_true rfl, Nat.le_of_ble_eq_true rfl⟩) (rcC_3 hR av0) hR hT hS rfl hl.1 rfl (Nat.le_of_ble_eq_true rfl) dX3_readFrom_32 ⟨Nat.zero_le _, Nat.zero_le _⟩ (fun S21 H locs h hR hS => ?_)
    exact Bw_X3_readFrom_35 C0 hr hlk hT a0 S21 _ _ _ av0 h hR hS (lv_sub hl [0, 1] rfl)

def rm_X11_query : Room := { frames := 8, cells := 2, slots := 12, locals := 170 }
def F_X11_query (a1 : Int32) (S : sSt) (k : Int32 → sSt → Prop) (kx : String → sSt → Prop) : Prop := F_X8_useUp S (fun S2 => F_X11_needSession a1 S2 (fun S4 => F_X3_readFrom 0 S4 (fun r5 S6 => ((¬ r5 = 0 → ix a1 4 (fun j10 => F_X3_copyFrom ((4 * (S6.2 0 0 4) + j10) + 1) 0 S6 (fun S14 => k (S14.1 3 0 5) S14))) ∧ (r5 = 0 → kx "java/lang/IllegalArgumentException" S6)))) kx)
set_option maxHeartbeats 4000000 in
set_option maxRecDepth 100000 in
theorem c_X11_query (l : Launch) (hl0 : l.stackTraces = false) {D : va_G} {cy : Nat → ClassId} {b z : Nat} {tx : TX} {a1 : Int32} {S : sSt} {k : Int32 → sSt → Prop} {kx : String → sSt → Prop} (h : F_X11_query a1 S k kx) : vx_Met l yX11_query (Cond.code yX11_query cX11_query 2 (some .int) :: TB) rm_X11_query (va_Pc [.ref (b + adC 0 0), .int a1] (fun U => RelC D cy b z tx S U U.heap ∧ TxR tx U)) (PiC D cy b z tx k) (XeC D cy b z tx kx) 2 12 (gA b 709 z) := by
  refine vx_ofW (cc := cX11_query) (maxL := 2) (ret := (some .int)) (by decide) rfl ?_
  intro p e s m args below meth c s₁ B hml hexc hv
  obtain ⟨rfl, hR, hT⟩ := hv
  have hX0 := hR.2.2
  have C0 : CallFix p m c cX11_query 2 s _ TB RX11 := ⟨B.exec, B.bytes, hml, findClass_of_methodNamed B.named, fun w hw => atoms_spec B.pre w (List.mem_cons_of_mem _ hw)⟩
  have hr := B.returns
  have hlk := B.notSynchronized
  have hx := C0.1
  have hb := C0.2.1
  have hS : va_S (gA b 709 z) s.heap s.heap [] := va_S.rf
  have hl := lv_entry ([.ref (b + adC 0 0), .int a1]) (n := 2) (Nat.le_of_ble_eq_true rfl)
  rw [lg_entry_eq]
  generalize (lg_sl ([.ref (b + adC 0 0), .int a1]) ++ List.replicate (2 - (lg_sl ([.ref (b + adC 0 0), .int a1])).length) Slot.unset).toArray = ls at hl ⊢
  have hl : lv_has ls 2 [(0, .ref (b + adC 0 0)), (1, .int a1)] := hl
  show W p l e rm_X11_query s m _ below meth c s.heap [] 0 0 (vx_MQ below (PiC D cy b z tx k) (XeC D cy b z tx kx) _ s 2 12 (gA b 709 z)) _
  unfold F_X11_query at h
  refine lv_aload_n hx hb dX11_query_0 rfl (lv_at hl 0 rfl) ?_
  refine gC_0_0 C0 hR Nat.zero_lt_one tbs_wsX110 mC2_2_209 dX11_query_1 ?_
  refine qC_Vv (As := []) (rest := []) C0 (c_X8_useUp l h) (cwV 0 C0.2.2.2.2 (tbV mC2_3_118 ⟨mC2_3_119, mC2_3_120, mC2_1_2, mC2_3_121⟩) rfl rfl rfl (by decide +kernel) ⟨Nat.le_of_ble_eq_true rfl, Nat.le_of_ble_eq_true rfl⟩) (rcC_1 hR Nat.zero_lt_one) hR hT hS rfl hl.1 rfl (Nat.le_of_ble_eq_true rfl) dX11_query_4 ⟨Nat.le_of_ble_eq_true rfl, Nat.le_of_ble_eq_true rfl⟩ (fun S2 H locs h hR hS => ?_)
  refine lv_aload_n hx hb dX11_query_7 rfl (lv_at hl 0 rfl) ?_
  refine lv_iload_n hx hb dX11_query_8 rfl (lv_at hl 1 rfl) ?_
  refine qx_Vv (As := [.int a1]) (rest := []) C0 hlk hexc (c_X11_needSession l hl0 h) (cwV 1 C0.2.2.2.2 (tbV mC2_4_133 ⟨mC2_4_135, mpC2_1_5, mC2_1_1, mC2_4_136⟩) rfl rfl rfl (by decide +kernel) ⟨Nat.le_of_ble_eq_true rfl, Nat.le_of_ble_eq_true rfl⟩) (rcC_0 hR Nat.zero_lt_one) hR hT hS rfl hl.1 rfl (Nat.le_of_ble_eq_true rfl) dX11_query_9 ⟨Nat.le_of_ble_eq_true rfl, Nat.le_of_ble_eq_true rfl⟩ ⟨Nat.le_of_ble_eq_true rfl, Nat.le_of_ble_eq_true rfl⟩ (fun S4 H locs h hR hS => ?_)
  refine lv_aload_n hx hb dX11_query_12 rfl (lv_at hl 0 rfl) ?_
  refine gC_0_1 C0 hR Nat.zero_lt_one tbs_wsX110 mC2_2_210 dX11_query_13 ?_
  refine lv_aload_n hx hb dX11_query_16 rfl (lv_at hl 0 rfl) ?_
  refine gC_0_0 C0 hR Nat.zero_lt_one tbs_wsX110 mC2_2_209 dX11_query_17 ?_
  refine qC_Vi (As := [.ref (b + adC 1 0)]) (rest := []) C0 (c_X3_readFrom l (by decide) h) (cwV 1 C0.2.2.2.2 (tbV mC2_4_152 ⟨mC2_4_153, mC2_4_154, mC2_1_3, mC2_4_155⟩) rfl rfl rfl (by decide +kernel) ⟨Nat.le_of_ble_eq_true rfl, Nat.le_of_ble_eq_true rfl⟩) (rcC_3 hR (by decide)) hR hT hS rfl hl.1 rfl (Nat.le_of_ble_eq_true rfl) dX11_query_20 ⟨Nat.le_of_ble_eq_true rfl, Nat.le_of_ble_eq_true rfl⟩ (fun r5 S6 H locs h hR hS => ?_)
  refine lv_if_ne (tgt := 34) hx hb dX11_query_23 (by decide) (fun c7 => ?_) (fun c7 => ?_)
  · have h := h.1 c7
    refine lv_aload_n hx hb dX11_query_34 rfl (lv_at hl 0 rfl) ?_
    refine gC_0_4 C0 hR Nat.zero_lt_one tbs_wsX110 mC2_2_213 dX11_query_35 ?_
    have w8 : (S6.2 0 0 4) < 3 := hR.2.1.2.1
    refine gCn_13_1 C0 hR w8 tbs_wsX60 mC2_2_131 hT dX11_query_38 ?_
    have w9 : (S6.2 0 0 4) < 3 := by omega
    refine lv_iload_n hx hb dX11_query_41 rfl (lv_at hl 1 rfl) ?_
    obtain ⟨j10, hj10, ej10, h⟩ := h
    refine lC_15 C0 hR w9 hj10 ej10 dX11_query_42 ?_
    have w11 : (4 * (S6.2 0 0 4) + j10) < 12 := by omega
    refine gCn_24_0 C0 hR w11 tbs_wsX50 mC2_2_54 hT dX11_query_43 ?_
    have w12 : ((4 * (S6.2 0 0 4) + j10) + 1) < 13 := by omega
    refine lv_aload_n hx hb dX11_query_46 rfl (lv_at hl 0 rfl) ?_
    refine gC_0_1 C0 hR Nat.zero_lt_one tbs_wsX110 mC2_2_210 dX11_query_47 ?_
    refine qC_Vv (As := [.ref (b + adC 3 0)]) (rest := []) C0 (c_X3_copyFrom l w12 (by decide) h) (cwV 1 C0.2.2.2.2 (tbV mC2_4_193 ⟨mC2_3_74, mC2_3_75, mC2_1_3, mC2_3_76⟩) rfl rfl rfl (by decide +kernel) ⟨Nat.le_of_ble_eq_true rfl, Nat.le_of_ble_eq_true rfl⟩) (rcC_3 hR w12) hR hT hS rfl hl.1 rfl (Nat.le_of_ble_eq_true rfl) dX11_query_50 ⟨Nat.le_of_ble_eq_true rfl, Nat.le_of_ble_eq_true rfl⟩ (fun S14 H locs h hR hS => ?_)
    refine lv_aload_n hx hb dX11_query_53 rfl (lv_at hl 0 rfl) ?_
    refine gC_0_1 C0 hR Nat.zero_lt_one tbs_wsX110 mC2_2_210 dX11_query_54 ?_
    refine gCn_3_5 C0 hR (by decide) tbs_wsX30 mC2_1_73 hT dX11_query_57 ?_
    refine vx_ret (W.widen (k := 2) (n := 12) (Nat.le_of_ble_eq_true rfl) (Nat.le_of_ble_eq_true rfl) ?_); exact rtC_i C0 hr hlk hR hS h dX11_query_60
  · have h := h.2 c7
    exact w_throw_0 C0 hl0 hX0 hT hR hS hl.1 hexc hlk h mC2_4_45 mC2_1_21 dX11_query_26 dX11_query_29 dX11_query_30 dX11_query_33 (Nat.le_of_ble_eq_true rfl) (Nat.le_of_ble_eq_true rfl) (Nat.le_of_ble_eq_true rfl) (Nat.le_of_ble_eq_true rfl) (Nat.le_of_ble_eq_true rfl) (Nat.le_of_ble_eq_true rfl)

def rm_X11_fault : Room := { frames := 0, cells := 0, slots := 0, locals := 0 }
def F_X11_fault (S : sSt) (k : Int32 → sSt → Prop) : Prop := k (S.1 1 0 4) S
set_option maxHeartbeats 4000000 in
set_option maxRecDepth 100000 in
theorem c_X11_fault (l : Launch) {D : va_G} {cy : Nat → ClassId} {b z : Nat} {tx : TX} {S : sSt} {k : Int32 → sSt → Prop} (h : F_X11_fault S k) : Met l yX11_fault (Cond.code yX11_fault cX11_fault 1 (some .int) :: TB) rm_X11_fault (va_Pc [.ref (b + adC 0 0)] (fun U => RelC D cy b z tx S U U.heap ∧ TxR tx U)) (PiC D cy b z tx k) 0 0 (gA b 709 z) := by
  refine Met.ofW (cc := cX11_fault) (maxL := 1) (ret := (some .int)) (by decide) rfl ?_
  intro p e s m args below meth c s₁ B hml hv
  obtain ⟨rfl, hR, hT⟩ := hv
  have C0 : CallFix p m c cX11_fault 1 s _ TB RX11 := ⟨B.exec, B.bytes, hml, findClass_of_methodNamed B.named, fun w hw => atoms_spec B.pre w (List.mem_cons_of_mem _ hw)⟩
  have hr := B.returns
  have hlk := B.notSynchronized
  have hx := C0.1
  have hb := C0.2.1
  have hS : va_S (gA b 709 z) s.heap s.heap [] := va_S.rf
  have hl := lv_entry ([.ref (b + adC 0 0)]) (n := 1) (Nat.le_of_ble_eq_true rfl)
  rw [lg_entry_eq]
  generalize (lg_sl ([.ref (b + adC 0 0)]) ++ List.replicate (1 - (lg_sl ([.ref (b + adC 0 0)])).length) Slot.unset).toArray = ls at hl ⊢
  have hl : lv_has ls 1 [(0, .ref (b + adC 0 0))] := hl
  show W p l e rm_X11_fault s m _ below meth c s.heap [] 0 0 (MQ below (PiC D cy b z tx k) _ s 0 0 (gA b 709 z)) _
  unfold F_X11_fault at h
  refine lv_aload_n hx hb dX11_fault_0 rfl (lv_at hl 0 rfl) ?_
  refine gC_0_0 C0 hR Nat.zero_lt_one tbs_wsX110 mC2_2_209 dX11_fault_1 ?_
  refine gCn_1_4 C0 hR Nat.zero_lt_one tbs_wsX80 mC2_1_48 hT dX11_fault_4 ?_
  exact rtC_i C0 hr hlk hR hS h dX11_fault_7

def rm_X11_why : Room := { frames := 0, cells := 0, slots := 0, locals := 0 }
def F_X11_why (S : sSt) (k : Int32 → sSt → Prop) : Prop := k (S.1 0 0 7) S
set_option maxHeartbeats 4000000 in
set_option maxRecDepth 100000 in
theorem c_X11_why (l : Launch) {D : va_G} {cy : Nat → ClassId} {b z : Nat} {tx : TX} {S : sSt} {k : Int32 → sSt → Prop} (h : F_X11_why S k) : Met l yX11_why (Cond.code yX11_why cX11_why 1 (some .int) :: TB) rm_X11_why (va_Pc [.ref (b + adC 0 0)] (fun U => RelC D cy b z tx S U U.heap ∧ TxR tx U)) (PiC D cy b z tx k) 0 0 (gA b 709 z) := by
  refine Met.ofW (cc := cX11_why) (maxL := 1) (ret := (some .int)) (by decide) rfl ?_
  intro p e s m args below meth c s₁ B hml hv
  obtain ⟨rfl, hR, hT⟩ := hv
  have C0 : CallFix p m c cX11_why 1 s _ TB RX11 := ⟨B.exec, B.bytes, hml, findClass_of_methodNamed B.named, fun w hw => atoms_spec B.pre w (List.mem_cons_of_mem _ hw)⟩
  have hr := B.returns
  have hlk := B.notSynchronized
  have hx := C0.1
  have hb := C0.2.1
  have hS : va_S (gA b 709 z) s.heap s.heap [] := va_S.rf
  have hl := lv_entry ([.ref (b + adC 0 0)]) (n := 1) (Nat.le_of_ble_eq_true rfl)
  rw [lg_entry_eq]
  generalize (lg_sl ([.ref (b + adC 0 0)]) ++ List.replicate (1 - (lg_sl ([.ref (b + adC 0 0)])).length) Slot.unset).toArray = ls at hl ⊢
  have hl : lv_has ls 1 [(0, .ref (b + adC 0 0))] := hl
  show W p l e rm_X11_why s m _ below meth c s.heap [] 0 0 (MQ below (PiC D cy b z tx k) _ s 0 0 (gA b 709 z)) _
  unfold F_X11_why at h
  refine lv_aload_n hx hb dX11_why_0 rfl (lv_at hl 0 rfl) ?_
  refine gC_0_7 C0 hR Nat.zero_lt_one tbs_wsX110 mC2_2_216 dX11_why_1 ?_
  exact rtC_i C0 hr hlk hR hS h dX11_why_4
