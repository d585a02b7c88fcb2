theorem mC0_1_43 : Cond.fieldLink RX8 19 "ClaimTable$Tape" "length" "I" ∈ TB := tbT_1 _ (List.mem_of_getElem? (i := 43) rfl) rfl
theorem mC0_1_42 : Cond.fieldLink RX8 11 "ClaimTable$Tape" "bytes" "[B" ∈ TB := tbT_1 _ (List.mem_of_getElem? (i := 42) rfl) rfl
theorem mC0_2_209 : Cond.fieldLink RX11 10 "ClaimTable" "tape" "LClaimTable$Tape;" ∈ TB := tbT_2 _ (List.mem_of_getElem? (i := 209) rfl) rfl
theorem mC0_2_238 : Cond.methodLink RX11 43 yX8_hasRoom ∈ TB := tbT_2 _ (List.mem_of_getElem? (i := 238) rfl) rfl
theorem mC0_3_1 : Cond.code yX8_hasRoom cX8_hasRoom 1 (some .boolean) ∈ TB := tbT_3 _ (List.mem_of_getElem? (i := 1) rfl) rfl
theorem mC0_2_239 : Cond.instanceMethod yX8_hasRoom ∈ TB := tbT_2 _ (List.mem_of_getElem? (i := 239) rfl) rfl
theorem mC0_3_0 : Cond.selects RX8 yX8_hasRoom yX8_hasRoom ∈ TB := tbT_3 _ (List.mem_of_getElem? (i := 0) rfl) rfl
theorem mC0_1_2 : Cond.initialized RX8 ∈ TB := tbT_1 _ (List.mem_of_getElem? (i := 2) rfl) rfl
theorem mC0_3_2 : Cond.methodLink RX11 47 yX8_append ∈ TB := tbT_3 _ (List.mem_of_getElem? (i := 2) rfl) rfl
theorem mC0_3_5 : Cond.code yX8_append cX8_append 3 none ∈ TB := tbT_3 _ (List.mem_of_getElem? (i := 5) rfl) rfl
theorem mC0_3_3 : Cond.instanceMethod yX8_append ∈ TB := tbT_3 _ (List.mem_of_getElem? (i := 3) rfl) rfl
theorem mC0_3_4 : Cond.selects RX8 yX8_append yX8_append ∈ TB := tbT_3 _ (List.mem_of_getElem? (i := 4) rfl) rfl
theorem mC0_1_44 : Cond.fieldLinkNest RX11 51 "ClaimTable$Tape" "length" "I" "ClaimTable" ∈ NB := nbT_1 _ (List.mem_of_getElem? (i := 44) rfl) rfl
theorem mC0_1_45 : Cond.fieldLink RX8 22 "ClaimTable$Tape" "textLength" "I" ∈ TB := tbT_1 _ (List.mem_of_getElem? (i := 45) rfl) rfl
theorem mC0_1_157 : Cond.fieldLink RX9 11 "ClaimTable$Version" "state" "I" ∈ TB := tbT_1 _ (List.mem_of_getElem? (i := 157) rfl) rfl
theorem mC0_1_163 : Cond.fieldLink RX9 15 "ClaimTable$Version" "due" "I" ∈ TB := tbT_1 _ (List.mem_of_getElem? (i := 163) rfl) rfl
theorem mC0_1_170 : Cond.fieldLink RX9 18 "ClaimTable$Version" "tries" "I" ∈ TB := tbT_1 _ (List.mem_of_getElem? (i := 170) rfl) rfl
theorem mC0_1_174 : Cond.fieldLink RX9 21 "ClaimTable$Version" "causeCount" "I" ∈ TB := tbT_1 _ (List.mem_of_getElem? (i := 174) rfl) rfl
theorem mC0_1_177 : Cond.fieldLink RX9 24 "ClaimTable$Version" "causeBits" "I" ∈ TB := tbT_1 _ (List.mem_of_getElem? (i := 177) rfl) rfl
theorem mC0_1_178 : Cond.fieldLink RX9 27 "ClaimTable$Version" "token" "I" ∈ TB := tbT_1 _ (List.mem_of_getElem? (i := 178) rfl) rfl
theorem mC0_1_182 : Cond.fieldLink RX9 30 "ClaimTable$Version" "holder" "I" ∈ TB := tbT_1 _ (List.mem_of_getElem? (i := 182) rfl) rfl
theorem mC0_1_187 : Cond.fieldLink RX9 33 "ClaimTable$Version" "until" "I" ∈ TB := tbT_1 _ (List.mem_of_getElem? (i := 187) rfl) rfl
theorem mC0_1_218 : Cond.fieldLink RX1 21 "ClaimTable$Job" "saved" "[LClaimTable$Version;" ∈ TB := tbT_1 _ (List.mem_of_getElem? (i := 218) rfl) rfl
theorem mC0_1_219 : Cond.fieldLink RX1 54 "ClaimTable$Job" "savedBits" "I" ∈ TB := tbT_1 _ (List.mem_of_getElem? (i := 219) rfl) rfl
theorem mC0_1_226 : Cond.fieldLink RX1 29 "ClaimTable$Job" "number" "I" ∈ TB := tbT_1 _ (List.mem_of_getElem? (i := 226) rfl) rfl
theorem mC0_1_233 : Cond.fieldLink RX1 32 "ClaimTable$Job" "group" "I" ∈ TB := tbT_1 _ (List.mem_of_getElem? (i := 233) rfl) rfl
theorem mC0_1_239 : Cond.fieldLink RX1 35 "ClaimTable$Job" "priority" "I" ∈ TB := tbT_1 _ (List.mem_of_getElem? (i := 239) rfl) rfl
theorem mC0_2_3 : Cond.fieldLink RX1 38 "ClaimTable$Job" "cost" "I" ∈ TB := tbT_2 _ (List.mem_of_getElem? (i := 3) rfl) rfl
theorem mC0_2_8 : Cond.fieldLink RX1 41 "ClaimTable$Job" "born" "I" ∈ TB := tbT_2 _ (List.mem_of_getElem? (i := 8) rfl) rfl
theorem mC0_2_12 : Cond.fieldLink RX1 44 "ClaimTable$Job" "schedule" "I" ∈ TB := tbT_2 _ (List.mem_of_getElem? (i := 12) rfl) rfl
theorem mC0_2_15 : Cond.fieldLink RX1 47 "ClaimTable$Job" "slot" "I" ∈ TB := tbT_2 _ (List.mem_of_getElem? (i := 15) rfl) rfl
theorem mC0_1_223 : Cond.fieldLink RX1 50 "ClaimTable$Job" "stored" "Z" ∈ TB := tbT_1 _ (List.mem_of_getElem? (i := 223) rfl) rfl
theorem mC0_1_220 : Cond.fieldLink RX1 25 "ClaimTable$Job" "locker" "I" ∈ TB := tbT_1 _ (List.mem_of_getElem? (i := 220) rfl) rfl
theorem mC0_1_210 : Cond.fieldLink RX1 12 "ClaimTable$Job" "base" "LClaimTable$Version;" ∈ TB := tbT_1 _ (List.mem_of_getElem? (i := 210) rfl) rfl
theorem mC0_3_61 : Cond.methodLink RX1 57 yX9_copyFrom ∈ TB := tbT_3 _ (List.mem_of_getElem? (i := 61) rfl) rfl
theorem mC0_3_64 : Cond.code yX9_copyFrom cX9_copyFrom 2 none ∈ TB := tbT_3 _ (List.mem_of_getElem? (i := 64) rfl) rfl
theorem mC0_3_62 : Cond.instanceMethod yX9_copyFrom ∈ TB := tbT_3 _ (List.mem_of_getElem? (i := 62) rfl) rfl
theorem mC0_3_63 : Cond.selects RX9 yX9_copyFrom yX9_copyFrom ∈ TB := tbT_3 _ (List.mem_of_getElem? (i := 63) rfl) rfl
theorem mC0_1_8 : Cond.initialized RX9 ∈ TB := tbT_1 _ (List.mem_of_getElem? (i := 8) rfl) rfl
theorem mC0_1_215 : Cond.fieldLink RX1 18 "ClaimTable$Job" "own" "LClaimTable$Version;" ∈ TB := tbT_1 _ (List.mem_of_getElem? (i := 215) rfl) rfl
theorem mC0_3_65 : Cond.methodLink RX1 61 yX1_isSavedAt ∈ TB := tbT_3 _ (List.mem_of_getElem? (i := 65) rfl) rfl
theorem mC0_3_68 : Cond.code yX1_isSavedAt cX1_isSavedAt 2 (some .boolean) ∈ TB := tbT_3 _ (List.mem_of_getElem? (i := 68) rfl) rfl
theorem mC0_3_66 : Cond.instanceMethod yX1_isSavedAt ∈ TB := tbT_3 _ (List.mem_of_getElem? (i := 66) rfl) rfl
theorem mC0_3_67 : Cond.selects RX1 yX1_isSavedAt yX1_isSavedAt ∈ TB := tbT_3 _ (List.mem_of_getElem? (i := 67) rfl) rfl
theorem mC0_1_7 : Cond.initialized RX1 ∈ TB := tbT_1 _ (List.mem_of_getElem? (i := 7) rfl) rfl
theorem mC0_1_72 : Cond.fieldLink RX3 29 "ClaimTable$Query" "times" "I" ∈ TB := tbT_1 _ (List.mem_of_getElem? (i := 72) rfl) rfl
theorem mC0_1_75 : Cond.fieldLink RX3 33 "ClaimTable$Query" "terms" "I" ∈ TB := tbT_1 _ (List.mem_of_getElem? (i := 75) rfl) rfl
theorem mC0_1_76 : Cond.fieldLink RX3 36 "ClaimTable$Query" "keys" "I" ∈ TB := tbT_1 _ (List.mem_of_getElem? (i := 76) rfl) rfl
theorem mC0_1_70 : Cond.fieldLink RX3 22 "ClaimTable$Query" "keyColumns" "[I" ∈ TB := tbT_1 _ (List.mem_of_getElem? (i := 70) rfl) rfl
theorem mC0_1_71 : Cond.fieldLink RX3 25 "ClaimTable$Query" "keysDescend" "[Z" ∈ TB := tbT_1 _ (List.mem_of_getElem? (i := 71) rfl) rfl
theorem mC0_1_67 : Cond.fieldLink RX3 11 "ClaimTable$Query" "termColumns" "[I" ∈ TB := tbT_1 _ (List.mem_of_getElem? (i := 67) rfl) rfl
theorem mC0_1_68 : Cond.fieldLink RX3 15 "ClaimTable$Query" "termSigns" "[C" ∈ TB := tbT_1 _ (List.mem_of_getElem? (i := 68) rfl) rfl
theorem mC0_1_69 : Cond.fieldLink RX3 19 "ClaimTable$Query" "termNumbers" "[I" ∈ TB := tbT_1 _ (List.mem_of_getElem? (i := 69) rfl) rfl
theorem mC0_2_52 : Cond.fieldLink RX5 10 "ClaimTable$Session" "query" "LClaimTable$Query;" ∈ TB := tbT_2 _ (List.mem_of_getElem? (i := 52) rfl) rfl
theorem mC0_3_73 : Cond.methodLink RX5 36 yX3_copyFrom ∈ TB := tbT_3 _ (List.mem_of_getElem? (i := 73) rfl) rfl
theorem mC0_3_76 : Cond.code yX3_copyFrom cX3_copyFrom 3 none ∈ TB := tbT_3 _ (List.mem_of_getElem? (i := 76) rfl) rfl
theorem mC0_3_74 : Cond.instanceMethod yX3_copyFrom ∈ TB := tbT_3 _ (List.mem_of_getElem? (i := 74) rfl) rfl
theorem mC0_3_75 : Cond.selects RX3 yX3_copyFrom yX3_copyFrom ∈ TB := tbT_3 _ (List.mem_of_getElem? (i := 75) rfl) rfl
theorem mC0_1_3 : Cond.initialized RX3 ∈ TB := tbT_1 _ (List.mem_of_getElem? (i := 3) rfl) rfl
theorem mC0_2_55 : Cond.fieldLink RX5 19 "ClaimTable$Session" "skew" "I" ∈ TB := tbT_2 _ (List.mem_of_getElem? (i := 55) rfl) rfl
theorem mC0_2_58 : Cond.fieldLink RX5 23 "ClaimTable$Session" "latest" "I" ∈ TB := tbT_2 _ (List.mem_of_getElem? (i := 58) rfl) rfl
theorem mC0_2_62 : Cond.fieldLink RX5 29 "ClaimTable$Session" "open" "Z" ∈ TB := tbT_2 _ (List.mem_of_getElem? (i := 62) rfl) rfl
theorem mC0_2_65 : Cond.fieldLink RX5 33 "ClaimTable$Session" "savepoints" "I" ∈ TB := tbT_2 _ (List.mem_of_getElem? (i := 65) rfl) rfl
theorem mC0_2_84 : Cond.fieldLink RX4 9 "ClaimTable$Schedule" "every" "I" ∈ TB := tbT_2 _ (List.mem_of_getElem? (i := 84) rfl) rfl
theorem mC0_2_87 : Cond.fieldLink RX4 15 "ClaimTable$Schedule" "at" "I" ∈ TB := tbT_2 _ (List.mem_of_getElem? (i := 87) rfl) rfl
theorem mC0_2_90 : Cond.fieldLink RX4 18 "ClaimTable$Schedule" "group" "I" ∈ TB := tbT_2 _ (List.mem_of_getElem? (i := 90) rfl) rfl
theorem mC0_2_93 : Cond.fieldLink RX4 21 "ClaimTable$Schedule" "priority" "I" ∈ TB := tbT_2 _ (List.mem_of_getElem? (i := 93) rfl) rfl
theorem mC0_2_96 : Cond.fieldLink RX4 24 "ClaimTable$Schedule" "cost" "I" ∈ TB := tbT_2 _ (List.mem_of_getElem? (i := 96) rfl) rfl
theorem mC0_2_99 : Cond.fieldLink RX4 27 "ClaimTable$Schedule" "kind" "I" ∈ TB := tbT_2 _ (List.mem_of_getElem? (i := 99) rfl) rfl
theorem mC0_2_102 : Cond.fieldLink RX4 30 "ClaimTable$Schedule" "grace" "I" ∈ TB := tbT_2 _ (List.mem_of_getElem? (i := 102) rfl) rfl
theorem mC0_2_105 : Cond.fieldLink RX4 33 "ClaimTable$Schedule" "slot" "I" ∈ TB := tbT_2 _ (List.mem_of_getElem? (i := 105) rfl) rfl
theorem mC0_1_135 : Cond.fieldLink RX2 11 "ClaimTable$Log" "cells" "[I" ∈ TB := tbT_1 _ (List.mem_of_getElem? (i := 135) rfl) rfl
theorem mC0_3_88 : Cond.methodLink RX2 15 arraycopyName ∈ TB := tbT_3 _ (List.mem_of_getElem? (i := 88) rfl) rfl
theorem mC0_3_83 : Cond.native arraycopyName ∈ TB := tbT_3 _ (List.mem_of_getElem? (i := 83) rfl) rfl
theorem mC0_3_82 : Cond.static arraycopyName ∈ TB := tbT_3 _ (List.mem_of_getElem? (i := 82) rfl) rfl
theorem mC0_1_12 : Cond.initialized "java/lang/System" ∈ TB := tbT_1 _ (List.mem_of_getElem? (i := 12) rfl) rfl
theorem mC0_1_136 : Cond.fieldLink RX2 21 "ClaimTable$Log" "first" "I" ∈ TB := tbT_1 _ (List.mem_of_getElem? (i := 136) rfl) rfl
theorem mC0_1_137 : Cond.fieldLink RX2 25 "ClaimTable$Log" "size" "I" ∈ TB := tbT_1 _ (List.mem_of_getElem? (i := 137) rfl) rfl
theorem mC0_2_146 : Cond.fieldLink RX6 46 "ClaimTable$Table" "size" "I" ∈ TB := tbT_2 _ (List.mem_of_getElem? (i := 146) rfl) rfl
theorem mC0_2_150 : Cond.fieldLink RX6 54 "ClaimTable$Table" "sessionCount" "I" ∈ TB := tbT_2 _ (List.mem_of_getElem? (i := 150) rfl) rfl
theorem mC0_2_153 : Cond.fieldLink RX6 60 "ClaimTable$Table" "scheduleCount" "I" ∈ TB := tbT_2 _ (List.mem_of_getElem? (i := 153) rfl) rfl
theorem mC0_2_136 : Cond.fieldLink RX6 29 "ClaimTable$Table" "parallel" "[I" ∈ TB := tbT_2 _ (List.mem_of_getElem? (i := 136) rfl) rfl
theorem mC0_3_81 : Cond.methodLink RX6 66 arraycopyName ∈ TB := tbT_3 _ (List.mem_of_getElem? (i := 81) rfl) rfl
theorem mC0_2_140 : Cond.fieldLink RX6 33 "ClaimTable$Table" "settings" "[I" ∈ TB := tbT_2 _ (List.mem_of_getElem? (i := 140) rfl) rfl
theorem mC0_2_144 : Cond.fieldLink RX6 39 "ClaimTable$Table" "log" "LClaimTable$Log;" ∈ TB := tbT_2 _ (List.mem_of_getElem? (i := 144) rfl) rfl
theorem mC0_3_84 : Cond.methodLink RX6 72 yX2_copyFrom ∈ TB := tbT_3 _ (List.mem_of_getElem? (i := 84) rfl) rfl
theorem mC0_3_87 : Cond.code yX2_copyFrom cX2_copyFrom 2 none ∈ TB := tbT_3 _ (List.mem_of_getElem? (i := 87) rfl) rfl
theorem mC0_3_85 : Cond.instanceMethod yX2_copyFrom ∈ TB := tbT_3 _ (List.mem_of_getElem? (i := 85) rfl) rfl
theorem mC0_3_86 : Cond.selects RX2 yX2_copyFrom yX2_copyFrom ∈ TB := tbT_3 _ (List.mem_of_getElem? (i := 86) rfl) rfl
theorem mC0_1_6 : Cond.initialized RX2 ∈ TB := tbT_1 _ (List.mem_of_getElem? (i := 6) rfl) rfl
theorem mC0_2_156 : Cond.fieldLink RX6 75 "ClaimTable$Table" "texts" "I" ∈ TB := tbT_2 _ (List.mem_of_getElem? (i := 156) rfl) rfl
theorem mC0_2_160 : Cond.fieldLink RX6 78 "ClaimTable$Table" "mono" "I" ∈ TB := tbT_2 _ (List.mem_of_getElem? (i := 160) rfl) rfl
theorem mC0_2_164 : Cond.fieldLink RX6 81 "ClaimTable$Table" "wall" "I" ∈ TB := tbT_2 _ (List.mem_of_getElem? (i := 164) rfl) rfl
theorem mC0_2_167 : Cond.fieldLink RX6 84 "ClaimTable$Table" "tokens" "I" ∈ TB := tbT_2 _ (List.mem_of_getElem? (i := 167) rfl) rfl
theorem mC0_2_170 : Cond.fieldLink RX6 87 "ClaimTable$Table" "came" "I" ∈ TB := tbT_2 _ (List.mem_of_getElem? (i := 170) rfl) rfl
theorem mC0_2_172 : Cond.fieldLink RX6 90 "ClaimTable$Table" "missed" "I" ∈ TB := tbT_2 _ (List.mem_of_getElem? (i := 172) rfl) rfl
theorem mC0_2_174 : Cond.fieldLink RX6 93 "ClaimTable$Table" "swept" "I" ∈ TB := tbT_2 _ (List.mem_of_getElem? (i := 174) rfl) rfl
theorem mC0_2_133 : Cond.fieldLink RX6 25 "ClaimTable$Table" "schedules" "[LClaimTable$Schedule;" ∈ TB := tbT_2 _ (List.mem_of_getElem? (i := 133) rfl) rfl
theorem mC0_3_77 : Cond.methodLink RX6 63 yX4_copyFrom ∈ TB := tbT_3 _ (List.mem_of_getElem? (i := 77) rfl) rfl
theorem mC0_3_80 : Cond.code yX4_copyFrom cX4_copyFrom 2 none ∈ TB := tbT_3 _ (List.mem_of_getElem? (i := 80) rfl) rfl
theorem mC0_3_78 : Cond.instanceMethod yX4_copyFrom ∈ TB := tbT_3 _ (List.mem_of_getElem? (i := 78) rfl) rfl
theorem mC0_3_79 : Cond.selects RX4 yX4_copyFrom yX4_copyFrom ∈ TB := tbT_3 _ (List.mem_of_getElem? (i := 79) rfl) rfl
theorem mC0_1_10 : Cond.initialized RX4 ∈ TB := tbT_1 _ (List.mem_of_getElem? (i := 10) rfl) rfl
theorem mC0_2_129 : Cond.fieldLink RX6 19 "ClaimTable$Table" "sessions" "[LClaimTable$Session;" ∈ TB := tbT_2 _ (List.mem_of_getElem? (i := 129) rfl) rfl
theorem mC0_3_69 : Cond.methodLink RX6 57 yX5_copyFrom ∈ TB := tbT_3 _ (List.mem_of_getElem? (i := 69) rfl) rfl
theorem mC0_3_72 : Cond.code yX5_copyFrom cX5_copyFrom 2 none ∈ TB := tbT_3 _ (List.mem_of_getElem? (i := 72) rfl) rfl
theorem mC0_3_70 : Cond.instanceMethod yX5_copyFrom ∈ TB := tbT_3 _ (List.mem_of_getElem? (i := 70) rfl) rfl
theorem mC0_3_71 : Cond.selects RX5 yX5_copyFrom yX5_copyFrom ∈ TB := tbT_3 _ (List.mem_of_getElem? (i := 71) rfl) rfl
theorem mC0_1_9 : Cond.initialized RX5 ∈ TB := tbT_1 _ (List.mem_of_getElem? (i := 9) rfl) rfl
theorem mC0_2_126 : Cond.fieldLink RX6 11 "ClaimTable$Table" "jobs" "[LClaimTable$Job;" ∈ TB := tbT_2 _ (List.mem_of_getElem? (i := 126) rfl) rfl
theorem mC0_3_57 : Cond.methodLink RX6 50 yX1_copyFrom ∈ TB := tbT_3 _ (List.mem_of_getElem? (i := 57) rfl) rfl
theorem mC0_3_60 : Cond.code yX1_copyFrom cX1_copyFrom 3 none ∈ TB := tbT_3 _ (List.mem_of_getElem? (i := 60) rfl) rfl
theorem mC0_3_58 : Cond.instanceMethod yX1_copyFrom ∈ TB := tbT_3 _ (List.mem_of_getElem? (i := 58) rfl) rfl
theorem mC0_3_59 : Cond.selects RX1 yX1_copyFrom yX1_copyFrom ∈ TB := tbT_3 _ (List.mem_of_getElem? (i := 59) rfl) rfl
theorem mC0_1_46 : Cond.fieldLink RX8 29 "ClaimTable$Tape" "place" "I" ∈ TB := tbT_1 _ (List.mem_of_getElem? (i := 46) rfl) rfl
theorem mC0_1_47 : Cond.fieldLink RX8 15 "ClaimTable$Tape" "wrong" "I" ∈ TB := tbT_1 _ (List.mem_of_getElem? (i := 47) rfl) rfl
theorem mC0_3_129 : Cond.methodLink RX8 25 yX8_moveTo ∈ TB := tbT_3 _ (List.mem_of_getElem? (i := 129) rfl) rfl
theorem mC0_3_132 : Cond.code yX8_moveTo cX8_moveTo 2 none ∈ TB := tbT_3 _ (List.mem_of_getElem? (i := 132) rfl) rfl
theorem mC0_3_131 : Cond.instanceMethod yX8_moveTo ∈ TB := tbT_3 _ (List.mem_of_getElem? (i := 131) rfl) rfl
theorem mpC0_1_2 : Cond.selects RX8 yX8_moveTo yX8_moveTo ∈ TB := tbP_1 (yX8_moveTo, 5) (List.mem_of_getElem? (i := 2) rfl)
def rm_X8_hasRoom : Room := { frames := 0, cells := 0, slots := 0, locals := 0 }
def F_X8_hasRoom (S : sSt) (k : Int32 → sSt → Prop) : Prop := ((400 < ((S.1 1 0 1) + 20) → k 0 S) ∧ (¬ 400 < ((S.1 1 0 1) + 20) → k 1 S))
set_option maxHeartbeats 4000000 in
set_option maxRecDepth 100000 in
theorem c_X8_hasRoom (l : Launch) {D : va_G} {cy : Nat → ClassId} {b z : Nat} {tx : TX} {S : sSt} {k : Int32 → sSt → Prop} (h : F_X8_hasRoom S k) : Met l yX8_hasRoom (Cond.code yX8_hasRoom cX8_hasRoom 1 (some .boolean) :: TB) rm_X8_hasRoom (va_Pc [.ref (b + adC 1 0)] (fun U => RelC D cy b z tx S U U.heap ∧ TxR tx U)) (PiC D cy b z tx k) 0 0 (gA b 709 z) := by
  refine Met.ofW (cc := cX8_hasRoom) (maxL := 1) (ret := (some .boolean)) (by decide) rfl ?_
  intro p e s m args below meth c s₁ B hml hv
  obtain ⟨rfl, hR, hT⟩ := hv
  have C0 : CallFix p m c cX8_hasRoom 1 s _ TB RX8 := ⟨B.exec, B.bytes, hml, findClass_of_methodNamed B.named, fun w hw => atoms_spec B.pre w (List.mem_cons_of_mem _ hw)⟩
  have hr := B.returns
  have hlk := B.notSynchronized
  have hx := C0.1
  have hb := C0.2.1
  have hS : va_S (gA b 709 z) s.heap s.heap [] := va_S.rf
  have hl := lv_entry ([.ref (b + adC 1 0)]) (n := 1) (Nat.le_of_ble_eq_true rfl)
  rw [lg_entry_eq]
  generalize (lg_sl ([.ref (b + adC 1 0)]) ++ List.replicate (1 - (lg_sl ([.ref (b + adC 1 0)])).length) Slot.unset).toArray = ls at hl ⊢
  have hl : lv_has ls 1 [(0, .ref (b + adC 1 0))] := hl
  show W p l e rm_X8_hasRoom s m _ below meth c s.heap [] 0 0 (MQ below (PiC D cy b z tx k) _ s 0 0 (gA b 709 z)) _
  unfold F_X8_hasRoom at h
  refine lv_aload_n hx hb dX8_hasRoom_0 rfl (lv_at hl 0 rfl) ?_
  refine gC_1_1 C0 hR Nat.zero_lt_one tbs_wsX80 mC0_1_43 dX8_hasRoom_1 ?_
  refine lv_bipush (v := 20) hx hb dX8_hasRoom_4 (by decide) ?_
  refine lv_iadd hx hb dX8_hasRoom_6 ?_
  refine lv_sipush (v := 400) hx hb dX8_hasRoom_7 (by decide) ?_
  refine lv_icmp_gt (tgt := 17) hx hb dX8_hasRoom_10 (by decide) (fun c1 => ?_) (fun c1 => ?_)
  · have h := h.1 c1
    refine lv_iconst (v := 0) hx hb dX8_hasRoom_17 (by decide) ?_
    exact rtC_z C0 hr hlk hR hS (by decide) h dX8_hasRoom_18
  · have h := h.2 c1
    refine lv_iconst (v := 1) hx hb dX8_hasRoom_13 (by decide) ?_
    refine lv_goto (tgt := 18) hx hb dX8_hasRoom_14 (by decide) ?_
    exact rtC_z C0 hr hlk hR hS (by decide) h dX8_hasRoom_18

def rm_X8_append : Room := { frames := 0, cells := 0, slots := 0, locals := 0 }
def Bb_X8_append_3 (kk3 : Int32 → Int32 → sSt → Prop) (a1 : Int32) (a2 : Int32) (S : sSt) (k : sSt → Prop) : Prop := ((a2 < 0 → k S) ∧ (¬ a2 < 0 → ((400 ≤ (S.1 1 0 1) → k S) ∧ (¬ 400 ≤ (S.1 1 0 1) → ix (S.1 1 0 1) 400 (fun j3 => ∀ S4, S4 = uI S 2 0 j3 (vp_nar .byte (a1 >>> (a2 &&& 31)).toInt8.toInt32) → ∀ S5, S5 = uI S4 1 0 1 ((S4.1 1 0 1) + 1) → ∀ x6 : Int32, x6 = a2 + (-8) → kk3 a1 x6 S5)))))
set_option maxHeartbeats 4000000 in
set_option maxRecDepth 100000 in
theorem Bbw_X8_append_3 {p : Program} {l : Launch} {e : Env} {s : State} {m : MethodId} {args : Array Value} {below : List Frame} {meth : Method} {c : Code} {D : va_G} {cy : Nat → ClassId} {b z : Nat} {tx : TX} (C0 : CallFix p m c cX8_append 3 s args TB RX8) (hr : meth.sig.returnType = none) (hlk : meth.locks = false) (hT : TxR tx s) {k : sSt → Prop} {kk3 : Int32 → Int32 → sSt → Prop} (ih3 : ∀ (a1 : Int32) (a2 : Int32) (S : sSt) (H : Heap) (locs : List Loc) (ls : Array Slot) , kk3 a1 a2 S → RelC D cy b z tx S s H → va_S (gA b 709 z) s.heap H locs → lv_has ls 3 [(0, .ref (b + adC 1 0)), (1, .int a1), (2, .int a2)] → W p l e rm_X8_append s m args below meth c H locs 0 0 (MQ below (PvC D cy b z tx k) args s 0 0 (gA b 709 z)) (F0 m 3 ls [])) : ∀ (a1 : Int32) (a2 : Int32) (S : sSt) (H : Heap) (locs : List Loc) (ls : Array Slot) , Bb_X8_append_3 kk3 a1 a2 S k → RelC D cy b z tx S s H → va_S (gA b 709 z) s.heap H locs → lv_has ls 3 [(0, .ref (b + adC 1 0)), (1, .int a1), (2, .int a2)] → W p l e rm_X8_append s m args below meth c H locs 0 0 (MQ below (PvC D cy b z tx k) args s 0 0 (gA b 709 z)) (F0 m 3 ls []) := by
  intro a1 a2 S H locs ls h hR hS hl
  have hx := C0.1
  have hb := C0.2.1
  unfold Bb_X8_append_3 at h
  refine lv_iload_n hx hb dX8_append_3 rfl (lv_at hl 2 rfl) ?_
  refine lv_if_lt (tgt := 46) hx hb dX8_append_4 (by decide) (fun c1 => ?_) (fun c1 => ?_)
  · have h := h.1 c1
    exact rtC_v C0 hr hlk hR hS h dX8_append_46
  · have h := h.2 c1
    refine lv_aload_n hx hb dX8_append_7 rfl (lv_at hl 0 rfl) ?_
    refine gC_1_1 C0 hR Nat.zero_lt_one tbs_wsX80 mC0_1_43 dX8_append_8 ?_
    refine lv_sipush (v := 400) hx hb dX8_append_11 (by decide) ?_
    refine lv_icmp_ge (tgt := 46) hx hb dX8_append_14 (by decide) (fun c2 => ?_) (fun c2 => ?_)
    · have h := h.1 c2
      exact rtC_v C0 hr hlk hR hS h dX8_append_46
    · have h := h.2 c2
      refine lv_aload_n hx hb dX8_append_17 rfl (lv_at hl 0 rfl) ?_
      refine gC_1_0 C0 hR Nat.zero_lt_one tbs_wsX80 mC0_1_42 dX8_append_18 ?_
      refine lv_aload_n hx hb dX8_append_21 rfl (lv_at hl 0 rfl) ?_
      refine gC_1_1 C0 hR Nat.zero_lt_one tbs_wsX80 mC0_1_43 dX8_append_22 ?_
      refine lv_iload_n hx hb dX8_append_25 rfl (lv_at hl 1 rfl) ?_
      refine lv_iload_n hx hb dX8_append_26 rfl (lv_at hl 2 rfl) ?_
      refine lv_ishr hx hb dX8_append_27 ?_
      refine lv_i2b (v := (a1 >>> (a2 &&& 31)).toInt8.toInt32) hx hb dX8_append_28 rfl ?_
      obtain ⟨j3, hj3, ej3, h⟩ := h
      refine sC_2 C0 hR hS Nat.zero_lt_one hj3 ej3 dX8_append_29 (fun S4 eS4 H locs hR hS => ?_)
      have h := h S4 eS4
      refine lv_aload_n hx hb dX8_append_30 rfl (lv_at hl 0 rfl) ?_
      refine lv_dup hx hb dX8_append_31 rfl ?_
      refine gC_1_1 C0 hR Nat.zero_lt_one tbs_wsX80 mC0_1_43 dX8_append_32 ?_
      refine lv_iconst (v := 1) hx hb dX8_append_35 (by decide) ?_
      refine lv_iadd hx hb dX8_append_36 ?_
      refine pC_1_1 C0 hR hS Nat.zero_lt_one tbs_wsX80 mC0_1_43 dX8_append_37 (fun S5 eS5 H locs hR hS => ?_)
      have h := h S5 eS5
      obtain ⟨x6, ex6⟩ : ∃ x6 : Int32, x6 = a2 + (-8) := ⟨_, rfl⟩
      have h := h x6 ex6
      refine w_iinc (v0 := (-8)) (lv' := [(2, .int x6), (0, .ref (b + adC 1 0)), (1, .int a1)]) C0 dX8_append_40 hl (k := 2) rfl (by decide) (by decide) x6 ex6 rfl (fun ls hl => ?_)
      refine lv_goto (tgt := 3) hx hb dX8_append_43 (by decide) ?_
      exact ih3 a1 x6 S5 _ _ _  h hR hS (lv_sub hl [1, 2, 0] rfl)
def B_X8_append_3 (n9 : Nat) (a1 : Int32) (a2 : Int32) (S : sSt) (k : sSt → Prop) : Prop := (Nat.rec (motive := fun _ => Int32 → Int32 → sSt → Prop) (fun _ _ _ => False) (fun _ r9 => fun a1 a2 S => Bb_X8_append_3 r9 a1 a2 S k) n9 : Int32 → Int32 → sSt → Prop) a1 a2 S
theorem B_X8_append_3_s (n9 : Nat) (a1 : Int32) (a2 : Int32) (S : sSt) (k : sSt → Prop) : B_X8_append_3 (n9 + 1) a1 a2 S k = Bb_X8_append_3 (fun a1 a2 S => B_X8_append_3 n9 a1 a2 S k) a1 a2 S k := rfl
set_option maxHeartbeats 4000000 in
set_option maxRecDepth 100000 in
theorem Bw_X8_append_3 {p : Program} {l : Launch} {e : Env} {s : State} {m : MethodId} {args : Array Value} {below : List Frame} {meth : Method} {c : Code} {D : va_G} {cy : Nat → ClassId} {b z : Nat} {tx : TX} (C0 : CallFix p m c cX8_append 3 s args TB RX8) (hr : meth.sig.returnType = none) (hlk : meth.locks = false) (hT : TxR tx s) {k : sSt → Prop} : ∀ (n9 : Nat), ∀ (a1 : Int32) (a2 : Int32) (S : sSt) (H : Heap) (locs : List Loc) (ls : Array Slot) , B_X8_append_3 n9 a1 a2 S k → RelC D cy b z tx S s H → va_S (gA b 709 z) s.heap H locs → lv_has ls 3 [(0, .ref (b + adC 1 0)), (1, .int a1), (2, .int a2)] → W p l e rm_X8_append s m args below meth c H locs 0 0 (MQ below (PvC D cy b z tx k) args s 0 0 (gA b 709 z)) (F0 m 3 ls []) := by
  intro n9
  induction n9 with
  | zero => intro a1 a2 S H locs ls h; exact h.elim
  | succ n9 ih =>
    intro a1 a2 S H locs ls h hR hS hl
    exact Bbw_X8_append_3 C0 hr hlk hT ih a1 a2 S H locs ls h hR hS hl
def F_X8_append (a1 : Int32) (S : sSt) (k : sSt → Prop) : Prop := B_X8_append_3 fuel a1 24 S k
set_option maxHeartbeats 4000000 in
set_option maxRecDepth 100000 in
theorem c_X8_append (l : Launch) {D : va_G} {cy : Nat → ClassId} {b z : Nat} {tx : TX} {a1 : Int32} {S : sSt} {k : sSt → Prop} (h : F_X8_append a1 S k) : Met l yX8_append (Cond.code yX8_append cX8_append 3 none :: TB) rm_X8_append (va_Pc [.ref (b + adC 1 0), .int a1] (fun U => RelC D cy b z tx S U U.heap ∧ TxR tx U)) (PvC D cy b z tx k) 0 0 (gA b 709 z) := by
  refine Met.ofW (cc := cX8_append) (maxL := 3) (ret := none) (by decide) rfl ?_
  intro p e s m args below meth c s₁ B hml hv
  obtain ⟨rfl, hR, hT⟩ := hv
  have C0 : CallFix p m c cX8_append 3 s _ TB RX8 := ⟨B.exec, B.bytes, hml, findClass_of_methodNamed B.named, fun w hw => atoms_spec B.pre w (List.mem_cons_of_mem _ hw)⟩
  have hr := B.returns
  have hlk := B.notSynchronized
  have hx := C0.1
  have hb := C0.2.1
  have hS : va_S (gA b 709 z) s.heap s.heap [] := va_S.rf
  have hl := lv_entry ([.ref (b + adC 1 0), .int a1]) (n := 3) (Nat.le_of_ble_eq_true rfl)
  rw [lg_entry_eq]
  generalize (lg_sl ([.ref (b + adC 1 0), .int a1]) ++ List.replicate (3 - (lg_sl ([.ref (b + adC 1 0), .int a1])).length) Slot.unset).toArray = ls at hl ⊢
  have hl : lv_has ls 3 [(0, .ref (b + adC 1 0)), (1, .int a1)] := hl
  show W p l e rm_X8_append s m _ below meth c s.heap [] 0 0 (MQ below (PvC D cy b z tx k) _ s 0 0 (gA b 709 z)) _
  unfold F_X8_append at h
  refine lv_bipush (v := 24) hx hb dX8_append_0 (by decide) ?_
  refine lv_istore_n (lv' := [(2, .int 24), (0, .ref (b + adC 1 0)), (1, .int a1)]) hx hb dX8_append_2 rfl hl (by decide) rfl (fun ls hl => ?_)
  exact Bw_X8_append_3 C0 hr hlk hT fuel a1 24 S _ _ _ h hR hS (lv_sub hl [1, 2, 0] rfl)

def rm_X11_feed : Room := { frames := 1, cells := 0, slots := 0, locals := 22 }
def F_X11_feed (a1 : Int32) (a2 : Int32) (a3 : Int32) (a4 : Int32) (a5 : Int32) (S : sSt) (k : Int32 → sSt → Prop) : Prop := F_X8_hasRoom S (fun r1 S2 => ((¬ r1 = 0 → F_X8_append a1 S2 (fun S5 => F_X8_append a2 S5 (fun S7 => F_X8_append a3 S7 (fun S9 => F_X8_append a4 S9 (fun S11 => F_X8_append a5 S11 (fun S13 => k (S13.1 1 0 1) S13)))))) ∧ (r1 = 0 → k (-1) S2)))
set_option maxHeartbeats 4000000 in
set_option maxRecDepth 100000 in
theorem c_X11_feed (l : Launch) {D : va_G} {cy : Nat → ClassId} {b z : Nat} {tx : TX} {a1 : Int32} {a2 : Int32} {a3 : Int32} {a4 : Int32} {a5 : Int32} {S : sSt} {k : Int32 → sSt → Prop} (h : F_X11_feed a1 a2 a3 a4 a5 S k) : Met l yX11_feed (Cond.code yX11_feed cX11_feed 6 (some .int) :: TB) rm_X11_feed (va_Pc [.ref (b + adC 0 0), .int a1, .int a2, .int a3, .int a4, .int a5] (fun U => RelC D cy b z tx S U U.heap ∧ TxR tx U)) (PiC D cy b z tx k) 0 0 (gA b 709 z) := by
  refine Met.ofW (cc := cX11_feed) (maxL := 6) (ret := (some .int)) (by decide) rfl ?_
  intro p e s m args below meth c s₁ B hml hv
  obtain ⟨rfl, hR, hT⟩ := hv
  have C0 : CallFix p m c cX11_feed 6 s _ TB RX11 := ⟨B.exec, B.bytes, hml, findClass_of_methodNamed B.named, fun w hw => atoms_spec B.pre w (List.mem_cons_of_mem _ hw)⟩
  have hr := B.returns
  have hlk := B.notSynchronized
  have hx := C0.1
  have hb := C0.2.1
  have hS : va_S (gA b 709 z) s.heap s.heap [] := va_S.rf
  have hl := lv_entry ([.ref (b + adC 0 0), .int a1, .int a2, .int a3, .int a4, .int a5]) (n := 6) (Nat.le_of_ble_eq_true rfl)
  rw [lg_entry_eq]
  generalize (lg_sl ([.ref (b + adC 0 0), .int a1, .int a2, .int a3, .int a4, .int a5]) ++ List.replicate (6 - (lg_sl ([.ref (b + adC 0 0), .int a1, .int a2, .int a3, .int a4, .int a5])).length) Slot.unset).toArray = ls at hl ⊢
  have hl : lv_has ls 6 [(0, .ref (b + adC 0 0)), (1, .int a1), (2, .int a2), (3, .int a3), (4, .int a4), (5, .int a5)] := hl
  show W p l e rm_X11_feed s m _ below meth c s.heap [] 0 0 (MQ below (PiC D cy b z tx k) _ s 0 0 (gA b 709 z)) _
  unfold F_X11_feed at h
  refine lv_aload_n hx hb dX11_feed_0 rfl (lv_at hl 0 rfl) ?_
  refine gC_0_0 C0 hR Nat.zero_lt_one tbs_wsX110 mC0_2_209 dX11_feed_1 ?_
  refine qC_Vi (As := []) (rest := []) C0 (c_X8_hasRoom l h) (cwV 0 C0.2.2.2.2 (tbV mC0_2_238 ⟨mC0_2_239, mC0_3_0, mC0_1_2, mC0_3_1⟩) rfl rfl rfl (by decide +kernel) ⟨Nat.le_of_ble_eq_true rfl, Nat.le_of_ble_eq_true rfl⟩) (rcC_1 hR Nat.zero_lt_one) hR hT hS rfl hl.1 rfl (Nat.le_of_ble_eq_true rfl) dX11_feed_4 ⟨Nat.zero_le _, Nat.zero_le _⟩ (fun r1 S2 H locs h hR hS => ?_)
  refine lv_if_ne (tgt := 12) hx hb dX11_feed_7 (by decide) (fun c3 => ?_) (fun c3 => ?_)
  · have h := h.1 c3
    refine lv_aload_n hx hb dX11_feed_12 rfl (lv_at hl 0 rfl) ?_
    refine gC_0_0 C0 hR Nat.zero_lt_one tbs_wsX110 mC0_2_209 dX11_feed_13 ?_
    refine lv_iload_n hx hb dX11_feed_16 rfl (lv_at hl 1 rfl) ?_
    refine qC_Vv (As := [.int a1]) (rest := []) C0 (c_X8_append l h) (cwV 1 C0.2.2.2.2 (tbV mC0_3_2 ⟨mC0_3_3, mC0_3_4, mC0_1_2, mC0_3_5⟩) rfl rfl rfl (by decide +kernel) ⟨Nat.le_of_ble_eq_true rfl, Nat.le_of_ble_eq_true rfl⟩) (rcC_1 hR Nat.zero_lt_one) hR hT hS rfl hl.1 rfl (Nat.le_of_ble_eq_true rfl) dX11_feed_17 ⟨Nat.zero_le _, Nat.zero_le _⟩ (fun S5 H locs h hR hS => ?_)
    refine lv_aload_n hx hb dX11_feed_20 rfl (lv_at hl 0 rfl) ?_
    refine gC_0_0 C0 hR Nat.zero_lt_one tbs_wsX110 mC0_2_209 dX11_feed_21 ?_
    refine lv_iload_n hx hb dX11_feed_24 rfl (lv_at hl 2 rfl) ?_
    refine qC_Vv (As := [.int a2]) (rest := []) C0 (c_X8_append l h) (cwV 1 C0.2.2.2.2 (tbV mC0_3_2 ⟨mC0_3_3, mC0_3_4, mC0_1_2, mC0_3_5⟩) rfl rfl rfl (by decide +kernel) ⟨Nat.le_of_ble_eq_true rfl, Nat.le_of_ble_eq_true rfl⟩) (rcC_1 hR Nat.zero_lt_one) hR hT hS rfl hl.1 rfl (Nat.le_of_ble_eq_true rfl) dX11_feed_25 ⟨Nat.zero_le _, Nat.zero_le _⟩ (fun S7 H locs h hR hS => ?_)
    refine lv_aload_n hx hb dX11_feed_28 rfl (lv_at hl 0 rfl) ?_
    refine gC_0_0 C0 hR Nat.zero_lt_one tbs_wsX110 mC0_2_209 dX11_feed_29 ?_
    refine lv_iload_n hx hb dX11_feed_32 rfl (lv_at hl 3 rfl) ?_
    refine qC_Vv (As := [.int a3]) (rest := []) C0 (c_X8_append l h) (cwV 1 C0.2.2.2.2 (tbV mC0_3_2 ⟨mC0_3_3, mC0_3_4, mC0_1_2, mC0_3_5⟩) rfl rfl rfl (by decide +kernel) ⟨Nat.le_of_ble_eq_true rfl, Nat.le_of_ble_eq_true rfl⟩) (rcC_1 hR Nat.zero_lt_one) hR hT hS rfl hl.1 rfl (Nat.le_of_ble_eq_true rfl) dX11_feed_33 ⟨Nat.zero_le _, Nat.zero_le _⟩ (fun S9 H locs h hR hS => ?_)
    refine lv_aload_n hx hb dX11_feed_36 rfl (lv_at hl 0 rfl) ?_
    refine gC_0_0 C0 hR Nat.zero_lt_one tbs_wsX110 mC0_2_209 dX11_feed_37 ?_
    refine lv_iload hx hb dX11_feed_40 (lv_at hl 4 rfl) ?_
    refine qC_Vv (As := [.int a4]) (rest := []) C0 (c_X8_append l h) (cwV 1 C0.2.2.2.2 (tbV mC0_3_2 ⟨mC0_3_3, mC0_3_4, mC0_1_2, mC0_3_5⟩) rfl rfl rfl (by decide +kernel) ⟨Nat.le_of_ble_eq_true rfl, Nat.le_of_ble_eq_true rfl⟩) (rcC_1 hR Nat.zero_lt_one) hR hT hS rfl hl.1 rfl (Nat.le_of_ble_eq_true rfl) dX11_feed_42 ⟨Nat.zero_le _, Nat.zero_le _⟩ (fun S11 H locs h hR hS => ?_)
    refine lv_aload_n hx hb dX11_feed_45 rfl (lv_at hl 0 rfl) ?_
    refine gC_0_0 C0 hR Nat.zero_lt_one tbs_wsX110 mC0_2_209 dX11_feed_46 ?_
    refine lv_iload hx hb dX11_feed_49 (lv_at hl 5 rfl) ?_
    refine qC_Vv (As := [.int a5]) (rest := []) C0 (c_X8_append l h) (cwV 1 C0.2.2.2.2 (tbV mC0_3_2 ⟨mC0_3_3, mC0_3_4, mC0_1_2, mC0_3_5⟩) rfl rfl rfl (by decide +kernel) ⟨Nat.le_of_ble_eq_true rfl, Nat.le_of_ble_eq_true rfl⟩) (rcC_1 hR Nat.zero_lt_one) hR hT hS rfl hl.1 rfl (Nat.le_of_ble_eq_true rfl) dX11_feed_51 ⟨Nat.zero_le _, Nat.zero_le _⟩ (fun S13 H locs h hR hS => ?_)
    refine lv_aload_n hx hb dX11_feed_54 rfl (lv_at hl 0 rfl) ?_
    refine gC_0_0 C0 hR Nat.zero_lt_one tbs_wsX110 mC0_2_209 dX11_feed_55 ?_
    refine gCn_1_1 C0 hR Nat.zero_lt_one tbs_wsX80 mC0_1_44 hT dX11_feed_58 ?_
    exact rtC_i C0 hr hlk hR hS h dX11_feed_61
  · have h := h.2 c3
    refine lv_iconst (v := (-1)) hx hb dX11_feed_10 (by decide) ?_
    exact rtC_i C0 hr hlk hR hS h dX11_feed_11

def rm_X11_end : Room := { frames := 0, cells := 0, slots := 0, locals := 0 }
def F_X11_end (a1 : Int32) (S : sSt) (k : Int32 → sSt → Prop) : Prop := ((a1 < 0 → k 0 S) ∧ (¬ a1 < 0 → ((a1 ≤ (S.1 1 0 1) → ∀ S3, S3 = uI S 1 0 1 a1 → k 1 S3) ∧ (¬ a1 ≤ (S.1 1 0 1) → k 0 S))))
set_option maxHeartbeats 4000000 in
set_option maxRecDepth 100000 in
theorem c_X11_end (l : Launch) {D : va_G} {cy : Nat → ClassId} {b z : Nat} {tx : TX} {a1 : Int32} {S : sSt} {k : Int32 → sSt → Prop} (h : F_X11_end a1 S k) : Met l yX11_end (Cond.code yX11_end cX11_end 2 (some .boolean) :: TB) rm_X11_end (va_Pc [.ref (b + adC 0 0), .int a1] (fun U => RelC D cy b z tx S U U.heap ∧ TxR tx U)) (PiC D cy b z tx k) 0 0 (gA b 709 z) := by
  refine Met.ofW (cc := cX11_end) (maxL := 2) (ret := (some .boolean)) (by decide) rfl ?_
  intro p e s m args below meth c s₁ B hml hv
  obtain ⟨rfl, hR, hT⟩ := hv
  have C0 : CallFix p m c cX11_end 2 s _ TB RX11 := ⟨B.exec, B.bytes, hml, findClass_of_methodNamed B.named, fun w hw => atoms_spec B.pre w (List.mem_cons_of_mem _ hw)⟩
  have hr := B.returns
  have hlk := B.notSynchronized
  have hx := C0.1
  have hb := C0.2.1
  have hS : va_S (gA b 709 z) s.heap s.heap [] := va_S.rf
  have hl := lv_entry ([.ref (b + adC 0 0), .int a1]) (n := 2) (Nat.le_of_ble_eq_true rfl)
  rw [lg_entry_eq]
  generalize (lg_sl ([.ref (b + adC 0 0), .int a1]) ++ List.replicate (2 - (lg_sl ([.ref (b + adC 0 0), .int a1])).length) Slot.unset).toArray = ls at hl ⊢
  have hl : lv_has ls 2 [(0, .ref (b + adC 0 0)), (1, .int a1)] := hl
  show W p l e rm_X11_end s m _ below meth c s.heap [] 0 0 (MQ below (PiC D cy b z tx k) _ s 0 0 (gA b 709 z)) _
  unfold F_X11_end at h
  refine lv_iload_n hx hb dX11_end_0 rfl (lv_at hl 1 rfl) ?_
  refine lv_if_lt (tgt := 15) hx hb dX11_end_1 (by decide) (fun c1 => ?_) (fun c1 => ?_)
  · have h := h.1 c1
    refine lv_iconst (v := 0) hx hb dX11_end_15 (by decide) ?_
    exact rtC_z C0 hr hlk hR hS (by decide) h dX11_end_16
  · have h := h.2 c1
    refine lv_iload_n hx hb dX11_end_4 rfl (lv_at hl 1 rfl) ?_
    refine lv_aload_n hx hb dX11_end_5 rfl (lv_at hl 0 rfl) ?_
    refine gC_0_0 C0 hR Nat.zero_lt_one tbs_wsX110 mC0_2_209 dX11_end_6 ?_
    refine gCn_1_1 C0 hR Nat.zero_lt_one tbs_wsX80 mC0_1_44 hT dX11_end_9 ?_
    refine lv_icmp_le (tgt := 17) hx hb dX11_end_12 (by decide) (fun c2 => ?_) (fun c2 => ?_)
    · have h := h.1 c2
      refine lv_aload_n hx hb dX11_end_17 rfl (lv_at hl 0 rfl) ?_
      refine gC_0_0 C0 hR Nat.zero_lt_one tbs_wsX110 mC0_2_209 dX11_end_18 ?_
      refine lv_iload_n hx hb dX11_end_21 rfl (lv_at hl 1 rfl) ?_
      refine pCn_1_1 C0 hR hS Nat.zero_lt_one tbs_wsX80 mC0_1_44 hT dX11_end_22 (fun S3 eS3 H locs hR hS => ?_)
      have h := h S3 eS3
      refine lv_iconst (v := 1) hx hb dX11_end_25 (by decide) ?_
      exact rtC_z C0 hr hlk hR hS (by decide) h dX11_end_26
    · have h := h.2 c2
      refine lv_iconst (v := 0) hx hb dX11_end_15 (by decide) ?_
      exact rtC_z C0 hr hlk hR hS (by decide) h dX11_end_16

def rm_X8_useUp : Room := { frames := 0, cells := 0, slots := 0, locals := 0 }
def F_X8_useUp (S : sSt) (k : sSt → Prop) : Prop := ∀ S1, S1 = uI S 1 0 2 (S.1 1 0 1) → ∀ S2, S2 = uI S1 1 0 1 0 → k S2
set_option maxHeartbeats 4000000 in
set_option maxRecDepth 100000 in
theorem c_X8_useUp (l : Launch) {D : va_G} {cy : Nat → ClassId} {b z : Nat} {tx : TX} {S : sSt} {k : sSt → Prop} (h : F_X8_useUp S k) : Met l yX8_useUp (Cond.code yX8_useUp cX8_useUp 1 none :: TB) rm_X8_useUp (va_Pc [.ref (b + adC 1 0)] (fun U => RelC D cy b z tx S U U.heap ∧ TxR tx U)) (PvC D cy b z tx k) 0 0 (gA b 709 z) := by
  refine Met.ofW (cc := cX8_useUp) (maxL := 1) (ret := none) (by decide) rfl ?_
  intro p e s m args below meth c s₁ B hml hv
  obtain ⟨rfl, hR, hT⟩ := hv
  have C0 : CallFix p m c cX8_useUp 1 s _ TB RX8 := ⟨B.exec, B.bytes, hml, findClass_of_methodNamed B.named, fun w hw => atoms_spec B.pre w (List.mem_cons_of_mem _ hw)⟩
  have hr := B.returns
  have hlk := B.notSynchronized
  have hx := C0.1
  have hb := C0.2.1
  have hS : va_S (gA b 709 z) s.heap s.heap [] := va_S.rf
  have hl := lv_entry ([.ref (b + adC 1 0)]) (n := 1) (Nat.le_of_ble_eq_true rfl)
  rw [lg_entry_eq]
  generalize (lg_sl ([.ref (b + adC 1 0)]) ++ List.replicate (1 - (lg_sl ([.ref (b + adC 1 0)])).length) Slot.unset).toArray = ls at hl ⊢
  have hl : lv_has ls 1 [(0, .ref (b + adC 1 0))] := hl
  show W p l e rm_X8_useUp s m _ below meth c s.heap [] 0 0 (MQ below (PvC D cy b z tx k) _ s 0 0 (gA b 709 z)) _
  unfold F_X8_useUp at h
  refine lv_aload_n hx hb dX8_useUp_0 rfl (lv_at hl 0 rfl) ?_
  refine lv_aload_n hx hb dX8_useUp_1 rfl (lv_at hl 0 rfl) ?_
  refine gC_1_1 C0 hR Nat.zero_lt_one tbs_wsX80 mC0_1_43 dX8_useUp_2 ?_
  refine pC_1_2 C0 hR hS Nat.zero_lt_one tbs_wsX80 mC0_1_45 dX8_useUp_5 (fun S1 eS1 H locs hR hS => ?_)
  have h := h S1 eS1
  refine lv_aload_n hx hb dX8_useUp_8 rfl (lv_at hl 0 rfl) ?_
  refine lv_iconst (v := 0) hx hb dX8_useUp_9 (by decide) ?_
  refine pC_1_1 C0 hR hS Nat.zero_lt_one tbs_wsX80 mC0_1_43 dX8_useUp_10 (fun S2 eS2 H locs hR hS => ?_)
  have h := h S2 eS2
  exact rtC_v C0 hr hlk hR hS h dX8_useUp_13

def rm_X9_copyFrom : Room := { frames := 0, cells := 0, slots := 0, locals := 0 }
def F_X9_copyFrom (a0 : Nat) (a1 : Nat) (S : sSt) (k : sSt → Prop) : Prop := ∀ S1, S1 = uI S 22 a0 0 (S.1 22 a1 0) → ∀ S2, S2 = uI S1 22 a0 1 (S1.1 22 a1 1) → ∀ S3, S3 = uI S2 22 a0 2 (S2.1 22 a1 2) → ∀ S4, S4 = uI S3 22 a0 3 (S3.1 22 a1 3) → ∀ S5, S5 = uI S4 22 a0 4 (S4.1 22 a1 4) → ∀ S6, S6 = uI S5 22 a0 5 (S5.1 22 a1 5) → ∀ S7, S7 = uI S6 22 a0 6 (S6.1 22 a1 6) → ∀ S8, S8 = uI S7 22 a0 7 (S7.1 22 a1 7) → k S8
set_option maxHeartbeats 4000000 in
set_option maxRecDepth 100000 in
theorem c_X9_copyFrom (l : Launch) {D : va_G} {cy : Nat → ClassId} {b z : Nat} {tx : TX} {a0 : Nat} {a1 : Nat} {S : sSt} {k : sSt → Prop} (av0 : a0 < 432) (av1 : a1 < 432) (h : F_X9_copyFrom a0 a1 S k) : Met l yX9_copyFrom (Cond.code yX9_copyFrom cX9_copyFrom 2 none :: TB) rm_X9_copyFrom (va_Pc [.ref (b + adC 22 a0), .ref (b + adC 22 a1)] (fun U => RelC D cy b z tx S U U.heap ∧ TxR tx U)) (PvC D cy b z tx k) 0 0 (gA b 709 z) := by
  refine Met.ofW (cc := cX9_copyFrom) (maxL := 2) (ret := none) (by decide) rfl ?_
  intro p e s m args below meth c s₁ B hml hv
  obtain ⟨rfl, hR, hT⟩ := hv
  have C0 : CallFix p m c cX9_copyFrom 2 s _ TB RX9 := ⟨B.exec, B.bytes, hml, findClass_of_methodNamed B.named, fun w hw => atoms_spec B.pre w (List.mem_cons_of_mem _ hw)⟩
  have hr := B.returns
  have hlk := B.notSynchronized
  have hx := C0.1
  have hb := C0.2.1
  have hS : va_S (gA b 709 z) s.heap s.heap [] := va_S.rf
  have hl := lv_entry ([.ref (b + adC 22 a0), .ref (b + adC 22 a1)]) (n := 2) (Nat.le_of_ble_eq_true rfl)
  rw [lg_entry_eq]
  generalize (lg_sl ([.ref (b + adC 22 a0), .ref (b + adC 22 a1)]) ++ List.replicate (2 - (lg_sl ([.ref (b + adC 22 a0), .ref (b + adC 22 a1)])).length) Slot.unset).toArray = ls at hl ⊢
  have hl : lv_has ls 2 [(0, .ref (b + adC 22 a0)), (1, .ref (b + adC 22 a1))] := hl
  show W p l e rm_X9_copyFrom s m _ below meth c s.heap [] 0 0 (MQ below (PvC D cy b z tx k) _ s 0 0 (gA b 709 z)) _
  unfold F_X9_copyFrom at h
  refine lv_aload_n hx hb dX9_copyFrom_0 rfl (lv_at hl 0 rfl) ?_
  refine lv_aload_n hx hb dX9_copyFrom_1 rfl (lv_at hl 1 rfl) ?_
  refine gC_22_0 C0 hR av1 tbs_wsX90 mC0_1_157 dX9_copyFrom_2 ?_
  refine pC_22_0 C0 hR hS av0 tbs_wsX90 mC0_1_157 dX9_copyFrom_5 (fun S1 eS1 H locs hR hS => ?_)
  have h := h S1 eS1
  refine lv_aload_n hx hb dX9_copyFrom_8 rfl (lv_at hl 0 rfl) ?_
  refine lv_aload_n hx hb dX9_copyFrom_9 rfl (lv_at hl 1 rfl) ?_
  refine gC_22_1 C0 hR av1 tbs_wsX90 mC0_1_163 dX9_copyFrom_10 ?_
  refine pC_22_1 C0 hR hS av0 tbs_wsX90 mC0_1_163 dX9_copyFrom_13 (fun S2 eS2 H locs hR hS => ?_)
  have h := h S2 eS2
  refine lv_aload_n hx hb dX9_copyFrom_16 rfl (lv_at hl 0 rfl) ?_
  refine lv_aload_n hx hb dX9_copyFrom_17 rfl (lv_at hl 1 rfl) ?_
  refine gC_22_2 C0 hR av1 tbs_wsX90 mC0_1_170 dX9_copyFrom_18 ?_
  refine pC_22_2 C0 hR hS av0 tbs_wsX90 mC0_1_170 dX9_copyFrom_21 (fun S3 eS3 H locs hR hS => ?_)
  have h := h S3 eS3
  refine lv_aload_n hx hb dX9_copyFrom_24 rfl (lv_at hl 0 rfl) ?_
  refine lv_aload_n hx hb dX9_copyFrom_25 rfl (lv_at hl 1 rfl) ?_
  refine gC_22_3 C0 hR av1 tbs_wsX90 mC0_1_174 dX9_copyFrom_26 ?_
  refine pC_22_3 C0 hR hS av0 tbs_wsX90 mC0_1_174 dX9_copyFrom_29 (fun S4 eS4 H locs hR hS => ?_)
  have h := h S4 eS4
  refine lv_aload_n hx hb dX9_copyFrom_32 rfl (lv_at hl 0 rfl) ?_
  refine lv_aload_n hx hb dX9_copyFrom_33 rfl (lv_at hl 1 rfl) ?_
  refine gC_22_4 C0 hR av1 tbs_wsX90 mC0_1_177 dX9_copyFrom_34 ?_
  refine pC_22_4 C0 hR hS av0 tbs_wsX90 mC0_1_177 dX9_copyFrom_37 (fun S5 eS5 H locs hR hS => ?_)
  have h := h S5 eS5
  refine lv_aload_n hx hb dX9_copyFrom_40 rfl (lv_at hl 0 rfl) ?_
  refine lv_aload_n hx hb dX9_copyFrom_41 rfl (lv_at hl 1 rfl) ?_
  refine gC_22_5 C0 hR av1 tbs_wsX90 mC0_1_178 dX9_copyFrom_42 ?_
  refine pC_22_5 C0 hR hS av0 tbs_wsX90 mC0_1_178 dX9_copyFrom_45 (fun S6 eS6 H locs hR hS => ?_)
  have h := h S6 eS6
  refine lv_aload_n hx hb dX9_copyFrom_48 rfl (lv_at hl 0 rfl) ?_
  refine lv_aload_n hx hb dX9_copyFrom_49 rfl (lv_at hl 1 rfl) ?_
  refine gC_22_6 C0 hR av1 tbs_wsX90 mC0_1_182 dX9_copyFrom_50 ?_
  refine pC_22_6 C0 hR hS av0 tbs_wsX90 mC0_1_182 dX9_copyFrom_53 (fun S7 eS7 H locs hR hS => ?_)
  have h := h S7 eS7
  refine lv_aload_n hx hb dX9_copyFrom_56 rfl (lv_at hl 0 rfl) ?_
  refine lv_aload_n hx hb dX9_copyFrom_57 rfl (lv_at hl 1 rfl) ?_
  refine gC_22_7 C0 hR av1 tbs_wsX90 mC0_1_187 dX9_copyFrom_58 ?_
  refine pC_22_7 C0 hR hS av0 tbs_wsX90 mC0_1_187 dX9_copyFrom_61 (fun S8 eS8 H locs hR hS => ?_)
  have h := h S8 eS8
  exact rtC_v C0 hr hlk hR hS h dX9_copyFrom_64

def rm_X1_isSavedAt : Room := { frames := 0, cells := 0, slots := 0, locals := 0 }
def F_X1_isSavedAt (a0 : Nat) (a1 : Int32) (S : sSt) (k : Int32 → sSt → Prop) : Prop := ((a1 < 0 → k 0 S) ∧ (¬ a1 < 0 → ((4 ≤ a1 → k 0 S) ∧ (¬ 4 ≤ a1 → ((¬ (((S.1 21 a0 3) >>> (a1 &&& 31)) &&& 1) = 1 → k 0 S) ∧ ((((S.1 21 a0 3) >>> (a1 &&& 31)) &&& 1) = 1 → k 1 S))))))
set_option maxHeartbeats 4000000 in
set_option maxRecDepth 100000 in
theorem c_X1_isSavedAt (l : Launch) {D : va_G} {cy : Nat → ClassId} {b z : Nat} {tx : TX} {a0 : Nat} {a1 : Int32} {S : sSt} {k : Int32 → sSt → Prop} (av0 : a0 < 72) (h : F_X1_isSavedAt a0 a1 S k) : Met l yX1_isSavedAt (Cond.code yX1_isSavedAt cX1_isSavedAt 2 (some .boolean) :: TB) rm_X1_isSavedAt (va_Pc [.ref (b + adC 21 a0), .int a1] (fun U => RelC D cy b z tx S U U.heap ∧ TxR tx U)) (PiC D cy b z tx k) 0 0 (gA b 709 z) := by
  refine Met.ofW (cc := cX1_isSavedAt) (maxL := 2) (ret := (some .boolean)) (by decide) rfl ?_
  intro p e s m args below meth c s₁ B hml hv
  obtain ⟨rfl, hR, hT⟩ := hv
  have C0 : CallFix p m c cX1_isSavedAt 2 s _ TB RX1 := ⟨B.exec, B.bytes, hml, findClass_of_methodNamed B.named, fun w hw => atoms_spec B.pre w (List.mem_cons_of_mem _ hw)⟩
  have hr := B.returns
  have hlk := B.notSynchronized
  have hx := C0.1
  have hb := C0.2.1
  have hS : va_S (gA b 709 z) s.heap s.heap [] := va_S.rf
  have hl := lv_entry ([.ref (b + adC 21 a0), .int a1]) (n := 2) (Nat.le_of_ble_eq_true rfl)
  rw [lg_entry_eq]
  generalize (lg_sl ([.ref (b + adC 21 a0), .int a1]) ++ List.replicate (2 - (lg_sl ([.ref (b + adC 21 a0), .int a1])).length) Slot.unset).toArray = ls at hl ⊢
  have hl : lv_has ls 2 [(0, .ref (b + adC 21 a0)), (1, .int a1)] := hl
  show W p l e rm_X1_isSavedAt s m _ below meth c s.heap [] 0 0 (MQ below (PiC D cy b z tx k) _ s 0 0 (gA b 709 z)) _
  unfold F_X1_isSavedAt at h
  refine lv_iload_n hx hb dX1_isSavedAt_0 rfl (lv_at hl 1 rfl) ?_
  refine lv_if_lt (tgt := 29) hx hb dX1_isSavedAt_1 (by decide) (fun c1 => ?_) (fun c1 => ?_)
  · have h := h.1 c1
    refine lv_iconst (v := 0) hx hb dX1_isSavedAt_29 (by decide) ?_
    exact rtC_z C0 hr hlk hR hS (by decide) h dX1_isSavedAt_30
  · have h := h.2 c1
    refine lv_iload_n hx hb dX1_isSavedAt_4 rfl (lv_at hl 1 rfl) ?_
    refine lv_aload_n hx hb dX1_isSavedAt_5 rfl (lv_at hl 0 rfl) ?_
    refine gC_21_2 C0 hR av0 tbs_wsX10 mC0_1_218 dX1_isSavedAt_6 ?_
    have w2 : a0 < 72 := by omega
    refine nC_23 C0 hR w2 dX1_isSavedAt_9 ?_
    refine lv_icmp_ge (tgt := 29) hx hb dX1_isSavedAt_10 (by decide) (fun c3 => ?_) (fun c3 => ?_)
    · have h := h.1 c3
      refine lv_iconst (v := 0) hx hb dX1_isSavedAt_29 (by decide) ?_
      exact rtC_z C0 hr hlk hR hS (by decide) h dX1_isSavedAt_30
    · have h := h.2 c3
      refine lv_aload_n hx hb dX1_isSavedAt_13 rfl (lv_at hl 0 rfl) ?_
      refine gC_21_3 C0 hR av0 tbs_wsX10 mC0_1_219 dX1_isSavedAt_14 ?_
      refine lv_iload_n hx hb dX1_isSavedAt_17 rfl (lv_at hl 1 rfl) ?_
      refine lv_ishr hx hb dX1_isSavedAt_18 ?_
      refine lv_iconst (v := 1) hx hb dX1_isSavedAt_19 (by decide) ?_
      refine lv_iand hx hb dX1_isSavedAt_20 ?_
      refine lv_iconst (v := 1) hx hb dX1_isSavedAt_21 (by decide) ?_
      refine lv_icmp_ne (tgt := 29) hx hb dX1_isSavedAt_22 (by decide) (fun c4 => ?_) (fun c4 => ?_)
      · have h := h.1 c4
        refine lv_iconst (v := 0) hx hb dX1_isSavedAt_29 (by decide) ?_
        exact rtC_z C0 hr hlk hR hS (by decide) h dX1_isSavedAt_30
      · have h := h.2 c4
        refine lv_iconst (v := 1) hx hb dX1_isSavedAt_25 (by decide) ?_
        refine lv_goto (tgt := 30) hx hb dX1_isSavedAt_26 (by decide) ?_
        exact rtC_z C0 hr hlk hR hS (by decide) h dX1_isSavedAt_30

def rm_X1_copyFrom : Room := { frames := 1, cells := 0, slots := 0, locals := 21 }
def B_X1_copyFrom_145 (kk113 : Nat → Nat → Int32 → sSt → Prop) (a0 : Nat) (a1 : Nat) (a2 : Int32) (S : sSt) (k : sSt → Prop) : Prop := ∀ x26 : Int32, x26 = a2 + 1 → kk113 a0 a1 x26 S
set_option maxHeartbeats 4000000 in
set_option maxRecDepth 100000 in
theorem Bw_X1_copyFrom_145 {p : Program} {l : Launch} {e : Env} {s : State} {m : MethodId} {args : Array Value} {below : List Frame} {meth : Method} {c : Code} {D : va_G} {cy : Nat → ClassId} {b z : Nat} {tx : TX} (C0 : CallFix p m c cX1_copyFrom 3 s args TB RX1) (hr : meth.sig.returnType = none) (hlk : meth.locks = false) (hT : TxR tx s) {k : sSt → Prop} {kk113 : Nat → Nat → Int32 → sSt → Prop} (ih113 : ∀ (a0 : Nat) (a1 : Nat) (a2 : Int32) (S : sSt) (H : Heap) (locs : List Loc) (ls : Array Slot) (av0 : a0 < 72) (av1 : a1 < 72), kk113 a0 a1 a2 S → RelC D cy b z tx S s H → va_S (gA b 709 z) s.heap H locs → lv_has ls 3 [(0, .ref (b + adC 21 a0)), (1, .ref (b + adC 21 a1)), (2, .int a2)] → W p l e rm_X1_copyFrom s m args below meth c H locs 0 0 (MQ below (PvC D cy b z tx k) args s 0 0 (gA b 709 z)) (F0 m 113 ls [])) : ∀ (a0 : Nat) (a1 : Nat) (a2 : Int32) (S : sSt) (H : Heap) (locs : List Loc) (ls : Array Slot) (av0 : a0 < 72) (av1 : a1 < 72), B_X1_copyFrom_145 kk113 a0 a1 a2 S k → RelC D cy b z tx S s H → va_S (gA b 709 z) s.heap H locs → lv_has ls 3 [(0, .ref (b + adC 21 a0)), (1, .ref (b + adC 21 a1)), (2, .int a2)] → W p l e rm_X1_copyFrom s m args below meth c H locs 0 0 (MQ below (PvC D cy b z tx k) args s 0 0 (gA b 709 z)) (F0 m 145 ls []) := by
  intro a0 a1 a2 S H locs ls av0 av1 h hR hS hl
  have hx := C0.1
  have hb := C0.2.1
  unfold B_X1_copyFrom_145 at h
  obtain ⟨x26, ex26⟩ : ∃ x26 : Int32, x26 = a2 + 1 := ⟨_, rfl⟩
  have h := h x26 ex26
  refine w_iinc (v0 := 1) (lv' := [(2, .int x26), (0, .ref (b + adC 21 a0)), (1, .ref (b + adC 21 a1))]) C0 dX1_copyFrom_145 hl (k := 2) rfl (by decide) (by decide) x26 ex26 rfl (fun ls hl => ?_)
  refine lv_goto (tgt := 113) hx hb dX1_copyFrom_148 (by decide) ?_
  exact ih113 a0 a1 x26 S _ _ _ av0 av1 h hR hS (lv_sub hl [1, 2, 0] rfl)
def Bb_X1_copyFrom_113 (kk113 : Nat → Nat → Int32 → sSt → Prop) (a0 : Nat) (a1 : Nat) (a2 : Int32) (S : sSt) (k : sSt → Prop) : Prop := ((4 ≤ a2 → k S) ∧ (¬ 4 ≤ a2 → F_X1_isSavedAt a1 a2 S (fun r23 S24 => ((r23 = 0 → B_X1_copyFrom_145 kk113 a0 a1 a2 S24 k) ∧ (¬ r23 = 0 → ix a2 4 (fun j28 => F_X9_copyFrom (6 * a0 + 2 + j28) (6 * a1 + 2 + j28) S24 (fun S33 => B_X1_copyFrom_145 kk113 a0 a1 a2 S33 k)))))))
set_option maxHeartbeats 4000000 in
set_option maxRecDepth 100000 in
theorem Bbw_X1_copyFrom_113 {p : Program} {l : Launch} {e : Env} {s : State} {m : MethodId} {args : Array Value} {below : List Frame} {meth : Method} {c : Code} {D : va_G} {cy : Nat → ClassId} {b z : Nat} {tx : TX} (C0 : CallFix p m c cX1_copyFrom 3 s args TB RX1) (hr : meth.sig.returnType = none) (hlk : meth.locks = false) (hT : TxR tx s) {k : sSt → Prop} {kk113 : Nat → Nat → Int32 → sSt → Prop} (ih113 : ∀ (a0 : Nat) (a1 : Nat) (a2 : Int32) (S : sSt) (H : Heap) (locs : List Loc) (ls : Array Slot) (av0 : a0 < 72) (av1 : a1 < 72), kk113 a0 a1 a2 S → RelC D cy b z tx S s H → va_S (gA b 709 z) s.heap H locs → lv_has ls 3 [(0, .ref (b + adC 21 a0)), (1, .ref (b + adC 21 a1)), (2, .int a2)] → W p l e rm_X1_copyFrom s m args below meth c H locs 0 0 (MQ below (PvC D cy b z tx k) args s 0 0 (gA b 709 z)) (F0 m 113 ls [])) : ∀ (a0 : Nat) (a1 : Nat) (a2 : Int32) (S : sSt) (H : Heap) (locs : List Loc) (ls : Array Slot) (av0 : a0 < 72) (av1 : a1 < 72), Bb_X1_copyFrom_113 kk113 a0 a1 a2 S k → RelC D cy b z tx S s H → va_S (gA b 709 z) s.heap H locs → lv_has ls 3 [(0, .ref (b + adC 21 a0)), (1, .ref (b + adC 21 a1)), (2, .int a2)] → W p l e rm_X1_copyFrom s m args below meth c H locs 0 0 (MQ below (PvC D cy b z tx k) args s 0 0 (gA b 709 z)) (F0 m 113 ls []) := by
  intro a0 a1 a2 S H locs ls av0 av1 h hR hS hl
  have hx := C0.1
  have hb := C0.2.1
  unfold Bb_X1_copyFrom_113 at h
  refine lv_iload_n hx hb dX1_copyFrom_113 rfl (lv_at hl 2 rfl) ?_
  refine lv_aload_n hx hb dX1_copyFrom_114 rfl (lv_at hl 0 rfl) ?_
  refine gC_21_2 C0 hR av0 tbs_wsX10 mC0_1_218 dX1_copyFrom_115 ?_
  have w21 : a0 < 72 := by omega
  refine nC_23 C0 hR w21 dX1_copyFrom_118 ?_
  refine lv_icmp_ge (tgt := 151) hx hb dX1_copyFrom_119 (by decide) (fun c22 => ?_) (fun c22 => ?_)
  · have h := h.1 c22
    exact rtC_v C0 hr hlk hR hS h dX1_copyFrom_151
  · have h := h.2 c22
    refine lv_aload_n hx hb dX1_copyFrom_122 rfl (lv_at hl 1 rfl) ?_
    refine lv_iload_n hx hb dX1_copyFrom_123 rfl (lv_at hl 2 rfl) ?_
    refine qC_Vi (As := [.int a2]) (rest := []) C0 (c_X1_isSavedAt l av1 h) (cwV 1 C0.2.2.2.2 (tbV mC0_3_65 ⟨mC0_3_66, mC0_3_67, mC0_1_7, mC0_3_68⟩) rfl rfl rfl (by decide +kernel) ⟨Nat.le_of_ble_eq_true rfl, Nat.le_of_ble_eq_true rfl⟩) (rcC_21 hR av1) hR hT hS rfl hl.1 rfl (Nat.le_of_ble_eq_true rfl) dX1_copyFrom_124 ⟨Nat.zero_le _, Nat.zero_le _⟩ (fun r23 S24 H locs h hR hS => ?_)
    refine lv_if_eq (tgt := 145) hx hb dX1_copyFrom_127 (by decide) (fun c25 => ?_) (fun c25 => ?_)
    · have h := h.1 c25
      exact Bw_X1_copyFrom_145 C0 hr hlk hT ih113 a0 a1 a2 S24 _ _ _ av0 av1 h hR hS (lv_sub hl [0, 1, 2] rfl)
    · have h := h.2 c25
      refine lv_aload_n hx hb dX1_copyFrom_130 rfl (lv_at hl 0 rfl) ?_
      refine gC_21_2 C0 hR av0 tbs_wsX10 mC0_1_218 dX1_copyFrom_131 ?_
      have w27 : a0 < 72 := by omega
      refine lv_iload_n hx hb dX1_copyFrom_134 rfl (lv_at hl 2 rfl) ?_
      obtain ⟨j28, hj28, ej28, h⟩ := h
      refine lC_23 C0 hR w27 hj28 ej28 dX1_copyFrom_135 ?_
      have w29 : (6 * a0 + 2 + j28) < 432 := by omega
      refine lv_aload_n hx hb dX1_copyFrom_136 rfl (lv_at hl 1 rfl) ?_
      refine gC_21_2 C0 hR av1 tbs_wsX10 mC0_1_218 dX1_copyFrom_137 ?_
      have w30 : a1 < 72 := by omega
      refine lv_iload_n hx hb dX1_copyFrom_140 rfl (lv_at hl 2 rfl) ?_
      refine lC_23 C0 hR w30 hj28 ej28 dX1_copyFrom_141 ?_
      have w31 : (6 * a1 + 2 + j28) < 432 := by omega
      refine qC_Vv (As := [.ref (b + adC 22 (6 * a1 + 2 + j28))]) (rest := []) C0 (c_X9_copyFrom l w29 w31 h) (cwV 1 C0.2.2.2.2 (tbV mC0_3_61 ⟨mC0_3_62, mC0_3_63, mC0_1_8, mC0_3_64⟩) rfl rfl rfl (by decide +kernel) ⟨Nat.le_of_ble_eq_true rfl, Nat.le_of_ble_eq_true rfl⟩) (rcC_22 hR w29) hR hT hS rfl hl.1 rfl (Nat.le_of_ble_eq_true rfl) dX1_copyFrom_142 ⟨Nat.zero_le _, Nat.zero_le _⟩ (fun S33 H locs h hR hS => ?_)
      exact Bw_X1_copyFrom_145 C0 hr hlk hT ih113 a0 a1 a2 S33 _ _ _ av0 av1 h hR hS (lv_sub hl [0, 1, 2] rfl)
def B_X1_copyFrom_113 (n9 : Nat) (a0 : Nat) (a1 : Nat) (a2 : Int32) (S : sSt) (k : sSt → Prop) : Prop := (Nat.rec (motive := fun _ => Nat → Nat → Int32 → sSt → Prop) (fun _ _ _ _ => False) (fun _ r9 => fun a0 a1 a2 S => Bb_X1_copyFrom_113 r9 a0 a1 a2 S k) n9 : Nat → Nat → Int32 → sSt → Prop) a0 a1 a2 S
theorem B_X1_copyFrom_113_s (n9 : Nat) (a0 : Nat) (a1 : Nat) (a2 : Int32) (S : sSt) (k : sSt → Prop) : B_X1_copyFrom_113 (n9 + 1) a0 a1 a2 S k = Bb_X1_copyFrom_113 (fun a0 a1 a2 S => B_X1_copyFrom_113 n9 a0 a1 a2 S k) a0 a1 a2 S k := rfl
set_option maxHeartbeats 4000000 in
set_option maxRecDepth 100000 in
theorem Bw_X1_copyFrom_113 {p : Program} {l : Launch} {e : Env} {s : State} {m : MethodId} {args : Array Value} {below : List Frame} {meth : Method} {c : Code} {D : va_G} {cy : Nat → ClassId} {b z : Nat} {tx : TX} (C0 : CallFix p m c cX1_copyFrom 3 s args TB RX1) (hr : meth.sig.returnType = none) (hlk : meth.locks = false) (hT : TxR tx s) {k : sSt → Prop} : ∀ (n9 : Nat), ∀ (a0 : Nat) (a1 : Nat) (a2 : Int32) (S : sSt) (H : Heap) (locs : List Loc) (ls : Array Slot) (av0 : a0 < 72) (av1 : a1 < 72), B_X1_copyFrom_113 n9 a0 a1 a2 S k → RelC D cy b z tx S s H → va_S (gA b 709 z) s.heap H locs → lv_has ls 3 [(0, .ref (b + adC 21 a0)), (1, .ref (b + adC 21 a1)), (2, .int a2)] → W p l e rm_X1_copyFrom s m args below meth c H locs 0 0 (MQ below (PvC D cy b z tx k) args s 0 0 (gA b 709 z)) (F0 m 113 ls []) := by
  intro n9
  induction n9 with
  | zero => intro a0 a1 a2 S H locs ls av0 av1 h; exact h.elim
  | succ n9 ih =>
    intro a0 a1 a2 S H locs ls av0 av1 h hR hS hl
    exact Bbw_X1_copyFrom_113 C0 hr hlk hT ih a0 a1 a2 S H locs ls av0 av1 h hR hS hl
def F_X1_copyFrom (a0 : Nat) (a1 : Nat) (S : sSt) (k : sSt → Prop) : Prop := ∀ S1, S1 = uI S 21 a0 6 (S.1 21 a1 6) → ∀ S2, S2 = uI S1 21 a0 7 (S1.1 21 a1 7) → ∀ S3, S3 = uI S2 21 a0 8 (S2.1 21 a1 8) → ∀ S4, S4 = uI S3 21 a0 9 (S3.1 21 a1 9) → ∀ S5, S5 = uI S4 21 a0 10 (S4.1 21 a1 10) → ∀ S6, S6 = uI S5 21 a0 11 (S5.1 21 a1 11) → ∀ S7, S7 = uI S6 21 a0 12 (S6.1 21 a1 12) → bz (S7.1 21 a1 5) (∀ S8, S8 = uI S7 21 a0 5 (S7.1 21 a1 5) → ∀ S10, S10 = uI S8 21 a0 4 (S8.1 21 a1 4) → ∀ S11, S11 = uI S10 21 a0 3 (S10.1 21 a1 3) → F_X9_copyFrom (6 * a0) (6 * a1) S11 (fun S15 => ((¬ (S15.1 21 a0 4) = (-1) → F_X9_copyFrom (6 * a0 + 1) (6 * a1 + 1) S15 (fun S20 => B_X1_copyFrom_113 fuel a0 a1 0 S20 k)) ∧ ((S15.1 21 a0 4) = (-1) → k S15))))
set_option maxHeartbeats 4000000 in
set_option maxRecDepth 100000 in
theorem c_X1_copyFrom (l : Launch) {D : va_G} {cy : Nat → ClassId} {b z : Nat} {tx : TX} {a0 : Nat} {a1 : Nat} {S : sSt} {k : sSt → Prop} (av0 : a0 < 72) (av1 : a1 < 72) (h : F_X1_copyFrom a0 a1 S k) : Met l yX1_copyFrom (Cond.code yX1_copyFrom cX1_copyFrom 3 none :: TB) rm_X1_copyFrom (va_Pc [.ref (b + adC 21 a0), .ref (b + adC 21 a1)] (fun U => RelC D cy b z tx S U U.heap ∧ TxR tx U)) (PvC D cy b z tx k) 0 0 (gA b 709 z) := by
  refine Met.ofW (cc := cX1_copyFrom) (maxL := 3) (ret := none) (by decide) rfl ?_
  intro p e s m args below meth c s₁ B hml hv
  obtain ⟨rfl, hR, hT⟩ := hv
  have C0 : CallFix p m c cX1_copyFrom 3 s _ TB RX1 := ⟨B.exec, B.bytes, hml, findClass_of_methodNamed B.named, fun w hw => atoms_spec B.pre w (List.mem_cons_of_mem _ hw)⟩
  have hr := B.returns
  have hlk := B.notSynchronized
  have hx := C0.1
  have hb := C0.2.1
  have hS : va_S (gA b 709 z) s.heap s.heap [] := va_S.rf
  have hl := lv_entry ([.ref (b + adC 21 a0), .ref (b + adC 21 a1)]) (n := 3) (Nat.le_of_ble_eq_true rfl)
  rw [lg_entry_eq]
  generalize (lg_sl ([.ref (b + adC 21 a0), .ref (b + adC 21 a1)]) ++ List.replicate (3 - (lg_sl ([.ref (b + adC 21 a0), .ref (b + adC 21 a1)])).length) Slot.unset).toArray = ls at hl ⊢
  have hl : lv_has ls 3 [(0, .ref (b + adC 21 a0)), (1, .ref (b + adC 21 a1))] := hl
  show W p l e rm_X1_copyFrom s m _ below meth c s.heap [] 0 0 (MQ below (PvC D cy b z tx k) _ s 0 0 (gA b 709 z)) _
  unfold F_X1_copyFrom at h
  refine lv_aload_n hx hb dX1_copyFrom_0 rfl (lv_at hl 0 rfl) ?_
  refine lv_aload_n hx hb dX1_copyFrom_1 rfl (lv_at hl 1 rfl) ?_
  refine gC_21_6 C0 hR av1 tbs_wsX10 mC0_1_226 dX1_copyFrom_2 ?_
  refine pC_21_6 C0 hR hS av0 tbs_wsX10 mC0_1_226 dX1_copyFrom_5 (fun S1 eS1 H locs hR hS => ?_)
  have h := h S1 eS1
  refine lv_aload_n hx hb dX1_copyFrom_8 rfl (lv_at hl 0 rfl) ?_
  refine lv_aload_n hx hb dX1_copyFrom_9 rfl (lv_at hl 1 rfl) ?_
  refine gC_21_7 C0 hR av1 tbs_wsX10 mC0_1_233 dX1_copyFrom_10 ?_
  refine pC_21_7 C0 hR hS av0 tbs_wsX10 mC0_1_233 dX1_copyFrom_13 (fun S2 eS2 H locs hR hS => ?_)
  have h := h S2 eS2
  refine lv_aload_n hx hb dX1_copyFrom_16 rfl (lv_at hl 0 rfl) ?_
  refine lv_aload_n hx hb dX1_copyFrom_17 rfl (lv_at hl 1 rfl) ?_
  refine gC_21_8 C0 hR av1 tbs_wsX10 mC0_1_239 dX1_copyFrom_18 ?_
  refine pC_21_8 C0 hR hS av0 tbs_wsX10 mC0_1_239 dX1_copyFrom_21 (fun S3 eS3 H locs hR hS => ?_)
  have h := h S3 eS3
  refine lv_aload_n hx hb dX1_copyFrom_24 rfl (lv_at hl 0 rfl) ?_
  refine lv_aload_n hx hb dX1_copyFrom_25 rfl (lv_at hl 1 rfl) ?_
  refine gC_21_9 C0 hR av1 tbs_wsX10 mC0_2_3 dX1_copyFrom_26 ?_
  refine pC_21_9 C0 hR hS av0 tbs_wsX10 mC0_2_3 dX1_copyFrom_29 (fun S4 eS4 H locs hR hS => ?_)
  have h := h S4 eS4
  refine lv_aload_n hx hb dX1_copyFrom_32 rfl (lv_at hl 0 rfl) ?_
  refine lv_aload_n hx hb dX1_copyFrom_33 rfl (lv_at hl 1 rfl) ?_
  refine gC_21_10 C0 hR av1 tbs_wsX10 mC0_2_8 dX1_copyFrom_34 ?_
  refine pC_21_10 C0 hR hS av0 tbs_wsX10 mC0_2_8 dX1_copyFrom_37 (fun S5 eS5 H locs hR hS => ?_)
  have h := h S5 eS5
  refine lv_aload_n hx hb dX1_copyFrom_40 rfl (lv_at hl 0 rfl) ?_
  refine lv_aload_n hx hb dX1_copyFrom_41 rfl (lv_at hl 1 rfl) ?_
  refine gC_21_11 C0 hR av1 tbs_wsX10 mC0_2_12 dX1_copyFrom_42 ?_
  refine pC_21_11 C0 hR hS av0 tbs_wsX10 mC0_2_12 dX1_copyFrom_45 (fun S6 eS6 H locs hR hS => ?_)
  have h := h S6 eS6
  refine lv_aload_n hx hb dX1_copyFrom_48 rfl (lv_at hl 0 rfl) ?_
  refine lv_aload_n hx hb dX1_copyFrom_49 rfl (lv_at hl 1 rfl) ?_
  refine gC_21_12 C0 hR av1 tbs_wsX10 mC0_2_15 dX1_copyFrom_50 ?_
  refine pC_21_12 C0 hR hS av0 tbs_wsX10 mC0_2_15 dX1_copyFrom_53 (fun S7 eS7 H locs hR hS => ?_)
  have h := h S7 eS7
  refine lv_aload_n hx hb dX1_copyFrom_56 rfl (lv_at hl 0 rfl) ?_
  refine lv_aload_n hx hb dX1_copyFrom_57 rfl (lv_at hl 1 rfl) ?_
  refine gC_21_5 C0 hR av1 tbs_wsX10 mC0_1_223 dX1_copyFrom_58 ?_
  obtain ⟨n9, h⟩ := h
  refine pC_21_5 C0 hR hS av0 tbs_wsX10 mC0_1_223 n9 dX1_copyFrom_61 (fun S8 eS8 H locs hR hS => ?_)
  have h := h S8 eS8
  refine lv_aload_n hx hb dX1_copyFrom_64 rfl (lv_at hl 0 rfl) ?_
  refine lv_aload_n hx hb dX1_copyFrom_65 rfl (lv_at hl 1 rfl) ?_
  refine gC_21_4 C0 hR av1 tbs_wsX10 mC0_1_220 dX1_copyFrom_66 ?_
  refine pC_21_4 C0 hR hS av0 tbs_wsX10 mC0_1_220 dX1_copyFrom_69 (fun S10 eS10 H locs hR hS => ?_)
  have h := h S10 eS10
  refine lv_aload_n hx hb dX1_copyFrom_72 rfl (lv_at hl 0 rfl) ?_
  refine lv_aload_n hx hb dX1_copyFrom_73 rfl (lv_at hl 1 rfl) ?_
  refine gC_21_3 C0 hR av1 tbs_wsX10 mC0_1_219 dX1_copyFrom_74 ?_
  refine pC_21_3 C0 hR hS av0 tbs_wsX10 mC0_1_219 dX1_copyFrom_77 (fun S11 eS11 H locs hR hS => ?_)
  have h := h S11 eS11
  refine lv_aload_n hx hb dX1_copyFrom_80 rfl (lv_at hl 0 rfl) ?_
  refine gC_21_0 C0 hR av0 tbs_wsX10 mC0_1_210 dX1_copyFrom_81 ?_
  have w12 : (6 * a0) < 432 := by omega
  refine lv_aload_n hx hb dX1_copyFrom_84 rfl (lv_at hl 1 rfl) ?_
  refine gC_21_0 C0 hR av1 tbs_wsX10 mC0_1_210 dX1_copyFrom_85 ?_
  have w13 : (6 * a1) < 432 := by omega
  refine qC_Vv (As := [.ref (b + adC 22 (6 * a1))]) (rest := []) C0 (c_X9_copyFrom l w12 w13 h) (cwV 1 C0.2.2.2.2 (tbV mC0_3_61 ⟨mC0_3_62, mC0_3_63, mC0_1_8, mC0_3_64⟩) rfl rfl rfl (by decide +kernel) ⟨Nat.le_of_ble_eq_true rfl, Nat.le_of_ble_eq_true rfl⟩) (rcC_22 hR w12) hR hT hS rfl hl.1 rfl (Nat.le_of_ble_eq_true rfl) dX1_copyFrom_88 ⟨Nat.zero_le _, Nat.zero_le _⟩ (fun S15 H locs h hR hS => ?_)
  refine lv_aload_n hx hb dX1_copyFrom_91 rfl (lv_at hl 0 rfl) ?_
  refine gC_21_4 C0 hR av0 tbs_wsX10 mC0_1_220 dX1_copyFrom_92 ?_
  refine lv_iconst (v := (-1)) hx hb dX1_copyFrom_95 (by decide) ?_
  refine lv_icmp_ne (tgt := 100) hx hb dX1_copyFrom_96 (by decide) (fun c16 => ?_) (fun c16 => ?_)
  · have h := h.1 c16
    refine lv_aload_n hx hb dX1_copyFrom_100 rfl (lv_at hl 0 rfl) ?_
    refine gC_21_1 C0 hR av0 tbs_wsX10 mC0_1_215 dX1_copyFrom_101 ?_
    have w17 : (6 * a0 + 1) < 432 := by omega
    refine lv_aload_n hx hb dX1_copyFrom_104 rfl (lv_at hl 1 rfl) ?_
    refine gC_21_1 C0 hR av1 tbs_wsX10 mC0_1_215 dX1_copyFrom_105 ?_
    have w18 : (6 * a1 + 1) < 432 := by omega
    refine qC_Vv (As := [.ref (b + adC 22 (6 * a1 + 1))]) (rest := []) C0 (c_X9_copyFrom l w17 w18 h) (cwV 1 C0.2.2.2.2 (tbV mC0_3_61 ⟨mC0_3_62, mC0_3_63, mC0_1_8, mC0_3_64⟩) rfl rfl rfl (by decide +kernel) ⟨Nat.le_of_ble_eq_true rfl, Nat.le_of_ble_eq_true rfl⟩) (rcC_22 hR w17) hR hT hS rfl hl.1 rfl (Nat.le_of_ble_eq_true rfl) dX1_copyFrom_108 ⟨Nat.zero_le _, Nat.zero_le _⟩ (fun S20 H locs h hR hS => ?_)
    refine lv_iconst (v := 0) hx hb dX1_copyFrom_111 (by decide) ?_
    refine lv_istore_n (lv' := [(2, .int 0), (0, .ref (b + adC 21 a0)), (1, .ref (b + adC 21 a1))]) hx hb dX1_copyFrom_112 rfl hl (by decide) rfl (fun ls hl => ?_)
    exact Bw_X1_copyFrom_113 C0 hr hlk hT fuel a0 a1 0 S20 _ _ _ av0 av1 h hR hS (lv_sub hl [1, 2, 0] rfl)
  · have h := h.2 c16
    exact rtC_v C0 hr hlk hR hS h dX1_copyFrom_99

def rm_X3_copyFrom : Room := { frames := 0, cells := 0, slots := 0, locals := 0 }
def Bb_X3_copyFrom_83 (kk83 : Nat → Nat → Int32 → sSt → Prop) (a0 : Nat) (a1 : Nat) (a2 : Int32) (S : sSt) (k : sSt → Prop) : Prop := (((S.1 3 a0 7) ≤ a2 → k S) ∧ (¬ (S.1 3 a0 7) ≤ a2 → ((4 ≤ a2 → k S) ∧ (¬ 4 ≤ a2 → ix a2 4 (fun j9 => ∀ S10, S10 = uI S 7 a0 j9 (S.1 7 a1 j9) → ∀ S13, S13 = uI S10 8 a0 j9 (vp_nar .boolean (S10.1 8 a1 j9)) → ∀ x14 : Int32, x14 = a2 + 1 → kk83 a0 a1 x14 S13)))))
set_option maxHeartbeats 4000000 in
set_option maxRecDepth 100000 in
theorem Bbw_X3_copyFrom_83 {p : Program} {l : Launch} {e : Env} {s : State} {m : MethodId} {args : Array Value} {below : List Frame} {meth : Method} {c : Code} {D : va_G} {cy : Nat → ClassId} {b z : Nat} {tx : TX} (C0 : CallFix p m c cX3_copyFrom 3 s args TB RX3) (hr : meth.sig.returnType = none) (hlk : meth.locks = false) (hT : TxR tx s) {k : sSt → Prop} {kk83 : Nat → Nat → Int32 → sSt → Prop} (ih83 : ∀ (a0 : Nat) (a1 : Nat) (a2 : Int32) (S : sSt) (H : Heap) (locs : List Loc) (ls : Array Slot) (av0 : a0 < 13) (av1 : a1 < 13), kk83 a0 a1 a2 S → RelC D cy b z tx S s H → va_S (gA b 709 z) s.heap H locs → lv_has ls 3 [(0, .ref (b + adC 3 a0)), (1, .ref (b + adC 3 a1)), (2, .int a2)] → W p l e rm_X3_copyFrom s m args below meth c H locs 0 0 (MQ below (PvC D cy b z tx k) args s 0 0 (gA b 709 z)) (F0 m 83 ls [])) : ∀ (a0 : Nat) (a1 : Nat) (a2 : Int32) (S : sSt) (H : Heap) (locs : List Loc) (ls : Array Slot) (av0 : a0 < 13) (av1 : a1 < 13), Bb_X3_copyFrom_83 kk83 a0 a1 a2 S k → RelC D cy b z tx S s H → va_S (gA b 709 z) s.heap H locs → lv_has ls 3 [(0, .ref (b + adC 3 a0)), (1, .ref (b + adC 3 a1)), (2, .int a2)] → W p l e rm_X3_copyFrom s m args below meth c H locs 0 0 (MQ below (PvC D cy b z tx k) args s 0 0 (gA b 709 z)) (F0 m 83 ls []) := by
  intro a0 a1 a2 S H locs ls av0 av1 h hR hS hl
  have hx := C0.1
  have hb := C0.2.1
  unfold Bb_X3_copyFrom_83 at h
  refine lv_iload_n hx hb dX3_copyFrom_83 rfl (lv_at hl 2 rfl) ?_
  refine lv_aload_n hx hb dX3_copyFrom_84 rfl (lv_at hl 0 rfl) ?_
  refine gC_3_7 C0 hR av0 tbs_wsX30 mC0_1_76 dX3_copyFrom_85 ?_
  refine lv_icmp_ge (tgt := 126) hx hb dX3_copyFrom_88 (by decide) (fun c5 => ?_) (fun c5 => ?_)
  · have h := h.1 c5
    exact rtC_v C0 hr hlk hR hS h dX3_copyFrom_126
  · have h := h.2 c5
    refine lv_iload_n hx hb dX3_copyFrom_91 rfl (lv_at hl 2 rfl) ?_
    refine lv_iconst (v := 4) hx hb dX3_copyFrom_92 (by decide) ?_
    refine lv_icmp_ge (tgt := 126) hx hb dX3_copyFrom_93 (by decide) (fun c6 => ?_) (fun c6 => ?_)
    · have h := h.1 c6
      exact rtC_v C0 hr hlk hR hS h dX3_copyFrom_126
    · have h := h.2 c6
      refine lv_aload_n hx hb dX3_copyFrom_96 rfl (lv_at hl 0 rfl) ?_
      refine gC_3_3 C0 hR av0 tbs_wsX30 mC0_1_70 dX3_copyFrom_97 ?_
      have w7 : a0 < 13 := by omega
      refine lv_iload_n hx hb dX3_copyFrom_100 rfl (lv_at hl 2 rfl) ?_
      refine lv_aload_n hx hb dX3_copyFrom_101 rfl (lv_at hl 1 rfl) ?_
      refine gC_3_3 C0 hR av1 tbs_wsX30 mC0_1_70 dX3_copyFrom_102 ?_
      have w8 : a1 < 13 := by omega
      refine lv_iload_n hx hb dX3_copyFrom_105 rfl (lv_at hl 2 rfl) ?_
      obtain ⟨j9, hj9, ej9, h⟩ := h
      refine lC_7 C0 hR w8 hj9 ej9 dX3_copyFrom_106 ?_
      refine sC_7 C0 hR hS w7 hj9 ej9 dX3_copyFrom_107 (fun S10 eS10 H locs hR hS => ?_)
      have h := h S10 eS10
      refine lv_aload_n hx hb dX3_copyFrom_108 rfl (lv_at hl 0 rfl) ?_
      refine gC_3_4 C0 hR av0 tbs_wsX30 mC0_1_71 dX3_copyFrom_109 ?_
      have w11 : a0 < 13 := by omega
      refine lv_iload_n hx hb dX3_copyFrom_112 rfl (lv_at hl 2 rfl) ?_
      refine lv_aload_n hx hb dX3_copyFrom_113 rfl (lv_at hl 1 rfl) ?_
      refine gC_3_4 C0 hR av1 tbs_wsX30 mC0_1_71 dX3_copyFrom_114 ?_
      have w12 : a1 < 13 := by omega
      refine lv_iload_n hx hb dX3_copyFrom_117 rfl (lv_at hl 2 rfl) ?_
      refine lC_8 C0 hR w12 hj9 ej9 dX3_copyFrom_118 ?_
      refine sC_8 C0 hR hS w11 hj9 ej9 dX3_copyFrom_119 (fun S13 eS13 H locs hR hS => ?_)
      have h := h S13 eS13
      obtain ⟨x14, ex14⟩ : ∃ x14 : Int32, x14 = a2 + 1 := ⟨_, rfl⟩
      have h := h x14 ex14
      refine w_iinc (v0 := 1) (lv' := [(2, .int x14), (0, .ref (b + adC 3 a0)), (1, .ref (b + adC 3 a1))]) C0 dX3_copyFrom_120 hl (k := 2) rfl (by decide) (by decide) x14 ex14 rfl (fun ls hl => ?_)
      refine lv_goto (tgt := 83) hx hb dX3_copyFrom_123 (by decide) ?_
      exact ih83 a0 a1 x14 S13 _ _ _ av0 av1 h hR hS (lv_sub hl [1, 2, 0] rfl)
def B_X3_copyFrom_83 (n9 : Nat) (a0 : Nat) (a1 : Nat) (a2 : Int32) (S : sSt) (k : sSt → Prop) : Prop := (Nat.rec (motive := fun _ => Nat → Nat → Int32 → sSt → Prop) (fun _ _ _ _ => False) (fun _ r9 => fun a0 a1 a2 S => Bb_X3_copyFrom_83 r9 a0 a1 a2 S k) n9 : Nat → Nat → Int32 → sSt → Prop) a0 a1 a2 S
theorem B_X3_copyFrom_83_s (n9 : Nat) (a0 : Nat) (a1 : Nat) (a2 : Int32) (S : sSt) (k : sSt → Prop) : B_X3_copyFrom_83 (n9 + 1) a0 a1 a2 S k = Bb_X3_copyFrom_83 (fun a0 a1 a2 S => B_X3_copyFrom_83 n9 a0 a1 a2 S k) a0 a1 a2 S k := rfl
set_option maxHeartbeats 4000000 in
set_option maxRecDepth 100000 in
theorem Bw_X3_copyFrom_83 {p : Program} {l : Launch} {e : Env} {s : State} {m : MethodId} {args : Array Value} {below : List Frame} {meth : Method} {c : Code} {D : va_G} {cy : Nat → ClassId} {b z : Nat} {tx : TX} (C0 : CallFix p m c cX3_copyFrom 3 s args TB RX3) (hr : meth.sig.returnType = none) (hlk : meth.locks = false) (hT : TxR tx s) {k : sSt → Prop} : ∀ (n9 : Nat), ∀ (a0 : Nat) (a1 : Nat) (a2 : Int32) (S : sSt) (H : Heap) (locs : List Loc) (ls : Array Slot) (av0 : a0 < 13) (av1 : a1 < 13), B_X3_copyFrom_83 n9 a0 a1 a2 S k → RelC D cy b z tx S s H → va_S (gA b 709 z) s.heap H locs → lv_has ls 3 [(0, .ref (b + adC 3 a0)), (1, .ref (b + adC 3 a1)), (2, .int a2)] → W p l e rm_X3_copyFrom s m args below meth c H locs 0 0 (MQ below (PvC D cy b z tx k) args s 0 0 (gA b 709 z)) (F0 m 83 ls []) := by
  intro n9
  induction n9 with
  | zero => intro a0 a1 a2 S H locs ls av0 av1 h; exact h.elim
  | succ n9 ih =>
    intro a0 a1 a2 S H locs ls av0 av1 h hR hS hl
    exact Bbw_X3_copyFrom_83 C0 hr hlk hT ih a0 a1 a2 S H locs ls av0 av1 h hR hS hl
def B_X3_copyFrom_81 (a0 : Nat) (a1 : Nat) (S : sSt) (k : sSt → Prop) : Prop := B_X3_copyFrom_83 fuel a0 a1 0 S k
set_option maxHeartbeats 4000000 in
set_option maxRecDepth 100000 in
theorem Bw_X3_copyFrom_81 {p : Program} {l : Launch} {e : Env} {s : State} {m : MethodId} {args : Array Value} {below : List Frame} {meth : Method} {c : Code} {D : va_G} {cy : Nat → ClassId} {b z : Nat} {tx : TX} (C0 : CallFix p m c cX3_copyFrom 3 s args TB RX3) (hr : meth.sig.returnType = none) (hlk : meth.locks = false) (hT : TxR tx s) {k : sSt → Prop} : ∀ (a0 : Nat) (a1 : Nat) (S : sSt) (H : Heap) (locs : List Loc) (ls : Array Slot) (av0 : a0 < 13) (av1 : a1 < 13), B_X3_copyFrom_81 a0 a1 S k → RelC D cy b z tx S s H → va_S (gA b 709 z) s.heap H locs → lv_has ls 3 [(0, .ref (b + adC 3 a0)), (1, .ref (b + adC 3 a1))] → W p l e rm_X3_copyFrom s m args below meth c H locs 0 0 (MQ below (PvC D cy b z tx k) args s 0 0 (gA b 709 z)) (F0 m 81 ls []) := by
  intro a0 a1 S H locs ls av0 av1 h hR hS hl
  have hx := C0.1
  have hb := C0.2.1
  unfold B_X3_copyFrom_81 at h
  refine lv_iconst (v := 0) hx hb dX3_copyFrom_81 (by decide) ?_
  refine lv_istore_n (lv' := [(2, .int 0), (0, .ref (b + adC 3 a0)), (1, .ref (b + adC 3 a1))]) hx hb dX3_copyFrom_82 rfl hl (by decide) rfl (fun ls hl => ?_)
  exact Bw_X3_copyFrom_83 C0 hr hlk hT fuel a0 a1 0 S _ _ _ av0 av1 h hR hS (lv_sub hl [1, 2, 0] rfl)
def Bb_X3_copyFrom_26 (kk26 : Nat → Nat → Int32 → sSt → Prop) (a0 : Nat) (a1 : Nat) (a2 : Int32) (S : sSt) (k : sSt → Prop) : Prop := (((S.1 3 a0 6) ≤ a2 → B_X3_copyFrom_81 a0 a1 S k) ∧ (¬ (S.1 3 a0 6) ≤ a2 → ((4 ≤ a2 → B_X3_copyFrom_81 a0 a1 S k) ∧ (¬ 4 ≤ a2 → ix a2 4 (fun j18 => ∀ S19, S19 = uI S 4 a0 j18 (S.1 4 a1 j18) → ∀ S22, S22 = uI S19 5 a0 j18 (vp_nar .char (S19.1 5 a1 j18)) → ∀ S25, S25 = uI S22 6 a0 j18 (S22.1 6 a1 j18) → ∀ x26 : Int32, x26 = a2 + 1 → kk26 a0 a1 x26 S25)))))
set_option maxHeartbeats 4000000 in
set_option maxRecDepth 100000 in
theorem Bbw_X3_copyFrom_26 {p : Program} {l : Launch} {e : Env} {s : State} {m : MethodId} {args : Array Value} {below : List Frame} {meth : Method} {c : Code} {D : va_G} {cy : Nat → ClassId} {b z : Nat} {tx : TX} (C0 : CallFix p m c cX3_copyFrom 3 s args TB RX3) (hr : meth.sig.returnType = none) (hlk : meth.locks = false) (hT : TxR tx s) {k : sSt → Prop} {kk26 : Nat → Nat → Int32 → sSt → Prop} (ih26 : ∀ (a0 : Nat) (a1 : Nat) (a2 : Int32) (S : sSt) (H : Heap) (locs : List Loc) (ls : Array Slot) (av0 : a0 < 13) (av1 : a1 < 13), kk26 a0 a1 a2 S → RelC D cy b z tx S s H → va_S (gA b 709 z) s.heap H locs → lv_has ls 3 [(0, .ref (b + adC 3 a0)), (1, .ref (b + adC 3 a1)), (2, .int a2)] → W p l e rm_X3_copyFrom s m args below meth c H locs 0 0 (MQ below (PvC D cy b z tx k) args s 0 0 (gA b 709 z)) (F0 m 26 ls [])) : ∀ (a0 : Nat) (a1 : Nat) (a2 : Int32) (S : sSt) (H : Heap) (locs : List Loc) (ls : Array Slot) (av0 : a0 < 13) (av1 : a1 < 13), Bb_X3_copyFrom_26 kk26 a0 a1 a2 S k → RelC D cy b z tx S s H → va_S (gA b 709 z) s.heap H locs → lv_has ls 3 [(0, .ref (b + adC 3 a0)), (1, .ref (b + adC 3 a1)), (2, .int a2)] → W p l e rm_X3_copyFrom s m args below meth c H locs 0 0 (MQ below (PvC D cy b z tx k) args s 0 0 (gA b 709 z)) (F0 m 26 ls []) := by
  intro a0 a1 a2 S H locs ls av0 av1 h hR hS hl
  have hx := C0.1
  have hb := C0.2.1
  unfold Bb_X3_copyFrom_26 at h
  refine lv_iload_n hx hb dX3_copyFrom_26 rfl (lv_at hl 2 rfl) ?_
  refine lv_aload_n hx hb dX3_copyFrom_27 rfl (lv_at hl 0 rfl) ?_
  refine gC_3_6 C0 hR av0 tbs_wsX30 mC0_1_75 dX3_copyFrom_28 ?_
  refine lv_icmp_ge (tgt := 81) hx hb dX3_copyFrom_31 (by decide) (fun c4 => ?_) (fun c4 => ?_)
  · have h := h.1 c4
    exact Bw_X3_copyFrom_81 C0 hr hlk hT a0 a1 S _ _ _ av0 av1 h hR hS (lv_sub hl [0, 1] rfl)
  · have h := h.2 c4
    refine lv_iload_n hx hb dX3_copyFrom_34 rfl (lv_at hl 2 rfl) ?_
    refine lv_iconst (v := 4) hx hb dX3_copyFrom_35 (by decide) ?_
    refine lv_icmp_ge (tgt := 81) hx hb dX3_copyFrom_36 (by decide) (fun c15 => ?_) (fun c15 => ?_)
    · have h := h.1 c15
      exact Bw_X3_copyFrom_81 C0 hr hlk hT a0 a1 S _ _ _ av0 av1 h hR hS (lv_sub hl [0, 1] rfl)
    · have h := h.2 c15
      refine lv_aload_n hx hb dX3_copyFrom_39 rfl (lv_at hl 0 rfl) ?_
      refine gC_3_0 C0 hR av0 tbs_wsX30 mC0_1_67 dX3_copyFrom_40 ?_
      have w16 : a0 < 13 := by omega
      refine lv_iload_n hx hb dX3_copyFrom_43 rfl (lv_at hl 2 rfl) ?_
      refine lv_aload_n hx hb dX3_copyFrom_44 rfl (lv_at hl 1 rfl) ?_
      refine gC_3_0 C0 hR av1 tbs_wsX30 mC0_1_67 dX3_copyFrom_45 ?_
      have w17 : a1 < 13 := by omega
      refine lv_iload_n hx hb dX3_copyFrom_48 rfl (lv_at hl 2 rfl) ?_
      obtain ⟨j18, hj18, ej18, h⟩ := h
      refine lC_4 C0 hR w17 hj18 ej18 dX3_copyFrom_49 ?_
      refine sC_4 C0 hR hS w16 hj18 ej18 dX3_copyFrom_50 (fun S19 eS19 H locs hR hS => ?_)
      have h := h S19 eS19
      refine lv_aload_n hx hb dX3_copyFrom_51 rfl (lv_at hl 0 rfl) ?_
      refine gC_3_1 C0 hR av0 tbs_wsX30 mC0_1_68 dX3_copyFrom_52 ?_
      have w20 : a0 < 13 := by omega
      refine lv_iload_n hx hb dX3_copyFrom_55 rfl (lv_at hl 2 rfl) ?_
      refine lv_aload_n hx hb dX3_copyFrom_56 rfl (lv_at hl 1 rfl) ?_
      refine gC_3_1 C0 hR av1 tbs_wsX30 mC0_1_68 dX3_copyFrom_57 ?_
      have w21 : a1 < 13 := by omega
      refine lv_iload_n hx hb dX3_copyFrom_60 rfl (lv_at hl 2 rfl) ?_
      refine lC_5 C0 hR w21 hj18 ej18 dX3_copyFrom_61 ?_
      refine sC_5 C0 hR hS w20 hj18 ej18 dX3_copyFrom_62 (fun S22 eS22 H locs hR hS => ?_)
      have h := h S22 eS22
      refine lv_aload_n hx hb dX3_copyFrom_63 rfl (lv_at hl 0 rfl) ?_
      refine gC_3_2 C0 hR av0 tbs_wsX30 mC0_1_69 dX3_copyFrom_64 ?_
      have w23 : a0 < 13 := by omega
      refine lv_iload_n hx hb dX3_copyFrom_67 rfl (lv_at hl 2 rfl) ?_
      refine lv_aload_n hx hb dX3_copyFrom_68 rfl (lv_at hl 1 rfl) ?_
      refine gC_3_2 C0 hR av1 tbs_wsX30 mC0_1_69 dX3_copyFrom_69 ?_
      have w24 : a1 < 13 := by omega
      refine lv_iload_n hx hb dX3_copyFrom_72 rfl (lv_at hl 2 rfl) ?_
      refine lC_6 C0 hR w24 hj18 ej18 dX3_copyFrom_73 ?_
      refine sC_6 C0 hR hS w23 hj18 ej18 dX3_copyFrom_74 (fun S25 eS25 H locs hR hS => ?_)
      have h := h S25 eS25
      obtain ⟨x26, ex26⟩ : ∃ x26 : Int32, x26 = a2 + 1 := ⟨_, rfl⟩
      have h := h x26 ex26
      refine w_iinc (v0 := 1) (lv' := [(2, .int x26), (0, .ref (b + adC 3 a0)), (1, .ref (b + adC 3 a1))]) C0 dX3_copyFrom_75 hl (k := 2) rfl (by decide) (by decide) x26 ex26 rfl (fun ls hl => ?_)
      refine lv_goto (tgt := 26) hx hb dX3_copyFrom_78 (by decide) ?_
      exact ih26 a0 a1 x26 S25 _ _ _ av0 av1 h hR hS (lv_sub hl [1, 2, 0] rfl)
def B_X3_copyFrom_26 (n9 : Nat) (a0 : Nat) (a1 : Nat) (a2 : Int32) (S : sSt) (k : sSt → Prop) : Prop := (Nat.rec (motive := fun _ => Nat → Nat → Int32 → sSt → Prop) (fun _ _ _ _ => False) (fun _ r9 => fun a0 a1 a2 S => Bb_X3_copyFrom_26 r9 a0 a1 a2 S k) n9 : Nat → Nat → Int32 → sSt → Prop) a0 a1 a2 S
theorem B_X3_copyFrom_26_s (n9 : Nat) (a0 : Nat) (a1 : Nat) (a2 : Int32) (S : sSt) (k : sSt → Prop) : B_X3_copyFrom_26 (n9 + 1) a0 a1 a2 S k = Bb_X3_copyFrom_26 (fun a0 a1 a2 S => B_X3_copyFrom_26 n9 a0 a1 a2 S k) a0 a1 a2 S k := rfl
set_option maxHeartbeats 4000000 in
set_option maxRecDepth 100000 in
theorem Bw_X3_copyFrom_26 {p : Program} {l : Launch} {e : Env} {s : State} {m : MethodId} {args : Array Value} {below : List Frame} {meth : Method} {c : Code} {D : va_G} {cy : Nat → ClassId} {b z : Nat} {tx : TX} (C0 : CallFix p m c cX3_copyFrom 3 s args TB RX3) (hr : meth.sig.returnType = none) (hlk : meth.locks = false) (hT : TxR tx s) {k : sSt → Prop} : ∀ (n9 : Nat), ∀ (a0 : Nat) (a1 : Nat) (a2 : Int32) (S : sSt) (H : Heap) (locs : List Loc) (ls : Array Slot) (av0 : a0 < 13) (av1 : a1 < 13), B_X3_copyFrom_26 n9 a0 a1 a2 S k → RelC D cy b z tx S s H → va_S (gA b 709 z) s.heap H locs → lv_has ls 3 [(0, .ref (b + adC 3 a0)), (1, .ref (b + adC 3 a1)), (2, .int a2)] → W p l e rm_X3_copyFrom s m args below meth c H locs 0 0 (MQ below (PvC D cy b z tx k) args s 0 0 (gA b 709 z)) (F0 m 26 ls []) := by
  intro n9
  induction n9 with
  | zero => intro a0 a1 a2 S H locs ls av0 av1 h; exact h.elim
  | succ n9 ih =>
    intro a0 a1 a2 S H locs ls av0 av1 h hR hS hl
    exact Bbw_X3_copyFrom_26 C0 hr hlk hT ih a0 a1 a2 S H locs ls av0 av1 h hR hS hl
def F_X3_copyFrom (a0 : Nat) (a1 : Nat) (S : sSt) (k : sSt → Prop) : Prop := ∀ S1, S1 = uI S 3 a0 5 (S.1 3 a1 5) → ∀ S2, S2 = uI S1 3 a0 6 (S1.1 3 a1 6) → ∀ S3, S3 = uI S2 3 a0 7 (S2.1 3 a1 7) → B_X3_copyFrom_26 fuel a0 a1 0 S3 k
set_option maxHeartbeats 4000000 in
set_option maxRecDepth 100000 in
theorem c_X3_copyFrom (l : Launch) {D : va_G} {cy : Nat → ClassId} {b z : Nat} {tx : TX} {a0 : Nat} {a1 : Nat} {S : sSt} {k : sSt → Prop} (av0 : a0 < 13) (av1 : a1 < 13) (h : F_X3_copyFrom a0 a1 S k) : Met l yX3_copyFrom (Cond.code yX3_copyFrom cX3_copyFrom 3 none :: TB) rm_X3_copyFrom (va_Pc [.ref (b + adC 3 a0), .ref (b + adC 3 a1)] (fun U => RelC D cy b z tx S U U.heap ∧ TxR tx U)) (PvC D cy b z tx k) 0 0 (gA b 709 z) := by
  refine Met.ofW (cc := cX3_copyFrom) (maxL := 3) (ret := none) (by decide) rfl ?_
  intro p e s m args below meth c s₁ B hml hv
  obtain ⟨rfl, hR, hT⟩ := hv
  have C0 : CallFix p m c cX3_copyFrom 3 s _ TB RX3 := ⟨B.exec, B.bytes, hml, findClass_of_methodNamed B.named, fun w hw => atoms_spec B.pre w (List.mem_cons_of_mem _ hw)⟩
  have hr := B.returns
  have hlk := B.notSynchronized
  have hx := C0.1
  have hb := C0.2.1
  have hS : va_S (gA b 709 z) s.heap s.heap [] := va_S.rf
  have hl := lv_entry ([.ref (b + adC 3 a0), .ref (b + adC 3 a1)]) (n := 3) (Nat.le_of_ble_eq_true rfl)
  rw [lg_entry_eq]
  generalize (lg_sl ([.ref (b + adC 3 a0), .ref (b + adC 3 a1)]) ++ List.replicate (3 - (lg_sl ([.ref (b + adC 3 a0), .ref (b + adC 3 a1)])).length) Slot.unset).toArray = ls at hl ⊢
  have hl : lv_has ls 3 [(0, .ref (b + adC 3 a0)), (1, .ref (b + adC 3 a1))] := hl
  show W p l e rm_X3_copyFrom s m _ below meth c s.heap [] 0 0 (MQ below (PvC D cy b z tx k) _ s 0 0 (gA b 709 z)) _
  unfold F_X3_copyFrom at h
  refine lv_aload_n hx hb dX3_copyFrom_0 rfl (lv_at hl 0 rfl) ?_
  refine lv_aload_n hx hb dX3_copyFrom_1 rfl (lv_at hl 1 rfl) ?_
  refine gC_3_5 C0 hR av1 tbs_wsX30 mC0_1_72 dX3_copyFrom_2 ?_
  refine pC_3_5 C0 hR hS av0 tbs_wsX30 mC0_1_72 dX3_copyFrom_5 (fun S1 eS1 H locs hR hS => ?_)
  have h := h S1 eS1
  refine lv_aload_n hx hb dX3_copyFrom_8 rfl (lv_at hl 0 rfl) ?_
  refine lv_aload_n hx hb dX3_copyFrom_9 rfl (lv_at hl 1 rfl) ?_
  refine gC_3_6 C0 hR av1 tbs_wsX30 mC0_1_75 dX3_copyFrom_10 ?_
  refine pC_3_6 C0 hR hS av0 tbs_wsX30 mC0_1_75 dX3_copyFrom_13 (fun S2 eS2 H locs hR hS => ?_)
  have h := h S2 eS2
  refine lv_aload_n hx hb dX3_copyFrom_16 rfl (lv_at hl 0 rfl) ?_
  refine lv_aload_n hx hb dX3_copyFrom_17 rfl (lv_at hl 1 rfl) ?_
  refine gC_3_7 C0 hR av1 tbs_wsX30 mC0_1_76 dX3_copyFrom_18 ?_
  refine pC_3_7 C0 hR hS av0 tbs_wsX30 mC0_1_76 dX3_copyFrom_21 (fun S3 eS3 H locs hR hS => ?_)
  have h := h S3 eS3
  refine lv_iconst (v := 0) hx hb dX3_copyFrom_24 (by decide) ?_
  refine lv_istore_n (lv' := [(2, .int 0), (0, .ref (b + adC 3 a0)), (1, .ref (b + adC 3 a1))]) hx hb dX3_copyFrom_25 rfl hl (by decide) rfl (fun ls hl => ?_)
  exact Bw_X3_copyFrom_26 C0 hr hlk hT fuel a0 a1 0 S3 _ _ _ av0 av1 h hR hS (lv_sub hl [1, 2, 0] rfl)

def rm_X5_copyFrom : Room := { frames := 1, cells := 0, slots := 0, locals := 22 }
def F_X5_copyFrom (a0 : Nat) (a1 : Nat) (S : sSt) (k : sSt → Prop) : Prop := F_X3_copyFrom (a0 + 1) (a1 + 1) S (fun S4 => ∀ S5, S5 = uI S4 24 a0 1 (S4.1 24 a1 1) → ∀ S6, S6 = uI S5 24 a0 2 (S5.1 24 a1 2) → bz (S6.1 24 a1 3) (∀ S7, S7 = uI S6 24 a0 3 (S6.1 24 a1 3) → ∀ S9, S9 = uI S7 24 a0 4 (S7.1 24 a1 4) → k S9))
set_option maxHeartbeats 4000000 in
set_option maxRecDepth 100000 in
theorem c_X5_copyFrom (l : Launch) {D : va_G} {cy : Nat → ClassId} {b z : Nat} {tx : TX} {a0 : Nat} {a1 : Nat} {S : sSt} {k : sSt → Prop} (av0 : a0 < 12) (av1 : a1 < 12) (h : F_X5_copyFrom a0 a1 S k) : Met l yX5_copyFrom (Cond.code yX5_copyFrom cX5_copyFrom 2 none :: TB) rm_X5_copyFrom (va_Pc [.ref (b + adC 24 a0), .ref (b + adC 24 a1)] (fun U => RelC D cy b z tx S U U.heap ∧ TxR tx U)) (PvC D cy b z tx k) 0 0 (gA b 709 z) := by
  refine Met.ofW (cc := cX5_copyFrom) (maxL := 2) (ret := none) (by decide) rfl ?_
  intro p e s m args below meth c s₁ B hml hv
  obtain ⟨rfl, hR, hT⟩ := hv
  have C0 : CallFix p m c cX5_copyFrom 2 s _ TB RX5 := ⟨B.exec, B.bytes, hml, findClass_of_methodNamed B.named, fun w hw => atoms_spec B.pre w (List.mem_cons_of_mem _ hw)⟩
  have hr := B.returns
  have hlk := B.notSynchronized
  have hx := C0.1
  have hb := C0.2.1
  have hS : va_S (gA b 709 z) s.heap s.heap [] := va_S.rf
  have hl := lv_entry ([.ref (b + adC 24 a0), .ref (b + adC 24 a1)]) (n := 2) (Nat.le_of_ble_eq_true rfl)
  rw [lg_entry_eq]
  generalize (lg_sl ([.ref (b + adC 24 a0), .ref (b + adC 24 a1)]) ++ List.replicate (2 - (lg_sl ([.ref (b + adC 24 a0), .ref (b + adC 24 a1)])).length) Slot.unset).toArray = ls at hl ⊢
  have hl : lv_has ls 2 [(0, .ref (b + adC 24 a0)), (1, .ref (b + adC 24 a1))] := hl
  show W p l e rm_X5_copyFrom s m _ below meth c s.heap [] 0 0 (MQ below (PvC D cy b z tx k) _ s 0 0 (gA b 709 z)) _
  unfold F_X5_copyFrom at h
  refine lv_aload_n hx hb dX5_copyFrom_0 rfl (lv_at hl 0 rfl) ?_
  refine gC_24_0 C0 hR av0 tbs_wsX50 mC0_2_52 dX5_copyFrom_1 ?_
  have w1 : (a0 + 1) < 13 := by omega
  refine lv_aload_n hx hb dX5_copyFrom_4 rfl (lv_at hl 1 rfl) ?_
  refine gC_24_0 C0 hR av1 tbs_wsX50 mC0_2_52 dX5_copyFrom_5 ?_
  have w2 : (a1 + 1) < 13 := by omega
  refine qC_Vv (As := [.ref (b + adC 3 (a1 + 1))]) (rest := []) C0 (c_X3_copyFrom l w1 w2 h) (cwV 1 C0.2.2.2.2 (tbV mC0_3_73 ⟨mC0_3_74, mC0_3_75, mC0_1_3, mC0_3_76⟩) rfl rfl rfl (by decide +kernel) ⟨Nat.le_of_ble_eq_true rfl, Nat.le_of_ble_eq_true rfl⟩) (rcC_3 hR w1) hR hT hS rfl hl.1 rfl (Nat.le_of_ble_eq_true rfl) dX5_copyFrom_8 ⟨Nat.zero_le _, Nat.zero_le _⟩ (fun S4 H locs h hR hS => ?_)
  refine lv_aload_n hx hb dX5_copyFrom_11 rfl (lv_at hl 0 rfl) ?_
  refine lv_aload_n hx hb dX5_copyFrom_12 rfl (lv_at hl 1 rfl) ?_
  refine gC_24_1 C0 hR av1 tbs_wsX50 mC0_2_55 dX5_copyFrom_13 ?_
  refine pC_24_1 C0 hR hS av0 tbs_wsX50 mC0_2_55 dX5_copyFrom_16 (fun S5 eS5 H locs hR hS => ?_)
  have h := h S5 eS5
  refine lv_aload_n hx hb dX5_copyFrom_19 rfl (lv_at hl 0 rfl) ?_
  refine lv_aload_n hx hb dX5_copyFrom_20 rfl (lv_at hl 1 rfl) ?_
  refine gC_24_2 C0 hR av1 tbs_wsX50 mC0_2_58 dX5_copyFrom_21 ?_
  refine pC_24_2 C0 hR hS av0 tbs_wsX50 mC0_2_58 dX5_copyFrom_24 (fun S6 eS6 H locs hR hS => ?_)
  have h := h S6 eS6
  refine lv_aload_n hx hb dX5_copyFrom_27 rfl (lv_at hl 0 rfl) ?_
  refine lv_aload_n hx hb dX5_copyFrom_28 rfl (lv_at hl 1 rfl) ?_
  refine gC_24_3 C0 hR av1 tbs_wsX50 mC0_2_62 dX5_copyFrom_29 ?_
  obtain ⟨n8, h⟩ := h
  refine pC_24_3 C0 hR hS av0 tbs_wsX50 mC0_2_62 n8 dX5_copyFrom_32 (fun S7 eS7 H locs hR hS => ?_)
  have h := h S7 eS7
  refine lv_aload_n hx hb dX5_copyFrom_35 rfl (lv_at hl 0 rfl) ?_
  refine lv_aload_n hx hb dX5_copyFrom_36 rfl (lv_at hl 1 rfl) ?_
  refine gC_24_4 C0 hR av1 tbs_wsX50 mC0_2_65 dX5_copyFrom_37 ?_
  refine pC_24_4 C0 hR hS av0 tbs_wsX50 mC0_2_65 dX5_copyFrom_40 (fun S9 eS9 H locs hR hS => ?_)
  have h := h S9 eS9
  exact rtC_v C0 hr hlk hR hS h dX5_copyFrom_43

def rm_X4_copyFrom : Room := { frames := 0, cells := 0, slots := 0, locals := 0 }
def F_X4_copyFrom (a0 : Nat) (a1 : Nat) (S : sSt) (k : sSt → Prop) : Prop := ∀ S1, S1 = uI S 25 a0 0 (S.1 25 a1 0) → ∀ S2, S2 = uI S1 25 a0 1 (S1.1 25 a1 1) → ∀ S3, S3 = uI S2 25 a0 2 (S2.1 25 a1 2) → ∀ S4, S4 = uI S3 25 a0 3 (S3.1 25 a1 3) → ∀ S5, S5 = uI S4 25 a0 4 (S4.1 25 a1 4) → ∀ S6, S6 = uI S5 25 a0 5 (S5.1 25 a1 5) → ∀ S7, S7 = uI S6 25 a0 6 (S6.1 25 a1 6) → ∀ S8, S8 = uI S7 25 a0 7 (S7.1 25 a1 7) → k S8
set_option maxHeartbeats 4000000 in
set_option maxRecDepth 100000 in
theorem c_X4_copyFrom (l : Launch) {D : va_G} {cy : Nat → ClassId} {b z : Nat} {tx : TX} {a0 : Nat} {a1 : Nat} {S : sSt} {k : sSt → Prop} (av0 : a0 < 12) (av1 : a1 < 12) (h : F_X4_copyFrom a0 a1 S k) : Met l yX4_copyFrom (Cond.code yX4_copyFrom cX4_copyFrom 2 none :: TB) rm_X4_copyFrom (va_Pc [.ref (b + adC 25 a0), .ref (b + adC 25 a1)] (fun U => RelC D cy b z tx S U U.heap ∧ TxR tx U)) (PvC D cy b z tx k) 0 0 (gA b 709 z) := by
  refine Met.ofW (cc := cX4_copyFrom) (maxL := 2) (ret := none) (by decide) rfl ?_
  intro p e s m args below meth c s₁ B hml hv
  obtain ⟨rfl, hR, hT⟩ := hv
  have C0 : CallFix p m c cX4_copyFrom 2 s _ TB RX4 := ⟨B.exec, B.bytes, hml, findClass_of_methodNamed B.named, fun w hw => atoms_spec B.pre w (List.mem_cons_of_mem _ hw)⟩
  have hr := B.returns
  have hlk := B.notSynchronized
  have hx := C0.1
  have hb := C0.2.1
  have hS : va_S (gA b 709 z) s.heap s.heap [] := va_S.rf
  have hl := lv_entry ([.ref (b + adC 25 a0), .ref (b + adC 25 a1)]) (n := 2) (Nat.le_of_ble_eq_true rfl)
  rw [lg_entry_eq]
  generalize (lg_sl ([.ref (b + adC 25 a0), .ref (b + adC 25 a1)]) ++ List.replicate (2 - (lg_sl ([.ref (b + adC 25 a0), .ref (b + adC 25 a1)])).length) Slot.unset).toArray = ls at hl ⊢
  have hl : lv_has ls 2 [(0, .ref (b + adC 25 a0)), (1, .ref (b + adC 25 a1))] := hl
  show W p l e rm_X4_copyFrom s m _ below meth c s.heap [] 0 0 (MQ below (PvC D cy b z tx k) _ s 0 0 (gA b 709 z)) _
  unfold F_X4_copyFrom at h
  refine lv_aload_n hx hb dX4_copyFrom_0 rfl (lv_at hl 0 rfl) ?_
  refine lv_aload_n hx hb dX4_copyFrom_1 rfl (lv_at hl 1 rfl) ?_
  refine gC_25_0 C0 hR av1 tbs_wsX40 mC0_2_84 dX4_copyFrom_2 ?_
  refine pC_25_0 C0 hR hS av0 tbs_wsX40 mC0_2_84 dX4_copyFrom_5 (fun S1 eS1 H locs hR hS => ?_)
  have h := h S1 eS1
  refine lv_aload_n hx hb dX4_copyFrom_8 rfl (lv_at hl 0 rfl) ?_
  refine lv_aload_n hx hb dX4_copyFrom_9 rfl (lv_at hl 1 rfl) ?_
  refine gC_25_1 C0 hR av1 tbs_wsX40 mC0_2_87 dX4_copyFrom_10 ?_
  refine pC_25_1 C0 hR hS av0 tbs_wsX40 mC0_2_87 dX4_copyFrom_13 (fun S2 eS2 H locs hR hS => ?_)
  have h := h S2 eS2
  refine lv_aload_n hx hb dX4_copyFrom_16 rfl (lv_at hl 0 rfl) ?_
  refine lv_aload_n hx hb dX4_copyFrom_17 rfl (lv_at hl 1 rfl) ?_
  refine gC_25_2 C0 hR av1 tbs_wsX40 mC0_2_90 dX4_copyFrom_18 ?_
  refine pC_25_2 C0 hR hS av0 tbs_wsX40 mC0_2_90 dX4_copyFrom_21 (fun S3 eS3 H locs hR hS => ?_)
  have h := h S3 eS3
  refine lv_aload_n hx hb dX4_copyFrom_24 rfl (lv_at hl 0 rfl) ?_
  refine lv_aload_n hx hb dX4_copyFrom_25 rfl (lv_at hl 1 rfl) ?_
  refine gC_25_3 C0 hR av1 tbs_wsX40 mC0_2_93 dX4_copyFrom_26 ?_
  refine pC_25_3 C0 hR hS av0 tbs_wsX40 mC0_2_93 dX4_copyFrom_29 (fun S4 eS4 H locs hR hS => ?_)
  have h := h S4 eS4
  refine lv_aload_n hx hb dX4_copyFrom_32 rfl (lv_at hl 0 rfl) ?_
  refine lv_aload_n hx hb dX4_copyFrom_33 rfl (lv_at hl 1 rfl) ?_
  refine gC_25_4 C0 hR av1 tbs_wsX40 mC0_2_96 dX4_copyFrom_34 ?_
  refine pC_25_4 C0 hR hS av0 tbs_wsX40 mC0_2_96 dX4_copyFrom_37 (fun S5 eS5 H locs hR hS => ?_)
  have h := h S5 eS5
  refine lv_aload_n hx hb dX4_copyFrom_40 rfl (lv_at hl 0 rfl) ?_
  refine lv_aload_n hx hb dX4_copyFrom_41 rfl (lv_at hl 1 rfl) ?_
  refine gC_25_5 C0 hR av1 tbs_wsX40 mC0_2_99 dX4_copyFrom_42 ?_
  refine pC_25_5 C0 hR hS av0 tbs_wsX40 mC0_2_99 dX4_copyFrom_45 (fun S6 eS6 H locs hR hS => ?_)
  have h := h S6 eS6
  refine lv_aload_n hx hb dX4_copyFrom_48 rfl (lv_at hl 0 rfl) ?_
  refine lv_aload_n hx hb dX4_copyFrom_49 rfl (lv_at hl 1 rfl) ?_
  refine gC_25_6 C0 hR av1 tbs_wsX40 mC0_2_102 dX4_copyFrom_50 ?_
  refine pC_25_6 C0 hR hS av0 tbs_wsX40 mC0_2_102 dX4_copyFrom_53 (fun S7 eS7 H locs hR hS => ?_)
  have h := h S7 eS7
  refine lv_aload_n hx hb dX4_copyFrom_56 rfl (lv_at hl 0 rfl) ?_
  refine lv_aload_n hx hb dX4_copyFrom_57 rfl (lv_at hl 1 rfl) ?_
  refine gC_25_7 C0 hR av1 tbs_wsX40 mC0_2_105 dX4_copyFrom_58 ?_
  refine pC_25_7 C0 hR hS av0 tbs_wsX40 mC0_2_105 dX4_copyFrom_61 (fun S8 eS8 H locs hR hS => ?_)
  have h := h S8 eS8
  exact rtC_v C0 hr hlk hR hS h dX4_copyFrom_64

def rm_X2_copyFrom : Room := { frames := 1, cells := 0, slots := 0, locals := 40 }
def F_X2_copyFrom (a0 : Nat) (a1 : Nat) (S : sSt) (k : sSt → Prop) : Prop := ∀ S4, S4 = uA S 20 a0 (va_cpy (S.1 20 a1) (S.1 20 a0) 0 0 300) → ∀ S5, S5 = uI S4 19 a0 1 (S4.1 19 a1 1) → ∀ S6, S6 = uI S5 19 a0 2 (S5.1 19 a1 2) → k S6
set_option maxHeartbeats 4000000 in
set_option maxRecDepth 100000 in
theorem c_X2_copyFrom (l : Launch) {D : va_G} {cy : Nat → ClassId} {b z : Nat} {tx : TX} {a0 : Nat} {a1 : Nat} {S : sSt} {k : sSt → Prop} (av0 : a0 < 3) (av1 : a1 < 3) (h : F_X2_copyFrom a0 a1 S k) : Met l yX2_copyFrom (Cond.code yX2_copyFrom cX2_copyFrom 2 none :: TB) rm_X2_copyFrom (va_Pc [.ref (b + adC 19 a0), .ref (b + adC 19 a1)] (fun U => RelC D cy b z tx S U U.heap ∧ TxR tx U)) (PvC D cy b z tx k) 0 0 (gA b 709 z) := by
  refine Met.ofW (cc := cX2_copyFrom) (maxL := 2) (ret := none) (by decide) rfl ?_
  intro p e s m args below meth c s₁ B hml hv
  obtain ⟨rfl, hR, hT⟩ := hv
  have C0 : CallFix p m c cX2_copyFrom 2 s _ TB RX2 := ⟨B.exec, B.bytes, hml, findClass_of_methodNamed B.named, fun w hw => atoms_spec B.pre w (List.mem_cons_of_mem _ hw)⟩
  have hr := B.returns
  have hlk := B.notSynchronized
  have hx := C0.1
  have hb := C0.2.1
  have hS : va_S (gA b 709 z) s.heap s.heap [] := va_S.rf
  have hl := lv_entry ([.ref (b + adC 19 a0), .ref (b + adC 19 a1)]) (n := 2) (Nat.le_of_ble_eq_true rfl)
  rw [lg_entry_eq]
  generalize (lg_sl ([.ref (b + adC 19 a0), .ref (b + adC 19 a1)]) ++ List.replicate (2 - (lg_sl ([.ref (b + adC 19 a0), .ref (b + adC 19 a1)])).length) Slot.unset).toArray = ls at hl ⊢
  have hl : lv_has ls 2 [(0, .ref (b + adC 19 a0)), (1, .ref (b + adC 19 a1))] := hl
  show W p l e rm_X2_copyFrom s m _ below meth c s.heap [] 0 0 (MQ below (PvC D cy b z tx k) _ s 0 0 (gA b 709 z)) _
  unfold F_X2_copyFrom at h
  refine lv_aload_n hx hb dX2_copyFrom_0 rfl (lv_at hl 1 rfl) ?_
  refine gC_19_0 C0 hR av1 tbs_wsX20 mC0_1_135 dX2_copyFrom_1 ?_
  have w1 : a1 < 3 := by omega
  refine lv_iconst (v := 0) hx hb dX2_copyFrom_4 (by decide) ?_
  refine lv_aload_n hx hb dX2_copyFrom_5 rfl (lv_at hl 0 rfl) ?_
  refine gC_19_0 C0 hR av0 tbs_wsX20 mC0_1_135 dX2_copyFrom_6 ?_
  have w2 : a0 < 3 := by omega
  refine lv_iconst (v := 0) hx hb dX2_copyFrom_9 (by decide) ?_
  refine lv_aload_n hx hb dX2_copyFrom_10 rfl (lv_at hl 0 rfl) ?_
  refine gC_19_0 C0 hR av0 tbs_wsX20 mC0_1_135 dX2_copyFrom_11 ?_
  have w3 : a0 < 3 := by omega
  refine nC_20 C0 hR w3 dX2_copyFrom_14 ?_
  refine cp_20_20 C0 hR hS hl.1 w1 w2 mC0_3_88 mC0_3_83 mC0_3_82 mC0_1_12 (Nat.le_of_ble_eq_true rfl) (Nat.le_of_ble_eq_true rfl) dX2_copyFrom_15 (fun S4 eS4 H locs hR hS => ?_)
  have h := h S4 eS4
  refine lv_aload_n hx hb dX2_copyFrom_18 rfl (lv_at hl 0 rfl) ?_
  refine lv_aload_n hx hb dX2_copyFrom_19 rfl (lv_at hl 1 rfl) ?_
  refine gC_19_1 C0 hR av1 tbs_wsX20 mC0_1_136 dX2_copyFrom_20 ?_
  refine pC_19_1 C0 hR hS av0 tbs_wsX20 mC0_1_136 dX2_copyFrom_23 (fun S5 eS5 H locs hR hS => ?_)
  have h := h S5 eS5
  refine lv_aload_n hx hb dX2_copyFrom_26 rfl (lv_at hl 0 rfl) ?_
  refine lv_aload_n hx hb dX2_copyFrom_27 rfl (lv_at hl 1 rfl) ?_
  refine gC_19_2 C0 hR av1 tbs_wsX20 mC0_1_137 dX2_copyFrom_28 ?_
  refine pC_19_2 C0 hR hS av0 tbs_wsX20 mC0_1_137 dX2_copyFrom_31 (fun S6 eS6 H locs hR hS => ?_)
  have h := h S6 eS6
  exact rtC_v C0 hr hlk hR hS h dX2_copyFrom_34

def rm_X6_copyFrom : Room := { frames := 2, cells := 0, slots := 0, locals := 61 }
def Bb_X6_copyFrom_88 (kk88 : Nat → Nat → Int32 → sSt → Prop) (a0 : Nat) (a1 : Nat) (a2 : Int32) (S : sSt) (k : sSt → Prop) : Prop := (((S.1 13 a0 8) ≤ a2 → ∀ S10, S10 = uA S 17 a0 (va_cpy (S.1 17 a1) (S.1 17 a0) 0 0 6) → ∀ S14, S14 = uA S10 18 a0 (va_cpy (S10.1 18 a1) (S10.1 18 a0) 0 0 5) → F_X2_copyFrom a0 a1 S14 (fun S18 => ∀ S19, S19 = uI S18 13 a0 9 (S18.1 13 a1 9) → ∀ S20, S20 = uI S19 13 a0 10 (S19.1 13 a1 10) → ∀ S21, S21 = uI S20 13 a0 11 (S20.1 13 a1 11) → ∀ S22, S22 = uI S21 13 a0 12 (S21.1 13 a1 12) → ∀ S23, S23 = uI S22 13 a0 13 (S22.1 13 a1 13) → ∀ S24, S24 = uI S23 13 a0 14 (S23.1 13 a1 14) → ∀ S25, S25 = uI S24 13 a0 15 (S24.1 13 a1 15) → k S25)) ∧ (¬ (S.1 13 a0 8) ≤ a2 → ix a2 4 (fun j27 => F_X4_copyFrom (4 * a0 + j27) (4 * a1 + j27) S (fun S32 => ∀ x33 : Int32, x33 = a2 + 1 → kk88 a0 a1 x33 S32))))
set_option maxHeartbeats 4000000 in
set_option maxRecDepth 100000 in
theorem Bbw_X6_copyFrom_88 {p : Program} {l : Launch} {e : Env} {s : State} {m : MethodId} {args : Array Value} {below : List Frame} {meth : Method} {c : Code} {D : va_G} {cy : Nat → ClassId} {b z : Nat} {tx : TX} (C0 : CallFix p m c cX6_copyFrom 3 s args TB RX6) (hr : meth.sig.returnType = none) (hlk : meth.locks = false) (hT : TxR tx s) {k : sSt → Prop} {kk88 : Nat → Nat → Int32 → sSt → Prop} (ih88 : ∀ (a0 : Nat) (a1 : Nat) (a2 : Int32) (S : sSt) (H : Heap) (locs : List Loc) (ls : Array Slot) (av0 : a0 < 3) (av1 : a1 < 3), kk88 a0 a1 a2 S → RelC D cy b z tx S s H → va_S (gA b 709 z) s.heap H locs → lv_has ls 3 [(0, .ref (b + adC 13 a0)), (1, .ref (b + adC 13 a1)), (2, .int a2)] → W p l e rm_X6_copyFrom s m args below meth c H locs 0 0 (MQ below (PvC D cy b z tx k) args s 0 0 (gA b 709 z)) (F0 m 88 ls [])) : ∀ (a0 : Nat) (a1 : Nat) (a2 : Int32) (S : sSt) (H : Heap) (locs : List Loc) (ls : Array Slot) (av0 : a0 < 3) (av1 : a1 < 3), Bb_X6_copyFrom_88 kk88 a0 a1 a2 S k → RelC D cy b z tx S s H → va_S (gA b 709 z) s.heap H locs → lv_has ls 3 [(0, .ref (b + adC 13 a0)), (1, .ref (b + adC 13 a1)), (2, .int a2)] → W p l e rm_X6_copyFrom s m args below meth c H locs 0 0 (MQ below (PvC D cy b z tx k) args s 0 0 (gA b 709 z)) (F0 m 88 ls []) := by
  intro a0 a1 a2 S H locs ls av0 av1 h hR hS hl
  have hx := C0.1
  have hb := C0.2.1
  unfold Bb_X6_copyFrom_88 at h
  refine lv_iload_n hx hb dX6_copyFrom_88 rfl (lv_at hl 2 rfl) ?_
  refine lv_aload_n hx hb dX6_copyFrom_89 rfl (lv_at hl 0 rfl) ?_
  refine gC_13_8 C0 hR av0 tbs_wsX60 mC0_2_153 dX6_copyFrom_90 ?_
  refine lv_icmp_ge (tgt := 117) hx hb dX6_copyFrom_93 (by decide) (fun c6 => ?_) (fun c6 => ?_)
  · have h := h.1 c6
    refine lv_aload_n hx hb dX6_copyFrom_117 rfl (lv_at hl 1 rfl) ?_
    refine gC_13_3 C0 hR av1 tbs_wsX60 mC0_2_136 dX6_copyFrom_118 ?_
    have w7 : a1 < 3 := by omega
    refine lv_iconst (v := 0) hx hb dX6_copyFrom_121 (by decide) ?_
    refine lv_aload_n hx hb dX6_copyFrom_122 rfl (lv_at hl 0 rfl) ?_
    refine gC_13_3 C0 hR av0 tbs_wsX60 mC0_2_136 dX6_copyFrom_123 ?_
    have w8 : a0 < 3 := by omega
    refine lv_iconst (v := 0) hx hb dX6_copyFrom_126 (by decide) ?_
    refine lv_aload_n hx hb dX6_copyFrom_127 rfl (lv_at hl 0 rfl) ?_
    refine gC_13_3 C0 hR av0 tbs_wsX60 mC0_2_136 dX6_copyFrom_128 ?_
    have w9 : a0 < 3 := by omega
    refine nC_17 C0 hR w9 dX6_copyFrom_131 ?_
    refine cp_17_17 C0 hR hS hl.1 w7 w8 mC0_3_81 mC0_3_83 mC0_3_82 mC0_1_12 (Nat.le_of_ble_eq_true rfl) (Nat.le_of_ble_eq_true rfl) dX6_copyFrom_132 (fun S10 eS10 H locs hR hS => ?_)
    have h := h S10 eS10
    refine lv_aload_n hx hb dX6_copyFrom_135 rfl (lv_at hl 1 rfl) ?_
    refine gC_13_4 C0 hR av1 tbs_wsX60 mC0_2_140 dX6_copyFrom_136 ?_
    have w11 : a1 < 3 := by omega
    refine lv_iconst (v := 0) hx hb dX6_copyFrom_139 (by decide) ?_
    refine lv_aload_n hx hb dX6_copyFrom_140 rfl (lv_at hl 0 rfl) ?_
    refine gC_13_4 C0 hR av0 tbs_wsX60 mC0_2_140 dX6_copyFrom_141 ?_
    have w12 : a0 < 3 := by omega
    refine lv_iconst (v := 0) hx hb dX6_copyFrom_144 (by decide) ?_
    refine lv_aload_n hx hb dX6_copyFrom_145 rfl (lv_at hl 0 rfl) ?_
    refine gC_13_4 C0 hR av0 tbs_wsX60 mC0_2_140 dX6_copyFrom_146 ?_
    have w13 : a0 < 3 := by omega
    refine nC_18 C0 hR w13 dX6_copyFrom_149 ?_
    refine cp_18_18 C0 hR hS hl.1 w11 w12 mC0_3_81 mC0_3_83 mC0_3_82 mC0_1_12 (Nat.le_of_ble_eq_true rfl) (Nat.le_of_ble_eq_true rfl) dX6_copyFrom_150 (fun S14 eS14 H locs hR hS => ?_)
    have h := h S14 eS14
    refine lv_aload_n hx hb dX6_copyFrom_153 rfl (lv_at hl 0 rfl) ?_
    refine gC_13_5 C0 hR av0 tbs_wsX60 mC0_2_144 dX6_copyFrom_154 ?_
    have w15 : a0 < 3 := by omega
    refine lv_aload_n hx hb dX6_copyFrom_157 rfl (lv_at hl 1 rfl) ?_
    refine gC_13_5 C0 hR av1 tbs_wsX60 mC0_2_144 dX6_copyFrom_158 ?_
    have w16 : a1 < 3 := by omega
    refine qC_Vv (As := [.ref (b + adC 19 a1)]) (rest := []) C0 (c_X2_copyFrom l w15 w16 h) (cwV 1 C0.2.2.2.2 (tbV mC0_3_84 ⟨mC0_3_85, mC0_3_86, mC0_1_6, mC0_3_87⟩) rfl rfl rfl (by decide +kernel) ⟨Nat.le_of_ble_eq_true rfl, Nat.le_of_ble_eq_true rfl⟩) (rcC_19 hR w15) hR hT hS rfl hl.1 rfl (Nat.le_of_ble_eq_true rfl) dX6_copyFrom_161 ⟨Nat.zero_le _, Nat.zero_le _⟩ (fun S18 H locs h hR hS => ?_)
    refine lv_aload_n hx hb dX6_copyFrom_164 rfl (lv_at hl 0 rfl) ?_
    refine lv_aload_n hx hb dX6_copyFrom_165 rfl (lv_at hl 1 rfl) ?_
    refine gC_13_9 C0 hR av1 tbs_wsX60 mC0_2_156 dX6_copyFrom_166 ?_
    refine pC_13_9 C0 hR hS av0 tbs_wsX60 mC0_2_156 dX6_copyFrom_169 (fun S19 eS19 H locs hR hS => ?_)
    have h := h S19 eS19
    refine lv_aload_n hx hb dX6_copyFrom_172 rfl (lv_at hl 0 rfl) ?_
    refine lv_aload_n hx hb dX6_copyFrom_173 rfl (lv_at hl 1 rfl) ?_
    refine gC_13_10 C0 hR av1 tbs_wsX60 mC0_2_160 dX6_copyFrom_174 ?_
    refine pC_13_10 C0 hR hS av0 tbs_wsX60 mC0_2_160 dX6_copyFrom_177 (fun S20 eS20 H locs hR hS => ?_)
    have h := h S20 eS20
    refine lv_aload_n hx hb dX6_copyFrom_180 rfl (lv_at hl 0 rfl) ?_
    refine lv_aload_n hx hb dX6_copyFrom_181 rfl (lv_at hl 1 rfl) ?_
    refine gC_13_11 C0 hR av1 tbs_wsX60 mC0_2_164 dX6_copyFrom_182 ?_
    refine pC_13_11 C0 hR hS av0 tbs_wsX60 mC0_2_164 dX6_copyFrom_185 (fun S21 eS21 H locs hR hS => ?_)
    have h := h S21 eS21
    refine lv_aload_n hx hb dX6_copyFrom_188 rfl (lv_at hl 0 rfl) ?_
    refine lv_aload_n hx hb dX6_copyFrom_189 rfl (lv_at hl 1 rfl) ?_
    refine gC_13_12 C0 hR av1 tbs_wsX60 mC0_2_167 dX6_copyFrom_190 ?_
    refine pC_13_12 C0 hR hS av0 tbs_wsX60 mC0_2_167 dX6_copyFrom_193 (fun S22 eS22 H locs hR hS => ?_)
    have h := h S22 eS22
    refine lv_aload_n hx hb dX6_copyFrom_196 rfl (lv_at hl 0 rfl) ?_
    refine lv_aload_n hx hb dX6_copyFrom_197 rfl (lv_at hl 1 rfl) ?_
    refine gC_13_13 C0 hR av1 tbs_wsX60 mC0_2_170 dX6_copyFrom_198 ?_
    refine pC_13_13 C0 hR hS av0 tbs_wsX60 mC0_2_170 dX6_copyFrom_201 (fun S23 eS23 H locs hR hS => ?_)
    have h := h S23 eS23
    refine lv_aload_n hx hb dX6_copyFrom_204 rfl (lv_at hl 0 rfl) ?_
    refine lv_aload_n hx hb dX6_copyFrom_205 rfl (lv_at hl 1 rfl) ?_
    refine gC_13_14 C0 hR av1 tbs_wsX60 mC0_2_172 dX6_copyFrom_206 ?_
    refine pC_13_14 C0 hR hS av0 tbs_wsX60 mC0_2_172 dX6_copyFrom_209 (fun S24 eS24 H locs hR hS => ?_)
    have h := h S24 eS24
    refine lv_aload_n hx hb dX6_copyFrom_212 rfl (lv_at hl 0 rfl) ?_
    refine lv_aload_n hx hb dX6_copyFrom_213 rfl (lv_at hl 1 rfl) ?_
    refine gC_13_15 C0 hR av1 tbs_wsX60 mC0_2_174 dX6_copyFrom_214 ?_
    refine pC_13_15 C0 hR hS av0 tbs_wsX60 mC0_2_174 dX6_copyFrom_217 (fun S25 eS25 H locs hR hS => ?_)
    have h := h S25 eS25
    exact rtC_v C0 hr hlk hR hS h dX6_copyFrom_220
  · have h := h.2 c6
    refine lv_aload_n hx hb dX6_copyFrom_96 rfl (lv_at hl 0 rfl) ?_
    refine gC_13_2 C0 hR av0 tbs_wsX60 mC0_2_133 dX6_copyFrom_97 ?_
    have w26 : a0 < 3 := by omega
    refine lv_iload_n hx hb dX6_copyFrom_100 rfl (lv_at hl 2 rfl) ?_
    obtain ⟨j27, hj27, ej27, h⟩ := h
    refine lC_16 C0 hR w26 hj27 ej27 dX6_copyFrom_101 ?_
    have w28 : (4 * a0 + j27) < 12 := by omega
    refine lv_aload_n hx hb dX6_copyFrom_102 rfl (lv_at hl 1 rfl) ?_
    refine gC_13_2 C0 hR av1 tbs_wsX60 mC0_2_133 dX6_copyFrom_103 ?_
    have w29 : a1 < 3 := by omega
    refine lv_iload_n hx hb dX6_copyFrom_106 rfl (lv_at hl 2 rfl) ?_
    refine lC_16 C0 hR w29 hj27 ej27 dX6_copyFrom_107 ?_
    have w30 : (4 * a1 + j27) < 12 := by omega
    refine qC_Vv (As := [.ref (b + adC 25 (4 * a1 + j27))]) (rest := []) C0 (c_X4_copyFrom l w28 w30 h) (cwV 1 C0.2.2.2.2 (tbV mC0_3_77 ⟨mC0_3_78, mC0_3_79, mC0_1_10, mC0_3_80⟩) rfl rfl rfl (by decide +kernel) ⟨Nat.le_of_ble_eq_true rfl, Nat.le_of_ble_eq_true rfl⟩) (rcC_25 hR w28) hR hT hS rfl hl.1 rfl (Nat.le_of_ble_eq_true rfl) dX6_copyFrom_108 ⟨Nat.zero_le _, Nat.zero_le _⟩ (fun S32 H locs h hR hS => ?_)
    obtain ⟨x33, ex33⟩ : ∃ x33 : Int32, x33 = a2 + 1 := ⟨_, rfl⟩
    have h := h x33 ex33
    refine w_iinc (v0 := 1) (lv' := [(2, .int x33), (0, .ref (b + adC 13 a0)), (1, .ref (b + adC 13 a1))]) C0 dX6_copyFrom_111 hl (k := 2) rfl (by decide) (by decide) x33 ex33 rfl (fun ls hl => ?_)
    refine lv_goto (tgt := 88) hx hb dX6_copyFrom_114 (by decide) ?_
    exact ih88 a0 a1 x33 S32 _ _ _ av0 av1 h hR hS (lv_sub hl [1, 2, 0] rfl)
def B_X6_copyFrom_88 (n9 : Nat) (a0 : Nat) (a1 : Nat) (a2 : Int32) (S : sSt) (k : sSt → Prop) : Prop := (Nat.rec (motive := fun _ => Nat → Nat → Int32 → sSt → Prop) (fun _ _ _ _ => False) (fun _ r9 => fun a0 a1 a2 S => Bb_X6_copyFrom_88 r9 a0 a1 a2 S k) n9 : Nat → Nat → Int32 → sSt → Prop) a0 a1 a2 S
theorem B_X6_copyFrom_88_s (n9 : Nat) (a0 : Nat) (a1 : Nat) (a2 : Int32) (S : sSt) (k : sSt → Prop) : B_X6_copyFrom_88 (n9 + 1) a0 a1 a2 S k = Bb_X6_copyFrom_88 (fun a0 a1 a2 S => B_X6_copyFrom_88 n9 a0 a1 a2 S k) a0 a1 a2 S k := rfl
set_option maxHeartbeats 4000000 in
set_option maxRecDepth 100000 in
theorem Bw_X6_copyFrom_88 {p : Program} {l : Launch} {e : Env} {s : State} {m : MethodId} {args : Array Value} {below : List Frame} {meth : Method} {c : Code} {D : va_G} {cy : Nat → ClassId} {b z : Nat} {tx : TX} (C0 : CallFix p m c cX6_copyFrom 3 s args TB RX6) (hr : meth.sig.returnType = none) (hlk : meth.locks = false) (hT : TxR tx s) {k : sSt → Prop} : ∀ (n9 : Nat), ∀ (a0 : Nat) (a1 : Nat) (a2 : Int32) (S : sSt) (H : Heap) (locs : List Loc) (ls : Array Slot) (av0 : a0 < 3) (av1 : a1 < 3), B_X6_copyFrom_88 n9 a0 a1 a2 S k → RelC D cy b z tx S s H → va_S (gA b 709 z) s.heap H locs → lv_has ls 3 [(0, .ref (b + adC 13 a0)), (1, .ref (b + adC 13 a1)), (2, .int a2)] → W p l e rm_X6_copyFrom s m args below meth c H locs 0 0 (MQ below (PvC D cy b z tx k) args s 0 0 (gA b 709 z)) (F0 m 88 ls []) := by
  intro n9
  induction n9 with
  | zero => intro a0 a1 a2 S H locs ls av0 av1 h; exact h.elim
  | succ n9 ih =>
    intro a0 a1 a2 S H locs ls av0 av1 h hR hS hl
    exact Bbw_X6_copyFrom_88 C0 hr hlk hT ih a0 a1 a2 S H locs ls av0 av1 h hR hS hl
def Bb_X6_copyFrom_49 (kk49 : Nat → Nat → Int32 → sSt → Prop) (a0 : Nat) (a1 : Nat) (a2 : Int32) (S : sSt) (k : sSt → Prop) : Prop := (((S.1 13 a0 7) ≤ a2 → ∀ S5, S5 = uI S 13 a0 8 (S.1 13 a1 8) → B_X6_copyFrom_88 fuel a0 a1 0 S5 k) ∧ (¬ (S.1 13 a0 7) ≤ a2 → ix a2 4 (fun j35 => F_X5_copyFrom (4 * a0 + j35) (4 * a1 + j35) S (fun S40 => ∀ x41 : Int32, x41 = a2 + 1 → kk49 a0 a1 x41 S40))))
set_option maxHeartbeats 4000000 in
set_option maxRecDepth 100000 in
theorem Bbw_X6_copyFrom_49 {p : Program} {l : Launch} {e : Env} {s : State} {m : MethodId} {args : Array Value} {below : List Frame} {meth : Method} {c : Code} {D : va_G} {cy : Nat → ClassId} {b z : Nat} {tx : TX} (C0 : CallFix p m c cX6_copyFrom 3 s args TB RX6) (hr : meth.sig.returnType = none) (hlk : meth.locks = false) (hT : TxR tx s) {k : sSt → Prop} {kk49 : Nat → Nat → Int32 → sSt → Prop} (ih49 : ∀ (a0 : Nat) (a1 : Nat) (a2 : Int32) (S : sSt) (H : Heap) (locs : List Loc) (ls : Array Slot) (av0 : a0 < 3) (av1 : a1 < 3), kk49 a0 a1 a2 S → RelC D cy b z tx S s H → va_S (gA b 709 z) s.heap H locs → lv_has ls 3 [(0, .ref (b + adC 13 a0)), (1, .ref (b + adC 13 a1)), (2, .int a2)] → W p l e rm_X6_copyFrom s m args below meth c H locs 0 0 (MQ below (PvC D cy b z tx k) args s 0 0 (gA b 709 z)) (F0 m 49 ls [])) : ∀ (a0 : Nat) (a1 : Nat) (a2 : Int32) (S : sSt) (H : Heap) (locs : List Loc) (ls : Array Slot) (av0 : a0 < 3) (av1 : a1 < 3), Bb_X6_copyFrom_49 kk49 a0 a1 a2 S k → RelC D cy b z tx S s H → va_S (gA b 709 z) s.heap H locs → lv_has ls 3 [(0, .ref (b + adC 13 a0)), (1, .ref (b + adC 13 a1)), (2, .int a2)] → W p l e rm_X6_copyFrom s m args below meth c H locs 0 0 (MQ below (PvC D cy b z tx k) args s 0 0 (gA b 709 z)) (F0 m 49 ls []) := by
  intro a0 a1 a2 S H locs ls av0 av1 h hR hS hl
  have hx := C0.1
  have hb := C0.2.1
  unfold Bb_X6_copyFrom_49 at h
  refine lv_iload_n hx hb dX6_copyFrom_49 rfl (lv_at hl 2 rfl) ?_
  refine lv_aload_n hx hb dX6_copyFrom_50 rfl (lv_at hl 0 rfl) ?_
  refine gC_13_7 C0 hR av0 tbs_wsX60 mC0_2_150 dX6_copyFrom_51 ?_
  refine lv_icmp_ge (tgt := 78) hx hb dX6_copyFrom_54 (by decide) (fun c4 => ?_) (fun c4 => ?_)
  · have h := h.1 c4
    refine lv_aload_n hx hb dX6_copyFrom_78 rfl (lv_at hl 0 rfl) ?_
    refine lv_aload_n hx hb dX6_copyFrom_79 rfl (lv_at hl 1 rfl) ?_
    refine gC_13_8 C0 hR av1 tbs_wsX60 mC0_2_153 dX6_copyFrom_80 ?_
    refine pC_13_8 C0 hR hS av0 tbs_wsX60 mC0_2_153 dX6_copyFrom_83 (fun S5 eS5 H locs hR hS => ?_)
    have h := h S5 eS5
    refine lv_iconst (v := 0) hx hb dX6_copyFrom_86 (by decide) ?_
    refine lv_istore_n (lv' := [(2, .int 0), (0, .ref (b + adC 13 a0)), (1, .ref (b + adC 13 a1))]) hx hb dX6_copyFrom_87 rfl hl (by decide) rfl (fun ls hl => ?_)
    exact Bw_X6_copyFrom_88 C0 hr hlk hT fuel a0 a1 0 S5 _ _ _ av0 av1 h hR hS (lv_sub hl [1, 2, 0] rfl)
  · have h := h.2 c4
    refine lv_aload_n hx hb dX6_copyFrom_57 rfl (lv_at hl 0 rfl) ?_
    refine gC_13_1 C0 hR av0 tbs_wsX60 mC0_2_129 dX6_copyFrom_58 ?_
    have w34 : a0 < 3 := by omega
    refine lv_iload_n hx hb dX6_copyFrom_61 rfl (lv_at hl 2 rfl) ?_
    obtain ⟨j35, hj35, ej35, h⟩ := h
    refine lC_15 C0 hR w34 hj35 ej35 dX6_copyFrom_62 ?_
    have w36 : (4 * a0 + j35) < 12 := by omega
    refine lv_aload_n hx hb dX6_copyFrom_63 rfl (lv_at hl 1 rfl) ?_
    refine gC_13_1 C0 hR av1 tbs_wsX60 mC0_2_129 dX6_copyFrom_64 ?_
    have w37 : a1 < 3 := by omega
    refine lv_iload_n hx hb dX6_copyFrom_67 rfl (lv_at hl 2 rfl) ?_
    refine lC_15 C0 hR w37 hj35 ej35 dX6_copyFrom_68 ?_
    have w38 : (4 * a1 + j35) < 12 := by omega
    refine qC_Vv (As := [.ref (b + adC 24 (4 * a1 + j35))]) (rest := []) C0 (c_X5_copyFrom l w36 w38 h) (cwV 1 C0.2.2.2.2 (tbV mC0_3_69 ⟨mC0_3_70, mC0_3_71, mC0_1_9, mC0_3_72⟩) rfl rfl rfl (by decide +kernel) ⟨Nat.le_of_ble_eq_true rfl, Nat.le_of_ble_eq_true rfl⟩) (rcC_24 hR w36) hR hT hS rfl hl.1 rfl (Nat.le_of_ble_eq_true rfl) dX6_copyFrom_69 ⟨Nat.zero_le _, Nat.zero_le _⟩ (fun S40 H locs h hR hS => ?_)
    obtain ⟨x41, ex41⟩ : ∃ x41 : Int32, x41 = a2 + 1 := ⟨_, rfl⟩
    have h := h x41 ex41
    refine w_iinc (v0 := 1) (lv' := [(2, .int x41), (0, .ref (b + adC 13 a0)), (1, .ref (b + adC 13 a1))]) C0 dX6_copyFrom_72 hl (k := 2) rfl (by decide) (by decide) x41 ex41 rfl (fun ls hl => ?_)
    refine lv_goto (tgt := 49) hx hb dX6_copyFrom_75 (by decide) ?_
    exact ih49 a0 a1 x41 S40 _ _ _ av0 av1 h hR hS (lv_sub hl [1, 2, 0] rfl)
def B_X6_copyFrom_49 (n9 : Nat) (a0 : Nat) (a1 : Nat) (a2 : Int32) (S : sSt) (k : sSt → Prop) : Prop := (Nat.rec (motive := fun _ => Nat → Nat → Int32 → sSt → Prop) (fun _ _ _ _ => False) (fun _ r9 => fun a0 a1 a2 S => Bb_X6_copyFrom_49 r9 a0 a1 a2 S k) n9 : Nat → Nat → Int32 → sSt → Prop) a0 a1 a2 S
theorem B_X6_copyFrom_49_s (n9 : Nat) (a0 : Nat) (a1 : Nat) (a2 : Int32) (S : sSt) (k : sSt → Prop) : B_X6_copyFrom_49 (n9 + 1) a0 a1 a2 S k = Bb_X6_copyFrom_49 (fun a0 a1 a2 S => B_X6_copyFrom_49 n9 a0 a1 a2 S k) a0 a1 a2 S k := rfl
set_option maxHeartbeats 4000000 in
set_option maxRecDepth 100000 in
theorem Bw_X6_copyFrom_49 {p : Program} {l : Launch} {e : Env} {s : State} {m : MethodId} {args : Array Value} {below : List Frame} {meth : Method} {c : Code} {D : va_G} {cy : Nat → ClassId} {b z : Nat} {tx : TX} (C0 : CallFix p m c cX6_copyFrom 3 s args TB RX6) (hr : meth.sig.returnType = none) (hlk : meth.locks = false) (hT : TxR tx s) {k : sSt → Prop} : ∀ (n9 : Nat), ∀ (a0 : Nat) (a1 : Nat) (a2 : Int32) (S : sSt) (H : Heap) (locs : List Loc) (ls : Array Slot) (av0 : a0 < 3) (av1 : a1 < 3), B_X6_copyFrom_49 n9 a0 a1 a2 S k → RelC D cy b z tx S s H → va_S (gA b 709 z) s.heap H locs → lv_has ls 3 [(0, .ref (b + adC 13 a0)), (1, .ref (b + adC 13 a1)), (2, .int a2)] → W p l e rm_X6_copyFrom s m args below meth c H locs 0 0 (MQ below (PvC D cy b z tx k) args s 0 0 (gA b 709 z)) (F0 m 49 ls []) := by
  intro n9
  induction n9 with
  | zero => intro a0 a1 a2 S H locs ls av0 av1 h; exact h.elim
  | succ n9 ih =>
    intro a0 a1 a2 S H locs ls av0 av1 h hR hS hl
    exact Bbw_X6_copyFrom_49 C0 hr hlk hT ih a0 a1 a2 S H locs ls av0 av1 h hR hS hl
def Bb_X6_copyFrom_10 (kk10 : Nat → Nat → Int32 → sSt → Prop) (a0 : Nat) (a1 : Nat) (a2 : Int32) (S : sSt) (k : sSt → Prop) : Prop := (((S.1 13 a0 6) ≤ a2 → ∀ S3, S3 = uI S 13 a0 7 (S.1 13 a1 7) → B_X6_copyFrom_49 fuel a0 a1 0 S3 k) ∧ (¬ (S.1 13 a0 6) ≤ a2 → ix a2 24 (fun j43 => F_X1_copyFrom (S.2 14 a0 j43) (S.2 14 a1 j43) S (fun S48 => ∀ x49 : Int32, x49 = a2 + 1 → kk10 a0 a1 x49 S48))))
set_option maxHeartbeats 4000000 in
set_option maxRecDepth 100000 in
theorem Bbw_X6_copyFrom_10 {p : Program} {l : Launch} {e : Env} {s : State} {m : MethodId} {args : Array Value} {below : List Frame} {meth : Method} {c : Code} {D : va_G} {cy : Nat → ClassId} {b z : Nat} {tx : TX} (C0 : CallFix p m c cX6_copyFrom 3 s args TB RX6) (hr : meth.sig.returnType = none) (hlk : meth.locks = false) (hT : TxR tx s) {k : sSt → Prop} {kk10 : Nat → Nat → Int32 → sSt → Prop} (ih10 : ∀ (a0 : Nat) (a1 : Nat) (a2 : Int32) (S : sSt) (H : Heap) (locs : List Loc) (ls : Array Slot) (av0 : a0 < 3) (av1 : a1 < 3), kk10 a0 a1 a2 S → RelC D cy b z tx S s H → va_S (gA b 709 z) s.heap H locs → lv_has ls 3 [(0, .ref (b + adC 13 a0)), (1, .ref (b + adC 13 a1)), (2, .int a2)] → W p l e rm_X6_copyFrom s m args below meth c H locs 0 0 (MQ below (PvC D cy b z tx k) args s 0 0 (gA b 709 z)) (F0 m 10 ls [])) : ∀ (a0 : Nat) (a1 : Nat) (a2 : Int32) (S : sSt) (H : Heap) (locs : List Loc) (ls : Array Slot) (av0 : a0 < 3) (av1 : a1 < 3), Bb_X6_copyFrom_10 kk10 a0 a1 a2 S k → RelC D cy b z tx S s H → va_S (gA b 709 z) s.heap H locs → lv_has ls 3 [(0, .ref (b + adC 13 a0)), (1, .ref (b + adC 13 a1)), (2, .int a2)] → W p l e rm_X6_copyFrom s m args below meth c H locs 0 0 (MQ below (PvC D cy b z tx k) args s 0 0 (gA b 709 z)) (F0 m 10 ls []) := by
  intro a0 a1 a2 S H locs ls av0 av1 h hR hS hl
  have hx := C0.1
  have hb := C0.2.1
  unfold Bb_X6_copyFrom_10 at h
  refine lv_iload_n hx hb dX6_copyFrom_10 rfl (lv_at hl 2 rfl) ?_
  refine lv_aload_n hx hb dX6_copyFrom_11 rfl (lv_at hl 0 rfl) ?_
  refine gC_13_6 C0 hR av0 tbs_wsX60 mC0_2_146 dX6_copyFrom_12 ?_
  refine lv_icmp_ge (tgt := 39) hx hb dX6_copyFrom_15 (by decide) (fun c2 => ?_) (fun c2 => ?_)
  · have h := h.1 c2
    refine lv_aload_n hx hb dX6_copyFrom_39 rfl (lv_at hl 0 rfl) ?_
    refine lv_aload_n hx hb dX6_copyFrom_40 rfl (lv_at hl 1 rfl) ?_
    refine gC_13_7 C0 hR av1 tbs_wsX60 mC0_2_150 dX6_copyFrom_41 ?_
    refine pC_13_7 C0 hR hS av0 tbs_wsX60 mC0_2_150 dX6_copyFrom_44 (fun S3 eS3 H locs hR hS => ?_)
    have h := h S3 eS3
    refine lv_iconst (v := 0) hx hb dX6_copyFrom_47 (by decide) ?_
    refine lv_istore_n (lv' := [(2, .int 0), (0, .ref (b + adC 13 a0)), (1, .ref (b + adC 13 a1))]) hx hb dX6_copyFrom_48 rfl hl (by decide) rfl (fun ls hl => ?_)
    exact Bw_X6_copyFrom_49 C0 hr hlk hT fuel a0 a1 0 S3 _ _ _ av0 av1 h hR hS (lv_sub hl [1, 2, 0] rfl)
  · have h := h.2 c2
    refine lv_aload_n hx hb dX6_copyFrom_18 rfl (lv_at hl 0 rfl) ?_
    refine gC_13_0 C0 hR av0 tbs_wsX60 mC0_2_126 dX6_copyFrom_19 ?_
    have w42 : a0 < 3 := by omega
    refine lv_iload_n hx hb dX6_copyFrom_22 rfl (lv_at hl 2 rfl) ?_
    obtain ⟨j43, hj43, ej43, h⟩ := h
    refine lC_14 C0 hR w42 hj43 ej43 dX6_copyFrom_23 ?_
    have w44 : (S.2 14 a0 j43) < 72 := hR.2.1.1 _ _ w42 hj43
    refine lv_aload_n hx hb dX6_copyFrom_24 rfl (lv_at hl 1 rfl) ?_
    refine gC_13_0 C0 hR av1 tbs_wsX60 mC0_2_126 dX6_copyFrom_25 ?_
    have w45 : a1 < 3 := by omega
    refine lv_iload_n hx hb dX6_copyFrom_28 rfl (lv_at hl 2 rfl) ?_
    refine lC_14 C0 hR w45 hj43 ej43 dX6_copyFrom_29 ?_
    have w46 : (S.2 14 a1 j43) < 72 := hR.2.1.1 _ _ w45 hj43
    refine qC_Vv (As := [.ref (b + adC 21 (S.2 14 a1 j43))]) (rest := []) C0 (c_X1_copyFrom l w44 w46 h) (cwV 1 C0.2.2.2.2 (tbV mC0_3_57 ⟨mC0_3_58, mC0_3_59, mC0_1_7, mC0_3_60⟩) rfl rfl rfl (by decide +kernel) ⟨Nat.le_of_ble_eq_true rfl, Nat.le_of_ble_eq_true rfl⟩) (rcC_21 hR w44) hR hT hS rfl hl.1 rfl (Nat.le_of_ble_eq_true rfl) dX6_copyFrom_30 ⟨Nat.zero_le _, Nat.zero_le _⟩ (fun S48 H locs h hR hS => ?_)
    obtain ⟨x49, ex49⟩ : ∃ x49 : Int32, x49 = a2 + 1 := ⟨_, rfl⟩
    have h := h x49 ex49
    refine w_iinc (v0 := 1) (lv' := [(2, .int x49), (0, .ref (b + adC 13 a0)), (1, .ref (b + adC 13 a1))]) C0 dX6_copyFrom_33 hl (k := 2) rfl (by decide) (by decide) x49 ex49 rfl (fun ls hl => ?_)
    refine lv_goto (tgt := 10) hx hb dX6_copyFrom_36 (by decide) ?_
    exact ih10 a0 a1 x49 S48 _ _ _ av0 av1 h hR hS (lv_sub hl [1, 2, 0] rfl)
def B_X6_copyFrom_10 (n9 : Nat) (a0 : Nat) (a1 : Nat) (a2 : Int32) (S : sSt) (k : sSt → Prop) : Prop := (Nat.rec (motive := fun _ => Nat → Nat → Int32 → sSt → Prop) (fun _ _ _ _ => False) (fun _ r9 => fun a0 a1 a2 S => Bb_X6_copyFrom_10 r9 a0 a1 a2 S k) n9 : Nat → Nat → Int32 → sSt → Prop) a0 a1 a2 S
theorem B_X6_copyFrom_10_s (n9 : Nat) (a0 : Nat) (a1 : Nat) (a2 : Int32) (S : sSt) (k : sSt → Prop) : B_X6_copyFrom_10 (n9 + 1) a0 a1 a2 S k = Bb_X6_copyFrom_10 (fun a0 a1 a2 S => B_X6_copyFrom_10 n9 a0 a1 a2 S k) a0 a1 a2 S k := rfl
set_option maxHeartbeats 4000000 in
set_option maxRecDepth 100000 in
theorem Bw_X6_copyFrom_10 {p : Program} {l : Launch} {e : Env} {s : State} {m : MethodId} {args : Array Value} {below : List Frame} {meth : Method} {c : Code} {D : va_G} {cy : Nat → ClassId} {b z : Nat} {tx : TX} (C0 : CallFix p m c cX6_copyFrom 3 s args TB RX6) (hr : meth.sig.returnType = none) (hlk : meth.locks = false) (hT : TxR tx s) {k : sSt → Prop} : ∀ (n9 : Nat), ∀ (a0 : Nat) (a1 : Nat) (a2 : Int32) (S : sSt) (H : Heap) (locs : List Loc) (ls : Array Slot) (av0 : a0 < 3) (av1 : a1 < 3), B_X6_copyFrom_10 n9 a0 a1 a2 S k → RelC D cy b z tx S s H → va_S (gA b 709 z) s.heap H locs → lv_has ls 3 [(0, .ref (b + adC 13 a0)), (1, .ref (b + adC 13 a1)), (2, .int a2)] → W p l e rm_X6_copyFrom s m args below meth c H locs 0 0 (MQ below (PvC D cy b z tx k) args s 0 0 (gA b 709 z)) (F0 m 10 ls []) := by
  intro n9
  induction n9 with
  | zero => intro a0 a1 a2 S H locs ls av0 av1 h; exact h.elim
  | succ n9 ih =>
    intro a0 a1 a2 S H locs ls av0 av1 h hR hS hl
    exact Bbw_X6_copyFrom_10 C0 hr hlk hT ih a0 a1 a2 S H locs ls av0 av1 h hR hS hl
def F_X6_copyFrom (a0 : Nat) (a1 : Nat) (S : sSt) (k : sSt → Prop) : Prop := ∀ S1, S1 = uI S 13 a0 6 (S.1 13 a1 6) → B_X6_copyFrom_10 fuel a0 a1 0 S1 k
set_option maxHeartbeats 4000000 in
set_option maxRecDepth 100000 in
theorem c_X6_copyFrom (l : Launch) {D : va_G} {cy : Nat → ClassId} {b z : Nat} {tx : TX} {a0 : Nat} {a1 : Nat} {S : sSt} {k : sSt → Prop} (av0 : a0 < 3) (av1 : a1 < 3) (h : F_X6_copyFrom a0 a1 S k) : Met l yX6_copyFrom (Cond.code yX6_copyFrom cX6_copyFrom 3 none :: TB) rm_X6_copyFrom (va_Pc [.ref (b + adC 13 a0), .ref (b + adC 13 a1)] (fun U => RelC D cy b z tx S U U.heap ∧ TxR tx U)) (PvC D cy b z tx k) 0 0 (gA b 709 z) := by
  refine Met.ofW (cc := cX6_copyFrom) (maxL := 3) (ret := none) (by decide) rfl ?_
  intro p e s m args below meth c s₁ B hml hv
  obtain ⟨rfl, hR, hT⟩ := hv
  have C0 : CallFix p m c cX6_copyFrom 3 s _ TB RX6 := ⟨B.exec, B.bytes, hml, findClass_of_methodNamed B.named, fun w hw => atoms_spec B.pre w (List.mem_cons_of_mem _ hw)⟩
  have hr := B.returns
  have hlk := B.notSynchronized
  have hx := C0.1
  have hb := C0.2.1
  have hS : va_S (gA b 709 z) s.heap s.heap [] := va_S.rf
  have hl := lv_entry ([.ref (b + adC 13 a0), .ref (b + adC 13 a1)]) (n := 3) (Nat.le_of_ble_eq_true rfl)
  rw [lg_entry_eq]
  generalize (lg_sl ([.ref (b + adC 13 a0), .ref (b + adC 13 a1)]) ++ List.replicate (3 - (lg_sl ([.ref (b + adC 13 a0), .ref (b + adC 13 a1)])).length) Slot.unset).toArray = ls at hl ⊢
  have hl : lv_has ls 3 [(0, .ref (b + adC 13 a0)), (1, .ref (b + adC 13 a1))] := hl
  show W p l e rm_X6_copyFrom s m _ below meth c s.heap [] 0 0 (MQ below (PvC D cy b z tx k) _ s 0 0 (gA b 709 z)) _
  unfold F_X6_copyFrom at h
  refine lv_aload_n hx hb dX6_copyFrom_0 rfl (lv_at hl 0 rfl) ?_
  refine lv_aload_n hx hb dX6_copyFrom_1 rfl (lv_at hl 1 rfl) ?_
  refine gC_13_6 C0 hR av1 tbs_wsX60 mC0_2_146 dX6_copyFrom_2 ?_
  refine pC_13_6 C0 hR hS av0 tbs_wsX60 mC0_2_146 dX6_copyFrom_5 (fun S1 eS1 H locs hR hS => ?_)
  have h := h S1 eS1
  refine lv_iconst (v := 0) hx hb dX6_copyFrom_8 (by decide) ?_
  refine lv_istore_n (lv' := [(2, .int 0), (0, .ref (b + adC 13 a0)), (1, .ref (b + adC 13 a1))]) hx hb dX6_copyFrom_9 rfl hl (by decide) rfl (fun ls hl => ?_)
  exact Bw_X6_copyFrom_10 C0 hr hlk hT fuel a0 a1 0 S1 _ _ _ av0 av1 h hR hS (lv_sub hl [1, 2, 0] rfl)

def rm_X8_moveTo : Room := { frames := 0, cells := 0, slots := 0, locals := 0 }
def Bb_X8_moveTo_5 (kk5 : sSt → Prop) (S : sSt) (k : sSt → Prop) : Prop := (((S.1 1 0 2) ≤ (S.1 1 0 3) → k S) ∧ (¬ (S.1 1 0 2) ≤ (S.1 1 0 3) → ((400 ≤ (S.1 1 0 3) → k S) ∧ (¬ 400 ≤ (S.1 1 0 3) → ix (S.1 1 0 3) 400 (fun j4 => ((¬ (S.1 2 0 j4) = 32 → k S) ∧ ((S.1 2 0 j4) = 32 → ∀ S6, S6 = uI S 1 0 3 ((S.1 1 0 3) + 1) → kk5 S6)))))))
set_option maxHeartbeats 4000000 in
set_option maxRecDepth 100000 in
theorem Bbw_X8_moveTo_5 {p : Program} {l : Launch} {e : Env} {s : State} {m : MethodId} {args : Array Value} {below : List Frame} {meth : Method} {c : Code} {D : va_G} {cy : Nat → ClassId} {b z : Nat} {tx : TX} (C0 : CallFix p m c cX8_moveTo 2 s args TB RX8) (hr : meth.sig.returnType = none) (hlk : meth.locks = false) (hT : TxR tx s) {k : sSt → Prop} {kk5 : sSt → Prop} (ih5 : ∀ (S : sSt) (H : Heap) (locs : List Loc) (ls : Array Slot) , kk5 S → RelC D cy b z tx S s H → va_S (gA b 709 z) s.heap H locs → lv_has ls 2 [(0, .ref (b + adC 1 0))] → W p l e rm_X8_moveTo s m args below meth c H locs 0 0 (MQ below (PvC D cy b z tx k) args s 0 0 (gA b 709 z)) (F0 m 5 ls [])) : ∀ (S : sSt) (H : Heap) (locs : List Loc) (ls : Array Slot) , Bb_X8_moveTo_5 kk5 S k → RelC D cy b z tx S s H → va_S (gA b 709 z) s.heap H locs → lv_has ls 2 [(0, .ref (b + adC 1 0))] → W p l e rm_X8_moveTo s m args below meth c H locs 0 0 (MQ below (PvC D cy b z tx k) args s 0 0 (gA b 709 z)) (F0 m 5 ls []) := by
  intro S H locs ls h hR hS hl
  have hx := C0.1
  have hb := C0.2.1
  unfold Bb_X8_moveTo_5 at h
  refine lv_aload_n hx hb dX8_moveTo_5 rfl (lv_at hl 0 rfl) ?_
  refine gC_1_3 C0 hR Nat.zero_lt_one tbs_wsX80 mC0_1_46 dX8_moveTo_6 ?_
  refine lv_aload_n hx hb dX8_moveTo_9 rfl (lv_at hl 0 rfl) ?_
  refine gC_1_2 C0 hR Nat.zero_lt_one tbs_wsX80 mC0_1_45 dX8_moveTo_10 ?_
  refine lv_icmp_ge (tgt := 53) hx hb dX8_moveTo_13 (by decide) (fun c2 => ?_) (fun c2 => ?_)
  · have h := h.1 c2
    exact rtC_v C0 hr hlk hR hS h dX8_moveTo_53
  · have h := h.2 c2
    refine lv_aload_n hx hb dX8_moveTo_16 rfl (lv_at hl 0 rfl) ?_
    refine gC_1_3 C0 hR Nat.zero_lt_one tbs_wsX80 mC0_1_46 dX8_moveTo_17 ?_
    refine lv_sipush (v := 400) hx hb dX8_moveTo_20 (by decide) ?_
    refine lv_icmp_ge (tgt := 53) hx hb dX8_moveTo_23 (by decide) (fun c3 => ?_) (fun c3 => ?_)
    · have h := h.1 c3
      exact rtC_v C0 hr hlk hR hS h dX8_moveTo_53
    · have h := h.2 c3
      refine lv_aload_n hx hb dX8_moveTo_26 rfl (lv_at hl 0 rfl) ?_
      refine gC_1_0 C0 hR Nat.zero_lt_one tbs_wsX80 mC0_1_42 dX8_moveTo_27 ?_
      refine lv_aload_n hx hb dX8_moveTo_30 rfl (lv_at hl 0 rfl) ?_
      refine gC_1_3 C0 hR Nat.zero_lt_one tbs_wsX80 mC0_1_46 dX8_moveTo_31 ?_
      obtain ⟨j4, hj4, ej4, h⟩ := h
      refine lC_2 C0 hR Nat.zero_lt_one hj4 ej4 dX8_moveTo_34 ?_
      refine lv_bipush (v := 32) hx hb dX8_moveTo_35 (by decide) ?_
      refine lv_icmp_ne (tgt := 53) hx hb dX8_moveTo_37 (by decide) (fun c5 => ?_) (fun c5 => ?_)
      · have h := h.1 c5
        exact rtC_v C0 hr hlk hR hS h dX8_moveTo_53
      · have h := h.2 c5
        refine lv_aload_n hx hb dX8_moveTo_40 rfl (lv_at hl 0 rfl) ?_
        refine lv_dup hx hb dX8_moveTo_41 rfl ?_
        refine gC_1_3 C0 hR Nat.zero_lt_one tbs_wsX80 mC0_1_46 dX8_moveTo_42 ?_
        refine lv_iconst (v := 1) hx hb dX8_moveTo_45 (by decide) ?_
        refine lv_iadd hx hb dX8_moveTo_46 ?_
        refine pC_1_3 C0 hR hS Nat.zero_lt_one tbs_wsX80 mC0_1_46 dX8_moveTo_47 (fun S6 eS6 H locs hR hS => ?_)
        have h := h S6 eS6
        refine lv_goto (tgt := 5) hx hb dX8_moveTo_50 (by decide) ?_
        exact ih5  S6 _ _ _  h hR hS (lv_sub hl [0] rfl)
def B_X8_moveTo_5 (n9 : Nat) (S : sSt) (k : sSt → Prop) : Prop := (Nat.rec (motive := fun _ => sSt → Prop) (fun _ => False) (fun _ r9 => fun S => Bb_X8_moveTo_5 r9 S k) n9 : sSt → Prop) S
theorem B_X8_moveTo_5_s (n9 : Nat) (S : sSt) (k : sSt → Prop) : B_X8_moveTo_5 (n9 + 1) S k = Bb_X8_moveTo_5 (fun S => B_X8_moveTo_5 n9 S k) S k := rfl
set_option maxHeartbeats 4000000 in
set_option maxRecDepth 100000 in
theorem Bw_X8_moveTo_5 {p : Program} {l : Launch} {e : Env} {s : State} {m : MethodId} {args : Array Value} {below : List Frame} {meth : Method} {c : Code} {D : va_G} {cy : Nat → ClassId} {b z : Nat} {tx : TX} (C0 : CallFix p m c cX8_moveTo 2 s args TB RX8) (hr : meth.sig.returnType = none) (hlk : meth.locks = false) (hT : TxR tx s) {k : sSt → Prop} : ∀ (n9 : Nat), ∀ (S : sSt) (H : Heap) (locs : List Loc) (ls : Array Slot) , B_X8_moveTo_5 n9 S k → RelC D cy b z tx S s H → va_S (gA b 709 z) s.heap H locs → lv_has ls 2 [(0, .ref (b + adC 1 0))] → W p l e rm_X8_moveTo s m args below meth c H locs 0 0 (MQ below (PvC D cy b z tx k) args s 0 0 (gA b 709 z)) (F0 m 5 ls []) := by
  intro n9
  induction n9 with
  | zero => intro S H locs ls h; exact h.elim
  | succ n9 ih =>
    intro S H locs ls h hR hS hl
    exact Bbw_X8_moveTo_5 C0 hr hlk hT ih S H locs ls h hR hS hl
def F_X8_moveTo (a1 : Int32) (S : sSt) (k : sSt → Prop) : Prop := ∀ S1, S1 = uI S 1 0 3 a1 → B_X8_moveTo_5 fuel S1 k
set_option maxHeartbeats 4000000 in
set_option maxRecDepth 100000 in
theorem c_X8_moveTo (l : Launch) {D : va_G} {cy : Nat → ClassId} {b z : Nat} {tx : TX} {a1 : Int32} {S : sSt} {k : sSt → Prop} (h : F_X8_moveTo a1 S k) : Met l yX8_moveTo (Cond.code yX8_moveTo cX8_moveTo 2 none :: TB) rm_X8_moveTo (va_Pc [.ref (b + adC 1 0), .int a1] (fun U => RelC D cy b z tx S U U.heap ∧ TxR tx U)) (PvC D cy b z tx k) 0 0 (gA b 709 z) := by
  refine Met.ofW (cc := cX8_moveTo) (maxL := 2) (ret := none) (by decide) rfl ?_
  intro p e s m args below meth c s₁ B hml hv
  obtain ⟨rfl, hR, hT⟩ := hv
  have C0 : CallFix p m c cX8_moveTo 2 s _ TB RX8 := ⟨B.exec, B.bytes, hml, findClass_of_methodNamed B.named, fun w hw => atoms_spec B.pre w (List.mem_cons_of_mem _ hw)⟩
  have hr := B.returns
  have hlk := B.notSynchronized
  have hx := C0.1
  have hb := C0.2.1
  have hS : va_S (gA b 709 z) s.heap s.heap [] := va_S.rf
  have hl := lv_entry ([.ref (b + adC 1 0), .int a1]) (n := 2) (Nat.le_of_ble_eq_true rfl)
  rw [lg_entry_eq]
  generalize (lg_sl ([.ref (b + adC 1 0), .int a1]) ++ List.replicate (2 - (lg_sl ([.ref (b + adC 1 0), .int a1])).length) Slot.unset).toArray = ls at hl ⊢
  have hl : lv_has ls 2 [(0, .ref (b + adC 1 0)), (1, .int a1)] := hl
  show W p l e rm_X8_moveTo s m _ below meth c s.heap [] 0 0 (MQ below (PvC D cy b z tx k) _ s 0 0 (gA b 709 z)) _
  unfold F_X8_moveTo at h
  refine lv_aload_n hx hb dX8_moveTo_0 rfl (lv_at hl 0 rfl) ?_
  refine lv_iload_n hx hb dX8_moveTo_1 rfl (lv_at hl 1 rfl) ?_
  refine pC_1_3 C0 hR hS Nat.zero_lt_one tbs_wsX80 mC0_1_46 dX8_moveTo_2 (fun S1 eS1 H locs hR hS => ?_)
  have h := h S1 eS1
  exact Bw_X8_moveTo_5 C0 hr hlk hT fuel S1 _ _ _ h hR hS (lv_sub hl [0] rfl)

def rm_X8_startReading : Room := { frames := 1, cells := 0, slots := 0, locals := 21 }
def F_X8_startReading (S : sSt) (k : sSt → Prop) : Prop := ∀ S1, S1 = uI S 1 0 4 (-1) → F_X8_moveTo 0 S1 (fun S3 => k S3)
set_option maxHeartbeats 4000000 in
set_option maxRecDepth 100000 in
theorem c_X8_startReading (l : Launch) {D : va_G} {cy : Nat → ClassId} {b z : Nat} {tx : TX} {S : sSt} {k : sSt → Prop} (h : F_X8_startReading S k) : Met l yX8_startReading (Cond.code yX8_startReading cX8_startReading 1 none :: TB) rm_X8_startReading (va_Pc [.ref (b + adC 1 0)] (fun U => RelC D cy b z tx S U U.heap ∧ TxR tx U)) (PvC D cy b z tx k) 0 0 (gA b 709 z) := by
  refine Met.ofW (cc := cX8_startReading) (maxL := 1) (ret := none) (by decide) rfl ?_
  intro p e s m args below meth c s₁ B hml hv
  obtain ⟨rfl, hR, hT⟩ := hv
  have C0 : CallFix p m c cX8_startReading 1 s _ TB RX8 := ⟨B.exec, B.bytes, hml, findClass_of_methodNamed B.named, fun w hw => atoms_spec B.pre w (List.mem_cons_of_mem _ hw)⟩
  have hr := B.returns
  have hlk := B.notSynchronized
  have hx := C0.1
  have hb := C0.2.1
  have hS : va_S (gA b 709 z) s.heap s.heap [] := va_S.rf
  have hl := lv_entry ([.ref (b + adC 1 0)]) (n := 1) (Nat.le_of_ble_eq_true rfl)
  rw [lg_entry_eq]
  generalize (lg_sl ([.ref (b + adC 1 0)]) ++ List.replicate (1 - (lg_sl ([.ref (b + adC 1 0)])).length) Slot.unset).toArray = ls at hl ⊢
  have hl : lv_has ls 1 [(0, .ref (b + adC 1 0))] := hl
  show W p l e rm_X8_startReading s m _ below meth c s.heap [] 0 0 (MQ below (PvC D cy b z tx k) _ s 0 0 (gA b 709 z)) _
  unfold F_X8_startReading at h
  refine lv_aload_n hx hb dX8_startReading_0 rfl (lv_at hl 0 rfl) ?_
  refine lv_iconst (v := (-1)) hx hb dX8_startReading_1 (by decide) ?_
  refine pC_1_4 C0 hR hS Nat.zero_lt_one tbs_wsX80 mC0_1_47 dX8_startReading_2 (fun S1 eS1 H locs hR hS => ?_)
  have h := h S1 eS1
  refine lv_aload_n hx hb dX8_startReading_5 rfl (lv_at hl 0 rfl) ?_
  refine lv_iconst (v := 0) hx hb dX8_startReading_6 (by decide) ?_
  refine qC_Vv (As := [.int 0]) (rest := []) C0 (c_X8_moveTo l h) (cwV 1 C0.2.2.2.2 (tbV mC0_3_129 ⟨mC0_3_131, mpC0_1_2, mC0_1_2, mC0_3_132⟩) rfl rfl rfl (by decide +kernel) ⟨Nat.le_of_ble_eq_true rfl, Nat.le_of_ble_eq_true rfl⟩) (rcC_1 hR Nat.zero_lt_one) hR hT hS rfl hl.1 rfl (Nat.le_of_ble_eq_true rfl) dX8_startReading_7 ⟨Nat.zero_le _, Nat.zero_le _⟩ (fun S3 H locs h hR hS => ?_)
  exact rtC_v C0 hr hlk hR hS h dX8_startReading_10

def rm_X8_isAtEnd : Room := { frames := 0, cells := 0, slots := 0, locals := 0 }
def F_X8_isAtEnd (S : sSt) (k : Int32 → sSt → Prop) : Prop := (((S.1 1 0 3) < (S.1 1 0 2) → k 0 S) ∧ (¬ (S.1 1 0 3) < (S.1 1 0 2) → k 1 S))
set_option maxHeartbeats 4000000 in
set_option maxRecDepth 100000 in
theorem c_X8_isAtEnd (l : Launch) {D : va_G} {cy : Nat → ClassId} {b z : Nat} {tx : TX} {S : sSt} {k : Int32 → sSt → Prop} (h : F_X8_isAtEnd S k) : Met l yX8_isAtEnd (Cond.code yX8_isAtEnd cX8_isAtEnd 1 (some .boolean) :: TB) rm_X8_isAtEnd (va_Pc [.ref (b + adC 1 0)] (fun U => RelC D cy b z tx S U U.heap ∧ TxR tx U)) (PiC D cy b z tx k) 0 0 (gA b 709 z) := by
  refine Met.ofW (cc := cX8_isAtEnd) (maxL := 1) (ret := (some .boolean)) (by decide) rfl ?_
  intro p e s m args below meth c s₁ B hml hv
  obtain ⟨rfl, hR, hT⟩ := hv
  have C0 : CallFix p m c cX8_isAtEnd 1 s _ TB RX8 := ⟨B.exec, B.bytes, hml, findClass_of_methodNamed B.named, fun w hw => atoms_spec B.pre w (List.mem_cons_of_mem _ hw)⟩
  have hr := B.returns
  have hlk := B.notSynchronized
  have hx := C0.1
  have hb := C0.2.1
  have hS : va_S (gA b 709 z) s.heap s.heap [] := va_S.rf
  have hl := lv_entry ([.ref (b + adC 1 0)]) (n := 1) (Nat.le_of_ble_eq_true rfl)
  rw [lg_entry_eq]
  generalize (lg_sl ([.ref (b + adC 1 0)]) ++ List.replicate (1 - (lg_sl ([.ref (b + adC 1 0)])).length) Slot.unset).toArray = ls at hl ⊢
  have hl : lv_has ls 1 [(0, .ref (b + adC 1 0))] := hl
  show W p l e rm_X8_isAtEnd s m _ below meth c s.heap [] 0 0 (MQ below (PiC D cy b z tx k) _ s 0 0 (gA b 709 z)) _
  unfold F_X8_isAtEnd at h
  refine lv_aload_n hx hb dX8_isAtEnd_0 rfl (lv_at hl 0 rfl) ?_
  refine gC_1_3 C0 hR Nat.zero_lt_one tbs_wsX80 mC0_1_46 dX8_isAtEnd_1 ?_
  refine lv_aload_n hx hb dX8_isAtEnd_4 rfl (lv_at hl 0 rfl) ?_
  refine gC_1_2 C0 hR Nat.zero_lt_one tbs_wsX80 mC0_1_45 dX8_isAtEnd_5 ?_
  refine lv_icmp_lt (tgt := 15) hx hb dX8_isAtEnd_8 (by decide) (fun c1 => ?_) (fun c1 => ?_)
  · have h := h.1 c1
    refine lv_iconst (v := 0) hx hb dX8_isAtEnd_15 (by decide) ?_
    exact rtC_z C0 hr hlk hR hS (by decide) h dX8_isAtEnd_16
  · have h := h.2 c1
    refine lv_iconst (v := 1) hx hb dX8_isAtEnd_11 (by decide) ?_
    refine lv_goto (tgt := 16) hx hb dX8_isAtEnd_12 (by decide) ?_
    exact rtC_z C0 hr hlk hR hS (by decide) h dX8_isAtEnd_16
