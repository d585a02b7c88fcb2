theorem mC6_4_133 : Cond.methodLink RX11 77 yX11_needSession ∈ TB := tbT_4 _ (List.mem_of_getElem? (i := 133) rfl) rfl
theorem mC6_4_136 : Cond.code yX11_needSession cX11_needSession 2 none ∈ TB := tbT_4 _ (List.mem_of_getElem? (i := 136) rfl) rfl
theorem mC6_4_135 : Cond.instanceMethod yX11_needSession ∈ TB := tbT_4 _ (List.mem_of_getElem? (i := 135) rfl) rfl
theorem mpC6_1_5 : Cond.selects RX11 yX11_needSession yX11_needSession ∈ TB := tbP_1 (yX11_needSession, 8) (List.mem_of_getElem? (i := 5) rfl)
theorem mC6_1_1 : Cond.initialized RX11 ∈ TB := tbT_1 _ (List.mem_of_getElem? (i := 1) rfl) rfl
theorem mC6_2_213 : Cond.fieldLink RX11 37 "ClaimTable" "live" "LClaimTable$Table;" ∈ TB := tbT_2 _ (List.mem_of_getElem? (i := 213) rfl) rfl
theorem mC6_5_193 : Cond.methodLink RX11 179 yX6_reapLate ∈ TB := tbT_5 _ (List.mem_of_getElem? (i := 193) rfl) rfl
theorem mC6_5_196 : Cond.code yX6_reapLate cX6_reapLate 6 (some .int) ∈ TB := tbT_5 _ (List.mem_of_getElem? (i := 196) rfl) rfl
theorem mC6_5_194 : Cond.instanceMethod yX6_reapLate ∈ TB := tbT_5 _ (List.mem_of_getElem? (i := 194) rfl) rfl
theorem mC6_5_195 : Cond.selects RX6 yX6_reapLate yX6_reapLate ∈ TB := tbT_5 _ (List.mem_of_getElem? (i := 195) rfl) rfl
theorem mC6_1_5 : Cond.initialized RX6 ∈ TB := tbT_1 _ (List.mem_of_getElem? (i := 5) rfl) rfl
theorem mC6_5_118 : Cond.methodLink RX11 140 yX6_closeAct ∈ TB := tbT_5 _ (List.mem_of_getElem? (i := 118) rfl) rfl
theorem mC6_5_121 : Cond.code yX6_closeAct cX6_closeAct 2 none ∈ TB := tbT_5 _ (List.mem_of_getElem? (i := 121) rfl) rfl
theorem mC6_5_119 : Cond.instanceMethod yX6_closeAct ∈ TB := tbT_5 _ (List.mem_of_getElem? (i := 119) rfl) rfl
theorem mC6_5_120 : Cond.selects RX6 yX6_closeAct yX6_closeAct ∈ TB := tbT_5 _ (List.mem_of_getElem? (i := 120) rfl) rfl
theorem mC6_5_148 : Cond.methodLink RX11 407 yX1_isLockedByOther ∈ TB := tbT_5 _ (List.mem_of_getElem? (i := 148) rfl) rfl
theorem mC6_5_86 : Cond.code yX1_isLockedByOther cX1_isLockedByOther 2 (some .boolean) ∈ TB := tbT_5 _ (List.mem_of_getElem? (i := 86) rfl) rfl
theorem mC6_5_84 : Cond.instanceMethod yX1_isLockedByOther ∈ TB := tbT_5 _ (List.mem_of_getElem? (i := 84) rfl) rfl
theorem mC6_5_85 : Cond.selects RX1 yX1_isLockedByOther yX1_isLockedByOther ∈ TB := tbT_5 _ (List.mem_of_getElem? (i := 85) rfl) rfl
theorem mC6_1_7 : Cond.initialized RX1 ∈ TB := tbT_1 _ (List.mem_of_getElem? (i := 7) rfl) rfl
theorem mC6_5_147 : Cond.methodLink RX11 217 yX1_seenBy ∈ TB := tbT_5 _ (List.mem_of_getElem? (i := 147) rfl) rfl
theorem mC6_5_82 : Cond.code yX1_seenBy cX1_seenBy 2 (some (.object "ClaimTable$Version")) ∈ TB := tbT_5 _ (List.mem_of_getElem? (i := 82) rfl) rfl
theorem mC6_5_80 : Cond.instanceMethod yX1_seenBy ∈ TB := tbT_5 _ (List.mem_of_getElem? (i := 80) rfl) rfl
theorem mC6_5_81 : Cond.selects RX1 yX1_seenBy yX1_seenBy ∈ TB := tbT_5 _ (List.mem_of_getElem? (i := 81) rfl) rfl
theorem mC6_1_162 : Cond.fieldLinkNest RX11 162 "ClaimTable$Version" "state" "I" "ClaimTable" ∈ NB := nbT_1 _ (List.mem_of_getElem? (i := 162) rfl) rfl
theorem mC6_5_134 : Cond.methodLink RX11 168 yX11_needJob ∈ TB := tbT_5 _ (List.mem_of_getElem? (i := 134) rfl) rfl
theorem mC6_5_137 : Cond.code yX11_needJob cX11_needJob 4 (some (.object "ClaimTable$Job")) ∈ TB := tbT_5 _ (List.mem_of_getElem? (i := 137) rfl) rfl
theorem mC6_5_136 : Cond.instanceMethod yX11_needJob ∈ TB := tbT_5 _ (List.mem_of_getElem? (i := 136) rfl) rfl
theorem mpC6_1_12 : Cond.selects RX11 yX11_needJob yX11_needJob ∈ TB := tbP_1 (yX11_needJob, 8) (List.mem_of_getElem? (i := 12) rfl)
theorem mC6_5_212 : Cond.methodLink RX11 182 yX11_whyNotSetAside ∈ TB := tbT_5 _ (List.mem_of_getElem? (i := 212) rfl) rfl
theorem mC6_5_214 : Cond.code yX11_whyNotSetAside cX11_whyNotSetAside 2 (some .int) ∈ TB := tbT_5 _ (List.mem_of_getElem? (i := 214) rfl) rfl
theorem mC6_5_213 : Cond.static yX11_whyNotSetAside ∈ TB := tbT_5 _ (List.mem_of_getElem? (i := 213) rfl) rfl
theorem mC6_4_202 : Cond.methodLink RX11 109 yX11_settle ∈ TB := tbT_4 _ (List.mem_of_getElem? (i := 202) rfl) rfl
theorem mC6_4_205 : Cond.code yX11_settle cX11_settle 2 none ∈ TB := tbT_4 _ (List.mem_of_getElem? (i := 205) rfl) rfl
theorem mC6_4_204 : Cond.instanceMethod yX11_settle ∈ TB := tbT_4 _ (List.mem_of_getElem? (i := 204) rfl) rfl
theorem mpC6_1_8 : Cond.selects RX11 yX11_settle yX11_settle ∈ TB := tbP_1 (yX11_settle, 8) (List.mem_of_getElem? (i := 8) rfl)
theorem mC6_5_149 : Cond.methodLink RX11 186 yX1_lockFor ∈ TB := tbT_5 _ (List.mem_of_getElem? (i := 149) rfl) rfl
theorem mC6_5_117 : Cond.code yX1_lockFor cX1_lockFor 2 (some (.object "ClaimTable$Version")) ∈ TB := tbT_5 _ (List.mem_of_getElem? (i := 117) rfl) rfl
theorem mC6_5_115 : Cond.instanceMethod yX1_lockFor ∈ TB := tbT_5 _ (List.mem_of_getElem? (i := 115) rfl) rfl
theorem mC6_5_116 : Cond.selects RX1 yX1_lockFor yX1_lockFor ∈ TB := tbT_5 _ (List.mem_of_getElem? (i := 116) rfl) rfl
theorem mC6_1_173 : Cond.fieldLinkNest RX11 165 "ClaimTable$Version" "tries" "I" "ClaimTable" ∈ NB := nbT_1 _ (List.mem_of_getElem? (i := 173) rfl) rfl
theorem mC6_2_163 : Cond.fieldLinkNest RX11 150 "ClaimTable$Table" "mono" "I" "ClaimTable" ∈ NB := nbT_2 _ (List.mem_of_getElem? (i := 163) rfl) rfl
theorem mC6_1_169 : Cond.fieldLinkNest RX11 176 "ClaimTable$Version" "due" "I" "ClaimTable" ∈ NB := nbT_1 _ (List.mem_of_getElem? (i := 169) rfl) rfl
theorem mC6_4_137 : Cond.classLink RX11 271 "java/lang/IndexOutOfBoundsException" ∈ TB := tbT_4 _ (List.mem_of_getElem? (i := 137) rfl) rfl
theorem mC6_1_23 : Cond.initialized "java/lang/IndexOutOfBoundsException" ∈ TB := tbT_1 _ (List.mem_of_getElem? (i := 23) rfl) rfl
theorem mC6_5_231 : Cond.methodLink RX1 65 yX1_lockFor ∈ TB := tbT_5 _ (List.mem_of_getElem? (i := 231) rfl) rfl
theorem mC6_1_223 : Cond.fieldLink RX1 50 "ClaimTable$Job" "stored" "Z" ∈ TB := tbT_1 _ (List.mem_of_getElem? (i := 223) rfl) rfl
theorem mC6_5_222 : Cond.methodLink RX11 192 yX11_needGroup ∈ TB := tbT_5 _ (List.mem_of_getElem? (i := 222) rfl) rfl
theorem mC6_5_225 : Cond.code yX11_needGroup cX11_needGroup 2 none ∈ TB := tbT_5 _ (List.mem_of_getElem? (i := 225) rfl) rfl
theorem mC6_5_224 : Cond.instanceMethod yX11_needGroup ∈ TB := tbT_5 _ (List.mem_of_getElem? (i := 224) rfl) rfl
theorem mpC6_2_0 : Cond.selects RX11 yX11_needGroup yX11_needGroup ∈ TB := tbP_2 (yX11_needGroup, 8) (List.mem_of_getElem? (i := 0) rfl)
theorem mC6_4_45 : Cond.classLink RX11 68 "java/lang/IllegalArgumentException" ∈ TB := tbT_4 _ (List.mem_of_getElem? (i := 45) rfl) rfl
theorem mC6_1_21 : Cond.initialized "java/lang/IllegalArgumentException" ∈ TB := tbT_1 _ (List.mem_of_getElem? (i := 21) rfl) rfl
theorem mC6_5_226 : Cond.methodLink RX11 195 yX6_addJob ∈ TB := tbT_5 _ (List.mem_of_getElem? (i := 226) rfl) rfl
theorem mC6_3_225 : Cond.code yX6_addJob cX6_addJob 5 (some (.object "ClaimTable$Job")) ∈ TB := tbT_3 _ (List.mem_of_getElem? (i := 225) rfl) rfl
theorem mC6_3_223 : Cond.instanceMethod yX6_addJob ∈ TB := tbT_3 _ (List.mem_of_getElem? (i := 223) rfl) rfl
theorem mC6_3_224 : Cond.selects RX6 yX6_addJob yX6_addJob ∈ TB := tbT_3 _ (List.mem_of_getElem? (i := 224) rfl) rfl
theorem mC6_4_110 : Cond.classLink RX11 74 "java/lang/UnsupportedOperationException" ∈ TB := tbT_4 _ (List.mem_of_getElem? (i := 110) rfl) rfl
theorem mC6_1_22 : Cond.initialized "java/lang/UnsupportedOperationException" ∈ TB := tbT_1 _ (List.mem_of_getElem? (i := 22) rfl) rfl
theorem mC6_5_227 : Cond.methodLink RX11 199 yX1_ownBy ∈ TB := tbT_5 _ (List.mem_of_getElem? (i := 227) rfl) rfl
theorem mC6_5_230 : Cond.code yX1_ownBy cX1_ownBy 2 none ∈ TB := tbT_5 _ (List.mem_of_getElem? (i := 230) rfl) rfl
theorem mC6_5_228 : Cond.instanceMethod yX1_ownBy ∈ TB := tbT_5 _ (List.mem_of_getElem? (i := 228) rfl) rfl
theorem mC6_5_229 : Cond.selects RX1 yX1_ownBy yX1_ownBy ∈ TB := tbT_5 _ (List.mem_of_getElem? (i := 229) rfl) rfl
theorem mC6_1_232 : Cond.fieldLinkNest RX11 202 "ClaimTable$Job" "number" "I" "ClaimTable" ∈ NB := nbT_1 _ (List.mem_of_getElem? (i := 232) rfl) rfl
theorem mC6_2_146 : Cond.fieldLink RX6 46 "ClaimTable$Table" "size" "I" ∈ TB := tbT_2 _ (List.mem_of_getElem? (i := 146) rfl) rfl
theorem mC6_2_174 : Cond.fieldLink RX6 93 "ClaimTable$Table" "swept" "I" ∈ TB := tbT_2 _ (List.mem_of_getElem? (i := 174) rfl) rfl
theorem mC6_2_126 : Cond.fieldLink RX6 11 "ClaimTable$Table" "jobs" "[LClaimTable$Job;" ∈ TB := tbT_2 _ (List.mem_of_getElem? (i := 126) rfl) rfl
theorem mC6_1_221 : Cond.fieldLinkNest RX6 121 "ClaimTable$Job" "locker" "I" "ClaimTable" ∈ NB := nbT_1 _ (List.mem_of_getElem? (i := 221) rfl) rfl
theorem mC6_1_212 : Cond.fieldLinkNest RX6 124 "ClaimTable$Job" "base" "LClaimTable$Version;" "ClaimTable" ∈ NB := nbT_1 _ (List.mem_of_getElem? (i := 212) rfl) rfl
theorem mC6_1_161 : Cond.fieldLinkNest RX6 141 "ClaimTable$Version" "state" "I" "ClaimTable" ∈ NB := nbT_1 _ (List.mem_of_getElem? (i := 161) rfl) rfl
theorem mC6_3_26 : Cond.methodLink RX6 144 yX6_removeAt ∈ TB := tbT_3 _ (List.mem_of_getElem? (i := 26) rfl) rfl
theorem mC6_3_29 : Cond.code yX6_removeAt cX6_removeAt 4 none ∈ TB := tbT_3 _ (List.mem_of_getElem? (i := 29) rfl) rfl
theorem mC6_3_28 : Cond.instanceMethod yX6_removeAt ∈ TB := tbT_3 _ (List.mem_of_getElem? (i := 28) rfl) rfl
theorem mpC6_1_0 : Cond.selects RX6 yX6_removeAt yX6_removeAt ∈ TB := tbP_1 (yX6_removeAt, 16) (List.mem_of_getElem? (i := 0) rfl)
theorem mC6_3_22 : Cond.methodLink RX11 205 yX6_sweepDone ∈ TB := tbT_3 _ (List.mem_of_getElem? (i := 22) rfl) rfl
theorem mC6_3_25 : Cond.code yX6_sweepDone cX6_sweepDone 4 (some .int) ∈ TB := tbT_3 _ (List.mem_of_getElem? (i := 25) rfl) rfl
theorem mC6_3_23 : Cond.instanceMethod yX6_sweepDone ∈ TB := tbT_3 _ (List.mem_of_getElem? (i := 23) rfl) rfl
theorem mC6_3_24 : Cond.selects RX6 yX6_sweepDone yX6_sweepDone ∈ TB := tbT_3 _ (List.mem_of_getElem? (i := 24) rfl) rfl
theorem mC6_2_87 : Cond.fieldLink RX4 15 "ClaimTable$Schedule" "at" "I" ∈ TB := tbT_2 _ (List.mem_of_getElem? (i := 87) rfl) rfl
theorem mC6_2_84 : Cond.fieldLink RX4 9 "ClaimTable$Schedule" "every" "I" ∈ TB := tbT_2 _ (List.mem_of_getElem? (i := 84) rfl) rfl
theorem mC6_2_99 : Cond.fieldLink RX4 27 "ClaimTable$Schedule" "kind" "I" ∈ TB := tbT_2 _ (List.mem_of_getElem? (i := 99) rfl) rfl
theorem mC6_2_105 : Cond.fieldLink RX4 33 "ClaimTable$Schedule" "slot" "I" ∈ TB := tbT_2 _ (List.mem_of_getElem? (i := 105) rfl) rfl
theorem mC6_6_12 : Cond.methodLink RX4 36 Lib.Math.max.name ∈ TB := tbT_6 _ (List.mem_of_getElem? (i := 12) rfl) rfl
theorem mC6_3_47 : Cond.static Lib.Math.max.name ∈ TB := tbT_3 _ (List.mem_of_getElem? (i := 47) rfl) rfl
theorem mC6_1_25 : Cond.initialized "java/lang/Math" ∈ TB := tbT_1 _ (List.mem_of_getElem? (i := 25) rfl) rfl
theorem mC6_3_48 : Cond.code Lib.Math.max.name Lib.Math.max.code 2 (some .int) ∈ TB := tbT_3 _ (List.mem_of_getElem? (i := 48) rfl) rfl
theorem mC6_6_13 : Cond.methodLink RX4 42 yX4_timeOf ∈ TB := tbT_6 _ (List.mem_of_getElem? (i := 13) rfl) rfl
theorem mC6_6_16 : Cond.code yX4_timeOf cX4_timeOf 2 (some .int) ∈ TB := tbT_6 _ (List.mem_of_getElem? (i := 16) rfl) rfl
theorem mC6_6_14 : Cond.instanceMethod yX4_timeOf ∈ TB := tbT_6 _ (List.mem_of_getElem? (i := 14) rfl) rfl
theorem mC6_6_15 : Cond.selects RX4 yX4_timeOf yX4_timeOf ∈ TB := tbT_6 _ (List.mem_of_getElem? (i := 15) rfl) rfl
theorem mC6_1_10 : Cond.initialized RX4 ∈ TB := tbT_1 _ (List.mem_of_getElem? (i := 10) rfl) rfl
theorem mC6_2_102 : Cond.fieldLink RX4 30 "ClaimTable$Schedule" "grace" "I" ∈ TB := tbT_2 _ (List.mem_of_getElem? (i := 102) rfl) rfl
theorem mC6_2_133 : Cond.fieldLink RX6 25 "ClaimTable$Table" "schedules" "[LClaimTable$Schedule;" ∈ TB := tbT_2 _ (List.mem_of_getElem? (i := 133) rfl) rfl
theorem mC6_2_92 : Cond.fieldLinkNest RX6 238 "ClaimTable$Schedule" "group" "I" "ClaimTable" ∈ NB := nbT_2 _ (List.mem_of_getElem? (i := 92) rfl) rfl
theorem mC6_2_95 : Cond.fieldLinkNest RX6 239 "ClaimTable$Schedule" "priority" "I" "ClaimTable" ∈ NB := nbT_2 _ (List.mem_of_getElem? (i := 95) rfl) rfl
theorem mC6_2_98 : Cond.fieldLinkNest RX6 240 "ClaimTable$Schedule" "cost" "I" "ClaimTable" ∈ NB := nbT_2 _ (List.mem_of_getElem? (i := 98) rfl) rfl
theorem mC6_6_21 : Cond.methodLink RX6 241 yX6_addJob ∈ TB := tbT_6 _ (List.mem_of_getElem? (i := 21) rfl) rfl
theorem mC6_2_172 : Cond.fieldLink RX6 90 "ClaimTable$Table" "missed" "I" ∈ TB := tbT_2 _ (List.mem_of_getElem? (i := 172) rfl) rfl
theorem mC6_2_13 : Cond.fieldLinkNest RX6 111 "ClaimTable$Job" "schedule" "I" "ClaimTable" ∈ NB := nbT_2 _ (List.mem_of_getElem? (i := 13) rfl) rfl
theorem mC6_2_16 : Cond.fieldLinkNest RX6 114 "ClaimTable$Job" "slot" "I" "ClaimTable" ∈ NB := nbT_2 _ (List.mem_of_getElem? (i := 16) rfl) rfl
theorem mC6_2_153 : Cond.fieldLink RX6 60 "ClaimTable$Table" "scheduleCount" "I" ∈ TB := tbT_2 _ (List.mem_of_getElem? (i := 153) rfl) rfl
theorem mC6_2_164 : Cond.fieldLink RX6 81 "ClaimTable$Table" "wall" "I" ∈ TB := tbT_2 _ (List.mem_of_getElem? (i := 164) rfl) rfl
theorem mC6_6_7 : Cond.methodLink RX6 227 yX4_slotOf ∈ TB := tbT_6 _ (List.mem_of_getElem? (i := 7) rfl) rfl
theorem mC6_4_22 : Cond.code yX4_slotOf cX4_slotOf 2 (some .int) ∈ TB := tbT_4 _ (List.mem_of_getElem? (i := 22) rfl) rfl
theorem mC6_4_20 : Cond.instanceMethod yX4_slotOf ∈ TB := tbT_4 _ (List.mem_of_getElem? (i := 20) rfl) rfl
theorem mC6_4_21 : Cond.selects RX4 yX4_slotOf yX4_slotOf ∈ TB := tbT_4 _ (List.mem_of_getElem? (i := 21) rfl) rfl
theorem mC6_2_107 : Cond.fieldLinkNest RX6 230 "ClaimTable$Schedule" "slot" "I" "ClaimTable" ∈ NB := nbT_2 _ (List.mem_of_getElem? (i := 107) rfl) rfl
theorem mC6_6_8 : Cond.methodLink RX6 231 yX4_firstToFire ∈ TB := tbT_6 _ (List.mem_of_getElem? (i := 8) rfl) rfl
theorem mC6_6_11 : Cond.code yX4_firstToFire cX4_firstToFire 3 (some .int) ∈ TB := tbT_6 _ (List.mem_of_getElem? (i := 11) rfl) rfl
theorem mC6_6_9 : Cond.instanceMethod yX4_firstToFire ∈ TB := tbT_6 _ (List.mem_of_getElem? (i := 9) rfl) rfl
theorem mC6_6_10 : Cond.selects RX4 yX4_firstToFire yX4_firstToFire ∈ TB := tbT_6 _ (List.mem_of_getElem? (i := 10) rfl) rfl
theorem mC6_6_17 : Cond.methodLink RX6 234 yX6_fire ∈ TB := tbT_6 _ (List.mem_of_getElem? (i := 17) rfl) rfl
theorem mC6_6_20 : Cond.code yX6_fire cX6_fire 5 none ∈ TB := tbT_6 _ (List.mem_of_getElem? (i := 20) rfl) rfl
theorem mC6_6_19 : Cond.instanceMethod yX6_fire ∈ TB := tbT_6 _ (List.mem_of_getElem? (i := 19) rfl) rfl
theorem mpC6_2_2 : Cond.selects RX6 yX6_fire yX6_fire ∈ TB := tbP_2 (yX6_fire, 16) (List.mem_of_getElem? (i := 2) rfl)
theorem mC6_2_170 : Cond.fieldLink RX6 87 "ClaimTable$Table" "came" "I" ∈ TB := tbT_2 _ (List.mem_of_getElem? (i := 170) rfl) rfl
theorem mC6_2_160 : Cond.fieldLink RX6 78 "ClaimTable$Table" "mono" "I" ∈ TB := tbT_2 _ (List.mem_of_getElem? (i := 160) rfl) rfl
theorem mC6_5_178 : Cond.methodLink RX6 195 Lib.Math.min.name ∈ TB := tbT_5 _ (List.mem_of_getElem? (i := 178) rfl) rfl
theorem mC6_5_67 : Cond.static Lib.Math.min.name ∈ TB := tbT_5 _ (List.mem_of_getElem? (i := 67) rfl) rfl
theorem mC6_5_68 : Cond.code Lib.Math.min.name Lib.Math.min.code 2 (some .int) ∈ TB := tbT_5 _ (List.mem_of_getElem? (i := 68) rfl) rfl
theorem mC6_6_3 : Cond.methodLink RX6 224 yX6_lookAtSchedules ∈ TB := tbT_6 _ (List.mem_of_getElem? (i := 3) rfl) rfl
theorem mC6_6_6 : Cond.code yX6_lookAtSchedules cX6_lookAtSchedules 5 none ∈ TB := tbT_6 _ (List.mem_of_getElem? (i := 6) rfl) rfl
theorem mC6_6_5 : Cond.instanceMethod yX6_lookAtSchedules ∈ TB := tbT_6 _ (List.mem_of_getElem? (i := 5) rfl) rfl
theorem mpC6_2_1 : Cond.selects RX6 yX6_lookAtSchedules yX6_lookAtSchedules ∈ TB := tbP_2 (yX6_lookAtSchedules, 16) (List.mem_of_getElem? (i := 1) rfl)
theorem mC6_5_239 : Cond.methodLink RX11 208 yX6_tickTimes ∈ TB := tbT_5 _ (List.mem_of_getElem? (i := 239) rfl) rfl
theorem mC6_6_2 : Cond.code yX6_tickTimes cX6_tickTimes 4 (some .int) ∈ TB := tbT_6 _ (List.mem_of_getElem? (i := 2) rfl) rfl
theorem mC6_6_0 : Cond.instanceMethod yX6_tickTimes ∈ TB := tbT_6 _ (List.mem_of_getElem? (i := 0) rfl) rfl
theorem mC6_6_1 : Cond.selects RX6 yX6_tickTimes yX6_tickTimes ∈ TB := tbT_6 _ (List.mem_of_getElem? (i := 1) rfl) rfl
theorem mC6_6_33 : Cond.methodLink RX6 200 Lib.Math.max.name ∈ TB := tbT_6 _ (List.mem_of_getElem? (i := 33) rfl) rfl
theorem mC6_6_29 : Cond.methodLink RX11 211 yX6_jumpBy ∈ TB := tbT_6 _ (List.mem_of_getElem? (i := 29) rfl) rfl
theorem mC6_6_32 : Cond.code yX6_jumpBy cX6_jumpBy 3 (some .int) ∈ TB := tbT_6 _ (List.mem_of_getElem? (i := 32) rfl) rfl
theorem mC6_6_30 : Cond.instanceMethod yX6_jumpBy ∈ TB := tbT_6 _ (List.mem_of_getElem? (i := 30) rfl) rfl
theorem mC6_6_31 : Cond.selects RX6 yX6_jumpBy yX6_jumpBy ∈ TB := tbT_6 _ (List.mem_of_getElem? (i := 31) rfl) rfl
theorem mC6_6_42 : Cond.methodLink RX11 214 yX11_needViewer ∈ TB := tbT_6 _ (List.mem_of_getElem? (i := 42) rfl) rfl
theorem mC6_6_45 : Cond.code yX11_needViewer cX11_needViewer 2 none ∈ TB := tbT_6 _ (List.mem_of_getElem? (i := 45) rfl) rfl
theorem mC6_6_44 : Cond.instanceMethod yX11_needViewer ∈ TB := tbT_6 _ (List.mem_of_getElem? (i := 44) rfl) rfl
theorem mpC6_2_3 : Cond.selects RX11 yX11_needViewer yX11_needViewer ∈ TB := tbP_2 (yX11_needViewer, 8) (List.mem_of_getElem? (i := 3) rfl)
theorem mC6_1_238 : Cond.fieldLinkNest RX11 220 "ClaimTable$Job" "group" "I" "ClaimTable" ∈ NB := nbT_1 _ (List.mem_of_getElem? (i := 238) rfl) rfl
theorem mC6_2_2 : Cond.fieldLinkNest RX11 223 "ClaimTable$Job" "priority" "I" "ClaimTable" ∈ NB := nbT_2 _ (List.mem_of_getElem? (i := 2) rfl) rfl
theorem mC6_2_7 : Cond.fieldLinkNest RX11 226 "ClaimTable$Job" "cost" "I" "ClaimTable" ∈ NB := nbT_2 _ (List.mem_of_getElem? (i := 7) rfl) rfl
theorem mC6_2_11 : Cond.fieldLinkNest RX11 229 "ClaimTable$Job" "born" "I" "ClaimTable" ∈ NB := nbT_2 _ (List.mem_of_getElem? (i := 11) rfl) rfl
theorem mC6_1_175 : Cond.fieldLinkNest RX11 232 "ClaimTable$Version" "causeCount" "I" "ClaimTable" ∈ NB := nbT_1 _ (List.mem_of_getElem? (i := 175) rfl) rfl
theorem mC6_1_181 : Cond.fieldLinkNest RX11 235 "ClaimTable$Version" "token" "I" "ClaimTable" ∈ NB := nbT_1 _ (List.mem_of_getElem? (i := 181) rfl) rfl
theorem mC6_1_185 : Cond.fieldLinkNest RX11 238 "ClaimTable$Version" "holder" "I" "ClaimTable" ∈ NB := nbT_1 _ (List.mem_of_getElem? (i := 185) rfl) rfl
theorem mC6_1_190 : Cond.fieldLinkNest RX11 157 "ClaimTable$Version" "until" "I" "ClaimTable" ∈ NB := nbT_1 _ (List.mem_of_getElem? (i := 190) rfl) rfl
theorem mC6_2_14 : Cond.fieldLinkNest RX11 241 "ClaimTable$Job" "schedule" "I" "ClaimTable" ∈ NB := nbT_2 _ (List.mem_of_getElem? (i := 14) rfl) rfl
theorem mC6_2_17 : Cond.fieldLinkNest RX11 244 "ClaimTable$Job" "slot" "I" "ClaimTable" ∈ NB := nbT_2 _ (List.mem_of_getElem? (i := 17) rfl) rfl
theorem mC6_6_46 : Cond.classLink RX11 247 "java/util/NoSuchElementException" ∈ TB := tbT_6 _ (List.mem_of_getElem? (i := 46) rfl) rfl
theorem mC6_1_26 : Cond.initialized "java/util/NoSuchElementException" ∈ TB := tbT_1 _ (List.mem_of_getElem? (i := 26) rfl) rfl
def rm_X11_reap : Room := { frames := 7, cells := 1, slots := 6, locals := 110 }
def F_X11_reap (a1 : Int32) (S : sSt) (k : Int32 → sSt → Prop) (kx : String → sSt → Prop) : Prop := F_X11_needSession a1 S (fun S2 => F_X6_reapLate (S2.2 0 0 4) a1 S2 (fun r4 S5 => F_X6_closeAct (S5.2 0 0 4) a1 S5 (fun S8 => k r4 S8))) kx
set_option maxHeartbeats 4000000 in
set_option maxRecDepth 100000 in
theorem c_X11_reap (l : Launch) (hl0 : l.stackTraces = false) {D : va_G} {cy : Nat → ClassId} {b z : Nat} {tx : TX} {a1 : Int32} {S : sSt} {k : Int32 → sSt → Prop} {kx : String → sSt → Prop} (h : F_X11_reap a1 S k kx) : vx_Met l yX11_reap (Cond.code yX11_reap cX11_reap 3 (some .int) :: TB) rm_X11_reap (va_Pc [.ref (b + adC 0 0), .int a1] (fun U => RelC D cy b z tx S U U.heap ∧ TxR tx U)) (PiC D cy b z tx k) (XeC D cy b z tx kx) 1 6 (gA b 709 z) := by
  refine vx_ofW (cc := cX11_reap) (maxL := 3) (ret := (some .int)) (by decide) rfl ?_
  intro p e s m args below meth c s₁ B hml hexc hv
  obtain ⟨rfl, hR, hT⟩ := hv
  have hX0 := hR.2.2
  have C0 : CallFix p m c cX11_reap 3 s _ TB RX11 := ⟨B.exec, B.bytes, hml, findClass_of_methodNamed B.named, fun w hw => atoms_spec B.pre w (List.mem_cons_of_mem _ hw)⟩
  have hr := B.returns
  have hlk := B.notSynchronized
  have hx := C0.1
  have hb := C0.2.1
  have hS : va_S (gA b 709 z) s.heap s.heap [] := va_S.rf
  have hl := lv_entry ([.ref (b + adC 0 0), .int a1]) (n := 3) (Nat.le_of_ble_eq_true rfl)
  rw [lg_entry_eq]
  generalize (lg_sl ([.ref (b + adC 0 0), .int a1]) ++ List.replicate (3 - (lg_sl ([.ref (b + adC 0 0), .int a1])).length) Slot.unset).toArray = ls at hl ⊢
  have hl : lv_has ls 3 [(0, .ref (b + adC 0 0)), (1, .int a1)] := hl
  show W p l e rm_X11_reap s m _ below meth c s.heap [] 0 0 (vx_MQ below (PiC D cy b z tx k) (XeC D cy b z tx kx) _ s 1 6 (gA b 709 z)) _
  unfold F_X11_reap at h
  refine lv_aload_n hx hb dX11_reap_0 rfl (lv_at hl 0 rfl) ?_
  refine lv_iload_n hx hb dX11_reap_1 rfl (lv_at hl 1 rfl) ?_
  refine qx_Vv (As := [.int a1]) (rest := []) C0 hlk hexc (c_X11_needSession l hl0 h) (cwV 1 C0.2.2.2.2 (tbV mC6_4_133 ⟨mC6_4_135, mpC6_1_5, mC6_1_1, mC6_4_136⟩) rfl rfl rfl (by decide +kernel) ⟨Nat.le_of_ble_eq_true rfl, Nat.le_of_ble_eq_true rfl⟩) (rcC_0 hR Nat.zero_lt_one) hR hT hS rfl hl.1 rfl (Nat.le_of_ble_eq_true rfl) dX11_reap_2 ⟨Nat.le_of_ble_eq_true rfl, Nat.le_of_ble_eq_true rfl⟩ ⟨Nat.le_of_ble_eq_true rfl, Nat.le_of_ble_eq_true rfl⟩ (fun S2 H locs h hR hS => ?_)
  refine lv_aload_n hx hb dX11_reap_5 rfl (lv_at hl 0 rfl) ?_
  refine gC_0_4 C0 hR Nat.zero_lt_one tbs_wsX110 mC6_2_213 dX11_reap_6 ?_
  have w3 : (S2.2 0 0 4) < 3 := hR.2.1.2.1
  refine lv_iload_n hx hb dX11_reap_9 rfl (lv_at hl 1 rfl) ?_
  refine qC_Vi (As := [.int a1]) (rest := []) C0 (c_X6_reapLate l w3 h) (cwV 1 C0.2.2.2.2 (tbV mC6_5_193 ⟨mC6_5_194, mC6_5_195, mC6_1_5, mC6_5_196⟩) rfl rfl rfl (by decide +kernel) ⟨Nat.le_of_ble_eq_true rfl, Nat.le_of_ble_eq_true rfl⟩) (rcC_13 hR w3) hR hT hS rfl hl.1 rfl (Nat.le_of_ble_eq_true rfl) dX11_reap_10 ⟨Nat.le_of_ble_eq_true rfl, Nat.le_of_ble_eq_true rfl⟩ (fun r4 S5 H locs h hR hS => ?_)
  refine lv_istore_n (lv' := [(2, .int r4), (0, .ref (b + adC 0 0)), (1, .int a1)]) hx hb dX11_reap_13 rfl hl (by decide) rfl (fun ls hl => ?_)
  refine lv_aload_n hx hb dX11_reap_14 rfl (lv_at hl 1 rfl) ?_
  refine gC_0_4 C0 hR Nat.zero_lt_one tbs_wsX110 mC6_2_213 dX11_reap_15 ?_
  have w6 : (S5.2 0 0 4) < 3 := hR.2.1.2.1
  refine lv_iload_n hx hb dX11_reap_18 rfl (lv_at hl 2 rfl) ?_
  refine qC_Vv (As := [.int a1]) (rest := []) C0 (c_X6_closeAct l w6 h) (cwV 1 C0.2.2.2.2 (tbV mC6_5_118 ⟨mC6_5_119, mC6_5_120, mC6_1_5, mC6_5_121⟩) rfl rfl rfl (by decide +kernel) ⟨Nat.le_of_ble_eq_true rfl, Nat.le_of_ble_eq_true rfl⟩) (rcC_13 hR w6) hR hT hS rfl hl.1 rfl (Nat.le_of_ble_eq_true rfl) dX11_reap_19 ⟨Nat.le_of_ble_eq_true rfl, Nat.le_of_ble_eq_true rfl⟩ (fun S8 H locs h hR hS => ?_)
  refine lv_iload_n hx hb dX11_reap_22 rfl (lv_at hl 0 rfl) ?_
  refine vx_ret (W.widen (k := 1) (n := 6) (Nat.le_of_ble_eq_true rfl) (Nat.le_of_ble_eq_true rfl) ?_); exact rtC_i C0 hr hlk hR hS h dX11_reap_23

def rm_X11_whyNotSetAside : Room := { frames := 1, cells := 0, slots := 0, locals := 21 }
def F_X11_whyNotSetAside (a0 : Nat) (a1 : Int32) (S : sSt) (k : Int32 → sSt → Prop) : Prop := F_X1_isLockedByOther a0 a1 S (fun r1 S2 => ((r1 = 0 → F_X1_seenBy a0 a1 S2 (fun r4 S5 => ((¬ (S5.1 22 r4 0) = 3 → k 3 S5) ∧ ((S5.1 22 r4 0) = 3 → k 0 S5)))) ∧ (¬ r1 = 0 → k 2 S2)))
set_option maxHeartbeats 4000000 in
set_option maxRecDepth 100000 in
theorem c_X11_whyNotSetAside (l : Launch) {D : va_G} {cy : Nat → ClassId} {b z : Nat} {tx : TX} {a0 : Nat} {a1 : Int32} {S : sSt} {k : Int32 → sSt → Prop} (av0 : a0 < 72) (h : F_X11_whyNotSetAside a0 a1 S k) : Met l yX11_whyNotSetAside (Cond.code yX11_whyNotSetAside cX11_whyNotSetAside 2 (some .int) :: TB) rm_X11_whyNotSetAside (va_Pc [.ref (b + adC 21 a0), .int a1] (fun U => RelC D cy b z tx S U U.heap ∧ TxR tx U)) (PiC D cy b z tx k) 0 0 (gA b 709 z) := by
  refine Met.ofW (cc := cX11_whyNotSetAside) (maxL := 2) (ret := (some .int)) (by decide) rfl ?_
  intro p e s m args below meth c s₁ B hml hv
  obtain ⟨rfl, hR, hT⟩ := hv
  have C0 : CallFix p m c cX11_whyNotSetAside 2 s _ TB RX11 := ⟨B.exec, B.bytes, hml, findClass_of_methodNamed B.named, fun w hw => atoms_spec B.pre w (List.mem_cons_of_mem _ hw)⟩
  have hr := B.returns
  have hlk := B.notSynchronized
  have hx := C0.1
  have hb := C0.2.1
  have hS : va_S (gA b 709 z) s.heap s.heap [] := va_S.rf
  have hl := lv_entry ([.ref (b + adC 21 a0), .int a1]) (n := 2) (Nat.le_of_ble_eq_true rfl)
  rw [lg_entry_eq]
  generalize (lg_sl ([.ref (b + adC 21 a0), .int a1]) ++ List.replicate (2 - (lg_sl ([.ref (b + adC 21 a0), .int a1])).length) Slot.unset).toArray = ls at hl ⊢
  have hl : lv_has ls 2 [(0, .ref (b + adC 21 a0)), (1, .int a1)] := hl
  show W p l e rm_X11_whyNotSetAside s m _ below meth c s.heap [] 0 0 (MQ below (PiC D cy b z tx k) _ s 0 0 (gA b 709 z)) _
  unfold F_X11_whyNotSetAside at h
  refine lv_aload_n hx hb dX11_whyNotSetAside_0 rfl (lv_at hl 0 rfl) ?_
  refine lv_iload_n hx hb dX11_whyNotSetAside_1 rfl (lv_at hl 1 rfl) ?_
  refine qC_Vi (As := [.int a1]) (rest := []) C0 (c_X1_isLockedByOther l av0 h) (cwV 1 C0.2.2.2.2 (tbV mC6_5_148 ⟨mC6_5_84, mC6_5_85, mC6_1_7, mC6_5_86⟩) rfl rfl rfl (by decide +kernel) ⟨Nat.le_of_ble_eq_true rfl, Nat.le_of_ble_eq_true rfl⟩) (rcC_21 hR av0) hR hT hS rfl hl.1 rfl (Nat.le_of_ble_eq_true rfl) dX11_whyNotSetAside_2 ⟨Nat.zero_le _, Nat.zero_le _⟩ (fun r1 S2 H locs h hR hS => ?_)
  refine lv_if_eq (tgt := 10) hx hb dX11_whyNotSetAside_5 (by decide) (fun c3 => ?_) (fun c3 => ?_)
  · have h := h.1 c3
    refine lv_aload_n hx hb dX11_whyNotSetAside_10 rfl (lv_at hl 0 rfl) ?_
    refine lv_iload_n hx hb dX11_whyNotSetAside_11 rfl (lv_at hl 1 rfl) ?_
    refine qC_Vr (As := [.int a1]) (rest := []) C0 (c_X1_seenBy l av0 h) (cwV 1 C0.2.2.2.2 (tbV mC6_5_147 ⟨mC6_5_80, mC6_5_81, mC6_1_7, mC6_5_82⟩) rfl rfl rfl (by decide +kernel) ⟨Nat.le_of_ble_eq_true rfl, Nat.le_of_ble_eq_true rfl⟩) (rcC_21 hR av0) hR hT hS rfl hl.1 rfl (Nat.le_of_ble_eq_true rfl) dX11_whyNotSetAside_12 ⟨Nat.zero_le _, Nat.zero_le _⟩ (fun r4 S5 H locs vr4 h hR hS => ?_)
    refine gCn_22_0 C0 hR vr4 tbs_wsX90 mC6_1_162 hT dX11_whyNotSetAside_15 ?_
    refine lv_iconst (v := 3) hx hb dX11_whyNotSetAside_18 (by decide) ?_
    refine lv_icmp_ne (tgt := 26) hx hb dX11_whyNotSetAside_19 (by decide) (fun c6 => ?_) (fun c6 => ?_)
    · have h := h.1 c6
      refine lv_iconst (v := 3) hx hb dX11_whyNotSetAside_26 (by decide) ?_
      exact rtC_i C0 hr hlk hR hS h dX11_whyNotSetAside_27
    · have h := h.2 c6
      refine lv_iconst (v := 0) hx hb dX11_whyNotSetAside_22 (by decide) ?_
      refine lv_goto (tgt := 27) hx hb dX11_whyNotSetAside_23 (by decide) ?_
      exact rtC_i C0 hr hlk hR hS h dX11_whyNotSetAside_27
  · have h := h.2 c3
    refine lv_iconst (v := 2) hx hb dX11_whyNotSetAside_8 (by decide) ?_
    exact rtC_i C0 hr hlk hR hS h dX11_whyNotSetAside_9

def rm_X11_retry : Room := { frames := 7, cells := 3, slots := 18, locals := 112 }
def F_X11_retry (a1 : Int32) (a2 : Int32) (S : sSt) (k : Int32 → sSt → Prop) (kx : String → sSt → Prop) : Prop := F_X11_needSession a1 S (fun S2 => F_X11_needJob a1 a2 S2 (fun r3 S4 => F_X11_whyNotSetAside r3 a1 S4 (fun r5 S6 => F_X11_settle r5 S6 (fun S8 => F_X1_lockFor r3 a1 S8 (fun r9 S10 => ∀ x11 : Int32, x11 = (S10.1 22 r9 2) → ∀ S12, S12 = uI S10 22 r9 0 0 → ∀ S13, S13 = uI S12 22 r9 2 0 → ∀ S15, S15 = uI S13 22 r9 1 (S13.1 13 (S13.2 0 0 4) 10) → F_X6_closeAct (S15.2 0 0 4) a1 S15 (fun S18 => k x11 S18))) kx)) kx) kx
set_option maxHeartbeats 4000000 in
set_option maxRecDepth 100000 in
theorem c_X11_retry (l : Launch) (hl0 : l.stackTraces = false) {D : va_G} {cy : Nat → ClassId} {b z : Nat} {tx : TX} {a1 : Int32} {a2 : Int32} {S : sSt} {k : Int32 → sSt → Prop} {kx : String → sSt → Prop} (h : F_X11_retry a1 a2 S k kx) : vx_Met l yX11_retry (Cond.code yX11_retry cX11_retry 6 (some .int) :: TB) rm_X11_retry (va_Pc [.ref (b + adC 0 0), .int a1, .int a2] (fun U => RelC D cy b z tx S U U.heap ∧ TxR tx U)) (PiC D cy b z tx k) (XeC D cy b z tx kx) 3 18 (gA b 709 z) := by
  refine vx_ofW (cc := cX11_retry) (maxL := 6) (ret := (some .int)) (by decide) rfl ?_
  intro p e s m args below meth c s₁ B hml hexc hv
  obtain ⟨rfl, hR, hT⟩ := hv
  have hX0 := hR.2.2
  have C0 : CallFix p m c cX11_retry 6 s _ TB RX11 := ⟨B.exec, B.bytes, hml, findClass_of_methodNamed B.named, fun w hw => atoms_spec B.pre w (List.mem_cons_of_mem _ hw)⟩
  have hr := B.returns
  have hlk := B.notSynchronized
  have hx := C0.1
  have hb := C0.2.1
  have hS : va_S (gA b 709 z) s.heap s.heap [] := va_S.rf
  have hl := lv_entry ([.ref (b + adC 0 0), .int a1, .int a2]) (n := 6) (Nat.le_of_ble_eq_true rfl)
  rw [lg_entry_eq]
  generalize (lg_sl ([.ref (b + adC 0 0), .int a1, .int a2]) ++ List.replicate (6 - (lg_sl ([.ref (b + adC 0 0), .int a1, .int a2])).length) Slot.unset).toArray = ls at hl ⊢
  have hl : lv_has ls 6 [(0, .ref (b + adC 0 0)), (1, .int a1), (2, .int a2)] := hl
  show W p l e rm_X11_retry s m _ below meth c s.heap [] 0 0 (vx_MQ below (PiC D cy b z tx k) (XeC D cy b z tx kx) _ s 3 18 (gA b 709 z)) _
  unfold F_X11_retry at h
  refine lv_aload_n hx hb dX11_retry_0 rfl (lv_at hl 0 rfl) ?_
  refine lv_iload_n hx hb dX11_retry_1 rfl (lv_at hl 1 rfl) ?_
  refine qx_Vv (As := [.int a1]) (rest := []) C0 hlk hexc (c_X11_needSession l hl0 h) (cwV 1 C0.2.2.2.2 (tbV mC6_4_133 ⟨mC6_4_135, mpC6_1_5, mC6_1_1, mC6_4_136⟩) rfl rfl rfl (by decide +kernel) ⟨Nat.le_of_ble_eq_true rfl, Nat.le_of_ble_eq_true rfl⟩) (rcC_0 hR Nat.zero_lt_one) hR hT hS rfl hl.1 rfl (Nat.le_of_ble_eq_true rfl) dX11_retry_2 ⟨Nat.le_of_ble_eq_true rfl, Nat.le_of_ble_eq_true rfl⟩ ⟨Nat.le_of_ble_eq_true rfl, Nat.le_of_ble_eq_true rfl⟩ (fun S2 H locs h hR hS => ?_)
  refine lv_aload_n hx hb dX11_retry_5 rfl (lv_at hl 0 rfl) ?_
  refine lv_iload_n hx hb dX11_retry_6 rfl (lv_at hl 1 rfl) ?_
  refine lv_iload_n hx hb dX11_retry_7 rfl (lv_at hl 2 rfl) ?_
  refine qx_Vr (As := [.int a1, .int a2]) (rest := []) C0 hlk hexc (c_X11_needJob l hl0 h) (cwV 2 C0.2.2.2.2 (tbV mC6_5_134 ⟨mC6_5_136, mpC6_1_12, mC6_1_1, mC6_5_137⟩) rfl rfl rfl (by decide +kernel) ⟨Nat.le_of_ble_eq_true rfl, Nat.le_of_ble_eq_true rfl⟩) (rcC_0 hR Nat.zero_lt_one) hR hT hS rfl hl.1 rfl (Nat.le_of_ble_eq_true rfl) dX11_retry_8 ⟨Nat.le_of_ble_eq_true rfl, Nat.le_of_ble_eq_true rfl⟩ ⟨Nat.le_of_ble_eq_true rfl, Nat.le_of_ble_eq_true rfl⟩ (fun r3 S4 H locs vr3 h hR hS => ?_)
  refine lv_astore_n (lv' := [(3, .ref (b + adC 21 r3)), (0, .ref (b + adC 0 0)), (1, .int a1), (2, .int a2)]) hx hb dX11_retry_11 rfl hl (by decide) rfl (fun ls hl => ?_)
  refine lv_aload_n hx hb dX11_retry_12 rfl (lv_at hl 1 rfl) ?_
  refine lv_aload_n hx hb dX11_retry_13 rfl (lv_at hl 0 rfl) ?_
  refine lv_iload_n hx hb dX11_retry_14 rfl (lv_at hl 2 rfl) ?_
  refine qC_Si (As := [.ref (b + adC 21 r3), .int a1]) (rest := [.ref (b + adC 0 0)]) C0 (c_X11_whyNotSetAside l vr3 h) (va_cwS 2 C0.2.2.2.2 (tbS mC6_5_212 ⟨mC6_5_213, mC6_1_1, mC6_5_214⟩) rfl rfl rfl (by decide +kernel) ⟨Nat.le_of_ble_eq_true rfl, Nat.le_of_ble_eq_true rfl⟩) hR hT hS rfl hl.1 rfl (Nat.le_of_ble_eq_true rfl) dX11_retry_15 ⟨Nat.le_of_ble_eq_true rfl, Nat.le_of_ble_eq_true rfl⟩ (fun r5 S6 H locs h hR hS => ?_)
  refine qx_Vv (As := [.int r5]) (rest := []) C0 hlk hexc (c_X11_settle l hl0 h) (cwV 1 C0.2.2.2.2 (tbV mC6_4_202 ⟨mC6_4_204, mpC6_1_8, mC6_1_1, mC6_4_205⟩) rfl rfl rfl (by decide +kernel) ⟨Nat.le_of_ble_eq_true rfl, Nat.le_of_ble_eq_true rfl⟩) (rcC_0 hR Nat.zero_lt_one) hR hT hS rfl hl.1 rfl (Nat.le_of_ble_eq_true rfl) dX11_retry_18 ⟨Nat.le_of_ble_eq_true rfl, Nat.le_of_ble_eq_true rfl⟩ ⟨Nat.le_of_ble_eq_true rfl, Nat.le_of_ble_eq_true rfl⟩ (fun S8 H locs h hR hS => ?_)
  refine lv_aload_n hx hb dX11_retry_21 rfl (lv_at hl 0 rfl) ?_
  refine lv_iload_n hx hb dX11_retry_22 rfl (lv_at hl 2 rfl) ?_
  refine qC_Vr (As := [.int a1]) (rest := []) C0 (c_X1_lockFor l vr3 h) (cwV 1 C0.2.2.2.2 (tbV mC6_5_149 ⟨mC6_5_115, mC6_5_116, mC6_1_7, mC6_5_117⟩) rfl rfl rfl (by decide +kernel) ⟨Nat.le_of_ble_eq_true rfl, Nat.le_of_ble_eq_true rfl⟩) (rcC_21 hR vr3) hR hT hS rfl hl.1 rfl (Nat.le_of_ble_eq_true rfl) dX11_retry_23 ⟨Nat.le_of_ble_eq_true rfl, Nat.le_of_ble_eq_true rfl⟩ (fun r9 S10 H locs vr9 h hR hS => ?_)
  refine lv_astore (lv' := [(4, .ref (b + adC 22 r9)), (3, .ref (b + adC 21 r3)), (0, .ref (b + adC 0 0)), (1, .int a1), (2, .int a2)]) hx hb dX11_retry_26 hl (by decide) rfl (fun ls hl => ?_)
  refine lv_aload hx hb dX11_retry_28 (lv_at hl 0 rfl) ?_
  refine gCn_22_2 C0 hR vr9 tbs_wsX90 mC6_1_173 hT dX11_retry_30 ?_
  refine lv_topi (fun x11 ex11 => ?_)
  have h := h x11 ex11
  refine lv_istore (lv' := [(5, .int x11), (4, .ref (b + adC 22 r9)), (3, .ref (b + adC 21 r3)), (0, .ref (b + adC 0 0)), (1, .int a1), (2, .int a2)]) hx hb dX11_retry_33 hl (by decide) rfl (fun ls hl => ?_)
  refine lv_aload hx hb dX11_retry_35 (lv_at hl 1 rfl) ?_
  refine lv_iconst (v := 0) hx hb dX11_retry_37 (by decide) ?_
  refine pCn_22_0 C0 hR hS vr9 tbs_wsX90 mC6_1_162 hT dX11_retry_38 (fun S12 eS12 H locs hR hS => ?_)
  have h := h S12 eS12
  refine lv_aload hx hb dX11_retry_41 (lv_at hl 1 rfl) ?_
  refine lv_iconst (v := 0) hx hb dX11_retry_43 (by decide) ?_
  refine pCn_22_2 C0 hR hS vr9 tbs_wsX90 mC6_1_173 hT dX11_retry_44 (fun S13 eS13 H locs hR hS => ?_)
  have h := h S13 eS13
  refine lv_aload hx hb dX11_retry_47 (lv_at hl 1 rfl) ?_
  refine lv_aload_n hx hb dX11_retry_49 rfl (lv_at hl 3 rfl) ?_
  refine gC_0_4 C0 hR Nat.zero_lt_one tbs_wsX110 mC6_2_213 dX11_retry_50 ?_
  have w14 : (S13.2 0 0 4) < 3 := hR.2.1.2.1
  refine gCn_13_10 C0 hR w14 tbs_wsX60 mC6_2_163 hT dX11_retry_53 ?_
  refine pCn_22_1 C0 hR hS vr9 tbs_wsX90 mC6_1_169 hT dX11_retry_56 (fun S15 eS15 H locs hR hS => ?_)
  have h := h S15 eS15
  refine lv_aload_n hx hb dX11_retry_59 rfl (lv_at hl 3 rfl) ?_
  refine gC_0_4 C0 hR Nat.zero_lt_one tbs_wsX110 mC6_2_213 dX11_retry_60 ?_
  have w16 : (S15.2 0 0 4) < 3 := hR.2.1.2.1
  refine lv_iload_n hx hb dX11_retry_63 rfl (lv_at hl 4 rfl) ?_
  refine qC_Vv (As := [.int a1]) (rest := []) C0 (c_X6_closeAct l w16 h) (cwV 1 C0.2.2.2.2 (tbV mC6_5_118 ⟨mC6_5_119, mC6_5_120, mC6_1_5, mC6_5_121⟩) rfl rfl rfl (by decide +kernel) ⟨Nat.le_of_ble_eq_true rfl, Nat.le_of_ble_eq_true rfl⟩) (rcC_13 hR w16) hR hT hS rfl hl.1 rfl (Nat.le_of_ble_eq_true rfl) dX11_retry_64 ⟨Nat.le_of_ble_eq_true rfl, Nat.le_of_ble_eq_true rfl⟩ (fun S18 H locs h hR hS => ?_)
  refine lv_iload hx hb dX11_retry_67 (lv_at hl 0 rfl) ?_
  refine vx_ret (W.widen (k := 3) (n := 18) (Nat.le_of_ble_eq_true rfl) (Nat.le_of_ble_eq_true rfl) ?_); exact rtC_i C0 hr hlk hR hS h dX11_retry_69

def rm_X11_needGroup : Room := { frames := 6, cells := 1, slots := 6, locals := 89 }
def B_X11_needGroup_10 (S : sSt) (k : sSt → Prop) (kx : String → sSt → Prop) : Prop := kx "java/lang/IndexOutOfBoundsException" S
set_option maxHeartbeats 4000000 in
set_option maxRecDepth 100000 in
theorem Bw_X11_needGroup_10 {p : Program} {l : Launch} {e : Env} {s : State} {m : MethodId} {args : Array Value} {below : List Frame} {meth : Method} {c : Code} {D : va_G} {cy : Nat → ClassId} {b z : Nat} {tx : TX} (C0 : CallFix p m c cX11_needGroup 2 s args TB RX11) (hr : meth.sig.returnType = none) (hlk : meth.locks = false) (hT : TxR tx s) (hl0 : l.stackTraces = false) (hX0 : TxP tx b z s s.heap) (hexc : ∀ x ∈ c.exceptionTable.toList, False) {k : sSt → Prop} {kx : String → sSt → Prop} : ∀ (S : sSt) (H : Heap) (locs : List Loc) (ls : Array Slot) , B_X11_needGroup_10 S k kx → RelC D cy b z tx S s H → va_S (gA b 709 z) s.heap H locs → lv_has ls 2 [] → W p l e rm_X11_needGroup s m args below meth c H locs 0 0 (vx_MQ below (PvC D cy b z tx k) (XeC D cy b z tx kx) args s 1 6 (gA b 709 z)) (F0 m 10 ls []) := by
  intro S H locs ls h hR hS hl
  have hx := C0.1
  have hb := C0.2.1
  unfold B_X11_needGroup_10 at h
  exact w_throw_2 C0 hl0 hX0 hT hR hS hl.1 hexc hlk h mC6_4_137 mC6_1_23 dX11_needGroup_10 dX11_needGroup_13 dX11_needGroup_14 dX11_needGroup_17 (Nat.le_of_ble_eq_true rfl) (Nat.le_of_ble_eq_true rfl) (Nat.le_of_ble_eq_true rfl) (Nat.le_of_ble_eq_true rfl) (Nat.le_of_ble_eq_true rfl) (Nat.le_of_ble_eq_true rfl)
def F_X11_needGroup (a1 : Int32) (S : sSt) (k : sSt → Prop) (kx : String → sSt → Prop) : Prop := ((a1 < 0 → B_X11_needGroup_10 S k kx) ∧ (¬ a1 < 0 → ((a1 < 6 → k S) ∧ (¬ a1 < 6 → B_X11_needGroup_10 S k kx))))
set_option maxHeartbeats 4000000 in
set_option maxRecDepth 100000 in
theorem c_X11_needGroup (l : Launch) (hl0 : l.stackTraces = false) {D : va_G} {cy : Nat → ClassId} {b z : Nat} {tx : TX} {a1 : Int32} {S : sSt} {k : sSt → Prop} {kx : String → sSt → Prop} (h : F_X11_needGroup a1 S k kx) : vx_Met l yX11_needGroup (Cond.code yX11_needGroup cX11_needGroup 2 none :: TB) rm_X11_needGroup (va_Pc [.ref (b + adC 0 0), .int a1] (fun U => RelC D cy b z tx S U U.heap ∧ TxR tx U)) (PvC D cy b z tx k) (XeC D cy b z tx kx) 1 6 (gA b 709 z) := by
  refine vx_ofW (cc := cX11_needGroup) (maxL := 2) (ret := none) (by decide) rfl ?_
  intro p e s m args below meth c s₁ B hml hexc hv
  obtain ⟨rfl, hR, hT⟩ := hv
  have hX0 := hR.2.2
  have C0 : CallFix p m c cX11_needGroup 2 s _ TB RX11 := ⟨B.exec, B.bytes, hml, findClass_of_methodNamed B.named, fun w hw => atoms_spec B.pre w (List.mem_cons_of_mem _ hw)⟩
  have hr := B.returns
  have hlk := B.notSynchronized
  have hx := C0.1
  have hb := C0.2.1
  have hS : va_S (gA b 709 z) s.heap s.heap [] := va_S.rf
  have hl := lv_entry ([.ref (b + adC 0 0), .int a1]) (n := 2) (Nat.le_of_ble_eq_true rfl)
  rw [lg_entry_eq]
  generalize (lg_sl ([.ref (b + adC 0 0), .int a1]) ++ List.replicate (2 - (lg_sl ([.ref (b + adC 0 0), .int a1])).length) Slot.unset).toArray = ls at hl ⊢
  have hl : lv_has ls 2 [(0, .ref (b + adC 0 0)), (1, .int a1)] := hl
  show W p l e rm_X11_needGroup s m _ below meth c s.heap [] 0 0 (vx_MQ below (PvC D cy b z tx k) (XeC D cy b z tx kx) _ s 1 6 (gA b 709 z)) _
  unfold F_X11_needGroup at h
  refine lv_iload_n hx hb dX11_needGroup_0 rfl (lv_at hl 1 rfl) ?_
  refine lv_if_lt (tgt := 10) hx hb dX11_needGroup_1 (by decide) (fun c1 => ?_) (fun c1 => ?_)
  · have h := h.1 c1
    refine W.widen (k := 0) (n := 0) (Nat.le_of_ble_eq_true rfl) (Nat.le_of_ble_eq_true rfl) ?_
    exact Bw_X11_needGroup_10 C0 hr hlk hT hl0 hX0 hexc S _ _ _ h hR hS (lv_sub hl [] rfl)
  · have h := h.2 c1
    refine lv_iload_n hx hb dX11_needGroup_4 rfl (lv_at hl 1 rfl) ?_
    refine lv_bipush (v := 6) hx hb dX11_needGroup_5 (by decide) ?_
    refine lv_icmp_lt (tgt := 18) hx hb dX11_needGroup_7 (by decide) (fun c2 => ?_) (fun c2 => ?_)
    · have h := h.1 c2
      refine vx_ret (W.widen (k := 1) (n := 6) (Nat.le_of_ble_eq_true rfl) (Nat.le_of_ble_eq_true rfl) ?_); exact rtC_v C0 hr hlk hR hS h dX11_needGroup_18
    · have h := h.2 c2
      refine W.widen (k := 0) (n := 0) (Nat.le_of_ble_eq_true rfl) (Nat.le_of_ble_eq_true rfl) ?_
      exact Bw_X11_needGroup_10 C0 hr hlk hT hl0 hX0 hexc S _ _ _ h hR hS (lv_sub hl [] rfl)

def rm_X1_ownBy : Room := { frames := 2, cells := 0, slots := 0, locals := 42 }
def F_X1_ownBy (a0 : Nat) (a1 : Int32) (S : sSt) (k : sSt → Prop) : Prop := F_X1_lockFor a0 a1 S (fun r1 S2 => ∀ S3, S3 = uI S2 21 a0 5 0 → k S3)
set_option maxHeartbeats 4000000 in
set_option maxRecDepth 100000 in
theorem c_X1_ownBy (l : Launch) {D : va_G} {cy : Nat → ClassId} {b z : Nat} {tx : TX} {a0 : Nat} {a1 : Int32} {S : sSt} {k : sSt → Prop} (av0 : a0 < 72) (h : F_X1_ownBy a0 a1 S k) : Met l yX1_ownBy (Cond.code yX1_ownBy cX1_ownBy 2 none :: TB) rm_X1_ownBy (va_Pc [.ref (b + adC 21 a0), .int a1] (fun U => RelC D cy b z tx S U U.heap ∧ TxR tx U)) (PvC D cy b z tx k) 0 0 (gA b 709 z) := by
  refine Met.ofW (cc := cX1_ownBy) (maxL := 2) (ret := none) (by decide) rfl ?_
  intro p e s m args below meth c s₁ B hml hv
  obtain ⟨rfl, hR, hT⟩ := hv
  have C0 : CallFix p m c cX1_ownBy 2 s _ TB RX1 := ⟨B.exec, B.bytes, hml, findClass_of_methodNamed B.named, fun w hw => atoms_spec B.pre w (List.mem_cons_of_mem _ hw)⟩
  have hr := B.returns
  have hlk := B.notSynchronized
  have hx := C0.1
  have hb := C0.2.1
  have hS : va_S (gA b 709 z) s.heap s.heap [] := va_S.rf
  have hl := lv_entry ([.ref (b + adC 21 a0), .int a1]) (n := 2) (Nat.le_of_ble_eq_true rfl)
  rw [lg_entry_eq]
  generalize (lg_sl ([.ref (b + adC 21 a0), .int a1]) ++ List.replicate (2 - (lg_sl ([.ref (b + adC 21 a0), .int a1])).length) Slot.unset).toArray = ls at hl ⊢
  have hl : lv_has ls 2 [(0, .ref (b + adC 21 a0)), (1, .int a1)] := hl
  show W p l e rm_X1_ownBy s m _ below meth c s.heap [] 0 0 (MQ below (PvC D cy b z tx k) _ s 0 0 (gA b 709 z)) _
  unfold F_X1_ownBy at h
  refine lv_aload_n hx hb dX1_ownBy_0 rfl (lv_at hl 0 rfl) ?_
  refine lv_iload_n hx hb dX1_ownBy_1 rfl (lv_at hl 1 rfl) ?_
  refine qC_Vr (As := [.int a1]) (rest := []) C0 (c_X1_lockFor l av0 h) (cwV 1 C0.2.2.2.2 (tbV mC6_5_231 ⟨mC6_5_115, mC6_5_116, mC6_1_7, mC6_5_117⟩) rfl rfl rfl (by decide +kernel) ⟨Nat.le_of_ble_eq_true rfl, Nat.le_of_ble_eq_true rfl⟩) (rcC_21 hR av0) hR hT hS rfl hl.1 rfl (Nat.le_of_ble_eq_true rfl) dX1_ownBy_2 ⟨Nat.zero_le _, Nat.zero_le _⟩ (fun r1 S2 H locs vr1 h hR hS => ?_)
  refine lv_pop hx hb dX1_ownBy_5 rfl ?_
  refine lv_aload_n hx hb dX1_ownBy_6 rfl (lv_at hl 0 rfl) ?_
  refine lv_iconst (v := 0) hx hb dX1_ownBy_7 (by decide) ?_
  refine pC_21_5 C0 hR hS av0 tbs_wsX10 mC6_1_223 (by decide) dX1_ownBy_8 (fun S3 eS3 H locs hR hS => ?_)
  have h := h S3 eS3
  exact rtC_v C0 hr hlk hR hS h dX1_ownBy_11

def rm_X11_bring : Room := { frames := 7, cells := 4, slots := 24, locals := 110 }
def B_X11_bring_33 (S : sSt) (k : Int32 → sSt → Prop) (kx : String → sSt → Prop) : Prop := kx "java/lang/IllegalArgumentException" S
set_option maxHeartbeats 4000000 in
set_option maxRecDepth 100000 in
theorem Bw_X11_bring_33 {p : Program} {l : Launch} {e : Env} {s : State} {m : MethodId} {args : Array Value} {below : List Frame} {meth : Method} {c : Code} {D : va_G} {cy : Nat → ClassId} {b z : Nat} {tx : TX} (C0 : CallFix p m c cX11_bring 6 s args TB RX11) (hr : meth.sig.returnType = (some .int)) (hlk : meth.locks = false) (hT : TxR tx s) (hl0 : l.stackTraces = false) (hX0 : TxP tx b z s s.heap) (hexc : ∀ x ∈ c.exceptionTable.toList, False) {k : Int32 → sSt → Prop} {kx : String → sSt → Prop} : ∀ (S : sSt) (H : Heap) (locs : List Loc) (ls : Array Slot) , B_X11_bring_33 S k kx → RelC D cy b z tx S s H → va_S (gA b 709 z) s.heap H locs → lv_has ls 6 [] → W p l e rm_X11_bring s m args below meth c H locs 2 12 (vx_MQ below (PiC D cy b z tx k) (XeC D cy b z tx kx) args s 4 24 (gA b 709 z)) (F0 m 33 ls []) := by
  intro S H locs ls h hR hS hl
  have hx := C0.1
  have hb := C0.2.1
  unfold B_X11_bring_33 at h
  exact w_throw_0 C0 hl0 hX0 hT hR hS hl.1 hexc hlk h mC6_4_45 mC6_1_21 dX11_bring_33 dX11_bring_36 dX11_bring_37 dX11_bring_40 (Nat.le_of_ble_eq_true rfl) (Nat.le_of_ble_eq_true rfl) (Nat.le_of_ble_eq_true rfl) (Nat.le_of_ble_eq_true rfl) (Nat.le_of_ble_eq_true rfl) (Nat.le_of_ble_eq_true rfl)
def F_X11_bring (a1 : Int32) (a2 : Int32) (a3 : Int32) (a4 : Int32) (S : sSt) (k : Int32 → sSt → Prop) (kx : String → sSt → Prop) : Prop := F_X11_needSession a1 S (fun S2 => F_X11_needGroup a2 S2 (fun S4 => ((a3 < 0 → B_X11_bring_33 S4 k kx) ∧ (¬ a3 < 0 → ((9 < a3 → B_X11_bring_33 S4 k kx) ∧ (¬ 9 < a3 → ((a4 < 1 → B_X11_bring_33 S4 k kx) ∧ (¬ a4 < 1 → ((a4 ≤ 9 → F_X6_addJob (S4.2 0 0 4) a2 a3 a4 S4 (fun o17 S11 => ((o17 = none → kx "java/lang/UnsupportedOperationException" S11) ∧ (∀ r10, o17 = some r10 → F_X1_ownBy r10 a1 S11 (fun S13 => F_X6_closeAct (S13.2 0 0 4) a1 S13 (fun S16 => k (S16.1 21 r10 6) S16)))))) ∧ (¬ a4 ≤ 9 → B_X11_bring_33 S4 k kx))))))))) kx) kx
set_option maxHeartbeats 4000000 in
set_option maxRecDepth 100000 in
theorem c_X11_bring (l : Launch) (hl0 : l.stackTraces = false) {D : va_G} {cy : Nat → ClassId} {b z : Nat} {tx : TX} {a1 : Int32} {a2 : Int32} {a3 : Int32} {a4 : Int32} {S : sSt} {k : Int32 → sSt → Prop} {kx : String → sSt → Prop} (h : F_X11_bring a1 a2 a3 a4 S k kx) : vx_Met l yX11_bring (Cond.code yX11_bring cX11_bring 6 (some .int) :: TB) rm_X11_bring (va_Pc [.ref (b + adC 0 0), .int a1, .int a2, .int a3, .int a4] (fun U => RelC D cy b z tx S U U.heap ∧ TxR tx U)) (PiC D cy b z tx k) (XeC D cy b z tx kx) 4 24 (gA b 709 z) := by
  refine vx_ofW (cc := cX11_bring) (maxL := 6) (ret := (some .int)) (by decide) rfl ?_
  intro p e s m args below meth c s₁ B hml hexc hv
  obtain ⟨rfl, hR, hT⟩ := hv
  have hX0 := hR.2.2
  have C0 : CallFix p m c cX11_bring 6 s _ TB RX11 := ⟨B.exec, B.bytes, hml, findClass_of_methodNamed B.named, fun w hw => atoms_spec B.pre w (List.mem_cons_of_mem _ hw)⟩
  have hr := B.returns
  have hlk := B.notSynchronized
  have hx := C0.1
  have hb := C0.2.1
  have hS : va_S (gA b 709 z) s.heap s.heap [] := va_S.rf
  have hl := lv_entry ([.ref (b + adC 0 0), .int a1, .int a2, .int a3, .int a4]) (n := 6) (Nat.le_of_ble_eq_true rfl)
  rw [lg_entry_eq]
  generalize (lg_sl ([.ref (b + adC 0 0), .int a1, .int a2, .int a3, .int a4]) ++ List.replicate (6 - (lg_sl ([.ref (b + adC 0 0), .int a1, .int a2, .int a3, .int a4])).length) Slot.unset).toArray = ls at hl ⊢
  have hl : lv_has ls 6 [(0, .ref (b + adC 0 0)), (1, .int a1), (2, .int a2), (3, .int a3), (4, .int a4)] := hl
  show W p l e rm_X11_bring s m _ below meth c s.heap [] 0 0 (vx_MQ below (PiC D cy b z tx k) (XeC D cy b z tx kx) _ s 4 24 (gA b 709 z)) _
  unfold F_X11_bring at h
  refine lv_aload_n hx hb dX11_bring_0 rfl (lv_at hl 0 rfl) ?_
  refine lv_iload_n hx hb dX11_bring_1 rfl (lv_at hl 1 rfl) ?_
  refine qx_Vv (As := [.int a1]) (rest := []) C0 hlk hexc (c_X11_needSession l hl0 h) (cwV 1 C0.2.2.2.2 (tbV mC6_4_133 ⟨mC6_4_135, mpC6_1_5, mC6_1_1, mC6_4_136⟩) rfl rfl rfl (by decide +kernel) ⟨Nat.le_of_ble_eq_true rfl, Nat.le_of_ble_eq_true rfl⟩) (rcC_0 hR Nat.zero_lt_one) hR hT hS rfl hl.1 rfl (Nat.le_of_ble_eq_true rfl) dX11_bring_2 ⟨Nat.le_of_ble_eq_true rfl, Nat.le_of_ble_eq_true rfl⟩ ⟨Nat.le_of_ble_eq_true rfl, Nat.le_of_ble_eq_true rfl⟩ (fun S2 H locs h hR hS => ?_)
  refine lv_aload_n hx hb dX11_bring_5 rfl (lv_at hl 0 rfl) ?_
  refine lv_iload_n hx hb dX11_bring_6 rfl (lv_at hl 2 rfl) ?_
  refine qx_Vv (As := [.int a2]) (rest := []) C0 hlk hexc (c_X11_needGroup l hl0 h) (cwV 1 C0.2.2.2.2 (tbV mC6_5_222 ⟨mC6_5_224, mpC6_2_0, mC6_1_1, mC6_5_225⟩) rfl rfl rfl (by decide +kernel) ⟨Nat.le_of_ble_eq_true rfl, Nat.le_of_ble_eq_true rfl⟩) (rcC_0 hR Nat.zero_lt_one) hR hT hS rfl hl.1 rfl (Nat.le_of_ble_eq_true rfl) dX11_bring_7 ⟨Nat.le_of_ble_eq_true rfl, Nat.le_of_ble_eq_true rfl⟩ ⟨Nat.le_of_ble_eq_true rfl, Nat.le_of_ble_eq_true rfl⟩ (fun S4 H locs h hR hS => ?_)
  refine lv_iload_n hx hb dX11_bring_10 rfl (lv_at hl 3 rfl) ?_
  refine lv_if_lt (tgt := 33) hx hb dX11_bring_11 (by decide) (fun c5 => ?_) (fun c5 => ?_)
  · have h := h.1 c5
    refine W.widen (k := 2) (n := 12) (Nat.le_of_ble_eq_true rfl) (Nat.le_of_ble_eq_true rfl) ?_
    exact Bw_X11_bring_33 C0 hr hlk hT hl0 hX0 hexc S4 _ _ _ h hR hS (lv_sub hl [] rfl)
  · have h := h.2 c5
    refine lv_iload_n hx hb dX11_bring_14 rfl (lv_at hl 3 rfl) ?_
    refine lv_bipush (v := 9) hx hb dX11_bring_15 (by decide) ?_
    refine lv_icmp_gt (tgt := 33) hx hb dX11_bring_17 (by decide) (fun c6 => ?_) (fun c6 => ?_)
    · have h := h.1 c6
      refine W.widen (k := 2) (n := 12) (Nat.le_of_ble_eq_true rfl) (Nat.le_of_ble_eq_true rfl) ?_
      exact Bw_X11_bring_33 C0 hr hlk hT hl0 hX0 hexc S4 _ _ _ h hR hS (lv_sub hl [] rfl)
    · have h := h.2 c6
      refine lv_iload hx hb dX11_bring_20 (lv_at hl 4 rfl) ?_
      refine lv_iconst (v := 1) hx hb dX11_bring_22 (by decide) ?_
      refine lv_icmp_lt (tgt := 33) hx hb dX11_bring_23 (by decide) (fun c7 => ?_) (fun c7 => ?_)
      · have h := h.1 c7
        refine W.widen (k := 2) (n := 12) (Nat.le_of_ble_eq_true rfl) (Nat.le_of_ble_eq_true rfl) ?_
        exact Bw_X11_bring_33 C0 hr hlk hT hl0 hX0 hexc S4 _ _ _ h hR hS (lv_sub hl [] rfl)
      · have h := h.2 c7
        refine lv_iload hx hb dX11_bring_26 (lv_at hl 4 rfl) ?_
        refine lv_bipush (v := 9) hx hb dX11_bring_28 (by decide) ?_
        refine lv_icmp_le (tgt := 41) hx hb dX11_bring_30 (by decide) (fun c8 => ?_) (fun c8 => ?_)
        · have h := h.1 c8
          refine lv_aload_n hx hb dX11_bring_41 rfl (lv_at hl 0 rfl) ?_
          refine gC_0_4 C0 hR Nat.zero_lt_one tbs_wsX110 mC6_2_213 dX11_bring_42 ?_
          have w9 : (S4.2 0 0 4) < 3 := hR.2.1.2.1
          refine lv_iload_n hx hb dX11_bring_45 rfl (lv_at hl 2 rfl) ?_
          refine lv_iload_n hx hb dX11_bring_46 rfl (lv_at hl 3 rfl) ?_
          refine lv_iload hx hb dX11_bring_47 (lv_at hl 4 rfl) ?_
          refine qC_Vq (As := [.int a2, .int a3, .int a4]) (rest := []) C0 (c_X6_addJob l w9 h) (cwV 3 C0.2.2.2.2 (tbV mC6_5_226 ⟨mC6_3_223, mC6_3_224, mC6_1_5, mC6_3_225⟩) rfl rfl rfl (by decide +kernel) ⟨Nat.le_of_ble_eq_true rfl, Nat.le_of_ble_eq_true rfl⟩) (rcC_13 hR w9) hR hT hS rfl hl.1 rfl (Nat.le_of_ble_eq_true rfl) dX11_bring_49 ⟨Nat.le_of_ble_eq_true rfl, Nat.le_of_ble_eq_true rfl⟩ (fun S11 H locs h hR hS => ?_) (fun r10 S11 H locs vr10 h hR hS => ?_)
          · have h := h.1 rfl
            refine lv_astoreN (lv' := [(5, .null), (0, .ref (b + adC 0 0)), (1, .int a1), (2, .int a2), (3, .int a3), (4, .int a4)]) hx hb dX11_bring_52 hl (by decide) rfl (fun ls hl => ?_)
            refine lv_aloadN hx hb dX11_bring_54 (lv_at hl 0 rfl) ?_
            refine lv_ifnonnullN hx hb dX11_bring_56 ?_
            exact w_throw_1 C0 hl0 hX0 hT hR hS hl.1 hexc hlk h mC6_4_110 mC6_1_22 dX11_bring_59 dX11_bring_62 dX11_bring_63 dX11_bring_66 (Nat.le_of_ble_eq_true rfl) (Nat.le_of_ble_eq_true rfl) (Nat.le_of_ble_eq_true rfl) (Nat.le_of_ble_eq_true rfl) (Nat.le_of_ble_eq_true rfl) (Nat.le_of_ble_eq_true rfl)
          · have h := h.2 r10 rfl
            refine lv_astore (lv' := [(5, .ref (b + adC 21 r10)), (0, .ref (b + adC 0 0)), (1, .int a1), (2, .int a2), (3, .int a3), (4, .int a4)]) hx hb dX11_bring_52 hl (by decide) rfl (fun ls hl => ?_)
            refine lv_aload hx hb dX11_bring_54 (lv_at hl 0 rfl) ?_
            refine lv_ifnonnull (tgt := 67) hx hb dX11_bring_56 (by decide) ?_
            refine lv_aload hx hb dX11_bring_67 (lv_at hl 0 rfl) ?_
            refine lv_iload_n hx hb dX11_bring_69 rfl (lv_at hl 2 rfl) ?_
            refine qC_Vv (As := [.int a1]) (rest := []) C0 (c_X1_ownBy l vr10 h) (cwV 1 C0.2.2.2.2 (tbV mC6_5_227 ⟨mC6_5_228, mC6_5_229, mC6_1_7, mC6_5_230⟩) rfl rfl rfl (by decide +kernel) ⟨Nat.le_of_ble_eq_true rfl, Nat.le_of_ble_eq_true rfl⟩) (rcC_21 hR vr10) hR hT hS rfl hl.1 rfl (Nat.le_of_ble_eq_true rfl) dX11_bring_70 ⟨Nat.le_of_ble_eq_true rfl, Nat.le_of_ble_eq_true rfl⟩ (fun S13 H locs h hR hS => ?_)
            refine lv_aload_n hx hb dX11_bring_73 rfl (lv_at hl 1 rfl) ?_
            refine gC_0_4 C0 hR Nat.zero_lt_one tbs_wsX110 mC6_2_213 dX11_bring_74 ?_
            have w14 : (S13.2 0 0 4) < 3 := hR.2.1.2.1
            refine lv_iload_n hx hb dX11_bring_77 rfl (lv_at hl 2 rfl) ?_
            refine qC_Vv (As := [.int a1]) (rest := []) C0 (c_X6_closeAct l w14 h) (cwV 1 C0.2.2.2.2 (tbV mC6_5_118 ⟨mC6_5_119, mC6_5_120, mC6_1_5, mC6_5_121⟩) rfl rfl rfl (by decide +kernel) ⟨Nat.le_of_ble_eq_true rfl, Nat.le_of_ble_eq_true rfl⟩) (rcC_13 hR w14) hR hT hS rfl hl.1 rfl (Nat.le_of_ble_eq_true rfl) dX11_bring_78 ⟨Nat.le_of_ble_eq_true rfl, Nat.le_of_ble_eq_true rfl⟩ (fun S16 H locs h hR hS => ?_)
            refine lv_aload hx hb dX11_bring_81 (lv_at hl 0 rfl) ?_
            refine gCn_21_6 C0 hR vr10 tbs_wsX10 mC6_1_232 hT dX11_bring_83 ?_
            refine vx_ret (W.widen (k := 4) (n := 24) (Nat.le_of_ble_eq_true rfl) (Nat.le_of_ble_eq_true rfl) ?_); exact rtC_i C0 hr hlk hR hS h dX11_bring_86
        · have h := h.2 c8
          refine W.widen (k := 2) (n := 12) (Nat.le_of_ble_eq_true rfl) (Nat.le_of_ble_eq_true rfl) ?_
          exact Bw_X11_bring_33 C0 hr hlk hT hl0 hX0 hexc S4 _ _ _ h hR hS (lv_sub hl [] rfl)

def rm_X6_sweepDone : Room := { frames := 1, cells := 0, slots := 0, locals := 23 }
def B_X6_sweepDone_47 (kk12 : Nat → Int32 → Int32 → sSt → Prop) (a0 : Nat) (a1 : Int32) (a2 : Int32) (S : sSt) (k : Int32 → sSt → Prop) : Prop := ∀ x9 : Int32, x9 = a2 + (-1) → kk12 a0 a1 x9 S
set_option maxHeartbeats 4000000 in
set_option maxRecDepth 100000 in
theorem Bw_X6_sweepDone_47 {p : Program} {l : Launch} {e : Env} {s : State} {m : MethodId} {args : Array Value} {below : List Frame} {meth : Method} {c : Code} {D : va_G} {cy : Nat → ClassId} {b z : Nat} {tx : TX} (C0 : CallFix p m c cX6_sweepDone 4 s args TB RX6) (hr : meth.sig.returnType = (some .int)) (hlk : meth.locks = false) (hT : TxR tx s) {k : Int32 → sSt → Prop} {kk12 : Nat → Int32 → Int32 → sSt → Prop} (ih12 : ∀ (a0 : Nat) (a1 : Int32) (a2 : Int32) (S : sSt) (H : Heap) (locs : List Loc) (ls : Array Slot) (av0 : a0 < 3), kk12 a0 a1 a2 S → RelC D cy b z tx S s H → va_S (gA b 709 z) s.heap H locs → lv_has ls 4 [(0, .ref (b + adC 13 a0)), (1, .int a1), (2, .int a2)] → W p l e rm_X6_sweepDone s m args below meth c H locs 0 0 (MQ below (PiC D cy b z tx k) args s 0 0 (gA b 709 z)) (F0 m 12 ls [])) : ∀ (a0 : Nat) (a1 : Int32) (a2 : Int32) (S : sSt) (H : Heap) (locs : List Loc) (ls : Array Slot) (av0 : a0 < 3), B_X6_sweepDone_47 kk12 a0 a1 a2 S k → RelC D cy b z tx S s H → va_S (gA b 709 z) s.heap H locs → lv_has ls 4 [(0, .ref (b + adC 13 a0)), (1, .int a1), (2, .int a2)] → W p l e rm_X6_sweepDone s m args below meth c H locs 0 0 (MQ below (PiC D cy b z tx k) args s 0 0 (gA b 709 z)) (F0 m 47 ls []) := by
  intro a0 a1 a2 S H locs ls av0 h hR hS hl
  have hx := C0.1
  have hb := C0.2.1
  unfold B_X6_sweepDone_47 at h
  obtain ⟨x9, ex9⟩ : ∃ x9 : Int32, x9 = a2 + (-1) := ⟨_, rfl⟩
  have h := h x9 ex9
  refine w_iinc (v0 := (-1)) (lv' := [(2, .int x9), (0, .ref (b + adC 13 a0)), (1, .int a1)]) C0 dX6_sweepDone_47 hl (k := 2) rfl (by decide) (by decide) x9 ex9 rfl (fun ls hl => ?_)
  refine lv_goto (tgt := 12) hx hb dX6_sweepDone_50 (by decide) ?_
  exact ih12 a0 a1 x9 S _ _ _ av0 h hR hS (lv_sub hl [1, 2, 0] rfl)
def Bb_X6_sweepDone_12 (kk12 : Nat → Int32 → Int32 → sSt → Prop) (a0 : Nat) (a1 : Int32) (a2 : Int32) (S : sSt) (k : Int32 → sSt → Prop) : Prop := ((a2 < 0 → ∀ S4, S4 = uI S 13 a0 15 ((S.1 13 a0 15) + (a1 - (S.1 13 a0 6))) → k (a1 - (S4.1 13 a0 6)) S4) ∧ (¬ a2 < 0 → ix a2 24 (fun j6 => ((¬ (S.1 21 (S.2 14 a0 j6) 4) = (-1) → B_X6_sweepDone_47 kk12 a0 a1 a2 S k) ∧ ((S.1 21 (S.2 14 a0 j6) 4) = (-1) → ((¬ (S.1 22 (6 * (S.2 14 a0 j6)) 0) = 2 → B_X6_sweepDone_47 kk12 a0 a1 a2 S k) ∧ ((S.1 22 (6 * (S.2 14 a0 j6)) 0) = 2 → F_X6_removeAt a0 a2 S (fun S13 => B_X6_sweepDone_47 kk12 a0 a1 a2 S13 k))))))))
set_option maxHeartbeats 4000000 in
set_option maxRecDepth 100000 in
theorem Bbw_X6_sweepDone_12 {p : Program} {l : Launch} {e : Env} {s : State} {m : MethodId} {args : Array Value} {below : List Frame} {meth : Method} {c : Code} {D : va_G} {cy : Nat → ClassId} {b z : Nat} {tx : TX} (C0 : CallFix p m c cX6_sweepDone 4 s args TB RX6) (hr : meth.sig.returnType = (some .int)) (hlk : meth.locks = false) (hT : TxR tx s) {k : Int32 → sSt → Prop} {kk12 : Nat → Int32 → Int32 → sSt → Prop} (ih12 : ∀ (a0 : Nat) (a1 : Int32) (a2 : Int32) (S : sSt) (H : Heap) (locs : List Loc) (ls : Array Slot) (av0 : a0 < 3), kk12 a0 a1 a2 S → RelC D cy b z tx S s H → va_S (gA b 709 z) s.heap H locs → lv_has ls 4 [(0, .ref (b + adC 13 a0)), (1, .int a1), (2, .int a2)] → W p l e rm_X6_sweepDone s m args below meth c H locs 0 0 (MQ below (PiC D cy b z tx k) args s 0 0 (gA b 709 z)) (F0 m 12 ls [])) : ∀ (a0 : Nat) (a1 : Int32) (a2 : Int32) (S : sSt) (H : Heap) (locs : List Loc) (ls : Array Slot) (av0 : a0 < 3), Bb_X6_sweepDone_12 kk12 a0 a1 a2 S k → RelC D cy b z tx S s H → va_S (gA b 709 z) s.heap H locs → lv_has ls 4 [(0, .ref (b + adC 13 a0)), (1, .int a1), (2, .int a2)] → W p l e rm_X6_sweepDone s m args below meth c H locs 0 0 (MQ below (PiC D cy b z tx k) args s 0 0 (gA b 709 z)) (F0 m 12 ls []) := by
  intro a0 a1 a2 S H locs ls av0 h hR hS hl
  have hx := C0.1
  have hb := C0.2.1
  unfold Bb_X6_sweepDone_12 at h
  refine lv_iload_n hx hb dX6_sweepDone_12 rfl (lv_at hl 2 rfl) ?_
  refine lv_if_lt (tgt := 53) hx hb dX6_sweepDone_13 (by decide) (fun c3 => ?_) (fun c3 => ?_)
  · have h := h.1 c3
    refine lv_aload_n hx hb dX6_sweepDone_53 rfl (lv_at hl 0 rfl) ?_
    refine lv_dup hx hb dX6_sweepDone_54 rfl ?_
    refine gC_13_15 C0 hR av0 tbs_wsX60 mC6_2_174 dX6_sweepDone_55 ?_
    refine lv_iload_n hx hb dX6_sweepDone_58 rfl (lv_at hl 1 rfl) ?_
    refine lv_aload_n hx hb dX6_sweepDone_59 rfl (lv_at hl 0 rfl) ?_
    refine gC_13_6 C0 hR av0 tbs_wsX60 mC6_2_146 dX6_sweepDone_60 ?_
    refine lv_isub hx hb dX6_sweepDone_63 ?_
    refine lv_iadd hx hb dX6_sweepDone_64 ?_
    refine pC_13_15 C0 hR hS av0 tbs_wsX60 mC6_2_174 dX6_sweepDone_65 (fun S4 eS4 H locs hR hS => ?_)
    have h := h S4 eS4
    refine lv_iload_n hx hb dX6_sweepDone_68 rfl (lv_at hl 1 rfl) ?_
    refine lv_aload_n hx hb dX6_sweepDone_69 rfl (lv_at hl 0 rfl) ?_
    refine gC_13_6 C0 hR av0 tbs_wsX60 mC6_2_146 dX6_sweepDone_70 ?_
    refine lv_isub hx hb dX6_sweepDone_73 ?_
    exact rtC_i C0 hr hlk hR hS h dX6_sweepDone_74
  · have h := h.2 c3
    refine lv_aload_n hx hb dX6_sweepDone_16 rfl (lv_at hl 0 rfl) ?_
    refine gC_13_0 C0 hR av0 tbs_wsX60 mC6_2_126 dX6_sweepDone_17 ?_
    have w5 : a0 < 3 := by omega
    refine lv_iload_n hx hb dX6_sweepDone_20 rfl (lv_at hl 2 rfl) ?_
    obtain ⟨j6, hj6, ej6, h⟩ := h
    refine lC_14 C0 hR w5 hj6 ej6 dX6_sweepDone_21 ?_
    have w7 : (S.2 14 a0 j6) < 72 := hR.2.1.1 _ _ w5 hj6
    refine lv_astore_n (lv' := [(3, .ref (b + adC 21 (S.2 14 a0 j6))), (0, .ref (b + adC 13 a0)), (1, .int a1), (2, .int a2)]) hx hb dX6_sweepDone_22 rfl hl (by decide) rfl (fun ls hl => ?_)
    refine lv_aload_n hx hb dX6_sweepDone_23 rfl (lv_at hl 0 rfl) ?_
    refine gCn_21_4 C0 hR w7 tbs_wsX10 mC6_1_221 hT dX6_sweepDone_24 ?_
    refine lv_iconst (v := (-1)) hx hb dX6_sweepDone_27 (by decide) ?_
    refine lv_icmp_ne (tgt := 47) hx hb dX6_sweepDone_28 (by decide) (fun c8 => ?_) (fun c8 => ?_)
    · have h := h.1 c8
      exact Bw_X6_sweepDone_47 C0 hr hlk hT ih12 a0 a1 a2 S _ _ _ av0 h hR hS (lv_sub hl [1, 2, 3] rfl)
    · have h := h.2 c8
      refine lv_aload_n hx hb dX6_sweepDone_31 rfl (lv_at hl 0 rfl) ?_
      refine gCn_21_0 C0 hR w7 tbs_wsX10 mC6_1_212 hT dX6_sweepDone_32 ?_
      have w10 : (6 * (S.2 14 a0 j6)) < 432 := by omega
      refine gCn_22_0 C0 hR w10 tbs_wsX90 mC6_1_161 hT dX6_sweepDone_35 ?_
      refine lv_iconst (v := 2) hx hb dX6_sweepDone_38 (by decide) ?_
      refine lv_icmp_ne (tgt := 47) hx hb dX6_sweepDone_39 (by decide) (fun c11 => ?_) (fun c11 => ?_)
      · have h := h.1 c11
        exact Bw_X6_sweepDone_47 C0 hr hlk hT ih12 a0 a1 a2 S _ _ _ av0 h hR hS (lv_sub hl [1, 2, 3] rfl)
      · have h := h.2 c11
        refine lv_aload_n hx hb dX6_sweepDone_42 rfl (lv_at hl 1 rfl) ?_
        refine lv_iload_n hx hb dX6_sweepDone_43 rfl (lv_at hl 3 rfl) ?_
        refine qC_Vv (As := [.int a2]) (rest := []) C0 (c_X6_removeAt l av0 h) (cwV 1 C0.2.2.2.2 (tbV mC6_3_26 ⟨mC6_3_28, mpC6_1_0, mC6_1_5, mC6_3_29⟩) rfl rfl rfl (by decide +kernel) ⟨Nat.le_of_ble_eq_true rfl, Nat.le_of_ble_eq_true rfl⟩) (rcC_13 hR av0) hR hT hS rfl hl.1 rfl (Nat.le_of_ble_eq_true rfl) dX6_sweepDone_44 ⟨Nat.zero_le _, Nat.zero_le _⟩ (fun S13 H locs h hR hS => ?_)
        exact Bw_X6_sweepDone_47 C0 hr hlk hT ih12 a0 a1 a2 S13 _ _ _ av0 h hR hS (lv_sub hl [1, 2, 3] rfl)
def B_X6_sweepDone_12 (n9 : Nat) (a0 : Nat) (a1 : Int32) (a2 : Int32) (S : sSt) (k : Int32 → sSt → Prop) : Prop := (Nat.rec (motive := fun _ => Nat → Int32 → Int32 → sSt → Prop) (fun _ _ _ _ => False) (fun _ r9 => fun a0 a1 a2 S => Bb_X6_sweepDone_12 r9 a0 a1 a2 S k) n9 : Nat → Int32 → Int32 → sSt → Prop) a0 a1 a2 S
theorem B_X6_sweepDone_12_s (n9 : Nat) (a0 : Nat) (a1 : Int32) (a2 : Int32) (S : sSt) (k : Int32 → sSt → Prop) : B_X6_sweepDone_12 (n9 + 1) a0 a1 a2 S k = Bb_X6_sweepDone_12 (fun a0 a1 a2 S => B_X6_sweepDone_12 n9 a0 a1 a2 S k) a0 a1 a2 S k := rfl
set_option maxHeartbeats 4000000 in
set_option maxRecDepth 100000 in
theorem Bw_X6_sweepDone_12 {p : Program} {l : Launch} {e : Env} {s : State} {m : MethodId} {args : Array Value} {below : List Frame} {meth : Method} {c : Code} {D : va_G} {cy : Nat → ClassId} {b z : Nat} {tx : TX} (C0 : CallFix p m c cX6_sweepDone 4 s args TB RX6) (hr : meth.sig.returnType = (some .int)) (hlk : meth.locks = false) (hT : TxR tx s) {k : Int32 → sSt → Prop} : ∀ (n9 : Nat), ∀ (a0 : Nat) (a1 : Int32) (a2 : Int32) (S : sSt) (H : Heap) (locs : List Loc) (ls : Array Slot) (av0 : a0 < 3), B_X6_sweepDone_12 n9 a0 a1 a2 S k → RelC D cy b z tx S s H → va_S (gA b 709 z) s.heap H locs → lv_has ls 4 [(0, .ref (b + adC 13 a0)), (1, .int a1), (2, .int a2)] → W p l e rm_X6_sweepDone s m args below meth c H locs 0 0 (MQ below (PiC D cy b z tx k) args s 0 0 (gA b 709 z)) (F0 m 12 ls []) := by
  intro n9
  induction n9 with
  | zero => intro a0 a1 a2 S H locs ls av0 h; exact h.elim
  | succ n9 ih =>
    intro a0 a1 a2 S H locs ls av0 h hR hS hl
    exact Bbw_X6_sweepDone_12 C0 hr hlk hT ih a0 a1 a2 S H locs ls av0 h hR hS hl
def F_X6_sweepDone (a0 : Nat) (S : sSt) (k : Int32 → sSt → Prop) : Prop := ∀ x1 : Int32, x1 = (S.1 13 a0 6) → ∀ x2 : Int32, x2 = ((S.1 13 a0 6) - 1) → B_X6_sweepDone_12 fuel a0 x1 x2 S k
set_option maxHeartbeats 4000000 in
set_option maxRecDepth 100000 in
theorem c_X6_sweepDone (l : Launch) {D : va_G} {cy : Nat → ClassId} {b z : Nat} {tx : TX} {a0 : Nat} {S : sSt} {k : Int32 → sSt → Prop} (av0 : a0 < 3) (h : F_X6_sweepDone a0 S k) : Met l yX6_sweepDone (Cond.code yX6_sweepDone cX6_sweepDone 4 (some .int) :: TB) rm_X6_sweepDone (va_Pc [.ref (b + adC 13 a0)] (fun U => RelC D cy b z tx S U U.heap ∧ TxR tx U)) (PiC D cy b z tx k) 0 0 (gA b 709 z) := by
  refine Met.ofW (cc := cX6_sweepDone) (maxL := 4) (ret := (some .int)) (by decide) rfl ?_
  intro p e s m args below meth c s₁ B hml hv
  obtain ⟨rfl, hR, hT⟩ := hv
  have C0 : CallFix p m c cX6_sweepDone 4 s _ TB RX6 := ⟨B.exec, B.bytes, hml, findClass_of_methodNamed B.named, fun w hw => atoms_spec B.pre w (List.mem_cons_of_mem _ hw)⟩
  have hr := B.returns
  have hlk := B.notSynchronized
  have hx := C0.1
  have hb := C0.2.1
  have hS : va_S (gA b 709 z) s.heap s.heap [] := va_S.rf
  have hl := lv_entry ([.ref (b + adC 13 a0)]) (n := 4) (Nat.le_of_ble_eq_true rfl)
  rw [lg_entry_eq]
  generalize (lg_sl ([.ref (b + adC 13 a0)]) ++ List.replicate (4 - (lg_sl ([.ref (b + adC 13 a0)])).length) Slot.unset).toArray = ls at hl ⊢
  have hl : lv_has ls 4 [(0, .ref (b + adC 13 a0))] := hl
  show W p l e rm_X6_sweepDone s m _ below meth c s.heap [] 0 0 (MQ below (PiC D cy b z tx k) _ s 0 0 (gA b 709 z)) _
  unfold F_X6_sweepDone at h
  refine lv_aload_n hx hb dX6_sweepDone_0 rfl (lv_at hl 0 rfl) ?_
  refine gC_13_6 C0 hR av0 tbs_wsX60 mC6_2_146 dX6_sweepDone_1 ?_
  refine lv_topi (fun x1 ex1 => ?_)
  have h := h x1 ex1
  refine lv_istore_n (lv' := [(1, .int x1), (0, .ref (b + adC 13 a0))]) hx hb dX6_sweepDone_4 rfl hl (by decide) rfl (fun ls hl => ?_)
  refine lv_aload_n hx hb dX6_sweepDone_5 rfl (lv_at hl 1 rfl) ?_
  refine gC_13_6 C0 hR av0 tbs_wsX60 mC6_2_146 dX6_sweepDone_6 ?_
  refine lv_iconst (v := 1) hx hb dX6_sweepDone_9 (by decide) ?_
  refine lv_isub hx hb dX6_sweepDone_10 ?_
  refine lv_topi (fun x2 ex2 => ?_)
  have h := h x2 ex2
  refine lv_istore_n (lv' := [(2, .int x2), (1, .int x1), (0, .ref (b + adC 13 a0))]) hx hb dX6_sweepDone_11 rfl hl (by decide) rfl (fun ls hl => ?_)
  exact Bw_X6_sweepDone_12 C0 hr hlk hT fuel a0 x1 x2 S _ _ _ av0 h hR hS (lv_sub hl [2, 1, 0] rfl)

def rm_X11_sweep : Room := { frames := 2, cells := 0, slots := 0, locals := 46 }
def F_X11_sweep (S : sSt) (k : Int32 → sSt → Prop) : Prop := F_X6_sweepDone (S.2 0 0 4) S (fun r2 S3 => k r2 S3)
set_option maxHeartbeats 4000000 in
set_option maxRecDepth 100000 in
theorem c_X11_sweep (l : Launch) {D : va_G} {cy : Nat → ClassId} {b z : Nat} {tx : TX} {S : sSt} {k : Int32 → sSt → Prop} (h : F_X11_sweep S k) : Met l yX11_sweep (Cond.code yX11_sweep cX11_sweep 1 (some .int) :: TB) rm_X11_sweep (va_Pc [.ref (b + adC 0 0)] (fun U => RelC D cy b z tx S U U.heap ∧ TxR tx U)) (PiC D cy b z tx k) 0 0 (gA b 709 z) := by
  refine Met.ofW (cc := cX11_sweep) (maxL := 1) (ret := (some .int)) (by decide) rfl ?_
  intro p e s m args below meth c s₁ B hml hv
  obtain ⟨rfl, hR, hT⟩ := hv
  have C0 : CallFix p m c cX11_sweep 1 s _ TB RX11 := ⟨B.exec, B.bytes, hml, findClass_of_methodNamed B.named, fun w hw => atoms_spec B.pre w (List.mem_cons_of_mem _ hw)⟩
  have hr := B.returns
  have hlk := B.notSynchronized
  have hx := C0.1
  have hb := C0.2.1
  have hS : va_S (gA b 709 z) s.heap s.heap [] := va_S.rf
  have hl := lv_entry ([.ref (b + adC 0 0)]) (n := 1) (Nat.le_of_ble_eq_true rfl)
  rw [lg_entry_eq]
  generalize (lg_sl ([.ref (b + adC 0 0)]) ++ List.replicate (1 - (lg_sl ([.ref (b + adC 0 0)])).length) Slot.unset).toArray = ls at hl ⊢
  have hl : lv_has ls 1 [(0, .ref (b + adC 0 0))] := hl
  show W p l e rm_X11_sweep s m _ below meth c s.heap [] 0 0 (MQ below (PiC D cy b z tx k) _ s 0 0 (gA b 709 z)) _
  unfold F_X11_sweep at h
  refine lv_aload_n hx hb dX11_sweep_0 rfl (lv_at hl 0 rfl) ?_
  refine gC_0_4 C0 hR Nat.zero_lt_one tbs_wsX110 mC6_2_213 dX11_sweep_1 ?_
  have w1 : (S.2 0 0 4) < 3 := hR.2.1.2.1
  refine qC_Vi (As := []) (rest := []) C0 (c_X6_sweepDone l w1 h) (cwV 0 C0.2.2.2.2 (tbV mC6_3_22 ⟨mC6_3_23, mC6_3_24, mC6_1_5, mC6_3_25⟩) rfl rfl rfl (by decide +kernel) ⟨Nat.le_of_ble_eq_true rfl, Nat.le_of_ble_eq_true rfl⟩) (rcC_13 hR w1) hR hT hS rfl hl.1 rfl (Nat.le_of_ble_eq_true rfl) dX11_sweep_4 ⟨Nat.zero_le _, Nat.zero_le _⟩ (fun r2 S3 H locs h hR hS => ?_)
  exact rtC_i C0 hr hlk hR hS h dX11_sweep_7

def rm_X4_timeOf : Room := { frames := 0, cells := 0, slots := 0, locals := 0 }
def F_X4_timeOf (a0 : Nat) (a1 : Int32) (S : sSt) (k : Int32 → sSt → Prop) : Prop := k ((S.1 25 a0 1) + (a1 * (S.1 25 a0 0))) S
set_option maxHeartbeats 4000000 in
set_option maxRecDepth 100000 in
theorem c_X4_timeOf (l : Launch) {D : va_G} {cy : Nat → ClassId} {b z : Nat} {tx : TX} {a0 : Nat} {a1 : Int32} {S : sSt} {k : Int32 → sSt → Prop} (av0 : a0 < 12) (h : F_X4_timeOf a0 a1 S k) : Met l yX4_timeOf (Cond.code yX4_timeOf cX4_timeOf 2 (some .int) :: TB) rm_X4_timeOf (va_Pc [.ref (b + adC 25 a0), .int a1] (fun U => RelC D cy b z tx S U U.heap ∧ TxR tx U)) (PiC D cy b z tx k) 0 0 (gA b 709 z) := by
  refine Met.ofW (cc := cX4_timeOf) (maxL := 2) (ret := (some .int)) (by decide) rfl ?_
  intro p e s m args below meth c s₁ B hml hv
  obtain ⟨rfl, hR, hT⟩ := hv
  have C0 : CallFix p m c cX4_timeOf 2 s _ TB RX4 := ⟨B.exec, B.bytes, hml, findClass_of_methodNamed B.named, fun w hw => atoms_spec B.pre w (List.mem_cons_of_mem _ hw)⟩
  have hr := B.returns
  have hlk := B.notSynchronized
  have hx := C0.1
  have hb := C0.2.1
  have hS : va_S (gA b 709 z) s.heap s.heap [] := va_S.rf
  have hl := lv_entry ([.ref (b + adC 25 a0), .int a1]) (n := 2) (Nat.le_of_ble_eq_true rfl)
  rw [lg_entry_eq]
  generalize (lg_sl ([.ref (b + adC 25 a0), .int a1]) ++ List.replicate (2 - (lg_sl ([.ref (b + adC 25 a0), .int a1])).length) Slot.unset).toArray = ls at hl ⊢
  have hl : lv_has ls 2 [(0, .ref (b + adC 25 a0)), (1, .int a1)] := hl
  show W p l e rm_X4_timeOf s m _ below meth c s.heap [] 0 0 (MQ below (PiC D cy b z tx k) _ s 0 0 (gA b 709 z)) _
  unfold F_X4_timeOf at h
  refine lv_aload_n hx hb dX4_timeOf_0 rfl (lv_at hl 0 rfl) ?_
  refine gC_25_1 C0 hR av0 tbs_wsX40 mC6_2_87 dX4_timeOf_1 ?_
  refine lv_iload_n hx hb dX4_timeOf_4 rfl (lv_at hl 1 rfl) ?_
  refine lv_aload_n hx hb dX4_timeOf_5 rfl (lv_at hl 0 rfl) ?_
  refine gC_25_0 C0 hR av0 tbs_wsX40 mC6_2_84 dX4_timeOf_6 ?_
  refine lv_imul hx hb dX4_timeOf_9 ?_
  refine lv_iadd hx hb dX4_timeOf_10 ?_
  exact rtC_i C0 hr hlk hR hS h dX4_timeOf_11

def rm_X4_firstToFire : Room := { frames := 1, cells := 0, slots := 0, locals := 22 }
def F_X4_firstToFire (a0 : Nat) (a1 : Int32) (a2 : Int32) (S : sSt) (k : Int32 → sSt → Prop) : Prop := (((S.1 25 a0 5) = 1 → k (if ((S.1 25 a0 7) + 1) < ((a1 - 5) + 1) then ((a1 - 5) + 1) else ((S.1 25 a0 7) + 1)) S) ∧ (¬ (S.1 25 a0 5) = 1 → (((S.1 25 a0 5) = 2 → F_X4_timeOf a0 a1 S (fun r3 S4 => (((S4.1 25 a0 6) < (a2 - r3) → k (a1 + 1) S4) ∧ (¬ (S4.1 25 a0 6) < (a2 - r3) → k a1 S4)))) ∧ (¬ (S.1 25 a0 5) = 2 → k a1 S))))
set_option maxHeartbeats 4000000 in
set_option maxRecDepth 100000 in
theorem c_X4_firstToFire (l : Launch) {D : va_G} {cy : Nat → ClassId} {b z : Nat} {tx : TX} {a0 : Nat} {a1 : Int32} {a2 : Int32} {S : sSt} {k : Int32 → sSt → Prop} (av0 : a0 < 12) (h : F_X4_firstToFire a0 a1 a2 S k) : Met l yX4_firstToFire (Cond.code yX4_firstToFire cX4_firstToFire 3 (some .int) :: TB) rm_X4_firstToFire (va_Pc [.ref (b + adC 25 a0), .int a1, .int a2] (fun U => RelC D cy b z tx S U U.heap ∧ TxR tx U)) (PiC D cy b z tx k) 0 0 (gA b 709 z) := by
  refine Met.ofW (cc := cX4_firstToFire) (maxL := 3) (ret := (some .int)) (by decide) rfl ?_
  intro p e s m args below meth c s₁ B hml hv
  obtain ⟨rfl, hR, hT⟩ := hv
  have C0 : CallFix p m c cX4_firstToFire 3 s _ TB RX4 := ⟨B.exec, B.bytes, hml, findClass_of_methodNamed B.named, fun w hw => atoms_spec B.pre w (List.mem_cons_of_mem _ hw)⟩
  have hr := B.returns
  have hlk := B.notSynchronized
  have hx := C0.1
  have hb := C0.2.1
  have hS : va_S (gA b 709 z) s.heap s.heap [] := va_S.rf
  have hl := lv_entry ([.ref (b + adC 25 a0), .int a1, .int a2]) (n := 3) (Nat.le_of_ble_eq_true rfl)
  rw [lg_entry_eq]
  generalize (lg_sl ([.ref (b + adC 25 a0), .int a1, .int a2]) ++ List.replicate (3 - (lg_sl ([.ref (b + adC 25 a0), .int a1, .int a2])).length) Slot.unset).toArray = ls at hl ⊢
  have hl : lv_has ls 3 [(0, .ref (b + adC 25 a0)), (1, .int a1), (2, .int a2)] := hl
  show W p l e rm_X4_firstToFire s m _ below meth c s.heap [] 0 0 (MQ below (PiC D cy b z tx k) _ s 0 0 (gA b 709 z)) _
  unfold F_X4_firstToFire at h
  refine lv_aload_n hx hb dX4_firstToFire_0 rfl (lv_at hl 0 rfl) ?_
  refine gC_25_5 C0 hR av0 tbs_wsX40 mC6_2_99 dX4_firstToFire_1 ?_
  by_cases c1 : (S.1 25 a0 5) = 1
  · have h := h.1 c1
    refine lv_lookup (tgt := 32) hx hb dX4_firstToFire_4 (by decide) (by rw [c1]) (by decide) ?_
    refine lv_aload_n hx hb dX4_firstToFire_32 rfl (lv_at hl 0 rfl) ?_
    refine gC_25_7 C0 hR av0 tbs_wsX40 mC6_2_105 dX4_firstToFire_33 ?_
    refine lv_iconst (v := 1) hx hb dX4_firstToFire_36 (by decide) ?_
    refine lv_iadd hx hb dX4_firstToFire_37 ?_
    refine lv_iload_n hx hb dX4_firstToFire_38 rfl (lv_at hl 1 rfl) ?_
    refine lv_iconst (v := 5) hx hb dX4_firstToFire_39 (by decide) ?_
    refine lv_isub hx hb dX4_firstToFire_40 ?_
    refine lv_iconst (v := 1) hx hb dX4_firstToFire_41 (by decide) ?_
    refine lv_iadd hx hb dX4_firstToFire_42 ?_
    refine va_mmax hx hb (C0.2.2.1.trans hl.1.symm) C0.2.2.2.1 (C0.2.2.2.2 _ mC6_6_12) (C0.2.2.2.2 _ mC6_3_47) (C0.2.2.2.2 _ mC6_1_25) (C0.2.2.2.2 _ mC6_3_48) (Nat.le_of_ble_eq_true rfl) (Nat.le_of_ble_eq_true rfl) (Nat.zero_le _) (Nat.zero_le _) dX4_firstToFire_43 ?_
    exact rtC_i C0 hr hlk hR hS h dX4_firstToFire_46
  have h := h.2 c1
  by_cases c2 : (S.1 25 a0 5) = 2
  · have h := h.1 c2
    refine lv_lookup (tgt := 47) hx hb dX4_firstToFire_4 (by decide) (by rw [c2]) (by decide) ?_
    refine lv_iload_n hx hb dX4_firstToFire_47 rfl (lv_at hl 2 rfl) ?_
    refine lv_aload_n hx hb dX4_firstToFire_48 rfl (lv_at hl 0 rfl) ?_
    refine lv_iload_n hx hb dX4_firstToFire_49 rfl (lv_at hl 1 rfl) ?_
    refine qC_Vi (As := [.int a1]) (rest := [.int a2]) C0 (c_X4_timeOf l av0 h) (cwV 1 C0.2.2.2.2 (tbV mC6_6_13 ⟨mC6_6_14, mC6_6_15, mC6_1_10, mC6_6_16⟩) rfl rfl rfl (by decide +kernel) ⟨Nat.le_of_ble_eq_true rfl, Nat.le_of_ble_eq_true rfl⟩) (rcC_25 hR av0) hR hT hS rfl hl.1 rfl (Nat.le_of_ble_eq_true rfl) dX4_firstToFire_50 ⟨Nat.zero_le _, Nat.zero_le _⟩ (fun r3 S4 H locs h hR hS => ?_)
    refine lv_isub hx hb dX4_firstToFire_53 ?_
    refine lv_aload_n hx hb dX4_firstToFire_54 rfl (lv_at hl 0 rfl) ?_
    refine gC_25_6 C0 hR av0 tbs_wsX40 mC6_2_102 dX4_firstToFire_55 ?_
    refine lv_icmp_gt (tgt := 65) hx hb dX4_firstToFire_58 (by decide) (fun c5 => ?_) (fun c5 => ?_)
    · have h := h.1 c5
      refine lv_iload_n hx hb dX4_firstToFire_65 rfl (lv_at hl 1 rfl) ?_
      refine lv_iconst (v := 1) hx hb dX4_firstToFire_66 (by decide) ?_
      refine lv_iadd hx hb dX4_firstToFire_67 ?_
      exact rtC_i C0 hr hlk hR hS h dX4_firstToFire_68
    · have h := h.2 c5
      refine lv_iload_n hx hb dX4_firstToFire_61 rfl (lv_at hl 1 rfl) ?_
      refine lv_goto (tgt := 68) hx hb dX4_firstToFire_62 (by decide) ?_
      exact rtC_i C0 hr hlk hR hS h dX4_firstToFire_68
  have h := h.2 c2
  refine lv_lookup (off := 65) (tgt := 69) hx hb dX4_firstToFire_4 (by decide) (by have b9 : ∀ j : Int32, (S.1 25 a0 5) ≠ j → ((S.1 25 a0 5) : Int32).toInt ≠ j.toInt := fun j n9 q9 => n9 (Int32.toInt_inj.mp q9); have c1_ := b9 _ c1; have c2_ := b9 _ c2; simp at c1_ c2_; simp [Op.lookupswitch.offset, Ne.symm c1_, Ne.symm c2_, c1_, c2_]) (by decide) ?_
  refine lv_iload_n hx hb dX4_firstToFire_69 rfl (lv_at hl 1 rfl) ?_
  exact rtC_i C0 hr hlk hR hS h dX4_firstToFire_70

def rm_X6_fire : Room := { frames := 2, cells := 0, slots := 0, locals := 45 }
def F_X6_fire (a0 : Nat) (a1 : Int32) (a2 : Int32) (S : sSt) (k : sSt → Prop) : Prop := ix a1 4 (fun j2 => F_X6_addJob a0 (S.1 25 (4 * a0 + j2) 2) (S.1 25 (4 * a0 + j2) 3) (S.1 25 (4 * a0 + j2) 4) S (fun o9 S5 => ((o9 = none → ∀ S6, S6 = uI S5 13 a0 14 ((S5.1 13 a0 14) + 1) → k S6) ∧ (∀ r4, o9 = some r4 → ∀ S7, S7 = uI S5 21 r4 11 a1 → ∀ S8, S8 = uI S7 21 r4 12 a2 → k S8))))
set_option maxHeartbeats 4000000 in
set_option maxRecDepth 100000 in
theorem c_X6_fire (l : Launch) {D : va_G} {cy : Nat → ClassId} {b z : Nat} {tx : TX} {a0 : Nat} {a1 : Int32} {a2 : Int32} {S : sSt} {k : sSt → Prop} (av0 : a0 < 3) (h : F_X6_fire a0 a1 a2 S k) : Met l yX6_fire (Cond.code yX6_fire cX6_fire 5 none :: TB) rm_X6_fire (va_Pc [.ref (b + adC 13 a0), .int a1, .int a2] (fun U => RelC D cy b z tx S U U.heap ∧ TxR tx U)) (PvC D cy b z tx k) 0 0 (gA b 709 z) := by
  refine Met.ofW (cc := cX6_fire) (maxL := 5) (ret := none) (by decide) rfl ?_
  intro p e s m args below meth c s₁ B hml hv
  obtain ⟨rfl, hR, hT⟩ := hv
  have C0 : CallFix p m c cX6_fire 5 s _ TB RX6 := ⟨B.exec, B.bytes, hml, findClass_of_methodNamed B.named, fun w hw => atoms_spec B.pre w (List.mem_cons_of_mem _ hw)⟩
  have hr := B.returns
  have hlk := B.notSynchronized
  have hx := C0.1
  have hb := C0.2.1
  have hS : va_S (gA b 709 z) s.heap s.heap [] := va_S.rf
  have hl := lv_entry ([.ref (b + adC 13 a0), .int a1, .int a2]) (n := 5) (Nat.le_of_ble_eq_true rfl)
  rw [lg_entry_eq]
  generalize (lg_sl ([.ref (b + adC 13 a0), .int a1, .int a2]) ++ List.replicate (5 - (lg_sl ([.ref (b + adC 13 a0), .int a1, .int a2])).length) Slot.unset).toArray = ls at hl ⊢
  have hl : lv_has ls 5 [(0, .ref (b + adC 13 a0)), (1, .int a1), (2, .int a2)] := hl
  show W p l e rm_X6_fire s m _ below meth c s.heap [] 0 0 (MQ below (PvC D cy b z tx k) _ s 0 0 (gA b 709 z)) _
  unfold F_X6_fire at h
  refine lv_aload_n hx hb dX6_fire_0 rfl (lv_at hl 0 rfl) ?_
  refine gC_13_2 C0 hR av0 tbs_wsX60 mC6_2_133 dX6_fire_1 ?_
  have w1 : a0 < 3 := by omega
  refine lv_iload_n hx hb dX6_fire_4 rfl (lv_at hl 1 rfl) ?_
  obtain ⟨j2, hj2, ej2, h⟩ := h
  refine lC_16 C0 hR w1 hj2 ej2 dX6_fire_5 ?_
  have w3 : (4 * a0 + j2) < 12 := by omega
  refine lv_astore_n (lv' := [(3, .ref (b + adC 25 (4 * a0 + j2))), (0, .ref (b + adC 13 a0)), (1, .int a1), (2, .int a2)]) hx hb dX6_fire_6 rfl hl (by decide) rfl (fun ls hl => ?_)
  refine lv_aload_n hx hb dX6_fire_7 rfl (lv_at hl 1 rfl) ?_
  refine lv_aload_n hx hb dX6_fire_8 rfl (lv_at hl 0 rfl) ?_
  refine gCn_25_2 C0 hR w3 tbs_wsX40 mC6_2_92 hT dX6_fire_9 ?_
  refine lv_aload_n hx hb dX6_fire_12 rfl (lv_at hl 0 rfl) ?_
  refine gCn_25_3 C0 hR w3 tbs_wsX40 mC6_2_95 hT dX6_fire_13 ?_
  refine lv_aload_n hx hb dX6_fire_16 rfl (lv_at hl 0 rfl) ?_
  refine gCn_25_4 C0 hR w3 tbs_wsX40 mC6_2_98 hT dX6_fire_17 ?_
  refine qC_Vq (As := [.int (S.1 25 (4 * a0 + j2) 2), .int (S.1 25 (4 * a0 + j2) 3), .int (S.1 25 (4 * a0 + j2) 4)]) (rest := []) C0 (c_X6_addJob l av0 h) (cwV 3 C0.2.2.2.2 (tbV mC6_6_21 ⟨mC6_3_223, mC6_3_224, mC6_1_5, mC6_3_225⟩) rfl rfl rfl (by decide +kernel) ⟨Nat.le_of_ble_eq_true rfl, Nat.le_of_ble_eq_true rfl⟩) (rcC_13 hR av0) hR hT hS rfl hl.1 rfl (Nat.le_of_ble_eq_true rfl) dX6_fire_20 ⟨Nat.zero_le _, Nat.zero_le _⟩ (fun S5 H locs h hR hS => ?_) (fun r4 S5 H locs vr4 h hR hS => ?_)
  · have h := h.1 rfl
    refine lv_astoreN (lv' := [(4, .null), (3, .ref (b + adC 25 (4 * a0 + j2))), (0, .ref (b + adC 13 a0)), (1, .int a1), (2, .int a2)]) hx hb dX6_fire_23 hl (by decide) rfl (fun ls hl => ?_)
    refine lv_aloadN hx hb dX6_fire_25 (lv_at hl 0 rfl) ?_
    refine lv_ifnonnullN hx hb dX6_fire_27 ?_
    refine lv_aload_n hx hb dX6_fire_30 rfl (lv_at hl 2 rfl) ?_
    refine lv_dup hx hb dX6_fire_31 rfl ?_
    refine gC_13_14 C0 hR av0 tbs_wsX60 mC6_2_172 dX6_fire_32 ?_
    refine lv_iconst (v := 1) hx hb dX6_fire_35 (by decide) ?_
    refine lv_iadd hx hb dX6_fire_36 ?_
    refine pC_13_14 C0 hR hS av0 tbs_wsX60 mC6_2_172 dX6_fire_37 (fun S6 eS6 H locs hR hS => ?_)
    have h := h S6 eS6
    exact rtC_v C0 hr hlk hR hS h dX6_fire_40
  · have h := h.2 r4 rfl
    refine lv_astore (lv' := [(4, .ref (b + adC 21 r4)), (3, .ref (b + adC 25 (4 * a0 + j2))), (0, .ref (b + adC 13 a0)), (1, .int a1), (2, .int a2)]) hx hb dX6_fire_23 hl (by decide) rfl (fun ls hl => ?_)
    refine lv_aload hx hb dX6_fire_25 (lv_at hl 0 rfl) ?_
    refine lv_ifnonnull (tgt := 41) hx hb dX6_fire_27 (by decide) ?_
    refine lv_aload hx hb dX6_fire_41 (lv_at hl 0 rfl) ?_
    refine lv_iload_n hx hb dX6_fire_43 rfl (lv_at hl 3 rfl) ?_
    refine pCn_21_11 C0 hR hS vr4 tbs_wsX10 mC6_2_13 hT dX6_fire_44 (fun S7 eS7 H locs hR hS => ?_)
    have h := h S7 eS7
    refine lv_aload hx hb dX6_fire_47 (lv_at hl 0 rfl) ?_
    refine lv_iload_n hx hb dX6_fire_49 rfl (lv_at hl 4 rfl) ?_
    refine pCn_21_12 C0 hR hS vr4 tbs_wsX10 mC6_2_16 hT dX6_fire_50 (fun S8 eS8 H locs hR hS => ?_)
    have h := h S8 eS8
    exact rtC_v C0 hr hlk hR hS h dX6_fire_53

def rm_X6_lookAtSchedules : Room := { frames := 3, cells := 0, slots := 0, locals := 69 }
def B_X6_lookAtSchedules_69 (kk2 : Nat → Int32 → sSt → Prop) (a0 : Nat) (a1 : Int32) (S : sSt) (k : sSt → Prop) : Prop := ∀ x8 : Int32, x8 = a1 + 1 → kk2 a0 x8 S
set_option maxHeartbeats 4000000 in
set_option maxRecDepth 100000 in
theorem Bw_X6_lookAtSchedules_69 {p : Program} {l : Launch} {e : Env} {s : State} {m : MethodId} {args : Array Value} {below : List Frame} {meth : Method} {c : Code} {D : va_G} {cy : Nat → ClassId} {b z : Nat} {tx : TX} (C0 : CallFix p m c cX6_lookAtSchedules 5 s args TB RX6) (hr : meth.sig.returnType = none) (hlk : meth.locks = false) (hT : TxR tx s) {k : sSt → Prop} {kk2 : Nat → Int32 → sSt → Prop} (ih2 : ∀ (a0 : Nat) (a1 : Int32) (S : sSt) (H : Heap) (locs : List Loc) (ls : Array Slot) (av0 : a0 < 3), kk2 a0 a1 S → RelC D cy b z tx S s H → va_S (gA b 709 z) s.heap H locs → lv_has ls 5 [(0, .ref (b + adC 13 a0)), (1, .int a1)] → W p l e rm_X6_lookAtSchedules s m args below meth c H locs 0 0 (MQ below (PvC D cy b z tx k) args s 0 0 (gA b 709 z)) (F0 m 2 ls [])) : ∀ (a0 : Nat) (a1 : Int32) (S : sSt) (H : Heap) (locs : List Loc) (ls : Array Slot) (av0 : a0 < 3), B_X6_lookAtSchedules_69 kk2 a0 a1 S k → RelC D cy b z tx S s H → va_S (gA b 709 z) s.heap H locs → lv_has ls 5 [(0, .ref (b + adC 13 a0)), (1, .int a1)] → W p l e rm_X6_lookAtSchedules s m args below meth c H locs 0 0 (MQ below (PvC D cy b z tx k) args s 0 0 (gA b 709 z)) (F0 m 69 ls []) := by
  intro a0 a1 S H locs ls av0 h hR hS hl
  have hx := C0.1
  have hb := C0.2.1
  unfold B_X6_lookAtSchedules_69 at h
  obtain ⟨x8, ex8⟩ : ∃ x8 : Int32, x8 = a1 + 1 := ⟨_, rfl⟩
  have h := h x8 ex8
  refine w_iinc (v0 := 1) (lv' := [(1, .int x8), (0, .ref (b + adC 13 a0))]) C0 dX6_lookAtSchedules_69 hl (k := 1) rfl (by decide) (by decide) x8 ex8 rfl (fun ls hl => ?_)
  refine lv_goto (tgt := 2) hx hb dX6_lookAtSchedules_72 (by decide) ?_
  exact ih2 a0 x8 S _ _ _ av0 h hR hS (lv_sub hl [1, 0] rfl)
def Bb_X6_lookAtSchedules_45 (kk2 : Nat → Int32 → sSt → Prop) (kk45 : Nat → Int32 → Nat → Int32 → Int32 → sSt → Prop) (a0 : Nat) (a1 : Int32) (a2 : Nat) (a3 : Int32) (a4 : Int32) (S : sSt) (k : sSt → Prop) : Prop := ((a3 < a4 → ∀ S12, S12 = uI S 25 a2 7 a3 → B_X6_lookAtSchedules_69 kk2 a0 a1 S12 k) ∧ (¬ a3 < a4 → F_X6_fire a0 a1 a4 S (fun S14 => ∀ x15 : Int32, x15 = a4 + 1 → kk45 a0 a1 a2 a3 x15 S14)))
set_option maxHeartbeats 4000000 in
set_option maxRecDepth 100000 in
theorem Bbw_X6_lookAtSchedules_45 {p : Program} {l : Launch} {e : Env} {s : State} {m : MethodId} {args : Array Value} {below : List Frame} {meth : Method} {c : Code} {D : va_G} {cy : Nat → ClassId} {b z : Nat} {tx : TX} (C0 : CallFix p m c cX6_lookAtSchedules 5 s args TB RX6) (hr : meth.sig.returnType = none) (hlk : meth.locks = false) (hT : TxR tx s) {k : sSt → Prop} {kk2 : Nat → Int32 → sSt → Prop} {kk45 : Nat → Int32 → Nat → Int32 → Int32 → sSt → Prop} (ih2 : ∀ (a0 : Nat) (a1 : Int32) (S : sSt) (H : Heap) (locs : List Loc) (ls : Array Slot) (av0 : a0 < 3), kk2 a0 a1 S → RelC D cy b z tx S s H → va_S (gA b 709 z) s.heap H locs → lv_has ls 5 [(0, .ref (b + adC 13 a0)), (1, .int a1)] → W p l e rm_X6_lookAtSchedules s m args below meth c H locs 0 0 (MQ below (PvC D cy b z tx k) args s 0 0 (gA b 709 z)) (F0 m 2 ls [])) (ih45 : ∀ (a0 : Nat) (a1 : Int32) (a2 : Nat) (a3 : Int32) (a4 : Int32) (S : sSt) (H : Heap) (locs : List Loc) (ls : Array Slot) (av0 : a0 < 3) (av2 : a2 < 12), kk45 a0 a1 a2 a3 a4 S → RelC D cy b z tx S s H → va_S (gA b 709 z) s.heap H locs → lv_has ls 5 [(0, .ref (b + adC 13 a0)), (1, .int a1), (2, .ref (b + adC 25 a2)), (3, .int a3), (4, .int a4)] → W p l e rm_X6_lookAtSchedules s m args below meth c H locs 0 0 (MQ below (PvC D cy b z tx k) args s 0 0 (gA b 709 z)) (F0 m 45 ls [])) : ∀ (a0 : Nat) (a1 : Int32) (a2 : Nat) (a3 : Int32) (a4 : Int32) (S : sSt) (H : Heap) (locs : List Loc) (ls : Array Slot) (av0 : a0 < 3) (av2 : a2 < 12), Bb_X6_lookAtSchedules_45 kk2 kk45 a0 a1 a2 a3 a4 S k → RelC D cy b z tx S s H → va_S (gA b 709 z) s.heap H locs → lv_has ls 5 [(0, .ref (b + adC 13 a0)), (1, .int a1), (2, .ref (b + adC 25 a2)), (3, .int a3), (4, .int a4)] → W p l e rm_X6_lookAtSchedules s m args below meth c H locs 0 0 (MQ below (PvC D cy b z tx k) args s 0 0 (gA b 709 z)) (F0 m 45 ls []) := by
  intro a0 a1 a2 a3 a4 S H locs ls av0 av2 h hR hS hl
  have hx := C0.1
  have hb := C0.2.1
  unfold Bb_X6_lookAtSchedules_45 at h
  refine lv_iload hx hb dX6_lookAtSchedules_45 (lv_at hl 4 rfl) ?_
  refine lv_iload_n hx hb dX6_lookAtSchedules_47 rfl (lv_at hl 3 rfl) ?_
  refine lv_icmp_gt (tgt := 64) hx hb dX6_lookAtSchedules_48 (by decide) (fun c11 => ?_) (fun c11 => ?_)
  · have h := h.1 c11
    refine lv_aload_n hx hb dX6_lookAtSchedules_64 rfl (lv_at hl 2 rfl) ?_
    refine lv_iload_n hx hb dX6_lookAtSchedules_65 rfl (lv_at hl 3 rfl) ?_
    refine pCn_25_7 C0 hR hS av2 tbs_wsX40 mC6_2_107 hT dX6_lookAtSchedules_66 (fun S12 eS12 H locs hR hS => ?_)
    have h := h S12 eS12
    exact Bw_X6_lookAtSchedules_69 C0 hr hlk hT ih2 a0 a1 S12 _ _ _ av0 h hR hS (lv_sub hl [0, 1] rfl)
  · have h := h.2 c11
    refine lv_aload_n hx hb dX6_lookAtSchedules_51 rfl (lv_at hl 0 rfl) ?_
    refine lv_iload_n hx hb dX6_lookAtSchedules_52 rfl (lv_at hl 1 rfl) ?_
    refine lv_iload hx hb dX6_lookAtSchedules_53 (lv_at hl 4 rfl) ?_
    refine qC_Vv (As := [.int a1, .int a4]) (rest := []) C0 (c_X6_fire l av0 h) (cwV 2 C0.2.2.2.2 (tbV mC6_6_17 ⟨mC6_6_19, mpC6_2_2, mC6_1_5, mC6_6_20⟩) rfl rfl rfl (by decide +kernel) ⟨Nat.le_of_ble_eq_true rfl, Nat.le_of_ble_eq_true rfl⟩) (rcC_13 hR av0) hR hT hS rfl hl.1 rfl (Nat.le_of_ble_eq_true rfl) dX6_lookAtSchedules_55 ⟨Nat.zero_le _, Nat.zero_le _⟩ (fun S14 H locs h hR hS => ?_)
    obtain ⟨x15, ex15⟩ : ∃ x15 : Int32, x15 = a4 + 1 := ⟨_, rfl⟩
    have h := h x15 ex15
    refine w_iinc (v0 := 1) (lv' := [(4, .int x15), (0, .ref (b + adC 13 a0)), (1, .int a1), (2, .ref (b + adC 25 a2)), (3, .int a3)]) C0 dX6_lookAtSchedules_58 hl (k := 4) rfl (by decide) (by decide) x15 ex15 rfl (fun ls hl => ?_)
    refine lv_goto (tgt := 45) hx hb dX6_lookAtSchedules_61 (by decide) ?_
    exact ih45 a0 a1 a2 a3 x15 S14 _ _ _ av0 av2 h hR hS (lv_sub hl [1, 2, 3, 4, 0] rfl)
def B_X6_lookAtSchedules_45 (kk2 : Nat → Int32 → sSt → Prop) (n9 : Nat) (a0 : Nat) (a1 : Int32) (a2 : Nat) (a3 : Int32) (a4 : Int32) (S : sSt) (k : sSt → Prop) : Prop := (Nat.rec (motive := fun _ => Nat → Int32 → Nat → Int32 → Int32 → sSt → Prop) (fun _ _ _ _ _ _ => False) (fun _ r9 => fun a0 a1 a2 a3 a4 S => Bb_X6_lookAtSchedules_45 kk2 r9 a0 a1 a2 a3 a4 S k) n9 : Nat → Int32 → Nat → Int32 → Int32 → sSt → Prop) a0 a1 a2 a3 a4 S
theorem B_X6_lookAtSchedules_45_s (kk2 : Nat → Int32 → sSt → Prop) (n9 : Nat) (a0 : Nat) (a1 : Int32) (a2 : Nat) (a3 : Int32) (a4 : Int32) (S : sSt) (k : sSt → Prop) : B_X6_lookAtSchedules_45 kk2 (n9 + 1) a0 a1 a2 a3 a4 S k = Bb_X6_lookAtSchedules_45 kk2 (fun a0 a1 a2 a3 a4 S => B_X6_lookAtSchedules_45 kk2 n9 a0 a1 a2 a3 a4 S k) a0 a1 a2 a3 a4 S k := rfl
set_option maxHeartbeats 4000000 in
set_option maxRecDepth 100000 in
theorem Bw_X6_lookAtSchedules_45 {p : Program} {l : Launch} {e : Env} {s : State} {m : MethodId} {args : Array Value} {below : List Frame} {meth : Method} {c : Code} {D : va_G} {cy : Nat → ClassId} {b z : Nat} {tx : TX} (C0 : CallFix p m c cX6_lookAtSchedules 5 s args TB RX6) (hr : meth.sig.returnType = none) (hlk : meth.locks = false) (hT : TxR tx s) {k : sSt → Prop} {kk2 : Nat → Int32 → sSt → Prop} (ih2 : ∀ (a0 : Nat) (a1 : Int32) (S : sSt) (H : Heap) (locs : List Loc) (ls : Array Slot) (av0 : a0 < 3), kk2 a0 a1 S → RelC D cy b z tx S s H → va_S (gA b 709 z) s.heap H locs → lv_has ls 5 [(0, .ref (b + adC 13 a0)), (1, .int a1)] → W p l e rm_X6_lookAtSchedules s m args below meth c H locs 0 0 (MQ below (PvC D cy b z tx k) args s 0 0 (gA b 709 z)) (F0 m 2 ls [])) : ∀ (n9 : Nat), ∀ (a0 : Nat) (a1 : Int32) (a2 : Nat) (a3 : Int32) (a4 : Int32) (S : sSt) (H : Heap) (locs : List Loc) (ls : Array Slot) (av0 : a0 < 3) (av2 : a2 < 12), B_X6_lookAtSchedules_45 kk2 n9 a0 a1 a2 a3 a4 S k → RelC D cy b z tx S s H → va_S (gA b 709 z) s.heap H locs → lv_has ls 5 [(0, .ref (b + adC 13 a0)), (1, .int a1), (2, .ref (b + adC 25 a2)), (3, .int a3), (4, .int a4)] → W p l e rm_X6_lookAtSchedules s m args below meth c H locs 0 0 (MQ below (PvC D cy b z tx k) args s 0 0 (gA b 709 z)) (F0 m 45 ls []) := by
  intro n9
  induction n9 with
  | zero => intro a0 a1 a2 a3 a4 S H locs ls av0 av2 h; exact h.elim
  | succ n9 ih =>
    intro a0 a1 a2 a3 a4 S H locs ls av0 av2 h hR hS hl
    exact Bbw_X6_lookAtSchedules_45 C0 hr hlk hT ih2 ih a0 a1 a2 a3 a4 S H locs ls av0 av2 h hR hS hl
def Bb_X6_lookAtSchedules_2 (kk2 : Nat → Int32 → sSt → Prop) (a0 : Nat) (a1 : Int32) (S : sSt) (k : sSt → Prop) : Prop := (((S.1 13 a0 8) ≤ a1 → k S) ∧ (¬ (S.1 13 a0 8) ≤ a1 → ix a1 4 (fun j3 => F_X4_slotOf (4 * a0 + j3) (S.1 13 a0 11) S (fun r5 S6 => ((r5 ≤ (S6.1 25 (4 * a0 + j3) 7) → B_X6_lookAtSchedules_69 kk2 a0 a1 S6 k) ∧ (¬ r5 ≤ (S6.1 25 (4 * a0 + j3) 7) → F_X4_firstToFire (4 * a0 + j3) r5 (S6.1 13 a0 11) S6 (fun r9 S10 => B_X6_lookAtSchedules_45 kk2 fuel a0 a1 (4 * a0 + j3) r5 r9 S10 k)))))))
set_option maxHeartbeats 4000000 in
set_option maxRecDepth 100000 in
theorem Bbw_X6_lookAtSchedules_2 {p : Program} {l : Launch} {e : Env} {s : State} {m : MethodId} {args : Array Value} {below : List Frame} {meth : Method} {c : Code} {D : va_G} {cy : Nat → ClassId} {b z : Nat} {tx : TX} (C0 : CallFix p m c cX6_lookAtSchedules 5 s args TB RX6) (hr : meth.sig.returnType = none) (hlk : meth.locks = false) (hT : TxR tx s) {k : sSt → Prop} {kk2 : Nat → Int32 → sSt → Prop} (ih2 : ∀ (a0 : Nat) (a1 : Int32) (S : sSt) (H : Heap) (locs : List Loc) (ls : Array Slot) (av0 : a0 < 3), kk2 a0 a1 S → RelC D cy b z tx S s H → va_S (gA b 709 z) s.heap H locs → lv_has ls 5 [(0, .ref (b + adC 13 a0)), (1, .int a1)] → W p l e rm_X6_lookAtSchedules s m args below meth c H locs 0 0 (MQ below (PvC D cy b z tx k) args s 0 0 (gA b 709 z)) (F0 m 2 ls [])) : ∀ (a0 : Nat) (a1 : Int32) (S : sSt) (H : Heap) (locs : List Loc) (ls : Array Slot) (av0 : a0 < 3), Bb_X6_lookAtSchedules_2 kk2 a0 a1 S k → RelC D cy b z tx S s H → va_S (gA b 709 z) s.heap H locs → lv_has ls 5 [(0, .ref (b + adC 13 a0)), (1, .int a1)] → W p l e rm_X6_lookAtSchedules s m args below meth c H locs 0 0 (MQ below (PvC D cy b z tx k) args s 0 0 (gA b 709 z)) (F0 m 2 ls []) := by
  intro a0 a1 S H locs ls av0 h hR hS hl
  have hx := C0.1
  have hb := C0.2.1
  unfold Bb_X6_lookAtSchedules_2 at h
  refine lv_iload_n hx hb dX6_lookAtSchedules_2 rfl (lv_at hl 1 rfl) ?_
  refine lv_aload_n hx hb dX6_lookAtSchedules_3 rfl (lv_at hl 0 rfl) ?_
  refine gC_13_8 C0 hR av0 tbs_wsX60 mC6_2_153 dX6_lookAtSchedules_4 ?_
  refine lv_icmp_ge (tgt := 75) hx hb dX6_lookAtSchedules_7 (by decide) (fun c1 => ?_) (fun c1 => ?_)
  · have h := h.1 c1
    exact rtC_v C0 hr hlk hR hS h dX6_lookAtSchedules_75
  · have h := h.2 c1
    refine lv_aload_n hx hb dX6_lookAtSchedules_10 rfl (lv_at hl 0 rfl) ?_
    refine gC_13_2 C0 hR av0 tbs_wsX60 mC6_2_133 dX6_lookAtSchedules_11 ?_
    have w2 : a0 < 3 := by omega
    refine lv_iload_n hx hb dX6_lookAtSchedules_14 rfl (lv_at hl 1 rfl) ?_
    obtain ⟨j3, hj3, ej3, h⟩ := h
    refine lC_16 C0 hR w2 hj3 ej3 dX6_lookAtSchedules_15 ?_
    have w4 : (4 * a0 + j3) < 12 := by omega
    refine lv_astore_n (lv' := [(2, .ref (b + adC 25 (4 * a0 + j3))), (0, .ref (b + adC 13 a0)), (1, .int a1)]) hx hb dX6_lookAtSchedules_16 rfl hl (by decide) rfl (fun ls hl => ?_)
    refine lv_aload_n hx hb dX6_lookAtSchedules_17 rfl (lv_at hl 0 rfl) ?_
    refine lv_aload_n hx hb dX6_lookAtSchedules_18 rfl (lv_at hl 1 rfl) ?_
    refine gC_13_11 C0 hR av0 tbs_wsX60 mC6_2_164 dX6_lookAtSchedules_19 ?_
    refine qC_Vi (As := [.int (S.1 13 a0 11)]) (rest := []) C0 (c_X4_slotOf l w4 h) (cwV 1 C0.2.2.2.2 (tbV mC6_6_7 ⟨mC6_4_20, mC6_4_21, mC6_1_10, mC6_4_22⟩) rfl rfl rfl (by decide +kernel) ⟨Nat.le_of_ble_eq_true rfl, Nat.le_of_ble_eq_true rfl⟩) (rcC_25 hR w4) hR hT hS rfl hl.1 rfl (Nat.le_of_ble_eq_true rfl) dX6_lookAtSchedules_22 ⟨Nat.zero_le _, Nat.zero_le _⟩ (fun r5 S6 H locs h hR hS => ?_)
    refine lv_istore_n (lv' := [(3, .int r5), (2, .ref (b + adC 25 (4 * a0 + j3))), (0, .ref (b + adC 13 a0)), (1, .int a1)]) hx hb dX6_lookAtSchedules_25 rfl hl (by decide) rfl (fun ls hl => ?_)
    refine lv_iload_n hx hb dX6_lookAtSchedules_26 rfl (lv_at hl 0 rfl) ?_
    refine lv_aload_n hx hb dX6_lookAtSchedules_27 rfl (lv_at hl 1 rfl) ?_
    refine gCn_25_7 C0 hR w4 tbs_wsX40 mC6_2_107 hT dX6_lookAtSchedules_28 ?_
    refine lv_icmp_le (tgt := 69) hx hb dX6_lookAtSchedules_31 (by decide) (fun c7 => ?_) (fun c7 => ?_)
    · have h := h.1 c7
      exact Bw_X6_lookAtSchedules_69 C0 hr hlk hT ih2 a0 a1 S6 _ _ _ av0 h hR hS (lv_sub hl [2, 3] rfl)
    · have h := h.2 c7
      refine lv_aload_n hx hb dX6_lookAtSchedules_34 rfl (lv_at hl 1 rfl) ?_
      refine lv_iload_n hx hb dX6_lookAtSchedules_35 rfl (lv_at hl 0 rfl) ?_
      refine lv_aload_n hx hb dX6_lookAtSchedules_36 rfl (lv_at hl 2 rfl) ?_
      refine gC_13_11 C0 hR av0 tbs_wsX60 mC6_2_164 dX6_lookAtSchedules_37 ?_
      refine qC_Vi (As := [.int r5, .int (S6.1 13 a0 11)]) (rest := []) C0 (c_X4_firstToFire l w4 h) (cwV 2 C0.2.2.2.2 (tbV mC6_6_8 ⟨mC6_6_9, mC6_6_10, mC6_1_10, mC6_6_11⟩) rfl rfl rfl (by decide +kernel) ⟨Nat.le_of_ble_eq_true rfl, Nat.le_of_ble_eq_true rfl⟩) (rcC_25 hR w4) hR hT hS rfl hl.1 rfl (Nat.le_of_ble_eq_true rfl) dX6_lookAtSchedules_40 ⟨Nat.zero_le _, Nat.zero_le _⟩ (fun r9 S10 H locs h hR hS => ?_)
      refine lv_istore (lv' := [(4, .int r9), (3, .int r5), (2, .ref (b + adC 25 (4 * a0 + j3))), (0, .ref (b + adC 13 a0)), (1, .int a1)]) hx hb dX6_lookAtSchedules_43 hl (by decide) rfl (fun ls hl => ?_)
      exact Bw_X6_lookAtSchedules_45 C0 hr hlk hT ih2 fuel a0 a1 (4 * a0 + j3) r5 r9 S10 _ _ _ av0 w4 h hR hS (lv_sub hl [3, 4, 2, 1, 0] rfl)
def B_X6_lookAtSchedules_2 (n9 : Nat) (a0 : Nat) (a1 : Int32) (S : sSt) (k : sSt → Prop) : Prop := (Nat.rec (motive := fun _ => Nat → Int32 → sSt → Prop) (fun _ _ _ => False) (fun _ r9 => fun a0 a1 S => Bb_X6_lookAtSchedules_2 r9 a0 a1 S k) n9 : Nat → Int32 → sSt → Prop) a0 a1 S
theorem B_X6_lookAtSchedules_2_s (n9 : Nat) (a0 : Nat) (a1 : Int32) (S : sSt) (k : sSt → Prop) : B_X6_lookAtSchedules_2 (n9 + 1) a0 a1 S k = Bb_X6_lookAtSchedules_2 (fun a0 a1 S => B_X6_lookAtSchedules_2 n9 a0 a1 S k) a0 a1 S k := rfl
set_option maxHeartbeats 4000000 in
set_option maxRecDepth 100000 in
theorem Bw_X6_lookAtSchedules_2 {p : Program} {l : Launch} {e : Env} {s : State} {m : MethodId} {args : Array Value} {below : List Frame} {meth : Method} {c : Code} {D : va_G} {cy : Nat → ClassId} {b z : Nat} {tx : TX} (C0 : CallFix p m c cX6_lookAtSchedules 5 s args TB RX6) (hr : meth.sig.returnType = none) (hlk : meth.locks = false) (hT : TxR tx s) {k : sSt → Prop} : ∀ (n9 : Nat), ∀ (a0 : Nat) (a1 : Int32) (S : sSt) (H : Heap) (locs : List Loc) (ls : Array Slot) (av0 : a0 < 3), B_X6_lookAtSchedules_2 n9 a0 a1 S k → RelC D cy b z tx S s H → va_S (gA b 709 z) s.heap H locs → lv_has ls 5 [(0, .ref (b + adC 13 a0)), (1, .int a1)] → W p l e rm_X6_lookAtSchedules s m args below meth c H locs 0 0 (MQ below (PvC D cy b z tx k) args s 0 0 (gA b 709 z)) (F0 m 2 ls []) := by
  intro n9
  induction n9 with
  | zero => intro a0 a1 S H locs ls av0 h; exact h.elim
  | succ n9 ih =>
    intro a0 a1 S H locs ls av0 h hR hS hl
    exact Bbw_X6_lookAtSchedules_2 C0 hr hlk hT ih a0 a1 S H locs ls av0 h hR hS hl
def F_X6_lookAtSchedules (a0 : Nat) (S : sSt) (k : sSt → Prop) : Prop := B_X6_lookAtSchedules_2 fuel a0 0 S k
set_option maxHeartbeats 4000000 in
set_option maxRecDepth 100000 in
theorem c_X6_lookAtSchedules (l : Launch) {D : va_G} {cy : Nat → ClassId} {b z : Nat} {tx : TX} {a0 : Nat} {S : sSt} {k : sSt → Prop} (av0 : a0 < 3) (h : F_X6_lookAtSchedules a0 S k) : Met l yX6_lookAtSchedules (Cond.code yX6_lookAtSchedules cX6_lookAtSchedules 5 none :: TB) rm_X6_lookAtSchedules (va_Pc [.ref (b + adC 13 a0)] (fun U => RelC D cy b z tx S U U.heap ∧ TxR tx U)) (PvC D cy b z tx k) 0 0 (gA b 709 z) := by
  refine Met.ofW (cc := cX6_lookAtSchedules) (maxL := 5) (ret := none) (by decide) rfl ?_
  intro p e s m args below meth c s₁ B hml hv
  obtain ⟨rfl, hR, hT⟩ := hv
  have C0 : CallFix p m c cX6_lookAtSchedules 5 s _ TB RX6 := ⟨B.exec, B.bytes, hml, findClass_of_methodNamed B.named, fun w hw => atoms_spec B.pre w (List.mem_cons_of_mem _ hw)⟩
  have hr := B.returns
  have hlk := B.notSynchronized
  have hx := C0.1
  have hb := C0.2.1
  have hS : va_S (gA b 709 z) s.heap s.heap [] := va_S.rf
  have hl := lv_entry ([.ref (b + adC 13 a0)]) (n := 5) (Nat.le_of_ble_eq_true rfl)
  rw [lg_entry_eq]
  generalize (lg_sl ([.ref (b + adC 13 a0)]) ++ List.replicate (5 - (lg_sl ([.ref (b + adC 13 a0)])).length) Slot.unset).toArray = ls at hl ⊢
  have hl : lv_has ls 5 [(0, .ref (b + adC 13 a0))] := hl
  show W p l e rm_X6_lookAtSchedules s m _ below meth c s.heap [] 0 0 (MQ below (PvC D cy b z tx k) _ s 0 0 (gA b 709 z)) _
  unfold F_X6_lookAtSchedules at h
  refine lv_iconst (v := 0) hx hb dX6_lookAtSchedules_0 (by decide) ?_
  refine lv_istore_n (lv' := [(1, .int 0), (0, .ref (b + adC 13 a0))]) hx hb dX6_lookAtSchedules_1 rfl hl (by decide) rfl (fun ls hl => ?_)
  exact Bw_X6_lookAtSchedules_2 C0 hr hlk hT fuel a0 0 S _ _ _ av0 h hR hS (lv_sub hl [1, 0] rfl)

def rm_X6_tickTimes : Room := { frames := 4, cells := 0, slots := 0, locals := 93 }
def Bb_X6_tickTimes_7 (kk7 : Nat → Int32 → Int32 → Int32 → sSt → Prop) (a0 : Nat) (a1 : Int32) (a2 : Int32) (a3 : Int32) (S : sSt) (k : Int32 → sSt → Prop) : Prop := ((a1 ≤ a3 → k ((S.1 13 a0 13) - a2) S) ∧ (¬ a1 ≤ a3 → ∀ S3, S3 = uI S 13 a0 10 (if 9999 < ((S.1 13 a0 10) + 1) then 9999 else ((S.1 13 a0 10) + 1)) → ∀ S4, S4 = uI S3 13 a0 11 (if 9999 < ((S3.1 13 a0 11) + 1) then 9999 else ((S3.1 13 a0 11) + 1)) → F_X6_lookAtSchedules a0 S4 (fun S6 => ∀ x7 : Int32, x7 = a3 + 1 → kk7 a0 a1 a2 x7 S6)))
set_option maxHeartbeats 4000000 in
set_option maxRecDepth 100000 in
theorem Bbw_X6_tickTimes_7 {p : Program} {l : Launch} {e : Env} {s : State} {m : MethodId} {args : Array Value} {below : List Frame} {meth : Method} {c : Code} {D : va_G} {cy : Nat → ClassId} {b z : Nat} {tx : TX} (C0 : CallFix p m c cX6_tickTimes 4 s args TB RX6) (hr : meth.sig.returnType = (some .int)) (hlk : meth.locks = false) (hT : TxR tx s) {k : Int32 → sSt → Prop} {kk7 : Nat → Int32 → Int32 → Int32 → sSt → Prop} (ih7 : ∀ (a0 : Nat) (a1 : Int32) (a2 : Int32) (a3 : Int32) (S : sSt) (H : Heap) (locs : List Loc) (ls : Array Slot) (av0 : a0 < 3), kk7 a0 a1 a2 a3 S → RelC D cy b z tx S s H → va_S (gA b 709 z) s.heap H locs → lv_has ls 4 [(0, .ref (b + adC 13 a0)), (1, .int a1), (2, .int a2), (3, .int a3)] → W p l e rm_X6_tickTimes s m args below meth c H locs 0 0 (MQ below (PiC D cy b z tx k) args s 0 0 (gA b 709 z)) (F0 m 7 ls [])) : ∀ (a0 : Nat) (a1 : Int32) (a2 : Int32) (a3 : Int32) (S : sSt) (H : Heap) (locs : List Loc) (ls : Array Slot) (av0 : a0 < 3), Bb_X6_tickTimes_7 kk7 a0 a1 a2 a3 S k → RelC D cy b z tx S s H → va_S (gA b 709 z) s.heap H locs → lv_has ls 4 [(0, .ref (b + adC 13 a0)), (1, .int a1), (2, .int a2), (3, .int a3)] → W p l e rm_X6_tickTimes s m args below meth c H locs 0 0 (MQ below (PiC D cy b z tx k) args s 0 0 (gA b 709 z)) (F0 m 7 ls []) := by
  intro a0 a1 a2 a3 S H locs ls av0 h hR hS hl
  have hx := C0.1
  have hb := C0.2.1
  unfold Bb_X6_tickTimes_7 at h
  refine lv_iload_n hx hb dX6_tickTimes_7 rfl (lv_at hl 3 rfl) ?_
  refine lv_iload_n hx hb dX6_tickTimes_8 rfl (lv_at hl 1 rfl) ?_
  refine lv_icmp_ge (tgt := 54) hx hb dX6_tickTimes_9 (by decide) (fun c2 => ?_) (fun c2 => ?_)
  · have h := h.1 c2
    refine lv_aload_n hx hb dX6_tickTimes_54 rfl (lv_at hl 0 rfl) ?_
    refine gC_13_13 C0 hR av0 tbs_wsX60 mC6_2_170 dX6_tickTimes_55 ?_
    refine lv_iload_n hx hb dX6_tickTimes_58 rfl (lv_at hl 2 rfl) ?_
    refine lv_isub hx hb dX6_tickTimes_59 ?_
    exact rtC_i C0 hr hlk hR hS h dX6_tickTimes_60
  · have h := h.2 c2
    refine lv_aload_n hx hb dX6_tickTimes_12 rfl (lv_at hl 0 rfl) ?_
    refine lv_aload_n hx hb dX6_tickTimes_13 rfl (lv_at hl 0 rfl) ?_
    refine gC_13_10 C0 hR av0 tbs_wsX60 mC6_2_160 dX6_tickTimes_14 ?_
    refine lv_iconst (v := 1) hx hb dX6_tickTimes_17 (by decide) ?_
    refine lv_iadd hx hb dX6_tickTimes_18 ?_
    refine lv_sipush (v := 9999) hx hb dX6_tickTimes_19 (by decide) ?_
    refine va_mmin hx hb (C0.2.2.1.trans hl.1.symm) C0.2.2.2.1 (C0.2.2.2.2 _ mC6_5_178) (C0.2.2.2.2 _ mC6_5_67) (C0.2.2.2.2 _ mC6_1_25) (C0.2.2.2.2 _ mC6_5_68) (Nat.le_of_ble_eq_true rfl) (Nat.le_of_ble_eq_true rfl) (Nat.zero_le _) (Nat.zero_le _) dX6_tickTimes_22 ?_
    refine pC_13_10 C0 hR hS av0 tbs_wsX60 mC6_2_160 dX6_tickTimes_25 (fun S3 eS3 H locs hR hS => ?_)
    have h := h S3 eS3
    refine lv_aload_n hx hb dX6_tickTimes_28 rfl (lv_at hl 0 rfl) ?_
    refine lv_aload_n hx hb dX6_tickTimes_29 rfl (lv_at hl 0 rfl) ?_
    refine gC_13_11 C0 hR av0 tbs_wsX60 mC6_2_164 dX6_tickTimes_30 ?_
    refine lv_iconst (v := 1) hx hb dX6_tickTimes_33 (by decide) ?_
    refine lv_iadd hx hb dX6_tickTimes_34 ?_
    refine lv_sipush (v := 9999) hx hb dX6_tickTimes_35 (by decide) ?_
    refine va_mmin hx hb (C0.2.2.1.trans hl.1.symm) C0.2.2.2.1 (C0.2.2.2.2 _ mC6_5_178) (C0.2.2.2.2 _ mC6_5_67) (C0.2.2.2.2 _ mC6_1_25) (C0.2.2.2.2 _ mC6_5_68) (Nat.le_of_ble_eq_true rfl) (Nat.le_of_ble_eq_true rfl) (Nat.zero_le _) (Nat.zero_le _) dX6_tickTimes_38 ?_
    refine pC_13_11 C0 hR hS av0 tbs_wsX60 mC6_2_164 dX6_tickTimes_41 (fun S4 eS4 H locs hR hS => ?_)
    have h := h S4 eS4
    refine lv_aload_n hx hb dX6_tickTimes_44 rfl (lv_at hl 0 rfl) ?_
    refine qC_Vv (As := []) (rest := []) C0 (c_X6_lookAtSchedules l av0 h) (cwV 0 C0.2.2.2.2 (tbV mC6_6_3 ⟨mC6_6_5, mpC6_2_1, mC6_1_5, mC6_6_6⟩) rfl rfl rfl (by decide +kernel) ⟨Nat.le_of_ble_eq_true rfl, Nat.le_of_ble_eq_true rfl⟩) (rcC_13 hR av0) hR hT hS rfl hl.1 rfl (Nat.le_of_ble_eq_true rfl) dX6_tickTimes_45 ⟨Nat.zero_le _, Nat.zero_le _⟩ (fun S6 H locs h hR hS => ?_)
    obtain ⟨x7, ex7⟩ : ∃ x7 : Int32, x7 = a3 + 1 := ⟨_, rfl⟩
    have h := h x7 ex7
    refine w_iinc (v0 := 1) (lv' := [(3, .int x7), (0, .ref (b + adC 13 a0)), (1, .int a1), (2, .int a2)]) C0 dX6_tickTimes_48 hl (k := 3) rfl (by decide) (by decide) x7 ex7 rfl (fun ls hl => ?_)
    refine lv_goto (tgt := 7) hx hb dX6_tickTimes_51 (by decide) ?_
    exact ih7 a0 a1 a2 x7 S6 _ _ _ av0 h hR hS (lv_sub hl [1, 2, 3, 0] rfl)
def B_X6_tickTimes_7 (n9 : Nat) (a0 : Nat) (a1 : Int32) (a2 : Int32) (a3 : Int32) (S : sSt) (k : Int32 → sSt → Prop) : Prop := (Nat.rec (motive := fun _ => Nat → Int32 → Int32 → Int32 → sSt → Prop) (fun _ _ _ _ _ => False) (fun _ r9 => fun a0 a1 a2 a3 S => Bb_X6_tickTimes_7 r9 a0 a1 a2 a3 S k) n9 : Nat → Int32 → Int32 → Int32 → sSt → Prop) a0 a1 a2 a3 S
theorem B_X6_tickTimes_7_s (n9 : Nat) (a0 : Nat) (a1 : Int32) (a2 : Int32) (a3 : Int32) (S : sSt) (k : Int32 → sSt → Prop) : B_X6_tickTimes_7 (n9 + 1) a0 a1 a2 a3 S k = Bb_X6_tickTimes_7 (fun a0 a1 a2 a3 S => B_X6_tickTimes_7 n9 a0 a1 a2 a3 S k) a0 a1 a2 a3 S k := rfl
set_option maxHeartbeats 4000000 in
set_option maxRecDepth 100000 in
theorem Bw_X6_tickTimes_7 {p : Program} {l : Launch} {e : Env} {s : State} {m : MethodId} {args : Array Value} {below : List Frame} {meth : Method} {c : Code} {D : va_G} {cy : Nat → ClassId} {b z : Nat} {tx : TX} (C0 : CallFix p m c cX6_tickTimes 4 s args TB RX6) (hr : meth.sig.returnType = (some .int)) (hlk : meth.locks = false) (hT : TxR tx s) {k : Int32 → sSt → Prop} : ∀ (n9 : Nat), ∀ (a0 : Nat) (a1 : Int32) (a2 : Int32) (a3 : Int32) (S : sSt) (H : Heap) (locs : List Loc) (ls : Array Slot) (av0 : a0 < 3), B_X6_tickTimes_7 n9 a0 a1 a2 a3 S k → RelC D cy b z tx S s H → va_S (gA b 709 z) s.heap H locs → lv_has ls 4 [(0, .ref (b + adC 13 a0)), (1, .int a1), (2, .int a2), (3, .int a3)] → W p l e rm_X6_tickTimes s m args below meth c H locs 0 0 (MQ below (PiC D cy b z tx k) args s 0 0 (gA b 709 z)) (F0 m 7 ls []) := by
  intro n9
  induction n9 with
  | zero => intro a0 a1 a2 a3 S H locs ls av0 h; exact h.elim
  | succ n9 ih =>
    intro a0 a1 a2 a3 S H locs ls av0 h hR hS hl
    exact Bbw_X6_tickTimes_7 C0 hr hlk hT ih a0 a1 a2 a3 S H locs ls av0 h hR hS hl
def F_X6_tickTimes (a0 : Nat) (a1 : Int32) (S : sSt) (k : Int32 → sSt → Prop) : Prop := ∀ x1 : Int32, x1 = (S.1 13 a0 13) → B_X6_tickTimes_7 fuel a0 a1 x1 0 S k
set_option maxHeartbeats 4000000 in
set_option maxRecDepth 100000 in
theorem c_X6_tickTimes (l : Launch) {D : va_G} {cy : Nat → ClassId} {b z : Nat} {tx : TX} {a0 : Nat} {a1 : Int32} {S : sSt} {k : Int32 → sSt → Prop} (av0 : a0 < 3) (h : F_X6_tickTimes a0 a1 S k) : Met l yX6_tickTimes (Cond.code yX6_tickTimes cX6_tickTimes 4 (some .int) :: TB) rm_X6_tickTimes (va_Pc [.ref (b + adC 13 a0), .int a1] (fun U => RelC D cy b z tx S U U.heap ∧ TxR tx U)) (PiC D cy b z tx k) 0 0 (gA b 709 z) := by
  refine Met.ofW (cc := cX6_tickTimes) (maxL := 4) (ret := (some .int)) (by decide) rfl ?_
  intro p e s m args below meth c s₁ B hml hv
  obtain ⟨rfl, hR, hT⟩ := hv
  have C0 : CallFix p m c cX6_tickTimes 4 s _ TB RX6 := ⟨B.exec, B.bytes, hml, findClass_of_methodNamed B.named, fun w hw => atoms_spec B.pre w (List.mem_cons_of_mem _ hw)⟩
  have hr := B.returns
  have hlk := B.notSynchronized
  have hx := C0.1
  have hb := C0.2.1
  have hS : va_S (gA b 709 z) s.heap s.heap [] := va_S.rf
  have hl := lv_entry ([.ref (b + adC 13 a0), .int a1]) (n := 4) (Nat.le_of_ble_eq_true rfl)
  rw [lg_entry_eq]
  generalize (lg_sl ([.ref (b + adC 13 a0), .int a1]) ++ List.replicate (4 - (lg_sl ([.ref (b + adC 13 a0), .int a1])).length) Slot.unset).toArray = ls at hl ⊢
  have hl : lv_has ls 4 [(0, .ref (b + adC 13 a0)), (1, .int a1)] := hl
  show W p l e rm_X6_tickTimes s m _ below meth c s.heap [] 0 0 (MQ below (PiC D cy b z tx k) _ s 0 0 (gA b 709 z)) _
  unfold F_X6_tickTimes at h
  refine lv_aload_n hx hb dX6_tickTimes_0 rfl (lv_at hl 0 rfl) ?_
  refine gC_13_13 C0 hR av0 tbs_wsX60 mC6_2_170 dX6_tickTimes_1 ?_
  refine lv_topi (fun x1 ex1 => ?_)
  have h := h x1 ex1
  refine lv_istore_n (lv' := [(2, .int x1), (0, .ref (b + adC 13 a0)), (1, .int a1)]) hx hb dX6_tickTimes_4 rfl hl (by decide) rfl (fun ls hl => ?_)
  refine lv_iconst (v := 0) hx hb dX6_tickTimes_5 (by decide) ?_
  refine lv_istore_n (lv' := [(3, .int 0), (2, .int x1), (0, .ref (b + adC 13 a0)), (1, .int a1)]) hx hb dX6_tickTimes_6 rfl hl (by decide) rfl (fun ls hl => ?_)
  exact Bw_X6_tickTimes_7 C0 hr hlk hT fuel a0 a1 x1 0 S _ _ _ av0 h hR hS (lv_sub hl [2, 3, 1, 0] rfl)

def rm_X11_ticks : Room := { frames := 6, cells := 1, slots := 6, locals := 116 }
def B_X11_ticks_11 (S : sSt) (k : Int32 → sSt → Prop) (kx : String → sSt → Prop) : Prop := kx "java/lang/IllegalArgumentException" S
set_option maxHeartbeats 4000000 in
set_option maxRecDepth 100000 in
theorem Bw_X11_ticks_11 {p : Program} {l : Launch} {e : Env} {s : State} {m : MethodId} {args : Array Value} {below : List Frame} {meth : Method} {c : Code} {D : va_G} {cy : Nat → ClassId} {b z : Nat} {tx : TX} (C0 : CallFix p m c cX11_ticks 2 s args TB RX11) (hr : meth.sig.returnType = (some .int)) (hlk : meth.locks = false) (hT : TxR tx s) (hl0 : l.stackTraces = false) (hX0 : TxP tx b z s s.heap) (hexc : ∀ x ∈ c.exceptionTable.toList, False) {k : Int32 → sSt → Prop} {kx : String → sSt → Prop} : ∀ (S : sSt) (H : Heap) (locs : List Loc) (ls : Array Slot) , B_X11_ticks_11 S k kx → RelC D cy b z tx S s H → va_S (gA b 709 z) s.heap H locs → lv_has ls 2 [] → W p l e rm_X11_ticks s m args below meth c H locs 0 0 (vx_MQ below (PiC D cy b z tx k) (XeC D cy b z tx kx) args s 1 6 (gA b 709 z)) (F0 m 11 ls []) := by
  intro S H locs ls h hR hS hl
  have hx := C0.1
  have hb := C0.2.1
  unfold B_X11_ticks_11 at h
  exact w_throw_0 C0 hl0 hX0 hT hR hS hl.1 hexc hlk h mC6_4_45 mC6_1_21 dX11_ticks_11 dX11_ticks_14 dX11_ticks_15 dX11_ticks_18 (Nat.le_of_ble_eq_true rfl) (Nat.le_of_ble_eq_true rfl) (Nat.le_of_ble_eq_true rfl) (Nat.le_of_ble_eq_true rfl) (Nat.le_of_ble_eq_true rfl) (Nat.le_of_ble_eq_true rfl)
def F_X11_ticks (a1 : Int32) (S : sSt) (k : Int32 → sSt → Prop) (kx : String → sSt → Prop) : Prop := ((a1 < 1 → B_X11_ticks_11 S k kx) ∧ (¬ a1 < 1 → ((a1 ≤ 60 → F_X6_tickTimes (S.2 0 0 4) a1 S (fun r4 S5 => k r4 S5)) ∧ (¬ a1 ≤ 60 → B_X11_ticks_11 S k kx))))
set_option maxHeartbeats 4000000 in
set_option maxRecDepth 100000 in
theorem c_X11_ticks (l : Launch) (hl0 : l.stackTraces = false) {D : va_G} {cy : Nat → ClassId} {b z : Nat} {tx : TX} {a1 : Int32} {S : sSt} {k : Int32 → sSt → Prop} {kx : String → sSt → Prop} (h : F_X11_ticks a1 S k kx) : vx_Met l yX11_ticks (Cond.code yX11_ticks cX11_ticks 2 (some .int) :: TB) rm_X11_ticks (va_Pc [.ref (b + adC 0 0), .int a1] (fun U => RelC D cy b z tx S U U.heap ∧ TxR tx U)) (PiC D cy b z tx k) (XeC D cy b z tx kx) 1 6 (gA b 709 z) := by
  refine vx_ofW (cc := cX11_ticks) (maxL := 2) (ret := (some .int)) (by decide) rfl ?_
  intro p e s m args below meth c s₁ B hml hexc hv
  obtain ⟨rfl, hR, hT⟩ := hv
  have hX0 := hR.2.2
  have C0 : CallFix p m c cX11_ticks 2 s _ TB RX11 := ⟨B.exec, B.bytes, hml, findClass_of_methodNamed B.named, fun w hw => atoms_spec B.pre w (List.mem_cons_of_mem _ hw)⟩
  have hr := B.returns
  have hlk := B.notSynchronized
  have hx := C0.1
  have hb := C0.2.1
  have hS : va_S (gA b 709 z) s.heap s.heap [] := va_S.rf
  have hl := lv_entry ([.ref (b + adC 0 0), .int a1]) (n := 2) (Nat.le_of_ble_eq_true rfl)
  rw [lg_entry_eq]
  generalize (lg_sl ([.ref (b + adC 0 0), .int a1]) ++ List.replicate (2 - (lg_sl ([.ref (b + adC 0 0), .int a1])).length) Slot.unset).toArray = ls at hl ⊢
  have hl : lv_has ls 2 [(0, .ref (b + adC 0 0)), (1, .int a1)] := hl
  show W p l e rm_X11_ticks s m _ below meth c s.heap [] 0 0 (vx_MQ below (PiC D cy b z tx k) (XeC D cy b z tx kx) _ s 1 6 (gA b 709 z)) _
  unfold F_X11_ticks at h
  refine lv_iload_n hx hb dX11_ticks_0 rfl (lv_at hl 1 rfl) ?_
  refine lv_iconst (v := 1) hx hb dX11_ticks_1 (by decide) ?_
  refine lv_icmp_lt (tgt := 11) hx hb dX11_ticks_2 (by decide) (fun c1 => ?_) (fun c1 => ?_)
  · have h := h.1 c1
    refine W.widen (k := 0) (n := 0) (Nat.le_of_ble_eq_true rfl) (Nat.le_of_ble_eq_true rfl) ?_
    exact Bw_X11_ticks_11 C0 hr hlk hT hl0 hX0 hexc S _ _ _ h hR hS (lv_sub hl [] rfl)
  · have h := h.2 c1
    refine lv_iload_n hx hb dX11_ticks_5 rfl (lv_at hl 1 rfl) ?_
    refine lv_bipush (v := 60) hx hb dX11_ticks_6 (by decide) ?_
    refine lv_icmp_le (tgt := 19) hx hb dX11_ticks_8 (by decide) (fun c2 => ?_) (fun c2 => ?_)
    · have h := h.1 c2
      refine lv_aload_n hx hb dX11_ticks_19 rfl (lv_at hl 0 rfl) ?_
      refine gC_0_4 C0 hR Nat.zero_lt_one tbs_wsX110 mC6_2_213 dX11_ticks_20 ?_
      have w3 : (S.2 0 0 4) < 3 := hR.2.1.2.1
      refine lv_iload_n hx hb dX11_ticks_23 rfl (lv_at hl 1 rfl) ?_
      refine qC_Vi (As := [.int a1]) (rest := []) C0 (c_X6_tickTimes l w3 h) (cwV 1 C0.2.2.2.2 (tbV mC6_5_239 ⟨mC6_6_0, mC6_6_1, mC6_1_5, mC6_6_2⟩) rfl rfl rfl (by decide +kernel) ⟨Nat.le_of_ble_eq_true rfl, Nat.le_of_ble_eq_true rfl⟩) (rcC_13 hR w3) hR hT hS rfl hl.1 rfl (Nat.le_of_ble_eq_true rfl) dX11_ticks_24 ⟨Nat.le_of_ble_eq_true rfl, Nat.le_of_ble_eq_true rfl⟩ (fun r4 S5 H locs h hR hS => ?_)
      refine vx_ret (W.widen (k := 1) (n := 6) (Nat.le_of_ble_eq_true rfl) (Nat.le_of_ble_eq_true rfl) ?_); exact rtC_i C0 hr hlk hR hS h dX11_ticks_27
    · have h := h.2 c2
      refine W.widen (k := 0) (n := 0) (Nat.le_of_ble_eq_true rfl) (Nat.le_of_ble_eq_true rfl) ?_
      exact Bw_X11_ticks_11 C0 hr hlk hT hl0 hX0 hexc S _ _ _ h hR hS (lv_sub hl [] rfl)

def rm_X6_jumpBy : Room := { frames := 4, cells := 0, slots := 0, locals := 93 }
def F_X6_jumpBy (a0 : Nat) (a1 : Int32) (S : sSt) (k : Int32 → sSt → Prop) : Prop := ∀ x1 : Int32, x1 = (S.1 13 a0 13) → ∀ S2, S2 = uI S 13 a0 11 (if 0 < (if 9999 < ((S.1 13 a0 11) + a1) then 9999 else ((S.1 13 a0 11) + a1)) then (if 9999 < ((S.1 13 a0 11) + a1) then 9999 else ((S.1 13 a0 11) + a1)) else 0) → F_X6_lookAtSchedules a0 S2 (fun S4 => k ((S4.1 13 a0 13) - x1) S4)
set_option maxHeartbeats 4000000 in
set_option maxRecDepth 100000 in
theorem c_X6_jumpBy (l : Launch) {D : va_G} {cy : Nat → ClassId} {b z : Nat} {tx : TX} {a0 : Nat} {a1 : Int32} {S : sSt} {k : Int32 → sSt → Prop} (av0 : a0 < 3) (h : F_X6_jumpBy a0 a1 S k) : Met l yX6_jumpBy (Cond.code yX6_jumpBy cX6_jumpBy 3 (some .int) :: TB) rm_X6_jumpBy (va_Pc [.ref (b + adC 13 a0), .int a1] (fun U => RelC D cy b z tx S U U.heap ∧ TxR tx U)) (PiC D cy b z tx k) 0 0 (gA b 709 z) := by
  refine Met.ofW (cc := cX6_jumpBy) (maxL := 3) (ret := (some .int)) (by decide) rfl ?_
  intro p e s m args below meth c s₁ B hml hv
  obtain ⟨rfl, hR, hT⟩ := hv
  have C0 : CallFix p m c cX6_jumpBy 3 s _ TB RX6 := ⟨B.exec, B.bytes, hml, findClass_of_methodNamed B.named, fun w hw => atoms_spec B.pre w (List.mem_cons_of_mem _ hw)⟩
  have hr := B.returns
  have hlk := B.notSynchronized
  have hx := C0.1
  have hb := C0.2.1
  have hS : va_S (gA b 709 z) s.heap s.heap [] := va_S.rf
  have hl := lv_entry ([.ref (b + adC 13 a0), .int a1]) (n := 3) (Nat.le_of_ble_eq_true rfl)
  rw [lg_entry_eq]
  generalize (lg_sl ([.ref (b + adC 13 a0), .int a1]) ++ List.replicate (3 - (lg_sl ([.ref (b + adC 13 a0), .int a1])).length) Slot.unset).toArray = ls at hl ⊢
  have hl : lv_has ls 3 [(0, .ref (b + adC 13 a0)), (1, .int a1)] := hl
  show W p l e rm_X6_jumpBy s m _ below meth c s.heap [] 0 0 (MQ below (PiC D cy b z tx k) _ s 0 0 (gA b 709 z)) _
  unfold F_X6_jumpBy at h
  refine lv_aload_n hx hb dX6_jumpBy_0 rfl (lv_at hl 0 rfl) ?_
  refine gC_13_13 C0 hR av0 tbs_wsX60 mC6_2_170 dX6_jumpBy_1 ?_
  refine lv_topi (fun x1 ex1 => ?_)
  have h := h x1 ex1
  refine lv_istore_n (lv' := [(2, .int x1), (0, .ref (b + adC 13 a0)), (1, .int a1)]) hx hb dX6_jumpBy_4 rfl hl (by decide) rfl (fun ls hl => ?_)
  refine lv_aload_n hx hb dX6_jumpBy_5 rfl (lv_at hl 1 rfl) ?_
  refine lv_iconst (v := 0) hx hb dX6_jumpBy_6 (by decide) ?_
  refine lv_aload_n hx hb dX6_jumpBy_7 rfl (lv_at hl 1 rfl) ?_
  refine gC_13_11 C0 hR av0 tbs_wsX60 mC6_2_164 dX6_jumpBy_8 ?_
  refine lv_iload_n hx hb dX6_jumpBy_11 rfl (lv_at hl 2 rfl) ?_
  refine lv_iadd hx hb dX6_jumpBy_12 ?_
  refine lv_sipush (v := 9999) hx hb dX6_jumpBy_13 (by decide) ?_
  refine va_mmin hx hb (C0.2.2.1.trans hl.1.symm) C0.2.2.2.1 (C0.2.2.2.2 _ mC6_5_178) (C0.2.2.2.2 _ mC6_5_67) (C0.2.2.2.2 _ mC6_1_25) (C0.2.2.2.2 _ mC6_5_68) (Nat.le_of_ble_eq_true rfl) (Nat.le_of_ble_eq_true rfl) (Nat.zero_le _) (Nat.zero_le _) dX6_jumpBy_16 ?_
  refine va_mmax hx hb (C0.2.2.1.trans hl.1.symm) C0.2.2.2.1 (C0.2.2.2.2 _ mC6_6_33) (C0.2.2.2.2 _ mC6_3_47) (C0.2.2.2.2 _ mC6_1_25) (C0.2.2.2.2 _ mC6_3_48) (Nat.le_of_ble_eq_true rfl) (Nat.le_of_ble_eq_true rfl) (Nat.zero_le _) (Nat.zero_le _) dX6_jumpBy_19 ?_
  refine pC_13_11 C0 hR hS av0 tbs_wsX60 mC6_2_164 dX6_jumpBy_22 (fun S2 eS2 H locs hR hS => ?_)
  have h := h S2 eS2
  refine lv_aload_n hx hb dX6_jumpBy_25 rfl (lv_at hl 1 rfl) ?_
  refine qC_Vv (As := []) (rest := []) C0 (c_X6_lookAtSchedules l av0 h) (cwV 0 C0.2.2.2.2 (tbV mC6_6_3 ⟨mC6_6_5, mpC6_2_1, mC6_1_5, mC6_6_6⟩) rfl rfl rfl (by decide +kernel) ⟨Nat.le_of_ble_eq_true rfl, Nat.le_of_ble_eq_true rfl⟩) (rcC_13 hR av0) hR hT hS rfl hl.1 rfl (Nat.le_of_ble_eq_true rfl) dX6_jumpBy_26 ⟨Nat.zero_le _, Nat.zero_le _⟩ (fun S4 H locs h hR hS => ?_)
  refine lv_aload_n hx hb dX6_jumpBy_29 rfl (lv_at hl 1 rfl) ?_
  refine gC_13_13 C0 hR av0 tbs_wsX60 mC6_2_170 dX6_jumpBy_30 ?_
  refine lv_iload_n hx hb dX6_jumpBy_33 rfl (lv_at hl 0 rfl) ?_
  refine lv_isub hx hb dX6_jumpBy_34 ?_
  exact rtC_i C0 hr hlk hR hS h dX6_jumpBy_35

def rm_X11_jump : Room := { frames := 6, cells := 1, slots := 6, locals := 115 }
def B_X11_jump_14 (S : sSt) (k : Int32 → sSt → Prop) (kx : String → sSt → Prop) : Prop := kx "java/lang/IllegalArgumentException" S
set_option maxHeartbeats 4000000 in
set_option maxRecDepth 100000 in
theorem Bw_X11_jump_14 {p : Program} {l : Launch} {e : Env} {s : State} {m : MethodId} {args : Array Value} {below : List Frame} {meth : Method} {c : Code} {D : va_G} {cy : Nat → ClassId} {b z : Nat} {tx : TX} (C0 : CallFix p m c cX11_jump 2 s args TB RX11) (hr : meth.sig.returnType = (some .int)) (hlk : meth.locks = false) (hT : TxR tx s) (hl0 : l.stackTraces = false) (hX0 : TxP tx b z s s.heap) (hexc : ∀ x ∈ c.exceptionTable.toList, False) {k : Int32 → sSt → Prop} {kx : String → sSt → Prop} : ∀ (S : sSt) (H : Heap) (locs : List Loc) (ls : Array Slot) , B_X11_jump_14 S k kx → RelC D cy b z tx S s H → va_S (gA b 709 z) s.heap H locs → lv_has ls 2 [] → W p l e rm_X11_jump s m args below meth c H locs 0 0 (vx_MQ below (PiC D cy b z tx k) (XeC D cy b z tx kx) args s 1 6 (gA b 709 z)) (F0 m 14 ls []) := by
  intro S H locs ls h hR hS hl
  have hx := C0.1
  have hb := C0.2.1
  unfold B_X11_jump_14 at h
  exact w_throw_0 C0 hl0 hX0 hT hR hS hl.1 hexc hlk h mC6_4_45 mC6_1_21 dX11_jump_14 dX11_jump_17 dX11_jump_18 dX11_jump_21 (Nat.le_of_ble_eq_true rfl) (Nat.le_of_ble_eq_true rfl) (Nat.le_of_ble_eq_true rfl) (Nat.le_of_ble_eq_true rfl) (Nat.le_of_ble_eq_true rfl) (Nat.le_of_ble_eq_true rfl)
def F_X11_jump (a1 : Int32) (S : sSt) (k : Int32 → sSt → Prop) (kx : String → sSt → Prop) : Prop := ((a1 < (-300) → B_X11_jump_14 S k kx) ∧ (¬ a1 < (-300) → ((a1 ≤ 300 → F_X6_jumpBy (S.2 0 0 4) a1 S (fun r4 S5 => k r4 S5)) ∧ (¬ a1 ≤ 300 → B_X11_jump_14 S k kx))))
set_option maxHeartbeats 4000000 in
set_option maxRecDepth 100000 in
theorem c_X11_jump (l : Launch) (hl0 : l.stackTraces = false) {D : va_G} {cy : Nat → ClassId} {b z : Nat} {tx : TX} {a1 : Int32} {S : sSt} {k : Int32 → sSt → Prop} {kx : String → sSt → Prop} (h : F_X11_jump a1 S k kx) : vx_Met l yX11_jump (Cond.code yX11_jump cX11_jump 2 (some .int) :: TB) rm_X11_jump (va_Pc [.ref (b + adC 0 0), .int a1] (fun U => RelC D cy b z tx S U U.heap ∧ TxR tx U)) (PiC D cy b z tx k) (XeC D cy b z tx kx) 1 6 (gA b 709 z) := by
  refine vx_ofW (cc := cX11_jump) (maxL := 2) (ret := (some .int)) (by decide) rfl ?_
  intro p e s m args below meth c s₁ B hml hexc hv
  obtain ⟨rfl, hR, hT⟩ := hv
  have hX0 := hR.2.2
  have C0 : CallFix p m c cX11_jump 2 s _ TB RX11 := ⟨B.exec, B.bytes, hml, findClass_of_methodNamed B.named, fun w hw => atoms_spec B.pre w (List.mem_cons_of_mem _ hw)⟩
  have hr := B.returns
  have hlk := B.notSynchronized
  have hx := C0.1
  have hb := C0.2.1
  have hS : va_S (gA b 709 z) s.heap s.heap [] := va_S.rf
  have hl := lv_entry ([.ref (b + adC 0 0), .int a1]) (n := 2) (Nat.le_of_ble_eq_true rfl)
  rw [lg_entry_eq]
  generalize (lg_sl ([.ref (b + adC 0 0), .int a1]) ++ List.replicate (2 - (lg_sl ([.ref (b + adC 0 0), .int a1])).length) Slot.unset).toArray = ls at hl ⊢
  have hl : lv_has ls 2 [(0, .ref (b + adC 0 0)), (1, .int a1)] := hl
  show W p l e rm_X11_jump s m _ below meth c s.heap [] 0 0 (vx_MQ below (PiC D cy b z tx k) (XeC D cy b z tx kx) _ s 1 6 (gA b 709 z)) _
  unfold F_X11_jump at h
  refine lv_iload_n hx hb dX11_jump_0 rfl (lv_at hl 1 rfl) ?_
  refine lv_sipush (v := (-300)) hx hb dX11_jump_1 (by decide) ?_
  refine lv_icmp_lt (tgt := 14) hx hb dX11_jump_4 (by decide) (fun c1 => ?_) (fun c1 => ?_)
  · have h := h.1 c1
    refine W.widen (k := 0) (n := 0) (Nat.le_of_ble_eq_true rfl) (Nat.le_of_ble_eq_true rfl) ?_
    exact Bw_X11_jump_14 C0 hr hlk hT hl0 hX0 hexc S _ _ _ h hR hS (lv_sub hl [] rfl)
  · have h := h.2 c1
    refine lv_iload_n hx hb dX11_jump_7 rfl (lv_at hl 1 rfl) ?_
    refine lv_sipush (v := 300) hx hb dX11_jump_8 (by decide) ?_
    refine lv_icmp_le (tgt := 22) hx hb dX11_jump_11 (by decide) (fun c2 => ?_) (fun c2 => ?_)
    · have h := h.1 c2
      refine lv_aload_n hx hb dX11_jump_22 rfl (lv_at hl 0 rfl) ?_
      refine gC_0_4 C0 hR Nat.zero_lt_one tbs_wsX110 mC6_2_213 dX11_jump_23 ?_
      have w3 : (S.2 0 0 4) < 3 := hR.2.1.2.1
      refine lv_iload_n hx hb dX11_jump_26 rfl (lv_at hl 1 rfl) ?_
      refine qC_Vi (As := [.int a1]) (rest := []) C0 (c_X6_jumpBy l w3 h) (cwV 1 C0.2.2.2.2 (tbV mC6_6_29 ⟨mC6_6_30, mC6_6_31, mC6_1_5, mC6_6_32⟩) rfl rfl rfl (by decide +kernel) ⟨Nat.le_of_ble_eq_true rfl, Nat.le_of_ble_eq_true rfl⟩) (rcC_13 hR w3) hR hT hS rfl hl.1 rfl (Nat.le_of_ble_eq_true rfl) dX11_jump_27 ⟨Nat.le_of_ble_eq_true rfl, Nat.le_of_ble_eq_true rfl⟩ (fun r4 S5 H locs h hR hS => ?_)
      refine vx_ret (W.widen (k := 1) (n := 6) (Nat.le_of_ble_eq_true rfl) (Nat.le_of_ble_eq_true rfl) ?_); exact rtC_i C0 hr hlk hR hS h dX11_jump_30
    · have h := h.2 c2
      refine W.widen (k := 0) (n := 0) (Nat.le_of_ble_eq_true rfl) (Nat.le_of_ble_eq_true rfl) ?_
      exact Bw_X11_jump_14 C0 hr hlk hT hl0 hX0 hexc S _ _ _ h hR hS (lv_sub hl [] rfl)

def rm_X11_needViewer : Room := { frames := 7, cells := 1, slots := 6, locals := 110 }
def F_X11_needViewer (a1 : Int32) (S : sSt) (k : sSt → Prop) (kx : String → sSt → Prop) : Prop := ((a1 = (-1) → k S) ∧ (¬ a1 = (-1) → F_X11_needSession a1 S (fun S3 => k S3) kx))
set_option maxHeartbeats 4000000 in
set_option maxRecDepth 100000 in
theorem c_X11_needViewer (l : Launch) (hl0 : l.stackTraces = false) {D : va_G} {cy : Nat → ClassId} {b z : Nat} {tx : TX} {a1 : Int32} {S : sSt} {k : sSt → Prop} {kx : String → sSt → Prop} (h : F_X11_needViewer a1 S k kx) : vx_Met l yX11_needViewer (Cond.code yX11_needViewer cX11_needViewer 2 none :: TB) rm_X11_needViewer (va_Pc [.ref (b + adC 0 0), .int a1] (fun U => RelC D cy b z tx S U U.heap ∧ TxR tx U)) (PvC D cy b z tx k) (XeC D cy b z tx kx) 1 6 (gA b 709 z) := by
  refine vx_ofW (cc := cX11_needViewer) (maxL := 2) (ret := none) (by decide) rfl ?_
  intro p e s m args below meth c s₁ B hml hexc hv
  obtain ⟨rfl, hR, hT⟩ := hv
  have hX0 := hR.2.2
  have C0 : CallFix p m c cX11_needViewer 2 s _ TB RX11 := ⟨B.exec, B.bytes, hml, findClass_of_methodNamed B.named, fun w hw => atoms_spec B.pre w (List.mem_cons_of_mem _ hw)⟩
  have hr := B.returns
  have hlk := B.notSynchronized
  have hx := C0.1
  have hb := C0.2.1
  have hS : va_S (gA b 709 z) s.heap s.heap [] := va_S.rf
  have hl := lv_entry ([.ref (b + adC 0 0), .int a1]) (n := 2) (Nat.le_of_ble_eq_true rfl)
  rw [lg_entry_eq]
  generalize (lg_sl ([.ref (b + adC 0 0), .int a1]) ++ List.replicate (2 - (lg_sl ([.ref (b + adC 0 0), .int a1])).length) Slot.unset).toArray = ls at hl ⊢
  have hl : lv_has ls 2 [(0, .ref (b + adC 0 0)), (1, .int a1)] := hl
  show W p l e rm_X11_needViewer s m _ below meth c s.heap [] 0 0 (vx_MQ below (PvC D cy b z tx k) (XeC D cy b z tx kx) _ s 1 6 (gA b 709 z)) _
  unfold F_X11_needViewer at h
  refine lv_iload_n hx hb dX11_needViewer_0 rfl (lv_at hl 1 rfl) ?_
  refine lv_iconst (v := (-1)) hx hb dX11_needViewer_1 (by decide) ?_
  refine lv_icmp_eq (tgt := 10) hx hb dX11_needViewer_2 (by decide) (fun c1 => ?_) (fun c1 => ?_)
  · have h := h.1 c1
    refine vx_ret (W.widen (k := 1) (n := 6) (Nat.le_of_ble_eq_true rfl) (Nat.le_of_ble_eq_true rfl) ?_); exact rtC_v C0 hr hlk hR hS h dX11_needViewer_10
  · have h := h.2 c1
    refine lv_aload_n hx hb dX11_needViewer_5 rfl (lv_at hl 0 rfl) ?_
    refine lv_iload_n hx hb dX11_needViewer_6 rfl (lv_at hl 1 rfl) ?_
    refine qx_Vv (As := [.int a1]) (rest := []) C0 hlk hexc (c_X11_needSession l hl0 h) (cwV 1 C0.2.2.2.2 (tbV mC6_4_133 ⟨mC6_4_135, mpC6_1_5, mC6_1_1, mC6_4_136⟩) rfl rfl rfl (by decide +kernel) ⟨Nat.le_of_ble_eq_true rfl, Nat.le_of_ble_eq_true rfl⟩) (rcC_0 hR Nat.zero_lt_one) hR hT hS rfl hl.1 rfl (Nat.le_of_ble_eq_true rfl) dX11_needViewer_7 ⟨Nat.le_of_ble_eq_true rfl, Nat.le_of_ble_eq_true rfl⟩ ⟨Nat.le_of_ble_eq_true rfl, Nat.le_of_ble_eq_true rfl⟩ (fun S3 H locs h hR hS => ?_)
    refine vx_ret (W.widen (k := 1) (n := 6) (Nat.le_of_ble_eq_true rfl) (Nat.le_of_ble_eq_true rfl) ?_); exact rtC_v C0 hr hlk hR hS h dX11_needViewer_10

def rm_X11_job : Room := { frames := 8, cells := 3, slots := 18, locals := 131 }
def F_X11_job (a1 : Int32) (a2 : Int32) (a3 : Int32) (S : sSt) (k : Int32 → sSt → Prop) (kx : String → sSt → Prop) : Prop := F_X11_needViewer a1 S (fun S2 => F_X11_needJob a1 a2 S2 (fun r3 S4 => F_X1_seenBy r3 a1 S4 (fun r5 S6 => ((a3 = 0 → k (S6.1 21 r3 7) S6) ∧ (¬ a3 = 0 → ((a3 = 1 → k (S6.1 21 r3 8) S6) ∧ (¬ a3 = 1 → ((a3 = 2 → k (S6.1 21 r3 9) S6) ∧ (¬ a3 = 2 → ((a3 = 3 → k (S6.1 22 r5 0) S6) ∧ (¬ a3 = 3 → ((a3 = 4 → k (S6.1 21 r3 10) S6) ∧ (¬ a3 = 4 → ((a3 = 5 → k (S6.1 22 r5 1) S6) ∧ (¬ a3 = 5 → ((a3 = 6 → k (S6.1 22 r5 2) S6) ∧ (¬ a3 = 6 → ((a3 = 7 → k (S6.1 22 r5 3) S6) ∧ (¬ a3 = 7 → ((a3 = 8 → k (S6.1 22 r5 5) S6) ∧ (¬ a3 = 8 → ((a3 = 9 → k (S6.1 22 r5 6) S6) ∧ (¬ a3 = 9 → ((a3 = 10 → k (S6.1 22 r5 7) S6) ∧ (¬ a3 = 10 → ((a3 = 11 → k (S6.1 21 r3 11) S6) ∧ (¬ a3 = 11 → ((a3 = 12 → k (S6.1 21 r3 12) S6) ∧ (¬ a3 = 12 → kx "java/util/NoSuchElementException" S6)))))))))))))))))))))))))))) kx) kx
set_option maxHeartbeats 4000000 in
set_option maxRecDepth 100000 in
theorem c_X11_job (l : Launch) (hl0 : l.stackTraces = false) {D : va_G} {cy : Nat → ClassId} {b z : Nat} {tx : TX} {a1 : Int32} {a2 : Int32} {a3 : Int32} {S : sSt} {k : Int32 → sSt → Prop} {kx : String → sSt → Prop} (h : F_X11_job a1 a2 a3 S k kx) : vx_Met l yX11_job (Cond.code yX11_job cX11_job 6 (some .int) :: TB) rm_X11_job (va_Pc [.ref (b + adC 0 0), .int a1, .int a2, .int a3] (fun U => RelC D cy b z tx S U U.heap ∧ TxR tx U)) (PiC D cy b z tx k) (XeC D cy b z tx kx) 3 18 (gA b 709 z) := by
  refine vx_ofW (cc := cX11_job) (maxL := 6) (ret := (some .int)) (by decide) rfl ?_
  intro p e s m args below meth c s₁ B hml hexc hv
  obtain ⟨rfl, hR, hT⟩ := hv
  have hX0 := hR.2.2
  have C0 : CallFix p m c cX11_job 6 s _ TB RX11 := ⟨B.exec, B.bytes, hml, findClass_of_methodNamed B.named, fun w hw => atoms_spec B.pre w (List.mem_cons_of_mem _ hw)⟩
  have hr := B.returns
  have hlk := B.notSynchronized
  have hx := C0.1
  have hb := C0.2.1
  have hS : va_S (gA b 709 z) s.heap s.heap [] := va_S.rf
  have hl := lv_entry ([.ref (b + adC 0 0), .int a1, .int a2, .int a3]) (n := 6) (Nat.le_of_ble_eq_true rfl)
  rw [lg_entry_eq]
  generalize (lg_sl ([.ref (b + adC 0 0), .int a1, .int a2, .int a3]) ++ List.replicate (6 - (lg_sl ([.ref (b + adC 0 0), .int a1, .int a2, .int a3])).length) Slot.unset).toArray = ls at hl ⊢
  have hl : lv_has ls 6 [(0, .ref (b + adC 0 0)), (1, .int a1), (2, .int a2), (3, .int a3)] := hl
  show W p l e rm_X11_job s m _ below meth c s.heap [] 0 0 (vx_MQ below (PiC D cy b z tx k) (XeC D cy b z tx kx) _ s 3 18 (gA b 709 z)) _
  unfold F_X11_job at h
  refine lv_aload_n hx hb dX11_job_0 rfl (lv_at hl 0 rfl) ?_
  refine lv_iload_n hx hb dX11_job_1 rfl (lv_at hl 1 rfl) ?_
  refine qx_Vv (As := [.int a1]) (rest := []) C0 hlk hexc (c_X11_needViewer l hl0 h) (cwV 1 C0.2.2.2.2 (tbV mC6_6_42 ⟨mC6_6_44, mpC6_2_3, mC6_1_1, mC6_6_45⟩) rfl rfl rfl (by decide +kernel) ⟨Nat.le_of_ble_eq_true rfl, Nat.le_of_ble_eq_true rfl⟩) (rcC_0 hR Nat.zero_lt_one) hR hT hS rfl hl.1 rfl (Nat.le_of_ble_eq_true rfl) dX11_job_2 ⟨Nat.le_of_ble_eq_true rfl, Nat.le_of_ble_eq_true rfl⟩ ⟨Nat.le_of_ble_eq_true rfl, Nat.le_of_ble_eq_true rfl⟩ (fun S2 H locs h hR hS => ?_)
  refine lv_aload_n hx hb dX11_job_5 rfl (lv_at hl 0 rfl) ?_
  refine lv_iload_n hx hb dX11_job_6 rfl (lv_at hl 1 rfl) ?_
  refine lv_iload_n hx hb dX11_job_7 rfl (lv_at hl 2 rfl) ?_
  refine qx_Vr (As := [.int a1, .int a2]) (rest := []) C0 hlk hexc (c_X11_needJob l hl0 h) (cwV 2 C0.2.2.2.2 (tbV mC6_5_134 ⟨mC6_5_136, mpC6_1_12, mC6_1_1, mC6_5_137⟩) rfl rfl rfl (by decide +kernel) ⟨Nat.le_of_ble_eq_true rfl, Nat.le_of_ble_eq_true rfl⟩) (rcC_0 hR Nat.zero_lt_one) hR hT hS rfl hl.1 rfl (Nat.le_of_ble_eq_true rfl) dX11_job_8 ⟨Nat.le_of_ble_eq_true rfl, Nat.le_of_ble_eq_true rfl⟩ ⟨Nat.le_of_ble_eq_true rfl, Nat.le_of_ble_eq_true rfl⟩ (fun r3 S4 H locs vr3 h hR hS => ?_)
  refine lv_astore (lv' := [(4, .ref (b + adC 21 r3)), (0, .ref (b + adC 0 0)), (1, .int a1), (2, .int a2), (3, .int a3)]) hx hb dX11_job_11 hl (by decide) rfl (fun ls hl => ?_)
  refine lv_aload hx hb dX11_job_13 (lv_at hl 0 rfl) ?_
  refine lv_iload_n hx hb dX11_job_15 rfl (lv_at hl 2 rfl) ?_
  refine qC_Vr (As := [.int a1]) (rest := []) C0 (c_X1_seenBy l vr3 h) (cwV 1 C0.2.2.2.2 (tbV mC6_5_147 ⟨mC6_5_80, mC6_5_81, mC6_1_7, mC6_5_82⟩) rfl rfl rfl (by decide +kernel) ⟨Nat.le_of_ble_eq_true rfl, Nat.le_of_ble_eq_true rfl⟩) (rcC_21 hR vr3) hR hT hS rfl hl.1 rfl (Nat.le_of_ble_eq_true rfl) dX11_job_16 ⟨Nat.le_of_ble_eq_true rfl, Nat.le_of_ble_eq_true rfl⟩ (fun r5 S6 H locs vr5 h hR hS => ?_)
  refine lv_astore (lv' := [(5, .ref (b + adC 22 r5)), (4, .ref (b + adC 21 r3)), (0, .ref (b + adC 0 0)), (1, .int a1), (2, .int a2), (3, .int a3)]) hx hb dX11_job_19 hl (by decide) rfl (fun ls hl => ?_)
  refine lv_iload_n hx hb dX11_job_21 rfl (lv_at hl 5 rfl) ?_
  by_cases c7 : a3 = 0
  · have h := h.1 c7
    refine lv_tableIn (tgt := 88) hx hb dX11_job_22 (by rw [c7]; decide) (by rw [c7]; decide) (by rw [c7]; rfl) (by decide) ?_
    refine lv_aload hx hb dX11_job_88 (lv_at hl 1 rfl) ?_
    refine gCn_21_7 C0 hR vr3 tbs_wsX10 mC6_1_238 hT dX11_job_90 ?_
    refine vx_ret (W.widen (k := 3) (n := 18) (Nat.le_of_ble_eq_true rfl) (Nat.le_of_ble_eq_true rfl) ?_); exact rtC_i C0 hr hlk hR hS h dX11_job_93
  have h := h.2 c7
  by_cases c8 : a3 = 1
  · have h := h.1 c8
    refine lv_tableIn (tgt := 94) hx hb dX11_job_22 (by rw [c8]; decide) (by rw [c8]; decide) (by rw [c8]; rfl) (by decide) ?_
    refine lv_aload hx hb dX11_job_94 (lv_at hl 1 rfl) ?_
    refine gCn_21_8 C0 hR vr3 tbs_wsX10 mC6_2_2 hT dX11_job_96 ?_
    refine vx_ret (W.widen (k := 3) (n := 18) (Nat.le_of_ble_eq_true rfl) (Nat.le_of_ble_eq_true rfl) ?_); exact rtC_i C0 hr hlk hR hS h dX11_job_99
  have h := h.2 c8
  by_cases c9 : a3 = 2
  · have h := h.1 c9
    refine lv_tableIn (tgt := 100) hx hb dX11_job_22 (by rw [c9]; decide) (by rw [c9]; decide) (by rw [c9]; rfl) (by decide) ?_
    refine lv_aload hx hb dX11_job_100 (lv_at hl 1 rfl) ?_
    refine gCn_21_9 C0 hR vr3 tbs_wsX10 mC6_2_7 hT dX11_job_102 ?_
    refine vx_ret (W.widen (k := 3) (n := 18) (Nat.le_of_ble_eq_true rfl) (Nat.le_of_ble_eq_true rfl) ?_); exact rtC_i C0 hr hlk hR hS h dX11_job_105
  have h := h.2 c9
  by_cases c10 : a3 = 3
  · have h := h.1 c10
    refine lv_tableIn (tgt := 106) hx hb dX11_job_22 (by rw [c10]; decide) (by rw [c10]; decide) (by rw [c10]; rfl) (by decide) ?_
    refine lv_aload hx hb dX11_job_106 (lv_at hl 0 rfl) ?_
    refine gCn_22_0 C0 hR vr5 tbs_wsX90 mC6_1_162 hT dX11_job_108 ?_
    refine vx_ret (W.widen (k := 3) (n := 18) (Nat.le_of_ble_eq_true rfl) (Nat.le_of_ble_eq_true rfl) ?_); exact rtC_i C0 hr hlk hR hS h dX11_job_111
  have h := h.2 c10
  by_cases c11 : a3 = 4
  · have h := h.1 c11
    refine lv_tableIn (tgt := 112) hx hb dX11_job_22 (by rw [c11]; decide) (by rw [c11]; decide) (by rw [c11]; rfl) (by decide) ?_
    refine lv_aload hx hb dX11_job_112 (lv_at hl 1 rfl) ?_
    refine gCn_21_10 C0 hR vr3 tbs_wsX10 mC6_2_11 hT dX11_job_114 ?_
    refine vx_ret (W.widen (k := 3) (n := 18) (Nat.le_of_ble_eq_true rfl) (Nat.le_of_ble_eq_true rfl) ?_); exact rtC_i C0 hr hlk hR hS h dX11_job_117
  have h := h.2 c11
  by_cases c12 : a3 = 5
  · have h := h.1 c12
    refine lv_tableIn (tgt := 118) hx hb dX11_job_22 (by rw [c12]; decide) (by rw [c12]; decide) (by rw [c12]; rfl) (by decide) ?_
    refine lv_aload hx hb dX11_job_118 (lv_at hl 0 rfl) ?_
    refine gCn_22_1 C0 hR vr5 tbs_wsX90 mC6_1_169 hT dX11_job_120 ?_
    refine vx_ret (W.widen (k := 3) (n := 18) (Nat.le_of_ble_eq_true rfl) (Nat.le_of_ble_eq_true rfl) ?_); exact rtC_i C0 hr hlk hR hS h dX11_job_123
  have h := h.2 c12
  by_cases c13 : a3 = 6
  · have h := h.1 c13
    refine lv_tableIn (tgt := 124) hx hb dX11_job_22 (by rw [c13]; decide) (by rw [c13]; decide) (by rw [c13]; rfl) (by decide) ?_
    refine lv_aload hx hb dX11_job_124 (lv_at hl 0 rfl) ?_
    refine gCn_22_2 C0 hR vr5 tbs_wsX90 mC6_1_173 hT dX11_job_126 ?_
    refine vx_ret (W.widen (k := 3) (n := 18) (Nat.le_of_ble_eq_true rfl) (Nat.le_of_ble_eq_true rfl) ?_); exact rtC_i C0 hr hlk hR hS h dX11_job_129
  have h := h.2 c13
  by_cases c14 : a3 = 7
  · have h := h.1 c14
    refine lv_tableIn (tgt := 130) hx hb dX11_job_22 (by rw [c14]; decide) (by rw [c14]; decide) (by rw [c14]; rfl) (by decide) ?_
    refine lv_aload hx hb dX11_job_130 (lv_at hl 0 rfl) ?_
    refine gCn_22_3 C0 hR vr5 tbs_wsX90 mC6_1_175 hT dX11_job_132 ?_
    refine vx_ret (W.widen (k := 3) (n := 18) (Nat.le_of_ble_eq_true rfl) (Nat.le_of_ble_eq_true rfl) ?_); exact rtC_i C0 hr hlk hR hS h dX11_job_135
  have h := h.2 c14
  by_cases c15 : a3 = 8
  · have h := h.1 c15
    refine lv_tableIn (tgt := 136) hx hb dX11_job_22 (by rw [c15]; decide) (by rw [c15]; decide) (by rw [c15]; rfl) (by decide) ?_
    refine lv_aload hx hb dX11_job_136 (lv_at hl 0 rfl) ?_
    refine gCn_22_5 C0 hR vr5 tbs_wsX90 mC6_1_181 hT dX11_job_138 ?_
    refine vx_ret (W.widen (k := 3) (n := 18) (Nat.le_of_ble_eq_true rfl) (Nat.le_of_ble_eq_true rfl) ?_); exact rtC_i C0 hr hlk hR hS h dX11_job_141
  have h := h.2 c15
  by_cases c16 : a3 = 9
  · have h := h.1 c16
    refine lv_tableIn (tgt := 142) hx hb dX11_job_22 (by rw [c16]; decide) (by rw [c16]; decide) (by rw [c16]; rfl) (by decide) ?_
    refine lv_aload hx hb dX11_job_142 (lv_at hl 0 rfl) ?_
    refine gCn_22_6 C0 hR vr5 tbs_wsX90 mC6_1_185 hT dX11_job_144 ?_
    refine vx_ret (W.widen (k := 3) (n := 18) (Nat.le_of_ble_eq_true rfl) (Nat.le_of_ble_eq_true rfl) ?_); exact rtC_i C0 hr hlk hR hS h dX11_job_147
  have h := h.2 c16
  by_cases c17 : a3 = 10
  · have h := h.1 c17
    refine lv_tableIn (tgt := 148) hx hb dX11_job_22 (by rw [c17]; decide) (by rw [c17]; decide) (by rw [c17]; rfl) (by decide) ?_
    refine lv_aload hx hb dX11_job_148 (lv_at hl 0 rfl) ?_
    refine gCn_22_7 C0 hR vr5 tbs_wsX90 mC6_1_190 hT dX11_job_150 ?_
    refine vx_ret (W.widen (k := 3) (n := 18) (Nat.le_of_ble_eq_true rfl) (Nat.le_of_ble_eq_true rfl) ?_); exact rtC_i C0 hr hlk hR hS h dX11_job_153
  have h := h.2 c17
  by_cases c18 : a3 = 11
  · have h := h.1 c18
    refine lv_tableIn (tgt := 154) hx hb dX11_job_22 (by rw [c18]; decide) (by rw [c18]; decide) (by rw [c18]; rfl) (by decide) ?_
    refine lv_aload hx hb dX11_job_154 (lv_at hl 1 rfl) ?_
    refine gCn_21_11 C0 hR vr3 tbs_wsX10 mC6_2_14 hT dX11_job_156 ?_
    refine vx_ret (W.widen (k := 3) (n := 18) (Nat.le_of_ble_eq_true rfl) (Nat.le_of_ble_eq_true rfl) ?_); exact rtC_i C0 hr hlk hR hS h dX11_job_159
  have h := h.2 c18
  by_cases c19 : a3 = 12
  · have h := h.1 c19
    refine lv_tableIn (tgt := 160) hx hb dX11_job_22 (by rw [c19]; decide) (by rw [c19]; decide) (by rw [c19]; rfl) (by decide) ?_
    refine lv_aload hx hb dX11_job_160 (lv_at hl 1 rfl) ?_
    refine gCn_21_12 C0 hR vr3 tbs_wsX10 mC6_2_17 hT dX11_job_162 ?_
    refine vx_ret (W.widen (k := 3) (n := 18) (Nat.le_of_ble_eq_true rfl) (Nat.le_of_ble_eq_true rfl) ?_); exact rtC_i C0 hr hlk hR hS h dX11_job_165
  have h := h.2 c19
  refine lv_tableOut (tgt := 166) hx hb dX11_job_22 (by have a9 := fun j : Int32 => (Int32.toInt_inj (x := a3) (y := j)).mp; have b9 : ∀ j : Int32, a3 ≠ j → (a3 : Int32).toInt ≠ j.toInt := fun j n9 q9 => n9 (a9 j q9); have c7_ := b9 _ c7; have c8_ := b9 _ c8; have c9_ := b9 _ c9; have c10_ := b9 _ c10; have c11_ := b9 _ c11; have c12_ := b9 _ c12; have c13_ := b9 _ c13; have c14_ := b9 _ c14; have c15_ := b9 _ c15; have c16_ := b9 _ c16; have c17_ := b9 _ c17; have c18_ := b9 _ c18; have c19_ := b9 _ c19; simp at c7_ c8_ c9_ c10_ c11_ c12_ c13_ c14_ c15_ c16_ c17_ c18_ c19_; omega) (by decide) ?_
  exact w_throw_4 C0 hl0 hX0 hT hR hS hl.1 hexc hlk h mC6_6_46 mC6_1_26 dX11_job_166 dX11_job_169 dX11_job_170 dX11_job_173 (Nat.le_of_ble_eq_true rfl) (Nat.le_of_ble_eq_true rfl) (Nat.le_of_ble_eq_true rfl) (Nat.le_of_ble_eq_true rfl) (Nat.le_of_ble_eq_true rfl) (Nat.le_of_ble_eq_true rfl)
