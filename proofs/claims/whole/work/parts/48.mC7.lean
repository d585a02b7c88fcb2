theorem mC7_1_174 : Cond.fieldLink RX9 21 "ClaimTable$Version" "causeCount" "I" ∈ TB := tbT_1 _ (List.mem_of_getElem? (i := 174) rfl) rfl
theorem mC7_1_177 : Cond.fieldLink RX9 24 "ClaimTable$Version" "causeBits" "I" ∈ TB := tbT_1 _ (List.mem_of_getElem? (i := 177) rfl) rfl
theorem mC7_6_42 : Cond.methodLink RX11 214 yX11_needViewer ∈ TB := tbT_6 _ (List.mem_of_getElem? (i := 42) rfl) rfl
theorem mC7_6_45 : Cond.code yX11_needViewer cX11_needViewer 2 none ∈ TB := tbT_6 _ (List.mem_of_getElem? (i := 45) rfl) rfl
theorem mC7_6_44 : Cond.instanceMethod yX11_needViewer ∈ TB := tbT_6 _ (List.mem_of_getElem? (i := 44) rfl) rfl
theorem mpC7_2_3 : Cond.selects RX11 yX11_needViewer yX11_needViewer ∈ TB := tbP_2 (yX11_needViewer, 8) (List.mem_of_getElem? (i := 3) rfl)
theorem mC7_1_1 : Cond.initialized RX11 ∈ TB := tbT_1 _ (List.mem_of_getElem? (i := 1) rfl) rfl
theorem mC7_5_134 : Cond.methodLink RX11 168 yX11_needJob ∈ TB := tbT_5 _ (List.mem_of_getElem? (i := 134) rfl) rfl
theorem mC7_5_137 : Cond.code yX11_needJob cX11_needJob 4 (some (.object "ClaimTable$Job")) ∈ TB := tbT_5 _ (List.mem_of_getElem? (i := 137) rfl) rfl
theorem mC7_5_136 : Cond.instanceMethod yX11_needJob ∈ TB := tbT_5 _ (List.mem_of_getElem? (i := 136) rfl) rfl
theorem mpC7_1_12 : Cond.selects RX11 yX11_needJob yX11_needJob ∈ TB := tbP_1 (yX11_needJob, 8) (List.mem_of_getElem? (i := 12) rfl)
theorem mC7_5_147 : Cond.methodLink RX11 217 yX1_seenBy ∈ TB := tbT_5 _ (List.mem_of_getElem? (i := 147) rfl) rfl
theorem mC7_5_82 : Cond.code yX1_seenBy cX1_seenBy 2 (some (.object "ClaimTable$Version")) ∈ TB := tbT_5 _ (List.mem_of_getElem? (i := 82) rfl) rfl
theorem mC7_5_80 : Cond.instanceMethod yX1_seenBy ∈ TB := tbT_5 _ (List.mem_of_getElem? (i := 80) rfl) rfl
theorem mC7_5_81 : Cond.selects RX1 yX1_seenBy yX1_seenBy ∈ TB := tbT_5 _ (List.mem_of_getElem? (i := 81) rfl) rfl
theorem mC7_1_7 : Cond.initialized RX1 ∈ TB := tbT_1 _ (List.mem_of_getElem? (i := 7) rfl) rfl
theorem mC7_6_68 : Cond.methodLink RX11 250 yX9_causeAt ∈ TB := tbT_6 _ (List.mem_of_getElem? (i := 68) rfl) rfl
theorem mC7_6_71 : Cond.code yX9_causeAt cX9_causeAt 2 (some .int) ∈ TB := tbT_6 _ (List.mem_of_getElem? (i := 71) rfl) rfl
theorem mC7_6_69 : Cond.instanceMethod yX9_causeAt ∈ TB := tbT_6 _ (List.mem_of_getElem? (i := 69) rfl) rfl
theorem mC7_6_70 : Cond.selects RX9 yX9_causeAt yX9_causeAt ∈ TB := tbT_6 _ (List.mem_of_getElem? (i := 70) rfl) rfl
theorem mC7_1_8 : Cond.initialized RX9 ∈ TB := tbT_1 _ (List.mem_of_getElem? (i := 8) rfl) rfl
theorem mC7_1_222 : Cond.fieldLinkNest RX11 253 "ClaimTable$Job" "locker" "I" "ClaimTable" ∈ NB := nbT_1 _ (List.mem_of_getElem? (i := 222) rfl) rfl
theorem mC7_2_146 : Cond.fieldLink RX6 46 "ClaimTable$Table" "size" "I" ∈ TB := tbT_2 _ (List.mem_of_getElem? (i := 146) rfl) rfl
theorem mC7_2_126 : Cond.fieldLink RX6 11 "ClaimTable$Table" "jobs" "[LClaimTable$Job;" ∈ TB := tbT_2 _ (List.mem_of_getElem? (i := 126) rfl) rfl
theorem mC7_4_232 : Cond.methodLink RX6 147 yX1_isLockedBy ∈ TB := tbT_4 _ (List.mem_of_getElem? (i := 232) rfl) rfl
theorem mC7_4_235 : Cond.code yX1_isLockedBy cX1_isLockedBy 2 (some .boolean) ∈ TB := tbT_4 _ (List.mem_of_getElem? (i := 235) rfl) rfl
theorem mC7_4_233 : Cond.instanceMethod yX1_isLockedBy ∈ TB := tbT_4 _ (List.mem_of_getElem? (i := 233) rfl) rfl
theorem mC7_4_234 : Cond.selects RX1 yX1_isLockedBy yX1_isLockedBy ∈ TB := tbT_4 _ (List.mem_of_getElem? (i := 234) rfl) rfl
theorem mC7_1_161 : Cond.fieldLinkNest RX6 141 "ClaimTable$Version" "state" "I" "ClaimTable" ∈ NB := nbT_1 _ (List.mem_of_getElem? (i := 161) rfl) rfl
theorem mC7_1_186 : Cond.fieldLinkNest RX6 249 "ClaimTable$Version" "holder" "I" "ClaimTable" ∈ NB := nbT_1 _ (List.mem_of_getElem? (i := 186) rfl) rfl
theorem mC7_1_191 : Cond.fieldLinkNest RX6 221 "ClaimTable$Version" "until" "I" "ClaimTable" ∈ NB := nbT_1 _ (List.mem_of_getElem? (i := 191) rfl) rfl
theorem mC7_2_160 : Cond.fieldLink RX6 78 "ClaimTable$Table" "mono" "I" ∈ TB := tbT_2 _ (List.mem_of_getElem? (i := 160) rfl) rfl
theorem mC7_2_129 : Cond.fieldLink RX6 19 "ClaimTable$Table" "sessions" "[LClaimTable$Session;" ∈ TB := tbT_2 _ (List.mem_of_getElem? (i := 129) rfl) rfl
theorem mC7_2_57 : Cond.fieldLinkNest RX6 252 "ClaimTable$Session" "skew" "I" "ClaimTable" ∈ NB := nbT_2 _ (List.mem_of_getElem? (i := 57) rfl) rfl
theorem mC7_5_142 : Cond.methodLink RX6 137 yX1_isSeenBy ∈ TB := tbT_5 _ (List.mem_of_getElem? (i := 142) rfl) rfl
theorem mC7_5_75 : Cond.code yX1_isSeenBy cX1_isSeenBy 2 (some .boolean) ∈ TB := tbT_5 _ (List.mem_of_getElem? (i := 75) rfl) rfl
theorem mC7_5_73 : Cond.instanceMethod yX1_isSeenBy ∈ TB := tbT_5 _ (List.mem_of_getElem? (i := 73) rfl) rfl
theorem mC7_5_74 : Cond.selects RX1 yX1_isSeenBy yX1_isSeenBy ∈ TB := tbT_5 _ (List.mem_of_getElem? (i := 74) rfl) rfl
theorem mC7_5_198 : Cond.methodLink RX6 206 yX1_seenBy ∈ TB := tbT_5 _ (List.mem_of_getElem? (i := 198) rfl) rfl
theorem mC7_6_94 : Cond.methodLink RX6 245 yX6_isHold ∈ TB := tbT_6 _ (List.mem_of_getElem? (i := 94) rfl) rfl
theorem mC7_6_97 : Cond.code yX6_isHold cX6_isHold 6 (some .boolean) ∈ TB := tbT_6 _ (List.mem_of_getElem? (i := 97) rfl) rfl
theorem mC7_6_96 : Cond.instanceMethod yX6_isHold ∈ TB := tbT_6 _ (List.mem_of_getElem? (i := 96) rfl) rfl
theorem mpC7_2_4 : Cond.selects RX6 yX6_isHold yX6_isHold ∈ TB := tbP_2 (yX6_isHold, 16) (List.mem_of_getElem? (i := 4) rfl)
theorem mC7_1_5 : Cond.initialized RX6 ∈ TB := tbT_1 _ (List.mem_of_getElem? (i := 5) rfl) rfl
theorem mC7_4_133 : Cond.methodLink RX11 77 yX11_needSession ∈ TB := tbT_4 _ (List.mem_of_getElem? (i := 133) rfl) rfl
theorem mC7_4_136 : Cond.code yX11_needSession cX11_needSession 2 none ∈ TB := tbT_4 _ (List.mem_of_getElem? (i := 136) rfl) rfl
theorem mC7_4_135 : Cond.instanceMethod yX11_needSession ∈ TB := tbT_4 _ (List.mem_of_getElem? (i := 135) rfl) rfl
theorem mpC7_1_5 : Cond.selects RX11 yX11_needSession yX11_needSession ∈ TB := tbP_1 (yX11_needSession, 8) (List.mem_of_getElem? (i := 5) rfl)
theorem mC7_2_213 : Cond.fieldLink RX11 37 "ClaimTable" "live" "LClaimTable$Table;" ∈ TB := tbT_2 _ (List.mem_of_getElem? (i := 213) rfl) rfl
theorem mC7_2_131 : Cond.fieldLinkNest RX11 84 "ClaimTable$Table" "sessions" "[LClaimTable$Session;" "ClaimTable" ∈ NB := nbT_2 _ (List.mem_of_getElem? (i := 131) rfl) rfl
theorem mC7_2_63 : Cond.fieldLinkNest RX11 105 "ClaimTable$Session" "open" "Z" "ClaimTable" ∈ NB := nbT_2 _ (List.mem_of_getElem? (i := 63) rfl) rfl
theorem mC7_2_67 : Cond.fieldLinkNest RX11 116 "ClaimTable$Session" "savepoints" "I" "ClaimTable" ∈ NB := nbT_2 _ (List.mem_of_getElem? (i := 67) rfl) rfl
theorem mC7_6_86 : Cond.methodLink RX11 256 yX6_lockedBy ∈ TB := tbT_6 _ (List.mem_of_getElem? (i := 86) rfl) rfl
theorem mC7_6_89 : Cond.code yX6_lockedBy cX6_lockedBy 4 (some .int) ∈ TB := tbT_6 _ (List.mem_of_getElem? (i := 89) rfl) rfl
theorem mC7_6_87 : Cond.instanceMethod yX6_lockedBy ∈ TB := tbT_6 _ (List.mem_of_getElem? (i := 87) rfl) rfl
theorem mC7_6_88 : Cond.selects RX6 yX6_lockedBy yX6_lockedBy ∈ TB := tbT_6 _ (List.mem_of_getElem? (i := 88) rfl) rfl
theorem mC7_2_56 : Cond.fieldLinkNest RX11 259 "ClaimTable$Session" "skew" "I" "ClaimTable" ∈ NB := nbT_2 _ (List.mem_of_getElem? (i := 56) rfl) rfl
theorem mC7_2_61 : Cond.fieldLinkNest RX11 262 "ClaimTable$Session" "latest" "I" "ClaimTable" ∈ NB := nbT_2 _ (List.mem_of_getElem? (i := 61) rfl) rfl
theorem mC7_2_54 : Cond.fieldLinkNest RX11 88 "ClaimTable$Session" "query" "LClaimTable$Query;" "ClaimTable" ∈ NB := nbT_2 _ (List.mem_of_getElem? (i := 54) rfl) rfl
theorem mC7_1_73 : Cond.fieldLinkNest RX11 96 "ClaimTable$Query" "times" "I" "ClaimTable" ∈ NB := nbT_1 _ (List.mem_of_getElem? (i := 73) rfl) rfl
theorem mC7_6_90 : Cond.methodLink RX11 265 yX6_holds ∈ TB := tbT_6 _ (List.mem_of_getElem? (i := 90) rfl) rfl
theorem mC7_6_93 : Cond.code yX6_holds cX6_holds 6 (some .int) ∈ TB := tbT_6 _ (List.mem_of_getElem? (i := 93) rfl) rfl
theorem mC7_6_91 : Cond.instanceMethod yX6_holds ∈ TB := tbT_6 _ (List.mem_of_getElem? (i := 91) rfl) rfl
theorem mC7_6_92 : Cond.selects RX6 yX6_holds yX6_holds ∈ TB := tbT_6 _ (List.mem_of_getElem? (i := 92) rfl) rfl
theorem mC7_6_46 : Cond.classLink RX11 247 "java/util/NoSuchElementException" ∈ TB := tbT_6 _ (List.mem_of_getElem? (i := 46) rfl) rfl
theorem mC7_1_26 : Cond.initialized "java/util/NoSuchElementException" ∈ TB := tbT_1 _ (List.mem_of_getElem? (i := 26) rfl) rfl
theorem mC7_4_137 : Cond.classLink RX11 271 "java/lang/IndexOutOfBoundsException" ∈ TB := tbT_4 _ (List.mem_of_getElem? (i := 137) rfl) rfl
theorem mC7_1_23 : Cond.initialized "java/lang/IndexOutOfBoundsException" ∈ TB := tbT_1 _ (List.mem_of_getElem? (i := 23) rfl) rfl
theorem mC7_2_155 : Cond.fieldLinkNest RX11 268 "ClaimTable$Table" "scheduleCount" "I" "ClaimTable" ∈ NB := nbT_2 _ (List.mem_of_getElem? (i := 155) rfl) rfl
theorem mC7_2_135 : Cond.fieldLinkNest RX11 274 "ClaimTable$Table" "schedules" "[LClaimTable$Schedule;" "ClaimTable" ∈ NB := nbT_2 _ (List.mem_of_getElem? (i := 135) rfl) rfl
theorem mC7_2_86 : Cond.fieldLinkNest RX11 278 "ClaimTable$Schedule" "every" "I" "ClaimTable" ∈ NB := nbT_2 _ (List.mem_of_getElem? (i := 86) rfl) rfl
theorem mC7_2_89 : Cond.fieldLinkNest RX11 283 "ClaimTable$Schedule" "at" "I" "ClaimTable" ∈ NB := nbT_2 _ (List.mem_of_getElem? (i := 89) rfl) rfl
theorem mC7_2_101 : Cond.fieldLinkNest RX11 286 "ClaimTable$Schedule" "kind" "I" "ClaimTable" ∈ NB := nbT_2 _ (List.mem_of_getElem? (i := 101) rfl) rfl
theorem mC7_2_104 : Cond.fieldLinkNest RX11 289 "ClaimTable$Schedule" "grace" "I" "ClaimTable" ∈ NB := nbT_2 _ (List.mem_of_getElem? (i := 104) rfl) rfl
theorem mC7_2_108 : Cond.fieldLinkNest RX11 292 "ClaimTable$Schedule" "slot" "I" "ClaimTable" ∈ NB := nbT_2 _ (List.mem_of_getElem? (i := 108) rfl) rfl
theorem mC7_6_105 : Cond.methodLink RX11 293 yX4_timeOf ∈ TB := tbT_6 _ (List.mem_of_getElem? (i := 105) rfl) rfl
theorem mC7_6_16 : Cond.code yX4_timeOf cX4_timeOf 2 (some .int) ∈ TB := tbT_6 _ (List.mem_of_getElem? (i := 16) rfl) rfl
theorem mC7_6_14 : Cond.instanceMethod yX4_timeOf ∈ TB := tbT_6 _ (List.mem_of_getElem? (i := 14) rfl) rfl
theorem mC7_6_15 : Cond.selects RX4 yX4_timeOf yX4_timeOf ∈ TB := tbT_6 _ (List.mem_of_getElem? (i := 15) rfl) rfl
theorem mC7_1_10 : Cond.initialized RX4 ∈ TB := tbT_1 _ (List.mem_of_getElem? (i := 10) rfl) rfl
theorem mC7_6_113 : Cond.methodLink RX11 296 yX0_hindrance ∈ TB := tbT_6 _ (List.mem_of_getElem? (i := 113) rfl) rfl
theorem mC7_5_78 : Cond.code yX0_hindrance cX0_hindrance 4 (some .int) ∈ TB := tbT_5 _ (List.mem_of_getElem? (i := 78) rfl) rfl
theorem mC7_5_77 : Cond.static yX0_hindrance ∈ TB := tbT_5 _ (List.mem_of_getElem? (i := 77) rfl) rfl
theorem mC7_1_4 : Cond.initialized RX0 ∈ TB := tbT_1 _ (List.mem_of_getElem? (i := 4) rfl) rfl
theorem mC7_1_106 : Cond.fieldLink RX0 125 "ClaimTable$Claims" "picked" "I" ∈ TB := tbT_1 _ (List.mem_of_getElem? (i := 106) rfl) rfl
theorem mC7_1_103 : Cond.fieldLink RX0 9 "ClaimTable$Claims" "picks" "[I" ∈ TB := tbT_1 _ (List.mem_of_getElem? (i := 103) rfl) rfl
theorem mC7_2_214 : Cond.fieldLink RX11 40 "ClaimTable" "spare" "LClaimTable$Table;" ∈ TB := tbT_2 _ (List.mem_of_getElem? (i := 214) rfl) rfl
theorem mC7_3_53 : Cond.methodLink RX11 58 yX6_copyFrom ∈ TB := tbT_3 _ (List.mem_of_getElem? (i := 53) rfl) rfl
theorem mC7_3_56 : Cond.code yX6_copyFrom cX6_copyFrom 3 none ∈ TB := tbT_3 _ (List.mem_of_getElem? (i := 56) rfl) rfl
theorem mC7_3_54 : Cond.instanceMethod yX6_copyFrom ∈ TB := tbT_3 _ (List.mem_of_getElem? (i := 54) rfl) rfl
theorem mC7_3_55 : Cond.selects RX6 yX6_copyFrom yX6_copyFrom ∈ TB := tbT_3 _ (List.mem_of_getElem? (i := 55) rfl) rfl
theorem mC7_2_211 : Cond.fieldLink RX11 26 "ClaimTable" "claims" "LClaimTable$Claims;" ∈ TB := tbT_2 _ (List.mem_of_getElem? (i := 211) rfl) rfl
theorem mC7_5_62 : Cond.methodLink RX11 136 yX0_claimAll ∈ TB := tbT_5 _ (List.mem_of_getElem? (i := 62) rfl) rfl
theorem mC7_5_65 : Cond.code yX0_claimAll cX0_claimAll 6 none ∈ TB := tbT_5 _ (List.mem_of_getElem? (i := 65) rfl) rfl
theorem mC7_5_63 : Cond.instanceMethod yX0_claimAll ∈ TB := tbT_5 _ (List.mem_of_getElem? (i := 63) rfl) rfl
theorem mC7_5_64 : Cond.selects RX0 yX0_claimAll yX0_claimAll ∈ TB := tbT_5 _ (List.mem_of_getElem? (i := 64) rfl) rfl
theorem mC7_6_121 : Cond.methodLink RX11 300 yX0_pickAt ∈ TB := tbT_6 _ (List.mem_of_getElem? (i := 121) rfl) rfl
theorem mC7_6_124 : Cond.code yX0_pickAt cX0_pickAt 2 (some .int) ∈ TB := tbT_6 _ (List.mem_of_getElem? (i := 124) rfl) rfl
theorem mC7_6_122 : Cond.instanceMethod yX0_pickAt ∈ TB := tbT_6 _ (List.mem_of_getElem? (i := 122) rfl) rfl
theorem mC7_6_123 : Cond.selects RX0 yX0_pickAt yX0_pickAt ∈ TB := tbT_6 _ (List.mem_of_getElem? (i := 123) rfl) rfl
theorem mC7_5_76 : Cond.methodLink RX0 72 yX0_hindrance ∈ TB := tbT_5 _ (List.mem_of_getElem? (i := 76) rfl) rfl
theorem mC7_2_130 : Cond.fieldLinkNest RX0 76 "ClaimTable$Table" "sessions" "[LClaimTable$Session;" "ClaimTable" ∈ NB := nbT_2 _ (List.mem_of_getElem? (i := 130) rfl) rfl
theorem mC7_2_53 : Cond.fieldLinkNest RX0 80 "ClaimTable$Session" "query" "LClaimTable$Query;" "ClaimTable" ∈ NB := nbT_2 _ (List.mem_of_getElem? (i := 53) rfl) rfl
theorem mC7_5_93 : Cond.methodLink RX0 86 yX3_fits ∈ TB := tbT_5 _ (List.mem_of_getElem? (i := 93) rfl) rfl
theorem mC7_5_96 : Cond.code yX3_fits cX3_fits 6 (some .boolean) ∈ TB := tbT_5 _ (List.mem_of_getElem? (i := 96) rfl) rfl
theorem mC7_5_94 : Cond.instanceMethod yX3_fits ∈ TB := tbT_5 _ (List.mem_of_getElem? (i := 94) rfl) rfl
theorem mC7_5_95 : Cond.selects RX3 yX3_fits yX3_fits ∈ TB := tbT_5 _ (List.mem_of_getElem? (i := 95) rfl) rfl
theorem mC7_1_3 : Cond.initialized RX3 ∈ TB := tbT_1 _ (List.mem_of_getElem? (i := 3) rfl) rfl
theorem mC7_6_132 : Cond.methodLink RX11 303 yX0_hasPicked ∈ TB := tbT_6 _ (List.mem_of_getElem? (i := 132) rfl) rfl
theorem mC7_6_135 : Cond.code yX0_hasPicked cX0_hasPicked 3 (some .boolean) ∈ TB := tbT_6 _ (List.mem_of_getElem? (i := 135) rfl) rfl
theorem mC7_6_133 : Cond.instanceMethod yX0_hasPicked ∈ TB := tbT_6 _ (List.mem_of_getElem? (i := 133) rfl) rfl
theorem mC7_6_134 : Cond.selects RX0 yX0_hasPicked yX0_hasPicked ∈ TB := tbT_6 _ (List.mem_of_getElem? (i := 134) rfl) rfl
theorem mC7_6_136 : Cond.methodLink RX11 307 yX0_barOfUnclaimed ∈ TB := tbT_6 _ (List.mem_of_getElem? (i := 136) rfl) rfl
theorem mC7_6_138 : Cond.code yX0_barOfUnclaimed cX0_barOfUnclaimed 5 (some .int) ∈ TB := tbT_6 _ (List.mem_of_getElem? (i := 138) rfl) rfl
theorem mC7_6_137 : Cond.static yX0_barOfUnclaimed ∈ TB := tbT_6 _ (List.mem_of_getElem? (i := 137) rfl) rfl
theorem mC7_1_104 : Cond.fieldLink RX0 15 "ClaimTable$Claims" "takers" "[I" ∈ TB := tbT_1 _ (List.mem_of_getElem? (i := 104) rfl) rfl
theorem mC7_1_105 : Cond.fieldLink RX0 18 "ClaimTable$Claims" "otherTakers" "[I" ∈ TB := tbT_1 _ (List.mem_of_getElem? (i := 105) rfl) rfl
theorem mC7_6_158 : Cond.methodLink RX0 136 arraycopyName ∈ TB := tbT_6 _ (List.mem_of_getElem? (i := 158) rfl) rfl
theorem mC7_3_83 : Cond.native arraycopyName ∈ TB := tbT_3 _ (List.mem_of_getElem? (i := 83) rfl) rfl
theorem mC7_3_82 : Cond.static arraycopyName ∈ TB := tbT_3 _ (List.mem_of_getElem? (i := 82) rfl) rfl
theorem mC7_1_12 : Cond.initialized "java/lang/System" ∈ TB := tbT_1 _ (List.mem_of_getElem? (i := 12) rfl) rfl
theorem mC7_6_159 : Cond.methodLink RX0 142 yX0_startRace ∈ TB := tbT_6 _ (List.mem_of_getElem? (i := 159) rfl) rfl
theorem mC7_6_149 : Cond.code yX0_startRace cX0_startRace 2 none ∈ TB := tbT_6 _ (List.mem_of_getElem? (i := 149) rfl) rfl
theorem mC7_6_147 : Cond.instanceMethod yX0_startRace ∈ TB := tbT_6 _ (List.mem_of_getElem? (i := 147) rfl) rfl
theorem mC7_6_148 : Cond.selects RX0 yX0_startRace yX0_startRace ∈ TB := tbT_6 _ (List.mem_of_getElem? (i := 148) rfl) rfl
def rm_X9_causeAt : Room := { frames := 0, cells := 0, slots := 0, locals := 0 }
def B_X9_causeAt_12 (S : sSt) (k : Int32 → sSt → Prop) : Prop := k (-1) S
set_option maxHeartbeats 4000000 in
set_option maxRecDepth 100000 in
theorem Bw_X9_causeAt_12 {p : Program} {l : Launch} {e : Env} {s : State} {m : MethodId} {args : Array Value} {below : List Frame} {meth : Method} {c : Code} {D : va_G} {cy : Nat → ClassId} {b z : Nat} {tx : TX} (C0 : CallFix p m c cX9_causeAt 2 s args TB RX9) (hr : meth.sig.returnType = (some .int)) (hlk : meth.locks = false) (hT : TxR tx s) {k : Int32 → sSt → Prop} : ∀ (S : sSt) (H : Heap) (locs : List Loc) (ls : Array Slot) , B_X9_causeAt_12 S k → RelC D cy b z tx S s H → va_S (gA b 709 z) s.heap H locs → lv_has ls 2 [] → W p l e rm_X9_causeAt s m args below meth c H locs 0 0 (MQ below (PiC D cy b z tx k) args s 0 0 (gA b 709 z)) (F0 m 12 ls []) := by
  intro S H locs ls h hR hS hl
  have hx := C0.1
  have hb := C0.2.1
  unfold B_X9_causeAt_12 at h
  refine lv_iconst (v := (-1)) hx hb dX9_causeAt_12 (by decide) ?_
  refine lv_goto (tgt := 27) hx hb dX9_causeAt_13 (by decide) ?_
  exact rtC_i C0 hr hlk hR hS h dX9_causeAt_27
def F_X9_causeAt (a0 : Nat) (a1 : Int32) (S : sSt) (k : Int32 → sSt → Prop) : Prop := ((a1 < 0 → B_X9_causeAt_12 S k) ∧ (¬ a1 < 0 → ((a1 < (S.1 22 a0 3) → k (((S.1 22 a0 4) >>> ((a1 * 3) &&& 31)) &&& 7) S) ∧ (¬ a1 < (S.1 22 a0 3) → B_X9_causeAt_12 S k))))
set_option maxHeartbeats 4000000 in
set_option maxRecDepth 100000 in
theorem c_X9_causeAt (l : Launch) {D : va_G} {cy : Nat → ClassId} {b z : Nat} {tx : TX} {a0 : Nat} {a1 : Int32} {S : sSt} {k : Int32 → sSt → Prop} (av0 : a0 < 432) (h : F_X9_causeAt a0 a1 S k) : Met l yX9_causeAt (Cond.code yX9_causeAt cX9_causeAt 2 (some .int) :: TB) rm_X9_causeAt (va_Pc [.ref (b + adC 22 a0), .int a1] (fun U => RelC D cy b z tx S U U.heap ∧ TxR tx U)) (PiC D cy b z tx k) 0 0 (gA b 709 z) := by
  refine Met.ofW (cc := cX9_causeAt) (maxL := 2) (ret := (some .int)) (by decide) rfl ?_
  intro p e s m args below meth c s₁ B hml hv
  obtain ⟨rfl, hR, hT⟩ := hv
  have C0 : CallFix p m c cX9_causeAt 2 s _ TB RX9 := ⟨B.exec, B.bytes, hml, findClass_of_methodNamed B.named, fun w hw => atoms_spec B.pre w (List.mem_cons_of_mem _ hw)⟩
  have hr := B.returns
  have hlk := B.notSynchronized
  have hx := C0.1
  have hb := C0.2.1
  have hS : va_S (gA b 709 z) s.heap s.heap [] := va_S.rf
  have hl := lv_entry ([.ref (b + adC 22 a0), .int a1]) (n := 2) (Nat.le_of_ble_eq_true rfl)
  rw [lg_entry_eq]
  generalize (lg_sl ([.ref (b + adC 22 a0), .int a1]) ++ List.replicate (2 - (lg_sl ([.ref (b + adC 22 a0), .int a1])).length) Slot.unset).toArray = ls at hl ⊢
  have hl : lv_has ls 2 [(0, .ref (b + adC 22 a0)), (1, .int a1)] := hl
  show W p l e rm_X9_causeAt s m _ below meth c s.heap [] 0 0 (MQ below (PiC D cy b z tx k) _ s 0 0 (gA b 709 z)) _
  unfold F_X9_causeAt at h
  refine lv_iload_n hx hb dX9_causeAt_0 rfl (lv_at hl 1 rfl) ?_
  refine lv_if_lt (tgt := 12) hx hb dX9_causeAt_1 (by decide) (fun c1 => ?_) (fun c1 => ?_)
  · have h := h.1 c1
    exact Bw_X9_causeAt_12 C0 hr hlk hT S _ _ _ h hR hS (lv_sub hl [] rfl)
  · have h := h.2 c1
    refine lv_iload_n hx hb dX9_causeAt_4 rfl (lv_at hl 1 rfl) ?_
    refine lv_aload_n hx hb dX9_causeAt_5 rfl (lv_at hl 0 rfl) ?_
    refine gC_22_3 C0 hR av0 tbs_wsX90 mC7_1_174 dX9_causeAt_6 ?_
    refine lv_icmp_lt (tgt := 16) hx hb dX9_causeAt_9 (by decide) (fun c2 => ?_) (fun c2 => ?_)
    · have h := h.1 c2
      refine lv_aload_n hx hb dX9_causeAt_16 rfl (lv_at hl 0 rfl) ?_
      refine gC_22_4 C0 hR av0 tbs_wsX90 mC7_1_177 dX9_causeAt_17 ?_
      refine lv_iload_n hx hb dX9_causeAt_20 rfl (lv_at hl 1 rfl) ?_
      refine lv_iconst (v := 3) hx hb dX9_causeAt_21 (by decide) ?_
      refine lv_imul hx hb dX9_causeAt_22 ?_
      refine lv_ishr hx hb dX9_causeAt_23 ?_
      refine lv_bipush (v := 7) hx hb dX9_causeAt_24 (by decide) ?_
      refine lv_iand hx hb dX9_causeAt_26 ?_
      exact rtC_i C0 hr hlk hR hS h dX9_causeAt_27
    · have h := h.2 c2
      exact Bw_X9_causeAt_12 C0 hr hlk hT S _ _ _ h hR hS (lv_sub hl [] rfl)

def rm_X11_cause : Room := { frames := 8, cells := 2, slots := 12, locals := 131 }
def F_X11_cause (a1 : Int32) (a2 : Int32) (a3 : Int32) (S : sSt) (k : Int32 → sSt → Prop) (kx : String → sSt → Prop) : Prop := F_X11_needViewer a1 S (fun S2 => F_X11_needJob a1 a2 S2 (fun r3 S4 => F_X1_seenBy r3 a1 S4 (fun r5 S6 => F_X9_causeAt r5 a3 S6 (fun r7 S8 => k r7 S8))) kx) kx
set_option maxHeartbeats 4000000 in
set_option maxRecDepth 100000 in
theorem c_X11_cause (l : Launch) (hl0 : l.stackTraces = false) {D : va_G} {cy : Nat → ClassId} {b z : Nat} {tx : TX} {a1 : Int32} {a2 : Int32} {a3 : Int32} {S : sSt} {k : Int32 → sSt → Prop} {kx : String → sSt → Prop} (h : F_X11_cause a1 a2 a3 S k kx) : vx_Met l yX11_cause (Cond.code yX11_cause cX11_cause 4 (some .int) :: TB) rm_X11_cause (va_Pc [.ref (b + adC 0 0), .int a1, .int a2, .int a3] (fun U => RelC D cy b z tx S U U.heap ∧ TxR tx U)) (PiC D cy b z tx k) (XeC D cy b z tx kx) 2 12 (gA b 709 z) := by
  refine vx_ofW (cc := cX11_cause) (maxL := 4) (ret := (some .int)) (by decide) rfl ?_
  intro p e s m args below meth c s₁ B hml hexc hv
  obtain ⟨rfl, hR, hT⟩ := hv
  have hX0 := hR.2.2
  have C0 : CallFix p m c cX11_cause 4 s _ TB RX11 := ⟨B.exec, B.bytes, hml, findClass_of_methodNamed B.named, fun w hw => atoms_spec B.pre w (List.mem_cons_of_mem _ hw)⟩
  have hr := B.returns
  have hlk := B.notSynchronized
  have hx := C0.1
  have hb := C0.2.1
  have hS : va_S (gA b 709 z) s.heap s.heap [] := va_S.rf
  have hl := lv_entry ([.ref (b + adC 0 0), .int a1, .int a2, .int a3]) (n := 4) (Nat.le_of_ble_eq_true rfl)
  rw [lg_entry_eq]
  generalize (lg_sl ([.ref (b + adC 0 0), .int a1, .int a2, .int a3]) ++ List.replicate (4 - (lg_sl ([.ref (b + adC 0 0), .int a1, .int a2, .int a3])).length) Slot.unset).toArray = ls at hl ⊢
  have hl : lv_has ls 4 [(0, .ref (b + adC 0 0)), (1, .int a1), (2, .int a2), (3, .int a3)] := hl
  show W p l e rm_X11_cause s m _ below meth c s.heap [] 0 0 (vx_MQ below (PiC D cy b z tx k) (XeC D cy b z tx kx) _ s 2 12 (gA b 709 z)) _
  unfold F_X11_cause at h
  refine lv_aload_n hx hb dX11_cause_0 rfl (lv_at hl 0 rfl) ?_
  refine lv_iload_n hx hb dX11_cause_1 rfl (lv_at hl 1 rfl) ?_
  refine qx_Vv (As := [.int a1]) (rest := []) C0 hlk hexc (c_X11_needViewer l hl0 h) (cwV 1 C0.2.2.2.2 (tbV mC7_6_42 ⟨mC7_6_44, mpC7_2_3, mC7_1_1, mC7_6_45⟩) rfl rfl rfl (by decide +kernel) ⟨Nat.le_of_ble_eq_true rfl, Nat.le_of_ble_eq_true rfl⟩) (rcC_0 hR Nat.zero_lt_one) hR hT hS rfl hl.1 rfl (Nat.le_of_ble_eq_true rfl) dX11_cause_2 ⟨Nat.le_of_ble_eq_true rfl, Nat.le_of_ble_eq_true rfl⟩ ⟨Nat.le_of_ble_eq_true rfl, Nat.le_of_ble_eq_true rfl⟩ (fun S2 H locs h hR hS => ?_)
  refine lv_aload_n hx hb dX11_cause_5 rfl (lv_at hl 0 rfl) ?_
  refine lv_iload_n hx hb dX11_cause_6 rfl (lv_at hl 1 rfl) ?_
  refine lv_iload_n hx hb dX11_cause_7 rfl (lv_at hl 2 rfl) ?_
  refine qx_Vr (As := [.int a1, .int a2]) (rest := []) C0 hlk hexc (c_X11_needJob l hl0 h) (cwV 2 C0.2.2.2.2 (tbV mC7_5_134 ⟨mC7_5_136, mpC7_1_12, mC7_1_1, mC7_5_137⟩) rfl rfl rfl (by decide +kernel) ⟨Nat.le_of_ble_eq_true rfl, Nat.le_of_ble_eq_true rfl⟩) (rcC_0 hR Nat.zero_lt_one) hR hT hS rfl hl.1 rfl (Nat.le_of_ble_eq_true rfl) dX11_cause_8 ⟨Nat.le_of_ble_eq_true rfl, Nat.le_of_ble_eq_true rfl⟩ ⟨Nat.le_of_ble_eq_true rfl, Nat.le_of_ble_eq_true rfl⟩ (fun r3 S4 H locs vr3 h hR hS => ?_)
  refine lv_iload_n hx hb dX11_cause_11 rfl (lv_at hl 1 rfl) ?_
  refine qC_Vr (As := [.int a1]) (rest := []) C0 (c_X1_seenBy l vr3 h) (cwV 1 C0.2.2.2.2 (tbV mC7_5_147 ⟨mC7_5_80, mC7_5_81, mC7_1_7, mC7_5_82⟩) rfl rfl rfl (by decide +kernel) ⟨Nat.le_of_ble_eq_true rfl, Nat.le_of_ble_eq_true rfl⟩) (rcC_21 hR vr3) hR hT hS rfl hl.1 rfl (Nat.le_of_ble_eq_true rfl) dX11_cause_12 ⟨Nat.le_of_ble_eq_true rfl, Nat.le_of_ble_eq_true rfl⟩ (fun r5 S6 H locs vr5 h hR hS => ?_)
  refine lv_iload_n hx hb dX11_cause_15 rfl (lv_at hl 3 rfl) ?_
  refine qC_Vi (As := [.int a3]) (rest := []) C0 (c_X9_causeAt l vr5 h) (cwV 1 C0.2.2.2.2 (tbV mC7_6_68 ⟨mC7_6_69, mC7_6_70, mC7_1_8, mC7_6_71⟩) rfl rfl rfl (by decide +kernel) ⟨Nat.le_of_ble_eq_true rfl, Nat.le_of_ble_eq_true rfl⟩) (rcC_22 hR vr5) hR hT hS rfl hl.1 rfl (Nat.le_of_ble_eq_true rfl) dX11_cause_16 ⟨Nat.le_of_ble_eq_true rfl, Nat.le_of_ble_eq_true rfl⟩ (fun r7 S8 H locs h hR hS => ?_)
  refine vx_ret (W.widen (k := 2) (n := 12) (Nat.le_of_ble_eq_true rfl) (Nat.le_of_ble_eq_true rfl) ?_); exact rtC_i C0 hr hlk hR hS h dX11_cause_19

def rm_X11_locked : Room := { frames := 7, cells := 1, slots := 6, locals := 112 }
def F_X11_locked (a1 : Int32) (S : sSt) (k : Int32 → sSt → Prop) (kx : String → sSt → Prop) : Prop := F_X11_needJob (-1) a1 S (fun r1 S2 => k (S2.1 21 r1 4) S2) kx
set_option maxHeartbeats 4000000 in
set_option maxRecDepth 100000 in
theorem c_X11_locked (l : Launch) (hl0 : l.stackTraces = false) {D : va_G} {cy : Nat → ClassId} {b z : Nat} {tx : TX} {a1 : Int32} {S : sSt} {k : Int32 → sSt → Prop} {kx : String → sSt → Prop} (h : F_X11_locked a1 S k kx) : vx_Met l yX11_locked (Cond.code yX11_locked cX11_locked 2 (some .int) :: TB) rm_X11_locked (va_Pc [.ref (b + adC 0 0), .int a1] (fun U => RelC D cy b z tx S U U.heap ∧ TxR tx U)) (PiC D cy b z tx k) (XeC D cy b z tx kx) 1 6 (gA b 709 z) := by
  refine vx_ofW (cc := cX11_locked) (maxL := 2) (ret := (some .int)) (by decide) rfl ?_
  intro p e s m args below meth c s₁ B hml hexc hv
  obtain ⟨rfl, hR, hT⟩ := hv
  have hX0 := hR.2.2
  have C0 : CallFix p m c cX11_locked 2 s _ TB RX11 := ⟨B.exec, B.bytes, hml, findClass_of_methodNamed B.named, fun w hw => atoms_spec B.pre w (List.mem_cons_of_mem _ hw)⟩
  have hr := B.returns
  have hlk := B.notSynchronized
  have hx := C0.1
  have hb := C0.2.1
  have hS : va_S (gA b 709 z) s.heap s.heap [] := va_S.rf
  have hl := lv_entry ([.ref (b + adC 0 0), .int a1]) (n := 2) (Nat.le_of_ble_eq_true rfl)
  rw [lg_entry_eq]
  generalize (lg_sl ([.ref (b + adC 0 0), .int a1]) ++ List.replicate (2 - (lg_sl ([.ref (b + adC 0 0), .int a1])).length) Slot.unset).toArray = ls at hl ⊢
  have hl : lv_has ls 2 [(0, .ref (b + adC 0 0)), (1, .int a1)] := hl
  show W p l e rm_X11_locked s m _ below meth c s.heap [] 0 0 (vx_MQ below (PiC D cy b z tx k) (XeC D cy b z tx kx) _ s 1 6 (gA b 709 z)) _
  unfold F_X11_locked at h
  refine lv_aload_n hx hb dX11_locked_0 rfl (lv_at hl 0 rfl) ?_
  refine lv_iconst (v := (-1)) hx hb dX11_locked_1 (by decide) ?_
  refine lv_iload_n hx hb dX11_locked_2 rfl (lv_at hl 1 rfl) ?_
  refine qx_Vr (As := [.int (-1), .int a1]) (rest := []) C0 hlk hexc (c_X11_needJob l hl0 h) (cwV 2 C0.2.2.2.2 (tbV mC7_5_134 ⟨mC7_5_136, mpC7_1_12, mC7_1_1, mC7_5_137⟩) rfl rfl rfl (by decide +kernel) ⟨Nat.le_of_ble_eq_true rfl, Nat.le_of_ble_eq_true rfl⟩) (rcC_0 hR Nat.zero_lt_one) hR hT hS rfl hl.1 rfl (Nat.le_of_ble_eq_true rfl) dX11_locked_3 ⟨Nat.le_of_ble_eq_true rfl, Nat.le_of_ble_eq_true rfl⟩ ⟨Nat.le_of_ble_eq_true rfl, Nat.le_of_ble_eq_true rfl⟩ (fun r1 S2 H locs vr1 h hR hS => ?_)
  refine gCn_21_4 C0 hR vr1 tbs_wsX10 mC7_1_222 hT dX11_locked_6 ?_
  refine vx_ret (W.widen (k := 1) (n := 6) (Nat.le_of_ble_eq_true rfl) (Nat.le_of_ble_eq_true rfl) ?_); exact rtC_i C0 hr hlk hR hS h dX11_locked_9

def rm_X6_lockedBy : Room := { frames := 1, cells := 0, slots := 0, locals := 21 }
def B_X6_lockedBy_31 (kk4 : Nat → Int32 → Int32 → Int32 → sSt → Prop) (a0 : Nat) (a1 : Int32) (a3 : Int32) (t0 : Int32) (t1 : Int32) (S : sSt) (k : Int32 → sSt → Prop) : Prop := ∀ x8 : Int32, x8 = (t0 + t1) → ∀ x9 : Int32, x9 = a3 + 1 → kk4 a0 a1 x8 x9 S
set_option maxHeartbeats 4000000 in
set_option maxRecDepth 100000 in
theorem Bw_X6_lockedBy_31 {p : Program} {l : Launch} {e : Env} {s : State} {m : MethodId} {args : Array Value} {below : List Frame} {meth : Method} {c : Code} {D : va_G} {cy : Nat → ClassId} {b z : Nat} {tx : TX} (C0 : CallFix p m c cX6_lockedBy 4 s args TB RX6) (hr : meth.sig.returnType = (some .int)) (hlk : meth.locks = false) (hT : TxR tx s) {k : Int32 → sSt → Prop} {kk4 : Nat → Int32 → Int32 → Int32 → sSt → Prop} (ih4 : ∀ (a0 : Nat) (a1 : Int32) (a2 : Int32) (a3 : Int32) (S : sSt) (H : Heap) (locs : List Loc) (ls : Array Slot) (av0 : a0 < 3), kk4 a0 a1 a2 a3 S → RelC D cy b z tx S s H → va_S (gA b 709 z) s.heap H locs → lv_has ls 4 [(0, .ref (b + adC 13 a0)), (1, .int a1), (2, .int a2), (3, .int a3)] → W p l e rm_X6_lockedBy s m args below meth c H locs 0 0 (MQ below (PiC D cy b z tx k) args s 0 0 (gA b 709 z)) (F0 m 4 ls [])) : ∀ (a0 : Nat) (a1 : Int32) (a3 : Int32) (t0 : Int32) (t1 : Int32) (S : sSt) (H : Heap) (locs : List Loc) (ls : Array Slot) (av0 : a0 < 3), B_X6_lockedBy_31 kk4 a0 a1 a3 t0 t1 S k → RelC D cy b z tx S s H → va_S (gA b 709 z) s.heap H locs → lv_has ls 4 [(0, .ref (b + adC 13 a0)), (1, .int a1), (3, .int a3)] → W p l e rm_X6_lockedBy s m args below meth c H locs 0 0 (MQ below (PiC D cy b z tx k) args s 0 0 (gA b 709 z)) (F0 m 31 ls [.int t1, .int t0]) := by
  intro a0 a1 a3 t0 t1 S H locs ls av0 h hR hS hl
  have hx := C0.1
  have hb := C0.2.1
  unfold B_X6_lockedBy_31 at h
  refine lv_iadd hx hb dX6_lockedBy_31 ?_
  refine lv_topi (fun x8 ex8 => ?_)
  have h := h x8 ex8
  refine lv_istore_n (lv' := [(2, .int x8), (0, .ref (b + adC 13 a0)), (1, .int a1), (3, .int a3)]) hx hb dX6_lockedBy_32 rfl hl (by decide) rfl (fun ls hl => ?_)
  obtain ⟨x9, ex9⟩ : ∃ x9 : Int32, x9 = a3 + 1 := ⟨_, rfl⟩
  have h := h x9 ex9
  refine w_iinc (v0 := 1) (lv' := [(3, .int x9), (2, .int x8), (0, .ref (b + adC 13 a0)), (1, .int a1)]) C0 dX6_lockedBy_33 hl (k := 3) rfl (by decide) (by decide) x9 ex9 rfl (fun ls hl => ?_)
  refine lv_goto (tgt := 4) hx hb dX6_lockedBy_36 (by decide) ?_
  exact ih4 a0 a1 x8 x9 S _ _ _ av0 h hR hS (lv_sub hl [2, 3, 1, 0] rfl)
def Bb_X6_lockedBy_4 (kk4 : Nat → Int32 → Int32 → Int32 → sSt → Prop) (a0 : Nat) (a1 : Int32) (a2 : Int32) (a3 : Int32) (S : sSt) (k : Int32 → sSt → Prop) : Prop := (((S.1 13 a0 6) ≤ a3 → k a2 S) ∧ (¬ (S.1 13 a0 6) ≤ a3 → ix a3 24 (fun j3 => F_X1_isLockedBy (S.2 14 a0 j3) a1 S (fun r5 S6 => ((r5 = 0 → B_X6_lockedBy_31 kk4 a0 a1 a3 a2 0 S6 k) ∧ (¬ r5 = 0 → B_X6_lockedBy_31 kk4 a0 a1 a3 a2 1 S6 k))))))
set_option maxHeartbeats 4000000 in
set_option maxRecDepth 100000 in
theorem Bbw_X6_lockedBy_4 {p : Program} {l : Launch} {e : Env} {s : State} {m : MethodId} {args : Array Value} {below : List Frame} {meth : Method} {c : Code} {D : va_G} {cy : Nat → ClassId} {b z : Nat} {tx : TX} (C0 : CallFix p m c cX6_lockedBy 4 s args TB RX6) (hr : meth.sig.returnType = (some .int)) (hlk : meth.locks = false) (hT : TxR tx s) {k : Int32 → sSt → Prop} {kk4 : Nat → Int32 → Int32 → Int32 → sSt → Prop} (ih4 : ∀ (a0 : Nat) (a1 : Int32) (a2 : Int32) (a3 : Int32) (S : sSt) (H : Heap) (locs : List Loc) (ls : Array Slot) (av0 : a0 < 3), kk4 a0 a1 a2 a3 S → RelC D cy b z tx S s H → va_S (gA b 709 z) s.heap H locs → lv_has ls 4 [(0, .ref (b + adC 13 a0)), (1, .int a1), (2, .int a2), (3, .int a3)] → W p l e rm_X6_lockedBy s m args below meth c H locs 0 0 (MQ below (PiC D cy b z tx k) args s 0 0 (gA b 709 z)) (F0 m 4 ls [])) : ∀ (a0 : Nat) (a1 : Int32) (a2 : Int32) (a3 : Int32) (S : sSt) (H : Heap) (locs : List Loc) (ls : Array Slot) (av0 : a0 < 3), Bb_X6_lockedBy_4 kk4 a0 a1 a2 a3 S k → RelC D cy b z tx S s H → va_S (gA b 709 z) s.heap H locs → lv_has ls 4 [(0, .ref (b + adC 13 a0)), (1, .int a1), (2, .int a2), (3, .int a3)] → W p l e rm_X6_lockedBy s m args below meth c H locs 0 0 (MQ below (PiC D cy b z tx k) args s 0 0 (gA b 709 z)) (F0 m 4 ls []) := by
  intro a0 a1 a2 a3 S H locs ls av0 h hR hS hl
  have hx := C0.1
  have hb := C0.2.1
  unfold Bb_X6_lockedBy_4 at h
  refine lv_iload_n hx hb dX6_lockedBy_4 rfl (lv_at hl 3 rfl) ?_
  refine lv_aload_n hx hb dX6_lockedBy_5 rfl (lv_at hl 0 rfl) ?_
  refine gC_13_6 C0 hR av0 tbs_wsX60 mC7_2_146 dX6_lockedBy_6 ?_
  refine lv_icmp_ge (tgt := 39) hx hb dX6_lockedBy_9 (by decide) (fun c1 => ?_) (fun c1 => ?_)
  · have h := h.1 c1
    refine lv_iload_n hx hb dX6_lockedBy_39 rfl (lv_at hl 2 rfl) ?_
    exact rtC_i C0 hr hlk hR hS h dX6_lockedBy_40
  · have h := h.2 c1
    refine lv_iload_n hx hb dX6_lockedBy_12 rfl (lv_at hl 2 rfl) ?_
    refine lv_aload_n hx hb dX6_lockedBy_13 rfl (lv_at hl 0 rfl) ?_
    refine gC_13_0 C0 hR av0 tbs_wsX60 mC7_2_126 dX6_lockedBy_14 ?_
    have w2 : a0 < 3 := by omega
    refine lv_iload_n hx hb dX6_lockedBy_17 rfl (lv_at hl 3 rfl) ?_
    obtain ⟨j3, hj3, ej3, h⟩ := h
    refine lC_14 C0 hR w2 hj3 ej3 dX6_lockedBy_18 ?_
    have w4 : (S.2 14 a0 j3) < 72 := hR.2.1.1 _ _ w2 hj3
    refine lv_iload_n hx hb dX6_lockedBy_19 rfl (lv_at hl 1 rfl) ?_
    refine qC_Vi (As := [.int a1]) (rest := [.int a2]) C0 (c_X1_isLockedBy l w4 h) (cwV 1 C0.2.2.2.2 (tbV mC7_4_232 ⟨mC7_4_233, mC7_4_234, mC7_1_7, mC7_4_235⟩) rfl rfl rfl (by decide +kernel) ⟨Nat.le_of_ble_eq_true rfl, Nat.le_of_ble_eq_true rfl⟩) (rcC_21 hR w4) hR hT hS rfl hl.1 rfl (Nat.le_of_ble_eq_true rfl) dX6_lockedBy_20 ⟨Nat.zero_le _, Nat.zero_le _⟩ (fun r5 S6 H locs h hR hS => ?_)
    refine lv_if_eq (tgt := 30) hx hb dX6_lockedBy_23 (by decide) (fun c7 => ?_) (fun c7 => ?_)
    · have h := h.1 c7
      refine lv_iconst (v := 0) hx hb dX6_lockedBy_30 (by decide) ?_
      exact Bw_X6_lockedBy_31 C0 hr hlk hT ih4 a0 a1 a3 a2 0 S6 _ _ _ av0 h hR hS (lv_sub hl [0, 1, 3] rfl)
    · have h := h.2 c7
      refine lv_iconst (v := 1) hx hb dX6_lockedBy_26 (by decide) ?_
      refine lv_goto (tgt := 31) hx hb dX6_lockedBy_27 (by decide) ?_
      exact Bw_X6_lockedBy_31 C0 hr hlk hT ih4 a0 a1 a3 a2 1 S6 _ _ _ av0 h hR hS (lv_sub hl [0, 1, 3] rfl)
def B_X6_lockedBy_4 (n9 : Nat) (a0 : Nat) (a1 : Int32) (a2 : Int32) (a3 : Int32) (S : sSt) (k : Int32 → sSt → Prop) : Prop := (Nat.rec (motive := fun _ => Nat → Int32 → Int32 → Int32 → sSt → Prop) (fun _ _ _ _ _ => False) (fun _ r9 => fun a0 a1 a2 a3 S => Bb_X6_lockedBy_4 r9 a0 a1 a2 a3 S k) n9 : Nat → Int32 → Int32 → Int32 → sSt → Prop) a0 a1 a2 a3 S
theorem B_X6_lockedBy_4_s (n9 : Nat) (a0 : Nat) (a1 : Int32) (a2 : Int32) (a3 : Int32) (S : sSt) (k : Int32 → sSt → Prop) : B_X6_lockedBy_4 (n9 + 1) a0 a1 a2 a3 S k = Bb_X6_lockedBy_4 (fun a0 a1 a2 a3 S => B_X6_lockedBy_4 n9 a0 a1 a2 a3 S k) a0 a1 a2 a3 S k := rfl
set_option maxHeartbeats 4000000 in
set_option maxRecDepth 100000 in
theorem Bw_X6_lockedBy_4 {p : Program} {l : Launch} {e : Env} {s : State} {m : MethodId} {args : Array Value} {below : List Frame} {meth : Method} {c : Code} {D : va_G} {cy : Nat → ClassId} {b z : Nat} {tx : TX} (C0 : CallFix p m c cX6_lockedBy 4 s args TB RX6) (hr : meth.sig.returnType = (some .int)) (hlk : meth.locks = false) (hT : TxR tx s) {k : Int32 → sSt → Prop} : ∀ (n9 : Nat), ∀ (a0 : Nat) (a1 : Int32) (a2 : Int32) (a3 : Int32) (S : sSt) (H : Heap) (locs : List Loc) (ls : Array Slot) (av0 : a0 < 3), B_X6_lockedBy_4 n9 a0 a1 a2 a3 S k → RelC D cy b z tx S s H → va_S (gA b 709 z) s.heap H locs → lv_has ls 4 [(0, .ref (b + adC 13 a0)), (1, .int a1), (2, .int a2), (3, .int a3)] → W p l e rm_X6_lockedBy s m args below meth c H locs 0 0 (MQ below (PiC D cy b z tx k) args s 0 0 (gA b 709 z)) (F0 m 4 ls []) := by
  intro n9
  induction n9 with
  | zero => intro a0 a1 a2 a3 S H locs ls av0 h; exact h.elim
  | succ n9 ih =>
    intro a0 a1 a2 a3 S H locs ls av0 h hR hS hl
    exact Bbw_X6_lockedBy_4 C0 hr hlk hT ih a0 a1 a2 a3 S H locs ls av0 h hR hS hl
def F_X6_lockedBy (a0 : Nat) (a1 : Int32) (S : sSt) (k : Int32 → sSt → Prop) : Prop := B_X6_lockedBy_4 fuel a0 a1 0 0 S k
set_option maxHeartbeats 4000000 in
set_option maxRecDepth 100000 in
theorem c_X6_lockedBy (l : Launch) {D : va_G} {cy : Nat → ClassId} {b z : Nat} {tx : TX} {a0 : Nat} {a1 : Int32} {S : sSt} {k : Int32 → sSt → Prop} (av0 : a0 < 3) (h : F_X6_lockedBy a0 a1 S k) : Met l yX6_lockedBy (Cond.code yX6_lockedBy cX6_lockedBy 4 (some .int) :: TB) rm_X6_lockedBy (va_Pc [.ref (b + adC 13 a0), .int a1] (fun U => RelC D cy b z tx S U U.heap ∧ TxR tx U)) (PiC D cy b z tx k) 0 0 (gA b 709 z) := by
  refine Met.ofW (cc := cX6_lockedBy) (maxL := 4) (ret := (some .int)) (by decide) rfl ?_
  intro p e s m args below meth c s₁ B hml hv
  obtain ⟨rfl, hR, hT⟩ := hv
  have C0 : CallFix p m c cX6_lockedBy 4 s _ TB RX6 := ⟨B.exec, B.bytes, hml, findClass_of_methodNamed B.named, fun w hw => atoms_spec B.pre w (List.mem_cons_of_mem _ hw)⟩
  have hr := B.returns
  have hlk := B.notSynchronized
  have hx := C0.1
  have hb := C0.2.1
  have hS : va_S (gA b 709 z) s.heap s.heap [] := va_S.rf
  have hl := lv_entry ([.ref (b + adC 13 a0), .int a1]) (n := 4) (Nat.le_of_ble_eq_true rfl)
  rw [lg_entry_eq]
  generalize (lg_sl ([.ref (b + adC 13 a0), .int a1]) ++ List.replicate (4 - (lg_sl ([.ref (b + adC 13 a0), .int a1])).length) Slot.unset).toArray = ls at hl ⊢
  have hl : lv_has ls 4 [(0, .ref (b + adC 13 a0)), (1, .int a1)] := hl
  show W p l e rm_X6_lockedBy s m _ below meth c s.heap [] 0 0 (MQ below (PiC D cy b z tx k) _ s 0 0 (gA b 709 z)) _
  unfold F_X6_lockedBy at h
  refine lv_iconst (v := 0) hx hb dX6_lockedBy_0 (by decide) ?_
  refine lv_istore_n (lv' := [(2, .int 0), (0, .ref (b + adC 13 a0)), (1, .int a1)]) hx hb dX6_lockedBy_1 rfl hl (by decide) rfl (fun ls hl => ?_)
  refine lv_iconst (v := 0) hx hb dX6_lockedBy_2 (by decide) ?_
  refine lv_istore_n (lv' := [(3, .int 0), (2, .int 0), (0, .ref (b + adC 13 a0)), (1, .int a1)]) hx hb dX6_lockedBy_3 rfl hl (by decide) rfl (fun ls hl => ?_)
  exact Bw_X6_lockedBy_4 C0 hr hlk hT fuel a0 a1 0 0 S _ _ _ av0 h hR hS (lv_sub hl [2, 3, 1, 0] rfl)

def rm_X6_isHold : Room := { frames := 0, cells := 0, slots := 0, locals := 0 }
def B_X6_isHold_62 (a3 : Int32) (a4 : Int32) (t0 : Int32) (S : sSt) (k : Int32 → sSt → Prop) : Prop := ((a3 = 1 → bz a4 (k a4 S)) ∧ (¬ a3 = 1 → ((a3 = 2 → bz t0 (k t0 S)) ∧ (¬ a3 = 2 → ((a3 = 3 → ((a4 = t0 → k 0 S) ∧ (¬ a4 = t0 → k 1 S))) ∧ (¬ a3 = 3 → k 1 S))))))
set_option maxHeartbeats 4000000 in
set_option maxRecDepth 100000 in
theorem Bw_X6_isHold_62 {p : Program} {l : Launch} {e : Env} {s : State} {m : MethodId} {args : Array Value} {below : List Frame} {meth : Method} {c : Code} {D : va_G} {cy : Nat → ClassId} {b z : Nat} {tx : TX} (C0 : CallFix p m c cX6_isHold 6 s args TB RX6) (hr : meth.sig.returnType = (some .boolean)) (hlk : meth.locks = false) (hT : TxR tx s) {k : Int32 → sSt → Prop} : ∀ (a3 : Int32) (a4 : Int32) (t0 : Int32) (S : sSt) (H : Heap) (locs : List Loc) (ls : Array Slot) , B_X6_isHold_62 a3 a4 t0 S k → RelC D cy b z tx S s H → va_S (gA b 709 z) s.heap H locs → lv_has ls 6 [(3, .int a3), (4, .int a4)] → W p l e rm_X6_isHold s m args below meth c H locs 0 0 (MQ below (PiC D cy b z tx k) args s 0 0 (gA b 709 z)) (F0 m 62 ls [.int t0]) := by
  intro a3 a4 t0 S H locs ls h hR hS hl
  have hx := C0.1
  have hb := C0.2.1
  unfold B_X6_isHold_62 at h
  refine lv_istore (lv' := [(5, .int t0), (3, .int a3), (4, .int a4)]) hx hb dX6_isHold_62 hl (by decide) rfl (fun ls hl => ?_)
  refine lv_iload_n hx hb dX6_isHold_64 rfl (lv_at hl 1 rfl) ?_
  by_cases c8 : a3 = 1
  · have h := h.1 c8
    refine lv_tableIn (tgt := 92) hx hb dX6_isHold_65 (by rw [c8]; decide) (by rw [c8]; decide) (by rw [c8]; rfl) (by decide) ?_
    refine lv_iload hx hb dX6_isHold_92 (lv_at hl 2 rfl) ?_
    exact rtC_z C0 hr hlk hR hS h.1 h.2 dX6_isHold_94
  have h := h.2 c8
  by_cases c9 : a3 = 2
  · have h := h.1 c9
    refine lv_tableIn (tgt := 95) hx hb dX6_isHold_65 (by rw [c9]; decide) (by rw [c9]; decide) (by rw [c9]; rfl) (by decide) ?_
    refine lv_iload hx hb dX6_isHold_95 (lv_at hl 0 rfl) ?_
    exact rtC_z C0 hr hlk hR hS h.1 h.2 dX6_isHold_97
  have h := h.2 c9
  by_cases c10 : a3 = 3
  · have h := h.1 c10
    refine lv_tableIn (tgt := 98) hx hb dX6_isHold_65 (by rw [c10]; decide) (by rw [c10]; decide) (by rw [c10]; rfl) (by decide) ?_
    refine lv_iload hx hb dX6_isHold_98 (lv_at hl 2 rfl) ?_
    refine lv_iload hx hb dX6_isHold_100 (lv_at hl 0 rfl) ?_
    refine lv_icmp_eq (tgt := 109) hx hb dX6_isHold_102 (by decide) (fun c11 => ?_) (fun c11 => ?_)
    · have h := h.1 c11
      refine lv_iconst (v := 0) hx hb dX6_isHold_109 (by decide) ?_
      exact rtC_z C0 hr hlk hR hS (by decide) h dX6_isHold_110
    · have h := h.2 c11
      refine lv_iconst (v := 1) hx hb dX6_isHold_105 (by decide) ?_
      refine lv_goto (tgt := 110) hx hb dX6_isHold_106 (by decide) ?_
      exact rtC_z C0 hr hlk hR hS (by decide) h dX6_isHold_110
  have h := h.2 c10
  refine lv_tableOut (tgt := 111) hx hb dX6_isHold_65 (by have a9 := fun j : Int32 => (Int32.toInt_inj (x := a3) (y := j)).mp; have b9 : ∀ j : Int32, a3 ≠ j → (a3 : Int32).toInt ≠ j.toInt := fun j n9 q9 => n9 (a9 j q9); have c8_ := b9 _ c8; have c9_ := b9 _ c9; have c10_ := b9 _ c10; simp at c8_ c9_ c10_; omega) (by decide) ?_
  refine lv_iconst (v := 1) hx hb dX6_isHold_111 (by decide) ?_
  exact rtC_z C0 hr hlk hR hS (by decide) h dX6_isHold_112
def B_X6_isHold_34 (a0 : Nat) (a1 : Nat) (a2 : Int32) (a3 : Int32) (t0 : Int32) (S : sSt) (k : Int32 → sSt → Prop) : Prop := ix a2 4 (fun j5 => ((((S.1 13 a0 10) + (S.1 24 (4 * a0 + j5) 1)) ≤ (S.1 22 a1 7) → B_X6_isHold_62 a3 t0 0 S k) ∧ (¬ ((S.1 13 a0 10) + (S.1 24 (4 * a0 + j5) 1)) ≤ (S.1 22 a1 7) → B_X6_isHold_62 a3 t0 1 S k)))
set_option maxHeartbeats 4000000 in
set_option maxRecDepth 100000 in
theorem Bw_X6_isHold_34 {p : Program} {l : Launch} {e : Env} {s : State} {m : MethodId} {args : Array Value} {below : List Frame} {meth : Method} {c : Code} {D : va_G} {cy : Nat → ClassId} {b z : Nat} {tx : TX} (C0 : CallFix p m c cX6_isHold 6 s args TB RX6) (hr : meth.sig.returnType = (some .boolean)) (hlk : meth.locks = false) (hT : TxR tx s) {k : Int32 → sSt → Prop} : ∀ (a0 : Nat) (a1 : Nat) (a2 : Int32) (a3 : Int32) (t0 : Int32) (S : sSt) (H : Heap) (locs : List Loc) (ls : Array Slot) (av0 : a0 < 3) (av1 : a1 < 432), B_X6_isHold_34 a0 a1 a2 a3 t0 S k → RelC D cy b z tx S s H → va_S (gA b 709 z) s.heap H locs → lv_has ls 6 [(0, .ref (b + adC 13 a0)), (1, .ref (b + adC 22 a1)), (2, .int a2), (3, .int a3)] → W p l e rm_X6_isHold s m args below meth c H locs 0 0 (MQ below (PiC D cy b z tx k) args s 0 0 (gA b 709 z)) (F0 m 34 ls [.int t0]) := by
  intro a0 a1 a2 a3 t0 S H locs ls av0 av1 h hR hS hl
  have hx := C0.1
  have hb := C0.2.1
  unfold B_X6_isHold_34 at h
  refine lv_istore (lv' := [(4, .int t0), (0, .ref (b + adC 13 a0)), (1, .ref (b + adC 22 a1)), (2, .int a2), (3, .int a3)]) hx hb dX6_isHold_34 hl (by decide) rfl (fun ls hl => ?_)
  refine lv_aload_n hx hb dX6_isHold_36 rfl (lv_at hl 2 rfl) ?_
  refine gCn_22_7 C0 hR av1 tbs_wsX90 mC7_1_191 hT dX6_isHold_37 ?_
  refine lv_aload_n hx hb dX6_isHold_40 rfl (lv_at hl 1 rfl) ?_
  refine gC_13_10 C0 hR av0 tbs_wsX60 mC7_2_160 dX6_isHold_41 ?_
  refine lv_aload_n hx hb dX6_isHold_44 rfl (lv_at hl 1 rfl) ?_
  refine gC_13_1 C0 hR av0 tbs_wsX60 mC7_2_129 dX6_isHold_45 ?_
  have w4 : a0 < 3 := by omega
  refine lv_iload_n hx hb dX6_isHold_48 rfl (lv_at hl 3 rfl) ?_
  obtain ⟨j5, hj5, ej5, h⟩ := h
  refine lC_15 C0 hR w4 hj5 ej5 dX6_isHold_49 ?_
  have w6 : (4 * a0 + j5) < 12 := by omega
  refine gCn_24_1 C0 hR w6 tbs_wsX50 mC7_2_57 hT dX6_isHold_50 ?_
  refine lv_iadd hx hb dX6_isHold_53 ?_
  refine lv_icmp_ge (tgt := 61) hx hb dX6_isHold_54 (by decide) (fun c7 => ?_) (fun c7 => ?_)
  · have h := h.1 c7
    refine lv_iconst (v := 0) hx hb dX6_isHold_61 (by decide) ?_
    exact Bw_X6_isHold_62 C0 hr hlk hT a3 t0 0 S _ _ _ h hR hS (lv_sub hl [4, 0] rfl)
  · have h := h.2 c7
    refine lv_iconst (v := 1) hx hb dX6_isHold_57 (by decide) ?_
    refine lv_goto (tgt := 62) hx hb dX6_isHold_58 (by decide) ?_
    exact Bw_X6_isHold_62 C0 hr hlk hT a3 t0 1 S _ _ _ h hR hS (lv_sub hl [4, 0] rfl)
def F_X6_isHold (a0 : Nat) (a1 : Nat) (a2 : Int32) (a3 : Int32) (S : sSt) (k : Int32 → sSt → Prop) : Prop := ((¬ (S.1 22 a1 0) = 1 → k 0 S) ∧ ((S.1 22 a1 0) = 1 → (((S.1 22 a1 6) = a2 → (((S.1 13 a0 10) ≤ (S.1 22 a1 7) → B_X6_isHold_34 a0 a1 a2 a3 0 S k) ∧ (¬ (S.1 13 a0 10) ≤ (S.1 22 a1 7) → B_X6_isHold_34 a0 a1 a2 a3 1 S k))) ∧ (¬ (S.1 22 a1 6) = a2 → k 0 S))))
set_option maxHeartbeats 4000000 in
set_option maxRecDepth 100000 in
theorem c_X6_isHold (l : Launch) {D : va_G} {cy : Nat → ClassId} {b z : Nat} {tx : TX} {a0 : Nat} {a1 : Nat} {a2 : Int32} {a3 : Int32} {S : sSt} {k : Int32 → sSt → Prop} (av0 : a0 < 3) (av1 : a1 < 432) (h : F_X6_isHold a0 a1 a2 a3 S k) : Met l yX6_isHold (Cond.code yX6_isHold cX6_isHold 6 (some .boolean) :: TB) rm_X6_isHold (va_Pc [.ref (b + adC 13 a0), .ref (b + adC 22 a1), .int a2, .int a3] (fun U => RelC D cy b z tx S U U.heap ∧ TxR tx U)) (PiC D cy b z tx k) 0 0 (gA b 709 z) := by
  refine Met.ofW (cc := cX6_isHold) (maxL := 6) (ret := (some .boolean)) (by decide) rfl ?_
  intro p e s m args below meth c s₁ B hml hv
  obtain ⟨rfl, hR, hT⟩ := hv
  have C0 : CallFix p m c cX6_isHold 6 s _ TB RX6 := ⟨B.exec, B.bytes, hml, findClass_of_methodNamed B.named, fun w hw => atoms_spec B.pre w (List.mem_cons_of_mem _ hw)⟩
  have hr := B.returns
  have hlk := B.notSynchronized
  have hx := C0.1
  have hb := C0.2.1
  have hS : va_S (gA b 709 z) s.heap s.heap [] := va_S.rf
  have hl := lv_entry ([.ref (b + adC 13 a0), .ref (b + adC 22 a1), .int a2, .int a3]) (n := 6) (Nat.le_of_ble_eq_true rfl)
  rw [lg_entry_eq]
  generalize (lg_sl ([.ref (b + adC 13 a0), .ref (b + adC 22 a1), .int a2, .int a3]) ++ List.replicate (6 - (lg_sl ([.ref (b + adC 13 a0), .ref (b + adC 22 a1), .int a2, .int a3])).length) Slot.unset).toArray = ls at hl ⊢
  have hl : lv_has ls 6 [(0, .ref (b + adC 13 a0)), (1, .ref (b + adC 22 a1)), (2, .int a2), (3, .int a3)] := hl
  show W p l e rm_X6_isHold s m _ below meth c s.heap [] 0 0 (MQ below (PiC D cy b z tx k) _ s 0 0 (gA b 709 z)) _
  unfold F_X6_isHold at h
  refine lv_aload_n hx hb dX6_isHold_0 rfl (lv_at hl 1 rfl) ?_
  refine gCn_22_0 C0 hR av1 tbs_wsX90 mC7_1_161 hT dX6_isHold_1 ?_
  refine lv_iconst (v := 1) hx hb dX6_isHold_4 (by decide) ?_
  refine lv_icmp_ne (tgt := 16) hx hb dX6_isHold_5 (by decide) (fun c1 => ?_) (fun c1 => ?_)
  · have h := h.1 c1
    refine lv_iconst (v := 0) hx hb dX6_isHold_16 (by decide) ?_
    exact rtC_z C0 hr hlk hR hS (by decide) h dX6_isHold_17
  · have h := h.2 c1
    refine lv_aload_n hx hb dX6_isHold_8 rfl (lv_at hl 1 rfl) ?_
    refine gCn_22_6 C0 hR av1 tbs_wsX90 mC7_1_186 hT dX6_isHold_9 ?_
    refine lv_iload_n hx hb dX6_isHold_12 rfl (lv_at hl 2 rfl) ?_
    refine lv_icmp_eq (tgt := 18) hx hb dX6_isHold_13 (by decide) (fun c2 => ?_) (fun c2 => ?_)
    · have h := h.1 c2
      refine lv_aload_n hx hb dX6_isHold_18 rfl (lv_at hl 1 rfl) ?_
      refine gCn_22_7 C0 hR av1 tbs_wsX90 mC7_1_191 hT dX6_isHold_19 ?_
      refine lv_aload_n hx hb dX6_isHold_22 rfl (lv_at hl 0 rfl) ?_
      refine gC_13_10 C0 hR av0 tbs_wsX60 mC7_2_160 dX6_isHold_23 ?_
      refine lv_icmp_ge (tgt := 33) hx hb dX6_isHold_26 (by decide) (fun c3 => ?_) (fun c3 => ?_)
      · have h := h.1 c3
        refine lv_iconst (v := 0) hx hb dX6_isHold_33 (by decide) ?_
        exact Bw_X6_isHold_34 C0 hr hlk hT a0 a1 a2 a3 0 S _ _ _ av0 av1 h hR hS (lv_sub hl [0, 1, 2, 3] rfl)
      · have h := h.2 c3
        refine lv_iconst (v := 1) hx hb dX6_isHold_29 (by decide) ?_
        refine lv_goto (tgt := 34) hx hb dX6_isHold_30 (by decide) ?_
        exact Bw_X6_isHold_34 C0 hr hlk hT a0 a1 a2 a3 1 S _ _ _ av0 av1 h hR hS (lv_sub hl [0, 1, 2, 3] rfl)
    · have h := h.2 c2
      refine lv_iconst (v := 0) hx hb dX6_isHold_16 (by decide) ?_
      exact rtC_z C0 hr hlk hR hS (by decide) h dX6_isHold_17

def rm_X6_holds : Room := { frames := 1, cells := 0, slots := 0, locals := 25 }
def B_X6_holds_50 (kk5 : Nat → Int32 → Int32 → Int32 → Int32 → sSt → Prop) (a0 : Nat) (a1 : Int32) (a2 : Int32) (a3 : Int32) (a4 : Int32) (S : sSt) (k : Int32 → sSt → Prop) : Prop := ∀ x8 : Int32, x8 = a4 + 1 → kk5 a0 a1 a2 a3 x8 S
set_option maxHeartbeats 4000000 in
set_option maxRecDepth 100000 in
theorem Bw_X6_holds_50 {p : Program} {l : Launch} {e : Env} {s : State} {m : MethodId} {args : Array Value} {below : List Frame} {meth : Method} {c : Code} {D : va_G} {cy : Nat → ClassId} {b z : Nat} {tx : TX} (C0 : CallFix p m c cX6_holds 6 s args TB RX6) (hr : meth.sig.returnType = (some .int)) (hlk : meth.locks = false) (hT : TxR tx s) {k : Int32 → sSt → Prop} {kk5 : Nat → Int32 → Int32 → Int32 → Int32 → sSt → Prop} (ih5 : ∀ (a0 : Nat) (a1 : Int32) (a2 : Int32) (a3 : Int32) (a4 : Int32) (S : sSt) (H : Heap) (locs : List Loc) (ls : Array Slot) (av0 : a0 < 3), kk5 a0 a1 a2 a3 a4 S → RelC D cy b z tx S s H → va_S (gA b 709 z) s.heap H locs → lv_has ls 6 [(0, .ref (b + adC 13 a0)), (1, .int a1), (2, .int a2), (3, .int a3), (4, .int a4)] → W p l e rm_X6_holds s m args below meth c H locs 0 0 (MQ below (PiC D cy b z tx k) args s 0 0 (gA b 709 z)) (F0 m 5 ls [])) : ∀ (a0 : Nat) (a1 : Int32) (a2 : Int32) (a3 : Int32) (a4 : Int32) (S : sSt) (H : Heap) (locs : List Loc) (ls : Array Slot) (av0 : a0 < 3), B_X6_holds_50 kk5 a0 a1 a2 a3 a4 S k → RelC D cy b z tx S s H → va_S (gA b 709 z) s.heap H locs → lv_has ls 6 [(0, .ref (b + adC 13 a0)), (1, .int a1), (2, .int a2), (3, .int a3), (4, .int a4)] → W p l e rm_X6_holds s m args below meth c H locs 0 0 (MQ below (PiC D cy b z tx k) args s 0 0 (gA b 709 z)) (F0 m 50 ls []) := by
  intro a0 a1 a2 a3 a4 S H locs ls av0 h hR hS hl
  have hx := C0.1
  have hb := C0.2.1
  unfold B_X6_holds_50 at h
  obtain ⟨x8, ex8⟩ : ∃ x8 : Int32, x8 = a4 + 1 := ⟨_, rfl⟩
  have h := h x8 ex8
  refine w_iinc (v0 := 1) (lv' := [(4, .int x8), (0, .ref (b + adC 13 a0)), (1, .int a1), (2, .int a2), (3, .int a3)]) C0 dX6_holds_50 hl (k := 4) rfl (by decide) (by decide) x8 ex8 rfl (fun ls hl => ?_)
  refine lv_goto (tgt := 5) hx hb dX6_holds_53 (by decide) ?_
  exact ih5 a0 a1 a2 a3 x8 S _ _ _ av0 h hR hS (lv_sub hl [1, 2, 3, 4, 0] rfl)
def Bb_X6_holds_5 (kk5 : Nat → Int32 → Int32 → Int32 → Int32 → sSt → Prop) (a0 : Nat) (a1 : Int32) (a2 : Int32) (a3 : Int32) (a4 : Int32) (S : sSt) (k : Int32 → sSt → Prop) : Prop := (((S.1 13 a0 6) ≤ a4 → k a3 S) ∧ (¬ (S.1 13 a0 6) ≤ a4 → ix a4 24 (fun j3 => F_X1_isSeenBy (S.2 14 a0 j3) a1 S (fun r5 S6 => ((r5 = 0 → B_X6_holds_50 kk5 a0 a1 a2 a3 a4 S6 k) ∧ (¬ r5 = 0 → F_X1_seenBy (S.2 14 a0 j3) a1 S6 (fun r9 S10 => F_X6_isHold a0 r9 a1 a2 S10 (fun r11 S12 => ((r11 = 0 → B_X6_holds_50 kk5 a0 a1 a2 a3 a4 S12 k) ∧ (¬ r11 = 0 → ∀ x14 : Int32, x14 = a3 + 1 → B_X6_holds_50 kk5 a0 a1 a2 x14 a4 S12 k))))))))))
set_option maxHeartbeats 4000000 in
set_option maxRecDepth 100000 in
theorem Bbw_X6_holds_5 {p : Program} {l : Launch} {e : Env} {s : State} {m : MethodId} {args : Array Value} {below : List Frame} {meth : Method} {c : Code} {D : va_G} {cy : Nat → ClassId} {b z : Nat} {tx : TX} (C0 : CallFix p m c cX6_holds 6 s args TB RX6) (hr : meth.sig.returnType = (some .int)) (hlk : meth.locks = false) (hT : TxR tx s) {k : Int32 → sSt → Prop} {kk5 : Nat → Int32 → Int32 → Int32 → Int32 → sSt → Prop} (ih5 : ∀ (a0 : Nat) (a1 : Int32) (a2 : Int32) (a3 : Int32) (a4 : Int32) (S : sSt) (H : Heap) (locs : List Loc) (ls : Array Slot) (av0 : a0 < 3), kk5 a0 a1 a2 a3 a4 S → RelC D cy b z tx S s H → va_S (gA b 709 z) s.heap H locs → lv_has ls 6 [(0, .ref (b + adC 13 a0)), (1, .int a1), (2, .int a2), (3, .int a3), (4, .int a4)] → W p l e rm_X6_holds s m args below meth c H locs 0 0 (MQ below (PiC D cy b z tx k) args s 0 0 (gA b 709 z)) (F0 m 5 ls [])) : ∀ (a0 : Nat) (a1 : Int32) (a2 : Int32) (a3 : Int32) (a4 : Int32) (S : sSt) (H : Heap) (locs : List Loc) (ls : Array Slot) (av0 : a0 < 3), Bb_X6_holds_5 kk5 a0 a1 a2 a3 a4 S k → RelC D cy b z tx S s H → va_S (gA b 709 z) s.heap H locs → lv_has ls 6 [(0, .ref (b + adC 13 a0)), (1, .int a1), (2, .int a2), (3, .int a3), (4, .int a4)] → W p l e rm_X6_holds s m args below meth c H locs 0 0 (MQ below (PiC D cy b z tx k) args s 0 0 (gA b 709 z)) (F0 m 5 ls []) := by
  intro a0 a1 a2 a3 a4 S H locs ls av0 h hR hS hl
  have hx := C0.1
  have hb := C0.2.1
  unfold Bb_X6_holds_5 at h
  refine lv_iload hx hb dX6_holds_5 (lv_at hl 4 rfl) ?_
  refine lv_aload_n hx hb dX6_holds_7 rfl (lv_at hl 0 rfl) ?_
  refine gC_13_6 C0 hR av0 tbs_wsX60 mC7_2_146 dX6_holds_8 ?_
  refine lv_icmp_ge (tgt := 56) hx hb dX6_holds_11 (by decide) (fun c1 => ?_) (fun c1 => ?_)
  · have h := h.1 c1
    refine lv_iload_n hx hb dX6_holds_56 rfl (lv_at hl 3 rfl) ?_
    exact rtC_i C0 hr hlk hR hS h dX6_holds_57
  · have h := h.2 c1
    refine lv_aload_n hx hb dX6_holds_14 rfl (lv_at hl 0 rfl) ?_
    refine gC_13_0 C0 hR av0 tbs_wsX60 mC7_2_126 dX6_holds_15 ?_
    have w2 : a0 < 3 := by omega
    refine lv_iload hx hb dX6_holds_18 (lv_at hl 4 rfl) ?_
    obtain ⟨j3, hj3, ej3, h⟩ := h
    refine lC_14 C0 hR w2 hj3 ej3 dX6_holds_20 ?_
    have w4 : (S.2 14 a0 j3) < 72 := hR.2.1.1 _ _ w2 hj3
    refine lv_astore (lv' := [(5, .ref (b + adC 21 (S.2 14 a0 j3))), (0, .ref (b + adC 13 a0)), (1, .int a1), (2, .int a2), (3, .int a3), (4, .int a4)]) hx hb dX6_holds_21 hl (by decide) rfl (fun ls hl => ?_)
    refine lv_aload hx hb dX6_holds_23 (lv_at hl 0 rfl) ?_
    refine lv_iload_n hx hb dX6_holds_25 rfl (lv_at hl 2 rfl) ?_
    refine qC_Vi (As := [.int a1]) (rest := []) C0 (c_X1_isSeenBy l w4 h) (cwV 1 C0.2.2.2.2 (tbV mC7_5_142 ⟨mC7_5_73, mC7_5_74, mC7_1_7, mC7_5_75⟩) rfl rfl rfl (by decide +kernel) ⟨Nat.le_of_ble_eq_true rfl, Nat.le_of_ble_eq_true rfl⟩) (rcC_21 hR w4) hR hT hS rfl hl.1 rfl (Nat.le_of_ble_eq_true rfl) dX6_holds_26 ⟨Nat.zero_le _, Nat.zero_le _⟩ (fun r5 S6 H locs h hR hS => ?_)
    refine lv_if_eq (tgt := 50) hx hb dX6_holds_29 (by decide) (fun c7 => ?_) (fun c7 => ?_)
    · have h := h.1 c7
      exact Bw_X6_holds_50 C0 hr hlk hT ih5 a0 a1 a2 a3 a4 S6 _ _ _ av0 h hR hS (lv_sub hl [1, 2, 3, 4, 5] rfl)
    · have h := h.2 c7
      refine lv_aload_n hx hb dX6_holds_32 rfl (lv_at hl 1 rfl) ?_
      refine lv_aload hx hb dX6_holds_33 (lv_at hl 0 rfl) ?_
      refine lv_iload_n hx hb dX6_holds_35 rfl (lv_at hl 2 rfl) ?_
      refine qC_Vr (As := [.int a1]) (rest := [.ref (b + adC 13 a0)]) C0 (c_X1_seenBy l w4 h) (cwV 1 C0.2.2.2.2 (tbV mC7_5_198 ⟨mC7_5_80, mC7_5_81, mC7_1_7, mC7_5_82⟩) rfl rfl rfl (by decide +kernel) ⟨Nat.le_of_ble_eq_true rfl, Nat.le_of_ble_eq_true rfl⟩) (rcC_21 hR w4) hR hT hS rfl hl.1 rfl (Nat.le_of_ble_eq_true rfl) dX6_holds_36 ⟨Nat.zero_le _, Nat.zero_le _⟩ (fun r9 S10 H locs vr9 h hR hS => ?_)
      refine lv_iload_n hx hb dX6_holds_39 rfl (lv_at hl 2 rfl) ?_
      refine lv_iload_n hx hb dX6_holds_40 rfl (lv_at hl 3 rfl) ?_
      refine qC_Vi (As := [.ref (b + adC 22 r9), .int a1, .int a2]) (rest := []) C0 (c_X6_isHold l av0 vr9 h) (cwV 3 C0.2.2.2.2 (tbV mC7_6_94 ⟨mC7_6_96, mpC7_2_4, mC7_1_5, mC7_6_97⟩) rfl rfl rfl (by decide +kernel) ⟨Nat.le_of_ble_eq_true rfl, Nat.le_of_ble_eq_true rfl⟩) (rcC_13 hR av0) hR hT hS rfl hl.1 rfl (Nat.le_of_ble_eq_true rfl) dX6_holds_41 ⟨Nat.zero_le _, Nat.zero_le _⟩ (fun r11 S12 H locs h hR hS => ?_)
      refine lv_if_eq (tgt := 50) hx hb dX6_holds_44 (by decide) (fun c13 => ?_) (fun c13 => ?_)
      · have h := h.1 c13
        exact Bw_X6_holds_50 C0 hr hlk hT ih5 a0 a1 a2 a3 a4 S12 _ _ _ av0 h hR hS (lv_sub hl [1, 2, 3, 4, 5] rfl)
      · have h := h.2 c13
        obtain ⟨x14, ex14⟩ : ∃ x14 : Int32, x14 = a3 + 1 := ⟨_, rfl⟩
        have h := h x14 ex14
        refine w_iinc (v0 := 1) (lv' := [(3, .int x14), (5, .ref (b + adC 21 (S.2 14 a0 j3))), (0, .ref (b + adC 13 a0)), (1, .int a1), (2, .int a2), (4, .int a4)]) C0 dX6_holds_47 hl (k := 4) rfl (by decide) (by decide) x14 ex14 rfl (fun ls hl => ?_)
        exact Bw_X6_holds_50 C0 hr hlk hT ih5 a0 a1 a2 x14 a4 S12 _ _ _ av0 h hR hS (lv_sub hl [2, 3, 4, 0, 5] rfl)
def B_X6_holds_5 (n9 : Nat) (a0 : Nat) (a1 : Int32) (a2 : Int32) (a3 : Int32) (a4 : Int32) (S : sSt) (k : Int32 → sSt → Prop) : Prop := (Nat.rec (motive := fun _ => Nat → Int32 → Int32 → Int32 → Int32 → sSt → Prop) (fun _ _ _ _ _ _ => False) (fun _ r9 => fun a0 a1 a2 a3 a4 S => Bb_X6_holds_5 r9 a0 a1 a2 a3 a4 S k) n9 : Nat → Int32 → Int32 → Int32 → Int32 → sSt → Prop) a0 a1 a2 a3 a4 S
theorem B_X6_holds_5_s (n9 : Nat) (a0 : Nat) (a1 : Int32) (a2 : Int32) (a3 : Int32) (a4 : Int32) (S : sSt) (k : Int32 → sSt → Prop) : B_X6_holds_5 (n9 + 1) a0 a1 a2 a3 a4 S k = Bb_X6_holds_5 (fun a0 a1 a2 a3 a4 S => B_X6_holds_5 n9 a0 a1 a2 a3 a4 S k) a0 a1 a2 a3 a4 S k := rfl
set_option maxHeartbeats 4000000 in
set_option maxRecDepth 100000 in
theorem Bw_X6_holds_5 {p : Program} {l : Launch} {e : Env} {s : State} {m : MethodId} {args : Array Value} {below : List Frame} {meth : Method} {c : Code} {D : va_G} {cy : Nat → ClassId} {b z : Nat} {tx : TX} (C0 : CallFix p m c cX6_holds 6 s args TB RX6) (hr : meth.sig.returnType = (some .int)) (hlk : meth.locks = false) (hT : TxR tx s) {k : Int32 → sSt → Prop} : ∀ (n9 : Nat), ∀ (a0 : Nat) (a1 : Int32) (a2 : Int32) (a3 : Int32) (a4 : Int32) (S : sSt) (H : Heap) (locs : List Loc) (ls : Array Slot) (av0 : a0 < 3), B_X6_holds_5 n9 a0 a1 a2 a3 a4 S k → RelC D cy b z tx S s H → va_S (gA b 709 z) s.heap H locs → lv_has ls 6 [(0, .ref (b + adC 13 a0)), (1, .int a1), (2, .int a2), (3, .int a3), (4, .int a4)] → W p l e rm_X6_holds s m args below meth c H locs 0 0 (MQ below (PiC D cy b z tx k) args s 0 0 (gA b 709 z)) (F0 m 5 ls []) := by
  intro n9
  induction n9 with
  | zero => intro a0 a1 a2 a3 a4 S H locs ls av0 h; exact h.elim
  | succ n9 ih =>
    intro a0 a1 a2 a3 a4 S H locs ls av0 h hR hS hl
    exact Bbw_X6_holds_5 C0 hr hlk hT ih a0 a1 a2 a3 a4 S H locs ls av0 h hR hS hl
def F_X6_holds (a0 : Nat) (a1 : Int32) (a2 : Int32) (S : sSt) (k : Int32 → sSt → Prop) : Prop := B_X6_holds_5 fuel a0 a1 a2 0 0 S k
set_option maxHeartbeats 4000000 in
set_option maxRecDepth 100000 in
theorem c_X6_holds (l : Launch) {D : va_G} {cy : Nat → ClassId} {b z : Nat} {tx : TX} {a0 : Nat} {a1 : Int32} {a2 : Int32} {S : sSt} {k : Int32 → sSt → Prop} (av0 : a0 < 3) (h : F_X6_holds a0 a1 a2 S k) : Met l yX6_holds (Cond.code yX6_holds cX6_holds 6 (some .int) :: TB) rm_X6_holds (va_Pc [.ref (b + adC 13 a0), .int a1, .int a2] (fun U => RelC D cy b z tx S U U.heap ∧ TxR tx U)) (PiC D cy b z tx k) 0 0 (gA b 709 z) := by
  refine Met.ofW (cc := cX6_holds) (maxL := 6) (ret := (some .int)) (by decide) rfl ?_
  intro p e s m args below meth c s₁ B hml hv
  obtain ⟨rfl, hR, hT⟩ := hv
  have C0 : CallFix p m c cX6_holds 6 s _ TB RX6 := ⟨B.exec, B.bytes, hml, findClass_of_methodNamed B.named, fun w hw => atoms_spec B.pre w (List.mem_cons_of_mem _ hw)⟩
  have hr := B.returns
  have hlk := B.notSynchronized
  have hx := C0.1
  have hb := C0.2.1
  have hS : va_S (gA b 709 z) s.heap s.heap [] := va_S.rf
  have hl := lv_entry ([.ref (b + adC 13 a0), .int a1, .int a2]) (n := 6) (Nat.le_of_ble_eq_true rfl)
  rw [lg_entry_eq]
  generalize (lg_sl ([.ref (b + adC 13 a0), .int a1, .int a2]) ++ List.replicate (6 - (lg_sl ([.ref (b + adC 13 a0), .int a1, .int a2])).length) Slot.unset).toArray = ls at hl ⊢
  have hl : lv_has ls 6 [(0, .ref (b + adC 13 a0)), (1, .int a1), (2, .int a2)] := hl
  show W p l e rm_X6_holds s m _ below meth c s.heap [] 0 0 (MQ below (PiC D cy b z tx k) _ s 0 0 (gA b 709 z)) _
  unfold F_X6_holds at h
  refine lv_iconst (v := 0) hx hb dX6_holds_0 (by decide) ?_
  refine lv_istore_n (lv' := [(3, .int 0), (0, .ref (b + adC 13 a0)), (1, .int a1), (2, .int a2)]) hx hb dX6_holds_1 rfl hl (by decide) rfl (fun ls hl => ?_)
  refine lv_iconst (v := 0) hx hb dX6_holds_2 (by decide) ?_
  refine lv_istore (lv' := [(4, .int 0), (3, .int 0), (0, .ref (b + adC 13 a0)), (1, .int a1), (2, .int a2)]) hx hb dX6_holds_3 hl (by decide) rfl (fun ls hl => ?_)
  exact Bw_X6_holds_5 C0 hr hlk hT fuel a0 a1 a2 0 0 S _ _ _ av0 h hR hS (lv_sub hl [2, 3, 4, 1, 0] rfl)

def rm_X11_session : Room := { frames := 7, cells := 2, slots := 12, locals := 110 }
def F_X11_session (a1 : Int32) (a2 : Int32) (S : sSt) (k : Int32 → sSt → Prop) (kx : String → sSt → Prop) : Prop := F_X11_needSession a1 S (fun S2 => ix a1 4 (fun j5 => ((a2 = 0 → (((S2.1 24 (4 * (S2.2 0 0 4) + j5) 3) = 0 → k 0 S2) ∧ (¬ (S2.1 24 (4 * (S2.2 0 0 4) + j5) 3) = 0 → k 1 S2))) ∧ (¬ a2 = 0 → ((a2 = 1 → k (S2.1 24 (4 * (S2.2 0 0 4) + j5) 4) S2) ∧ (¬ a2 = 1 → ((a2 = 2 → F_X6_lockedBy (S2.2 0 0 4) a1 S2 (fun r12 S13 => k r12 S13)) ∧ (¬ a2 = 2 → ((a2 = 3 → k (S2.1 24 (4 * (S2.2 0 0 4) + j5) 1) S2) ∧ (¬ a2 = 3 → ((a2 = 4 → k (S2.1 24 (4 * (S2.2 0 0 4) + j5) 2) S2) ∧ (¬ a2 = 4 → ((a2 = 5 → k (S2.1 3 ((4 * (S2.2 0 0 4) + j5) + 1) 5) S2) ∧ (¬ a2 = 5 → ((a2 = 6 → F_X6_holds (S2.2 0 0 4) a1 0 S2 (fun r20 S21 => k r20 S21)) ∧ (¬ a2 = 6 → ((a2 = 7 → F_X6_holds (S2.2 0 0 4) a1 1 S2 (fun r24 S25 => k r24 S25)) ∧ (¬ a2 = 7 → ((a2 = 8 → F_X6_holds (S2.2 0 0 4) a1 2 S2 (fun r28 S29 => k r28 S29)) ∧ (¬ a2 = 8 → ((a2 = 9 → F_X6_holds (S2.2 0 0 4) a1 3 S2 (fun r32 S33 => k r32 S33)) ∧ (¬ a2 = 9 → kx "java/util/NoSuchElementException" S2)))))))))))))))))))))) kx
set_option maxHeartbeats 4000000 in
set_option maxRecDepth 100000 in
theorem c_X11_session (l : Launch) (hl0 : l.stackTraces = false) {D : va_G} {cy : Nat → ClassId} {b z : Nat} {tx : TX} {a1 : Int32} {a2 : Int32} {S : sSt} {k : Int32 → sSt → Prop} {kx : String → sSt → Prop} (h : F_X11_session a1 a2 S k kx) : vx_Met l yX11_session (Cond.code yX11_session cX11_session 4 (some .int) :: TB) rm_X11_session (va_Pc [.ref (b + adC 0 0), .int a1, .int a2] (fun U => RelC D cy b z tx S U U.heap ∧ TxR tx U)) (PiC D cy b z tx k) (XeC D cy b z tx kx) 2 12 (gA b 709 z) := by
  refine vx_ofW (cc := cX11_session) (maxL := 4) (ret := (some .int)) (by decide) rfl ?_
  intro p e s m args below meth c s₁ B hml hexc hv
  obtain ⟨rfl, hR, hT⟩ := hv
  have hX0 := hR.2.2
  have C0 : CallFix p m c cX11_session 4 s _ TB RX11 := ⟨B.exec, B.bytes, hml, findClass_of_methodNamed B.named, fun w hw => atoms_spec B.pre w (List.mem_cons_of_mem _ hw)⟩
  have hr := B.returns
  have hlk := B.notSynchronized
  have hx := C0.1
  have hb := C0.2.1
  have hS : va_S (gA b 709 z) s.heap s.heap [] := va_S.rf
  have hl := lv_entry ([.ref (b + adC 0 0), .int a1, .int a2]) (n := 4) (Nat.le_of_ble_eq_true rfl)
  rw [lg_entry_eq]
  generalize (lg_sl ([.ref (b + adC 0 0), .int a1, .int a2]) ++ List.replicate (4 - (lg_sl ([.ref (b + adC 0 0), .int a1, .int a2])).length) Slot.unset).toArray = ls at hl ⊢
  have hl : lv_has ls 4 [(0, .ref (b + adC 0 0)), (1, .int a1), (2, .int a2)] := hl
  show W p l e rm_X11_session s m _ below meth c s.heap [] 0 0 (vx_MQ below (PiC D cy b z tx k) (XeC D cy b z tx kx) _ s 2 12 (gA b 709 z)) _
  unfold F_X11_session at h
  refine lv_aload_n hx hb dX11_session_0 rfl (lv_at hl 0 rfl) ?_
  refine lv_iload_n hx hb dX11_session_1 rfl (lv_at hl 1 rfl) ?_
  refine qx_Vv (As := [.int a1]) (rest := []) C0 hlk hexc (c_X11_needSession l hl0 h) (cwV 1 C0.2.2.2.2 (tbV mC7_4_133 ⟨mC7_4_135, mpC7_1_5, mC7_1_1, mC7_4_136⟩) rfl rfl rfl (by decide +kernel) ⟨Nat.le_of_ble_eq_true rfl, Nat.le_of_ble_eq_true rfl⟩) (rcC_0 hR Nat.zero_lt_one) hR hT hS rfl hl.1 rfl (Nat.le_of_ble_eq_true rfl) dX11_session_2 ⟨Nat.le_of_ble_eq_true rfl, Nat.le_of_ble_eq_true rfl⟩ ⟨Nat.le_of_ble_eq_true rfl, Nat.le_of_ble_eq_true rfl⟩ (fun S2 H locs h hR hS => ?_)
  refine lv_aload_n hx hb dX11_session_5 rfl (lv_at hl 0 rfl) ?_
  refine gC_0_4 C0 hR Nat.zero_lt_one tbs_wsX110 mC7_2_213 dX11_session_6 ?_
  have w3 : (S2.2 0 0 4) < 3 := hR.2.1.2.1
  refine gCn_13_1 C0 hR w3 tbs_wsX60 mC7_2_131 hT dX11_session_9 ?_
  have w4 : (S2.2 0 0 4) < 3 := by omega
  refine lv_iload_n hx hb dX11_session_12 rfl (lv_at hl 1 rfl) ?_
  obtain ⟨j5, hj5, ej5, h⟩ := h
  refine lC_15 C0 hR w4 hj5 ej5 dX11_session_13 ?_
  have w6 : (4 * (S2.2 0 0 4) + j5) < 12 := by omega
  refine lv_astore_n (lv' := [(3, .ref (b + adC 24 (4 * (S2.2 0 0 4) + j5))), (0, .ref (b + adC 0 0)), (1, .int a1), (2, .int a2)]) hx hb dX11_session_14 rfl hl (by decide) rfl (fun ls hl => ?_)
  refine lv_iload_n hx hb dX11_session_15 rfl (lv_at hl 3 rfl) ?_
  by_cases c7 : a2 = 0
  · have h := h.1 c7
    refine lv_tableIn (tgt := 72) hx hb dX11_session_16 (by rw [c7]; decide) (by rw [c7]; decide) (by rw [c7]; rfl) (by decide) ?_
    refine lv_aload_n hx hb dX11_session_72 rfl (lv_at hl 0 rfl) ?_
    refine gCn_24_3 C0 hR w6 tbs_wsX50 mC7_2_63 hT dX11_session_73 ?_
    refine lv_if_eq (tgt := 83) hx hb dX11_session_76 (by decide) (fun c8 => ?_) (fun c8 => ?_)
    · have h := h.1 c8
      refine lv_iconst (v := 0) hx hb dX11_session_83 (by decide) ?_
      refine vx_ret (W.widen (k := 2) (n := 12) (Nat.le_of_ble_eq_true rfl) (Nat.le_of_ble_eq_true rfl) ?_); exact rtC_i C0 hr hlk hR hS h dX11_session_84
    · have h := h.2 c8
      refine lv_iconst (v := 1) hx hb dX11_session_79 (by decide) ?_
      refine lv_goto (tgt := 84) hx hb dX11_session_80 (by decide) ?_
      refine vx_ret (W.widen (k := 2) (n := 12) (Nat.le_of_ble_eq_true rfl) (Nat.le_of_ble_eq_true rfl) ?_); exact rtC_i C0 hr hlk hR hS h dX11_session_84
  have h := h.2 c7
  by_cases c9 : a2 = 1
  · have h := h.1 c9
    refine lv_tableIn (tgt := 85) hx hb dX11_session_16 (by rw [c9]; decide) (by rw [c9]; decide) (by rw [c9]; rfl) (by decide) ?_
    refine lv_aload_n hx hb dX11_session_85 rfl (lv_at hl 0 rfl) ?_
    refine gCn_24_4 C0 hR w6 tbs_wsX50 mC7_2_67 hT dX11_session_86 ?_
    refine vx_ret (W.widen (k := 2) (n := 12) (Nat.le_of_ble_eq_true rfl) (Nat.le_of_ble_eq_true rfl) ?_); exact rtC_i C0 hr hlk hR hS h dX11_session_89
  have h := h.2 c9
  by_cases c10 : a2 = 2
  · have h := h.1 c10
    refine lv_tableIn (tgt := 90) hx hb dX11_session_16 (by rw [c10]; decide) (by rw [c10]; decide) (by rw [c10]; rfl) (by decide) ?_
    refine lv_aload_n hx hb dX11_session_90 rfl (lv_at hl 1 rfl) ?_
    refine gC_0_4 C0 hR Nat.zero_lt_one tbs_wsX110 mC7_2_213 dX11_session_91 ?_
    have w11 : (S2.2 0 0 4) < 3 := hR.2.1.2.1
    refine lv_iload_n hx hb dX11_session_94 rfl (lv_at hl 2 rfl) ?_
    refine qC_Vi (As := [.int a1]) (rest := []) C0 (c_X6_lockedBy l w11 h) (cwV 1 C0.2.2.2.2 (tbV mC7_6_86 ⟨mC7_6_87, mC7_6_88, mC7_1_5, mC7_6_89⟩) rfl rfl rfl (by decide +kernel) ⟨Nat.le_of_ble_eq_true rfl, Nat.le_of_ble_eq_true rfl⟩) (rcC_13 hR w11) hR hT hS rfl hl.1 rfl (Nat.le_of_ble_eq_true rfl) dX11_session_95 ⟨Nat.le_of_ble_eq_true rfl, Nat.le_of_ble_eq_true rfl⟩ (fun r12 S13 H locs h hR hS => ?_)
    refine vx_ret (W.widen (k := 2) (n := 12) (Nat.le_of_ble_eq_true rfl) (Nat.le_of_ble_eq_true rfl) ?_); exact rtC_i C0 hr hlk hR hS h dX11_session_98
  have h := h.2 c10
  by_cases c14 : a2 = 3
  · have h := h.1 c14
    refine lv_tableIn (tgt := 99) hx hb dX11_session_16 (by rw [c14]; decide) (by rw [c14]; decide) (by rw [c14]; rfl) (by decide) ?_
    refine lv_aload_n hx hb dX11_session_99 rfl (lv_at hl 0 rfl) ?_
    refine gCn_24_1 C0 hR w6 tbs_wsX50 mC7_2_56 hT dX11_session_100 ?_
    refine vx_ret (W.widen (k := 2) (n := 12) (Nat.le_of_ble_eq_true rfl) (Nat.le_of_ble_eq_true rfl) ?_); exact rtC_i C0 hr hlk hR hS h dX11_session_103
  have h := h.2 c14
  by_cases c15 : a2 = 4
  · have h := h.1 c15
    refine lv_tableIn (tgt := 104) hx hb dX11_session_16 (by rw [c15]; decide) (by rw [c15]; decide) (by rw [c15]; rfl) (by decide) ?_
    refine lv_aload_n hx hb dX11_session_104 rfl (lv_at hl 0 rfl) ?_
    refine gCn_24_2 C0 hR w6 tbs_wsX50 mC7_2_61 hT dX11_session_105 ?_
    refine vx_ret (W.widen (k := 2) (n := 12) (Nat.le_of_ble_eq_true rfl) (Nat.le_of_ble_eq_true rfl) ?_); exact rtC_i C0 hr hlk hR hS h dX11_session_108
  have h := h.2 c15
  by_cases c16 : a2 = 5
  · have h := h.1 c16
    refine lv_tableIn (tgt := 109) hx hb dX11_session_16 (by rw [c16]; decide) (by rw [c16]; decide) (by rw [c16]; rfl) (by decide) ?_
    refine lv_aload_n hx hb dX11_session_109 rfl (lv_at hl 0 rfl) ?_
    refine gCn_24_0 C0 hR w6 tbs_wsX50 mC7_2_54 hT dX11_session_110 ?_
    have w17 : ((4 * (S2.2 0 0 4) + j5) + 1) < 13 := by omega
    refine gCn_3_5 C0 hR w17 tbs_wsX30 mC7_1_73 hT dX11_session_113 ?_
    refine vx_ret (W.widen (k := 2) (n := 12) (Nat.le_of_ble_eq_true rfl) (Nat.le_of_ble_eq_true rfl) ?_); exact rtC_i C0 hr hlk hR hS h dX11_session_116
  have h := h.2 c16
  by_cases c18 : a2 = 6
  · have h := h.1 c18
    refine lv_tableIn (tgt := 117) hx hb dX11_session_16 (by rw [c18]; decide) (by rw [c18]; decide) (by rw [c18]; rfl) (by decide) ?_
    refine lv_aload_n hx hb dX11_session_117 rfl (lv_at hl 1 rfl) ?_
    refine gC_0_4 C0 hR Nat.zero_lt_one tbs_wsX110 mC7_2_213 dX11_session_118 ?_
    have w19 : (S2.2 0 0 4) < 3 := hR.2.1.2.1
    refine lv_iload_n hx hb dX11_session_121 rfl (lv_at hl 2 rfl) ?_
    refine lv_iconst (v := 0) hx hb dX11_session_122 (by decide) ?_
    refine qC_Vi (As := [.int a1, .int 0]) (rest := []) C0 (c_X6_holds l w19 h) (cwV 2 C0.2.2.2.2 (tbV mC7_6_90 ⟨mC7_6_91, mC7_6_92, mC7_1_5, mC7_6_93⟩) rfl rfl rfl (by decide +kernel) ⟨Nat.le_of_ble_eq_true rfl, Nat.le_of_ble_eq_true rfl⟩) (rcC_13 hR w19) hR hT hS rfl hl.1 rfl (Nat.le_of_ble_eq_true rfl) dX11_session_123 ⟨Nat.le_of_ble_eq_true rfl, Nat.le_of_ble_eq_true rfl⟩ (fun r20 S21 H locs h hR hS => ?_)
    refine vx_ret (W.widen (k := 2) (n := 12) (Nat.le_of_ble_eq_true rfl) (Nat.le_of_ble_eq_true rfl) ?_); exact rtC_i C0 hr hlk hR hS h dX11_session_126
  have h := h.2 c18
  by_cases c22 : a2 = 7
  · have h := h.1 c22
    refine lv_tableIn (tgt := 127) hx hb dX11_session_16 (by rw [c22]; decide) (by rw [c22]; decide) (by rw [c22]; rfl) (by decide) ?_
    refine lv_aload_n hx hb dX11_session_127 rfl (lv_at hl 1 rfl) ?_
    refine gC_0_4 C0 hR Nat.zero_lt_one tbs_wsX110 mC7_2_213 dX11_session_128 ?_
    have w23 : (S2.2 0 0 4) < 3 := hR.2.1.2.1
    refine lv_iload_n hx hb dX11_session_131 rfl (lv_at hl 2 rfl) ?_
    refine lv_iconst (v := 1) hx hb dX11_session_132 (by decide) ?_
    refine qC_Vi (As := [.int a1, .int 1]) (rest := []) C0 (c_X6_holds l w23 h) (cwV 2 C0.2.2.2.2 (tbV mC7_6_90 ⟨mC7_6_91, mC7_6_92, mC7_1_5, mC7_6_93⟩) rfl rfl rfl (by decide +kernel) ⟨Nat.le_of_ble_eq_true rfl, Nat.le_of_ble_eq_true rfl⟩) (rcC_13 hR w23) hR hT hS rfl hl.1 rfl (Nat.le_of_ble_eq_true rfl) dX11_session_133 ⟨Nat.le_of_ble_eq_true rfl, Nat.le_of_ble_eq_true rfl⟩ (fun r24 S25 H locs h hR hS => ?_)
    refine vx_ret (W.widen (k := 2) (n := 12) (Nat.le_of_ble_eq_true rfl) (Nat.le_of_ble_eq_true rfl) ?_); exact rtC_i C0 hr hlk hR hS h dX11_session_136
  have h := h.2 c22
  by_cases c26 : a2 = 8
  · have h := h.1 c26
    refine lv_tableIn (tgt := 137) hx hb dX11_session_16 (by rw [c26]; decide) (by rw [c26]; decide) (by rw [c26]; rfl) (by decide) ?_
    refine lv_aload_n hx hb dX11_session_137 rfl (lv_at hl 1 rfl) ?_
    refine gC_0_4 C0 hR Nat.zero_lt_one tbs_wsX110 mC7_2_213 dX11_session_138 ?_
    have w27 : (S2.2 0 0 4) < 3 := hR.2.1.2.1
    refine lv_iload_n hx hb dX11_session_141 rfl (lv_at hl 2 rfl) ?_
    refine lv_iconst (v := 2) hx hb dX11_session_142 (by decide) ?_
    refine qC_Vi (As := [.int a1, .int 2]) (rest := []) C0 (c_X6_holds l w27 h) (cwV 2 C0.2.2.2.2 (tbV mC7_6_90 ⟨mC7_6_91, mC7_6_92, mC7_1_5, mC7_6_93⟩) rfl rfl rfl (by decide +kernel) ⟨Nat.le_of_ble_eq_true rfl, Nat.le_of_ble_eq_true rfl⟩) (rcC_13 hR w27) hR hT hS rfl hl.1 rfl (Nat.le_of_ble_eq_true rfl) dX11_session_143 ⟨Nat.le_of_ble_eq_true rfl, Nat.le_of_ble_eq_true rfl⟩ (fun r28 S29 H locs h hR hS => ?_)
    refine vx_ret (W.widen (k := 2) (n := 12) (Nat.le_of_ble_eq_true rfl) (Nat.le_of_ble_eq_true rfl) ?_); exact rtC_i C0 hr hlk hR hS h dX11_session_146
  have h := h.2 c26
  by_cases c30 : a2 = 9
  · have h := h.1 c30
    refine lv_tableIn (tgt := 147) hx hb dX11_session_16 (by rw [c30]; decide) (by rw [c30]; decide) (by rw [c30]; rfl) (by decide) ?_
    refine lv_aload_n hx hb dX11_session_147 rfl (lv_at hl 1 rfl) ?_
    refine gC_0_4 C0 hR Nat.zero_lt_one tbs_wsX110 mC7_2_213 dX11_session_148 ?_
    have w31 : (S2.2 0 0 4) < 3 := hR.2.1.2.1
    refine lv_iload_n hx hb dX11_session_151 rfl (lv_at hl 2 rfl) ?_
    refine lv_iconst (v := 3) hx hb dX11_session_152 (by decide) ?_
    refine qC_Vi (As := [.int a1, .int 3]) (rest := []) C0 (c_X6_holds l w31 h) (cwV 2 C0.2.2.2.2 (tbV mC7_6_90 ⟨mC7_6_91, mC7_6_92, mC7_1_5, mC7_6_93⟩) rfl rfl rfl (by decide +kernel) ⟨Nat.le_of_ble_eq_true rfl, Nat.le_of_ble_eq_true rfl⟩) (rcC_13 hR w31) hR hT hS rfl hl.1 rfl (Nat.le_of_ble_eq_true rfl) dX11_session_153 ⟨Nat.le_of_ble_eq_true rfl, Nat.le_of_ble_eq_true rfl⟩ (fun r32 S33 H locs h hR hS => ?_)
    refine vx_ret (W.widen (k := 2) (n := 12) (Nat.le_of_ble_eq_true rfl) (Nat.le_of_ble_eq_true rfl) ?_); exact rtC_i C0 hr hlk hR hS h dX11_session_156
  have h := h.2 c30
  refine lv_tableOut (tgt := 157) hx hb dX11_session_16 (by have a9 := fun j : Int32 => (Int32.toInt_inj (x := a2) (y := j)).mp; have b9 : ∀ j : Int32, a2 ≠ j → (a2 : Int32).toInt ≠ j.toInt := fun j n9 q9 => n9 (a9 j q9); have c7_ := b9 _ c7; have c9_ := b9 _ c9; have c10_ := b9 _ c10; have c14_ := b9 _ c14; have c15_ := b9 _ c15; have c16_ := b9 _ c16; have c18_ := b9 _ c18; have c22_ := b9 _ c22; have c26_ := b9 _ c26; have c30_ := b9 _ c30; simp at c7_ c9_ c10_ c14_ c15_ c16_ c18_ c22_ c26_ c30_; omega) (by decide) ?_
  exact w_throw_4 C0 hl0 hX0 hT hR hS hl.1 hexc hlk h mC7_6_46 mC7_1_26 dX11_session_157 dX11_session_160 dX11_session_161 dX11_session_164 (Nat.le_of_ble_eq_true rfl) (Nat.le_of_ble_eq_true rfl) (Nat.le_of_ble_eq_true rfl) (Nat.le_of_ble_eq_true rfl) (Nat.le_of_ble_eq_true rfl) (Nat.le_of_ble_eq_true rfl)

def rm_X11_plan : Room := { frames := 6, cells := 2, slots := 12, locals := 89 }
def B_X11_plan_15 (S : sSt) (k : Int32 → sSt → Prop) (kx : String → sSt → Prop) : Prop := kx "java/lang/IndexOutOfBoundsException" S
set_option maxHeartbeats 4000000 in
set_option maxRecDepth 100000 in
theorem Bw_X11_plan_15 {p : Program} {l : Launch} {e : Env} {s : State} {m : MethodId} {args : Array Value} {below : List Frame} {meth : Method} {c : Code} {D : va_G} {cy : Nat → ClassId} {b z : Nat} {tx : TX} (C0 : CallFix p m c cX11_plan 4 s args TB RX11) (hr : meth.sig.returnType = (some .int)) (hlk : meth.locks = false) (hT : TxR tx s) (hl0 : l.stackTraces = false) (hX0 : TxP tx b z s s.heap) (hexc : ∀ x ∈ c.exceptionTable.toList, False) {k : Int32 → sSt → Prop} {kx : String → sSt → Prop} : ∀ (S : sSt) (H : Heap) (locs : List Loc) (ls : Array Slot) , B_X11_plan_15 S k kx → RelC D cy b z tx S s H → va_S (gA b 709 z) s.heap H locs → lv_has ls 4 [] → W p l e rm_X11_plan s m args below meth c H locs 0 0 (vx_MQ below (PiC D cy b z tx k) (XeC D cy b z tx kx) args s 2 12 (gA b 709 z)) (F0 m 15 ls []) := by
  intro S H locs ls h hR hS hl
  have hx := C0.1
  have hb := C0.2.1
  unfold B_X11_plan_15 at h
  exact w_throw_2 C0 hl0 hX0 hT hR hS hl.1 hexc hlk h mC7_4_137 mC7_1_23 dX11_plan_15 dX11_plan_18 dX11_plan_19 dX11_plan_22 (Nat.le_of_ble_eq_true rfl) (Nat.le_of_ble_eq_true rfl) (Nat.le_of_ble_eq_true rfl) (Nat.le_of_ble_eq_true rfl) (Nat.le_of_ble_eq_true rfl) (Nat.le_of_ble_eq_true rfl)
def F_X11_plan (a1 : Int32) (a2 : Int32) (S : sSt) (k : Int32 → sSt → Prop) (kx : String → sSt → Prop) : Prop := ((a1 < 0 → B_X11_plan_15 S k kx) ∧ (¬ a1 < 0 → ((a1 < (S.1 13 (S.2 0 0 4) 8) → ix a1 4 (fun j6 => ((a2 = 0 → k (S.1 25 (4 * (S.2 0 0 4) + j6) 0) S) ∧ (¬ a2 = 0 → ((a2 = 1 → k (S.1 25 (4 * (S.2 0 0 4) + j6) 1) S) ∧ (¬ a2 = 1 → ((a2 = 2 → k (S.1 25 (4 * (S.2 0 0 4) + j6) 5) S) ∧ (¬ a2 = 2 → ((a2 = 3 → k (S.1 25 (4 * (S.2 0 0 4) + j6) 6) S) ∧ (¬ a2 = 3 → ((a2 = 4 → k (S.1 25 (4 * (S.2 0 0 4) + j6) 7) S) ∧ (¬ a2 = 4 → ((a2 = 5 → F_X4_timeOf (4 * (S.2 0 0 4) + j6) ((S.1 25 (4 * (S.2 0 0 4) + j6) 7) + 1) S (fun r14 S15 => k r14 S15)) ∧ (¬ a2 = 5 → kx "java/util/NoSuchElementException" S)))))))))))))) ∧ (¬ a1 < (S.1 13 (S.2 0 0 4) 8) → B_X11_plan_15 S k kx))))
set_option maxHeartbeats 4000000 in
set_option maxRecDepth 100000 in
theorem c_X11_plan (l : Launch) (hl0 : l.stackTraces = false) {D : va_G} {cy : Nat → ClassId} {b z : Nat} {tx : TX} {a1 : Int32} {a2 : Int32} {S : sSt} {k : Int32 → sSt → Prop} {kx : String → sSt → Prop} (h : F_X11_plan a1 a2 S k kx) : vx_Met l yX11_plan (Cond.code yX11_plan cX11_plan 4 (some .int) :: TB) rm_X11_plan (va_Pc [.ref (b + adC 0 0), .int a1, .int a2] (fun U => RelC D cy b z tx S U U.heap ∧ TxR tx U)) (PiC D cy b z tx k) (XeC D cy b z tx kx) 2 12 (gA b 709 z) := by
  refine vx_ofW (cc := cX11_plan) (maxL := 4) (ret := (some .int)) (by decide) rfl ?_
  intro p e s m args below meth c s₁ B hml hexc hv
  obtain ⟨rfl, hR, hT⟩ := hv
  have hX0 := hR.2.2
  have C0 : CallFix p m c cX11_plan 4 s _ TB RX11 := ⟨B.exec, B.bytes, hml, findClass_of_methodNamed B.named, fun w hw => atoms_spec B.pre w (List.mem_cons_of_mem _ hw)⟩
  have hr := B.returns
  have hlk := B.notSynchronized
  have hx := C0.1
  have hb := C0.2.1
  have hS : va_S (gA b 709 z) s.heap s.heap [] := va_S.rf
  have hl := lv_entry ([.ref (b + adC 0 0), .int a1, .int a2]) (n := 4) (Nat.le_of_ble_eq_true rfl)
  rw [lg_entry_eq]
  generalize (lg_sl ([.ref (b + adC 0 0), .int a1, .int a2]) ++ List.replicate (4 - (lg_sl ([.ref (b + adC 0 0), .int a1, .int a2])).length) Slot.unset).toArray = ls at hl ⊢
  have hl : lv_has ls 4 [(0, .ref (b + adC 0 0)), (1, .int a1), (2, .int a2)] := hl
  show W p l e rm_X11_plan s m _ below meth c s.heap [] 0 0 (vx_MQ below (PiC D cy b z tx k) (XeC D cy b z tx kx) _ s 2 12 (gA b 709 z)) _
  unfold F_X11_plan at h
  refine lv_iload_n hx hb dX11_plan_0 rfl (lv_at hl 1 rfl) ?_
  refine lv_if_lt (tgt := 15) hx hb dX11_plan_1 (by decide) (fun c1 => ?_) (fun c1 => ?_)
  · have h := h.1 c1
    refine W.widen (k := 0) (n := 0) (Nat.le_of_ble_eq_true rfl) (Nat.le_of_ble_eq_true rfl) ?_
    exact Bw_X11_plan_15 C0 hr hlk hT hl0 hX0 hexc S _ _ _ h hR hS (lv_sub hl [] rfl)
  · have h := h.2 c1
    refine lv_iload_n hx hb dX11_plan_4 rfl (lv_at hl 1 rfl) ?_
    refine lv_aload_n hx hb dX11_plan_5 rfl (lv_at hl 0 rfl) ?_
    refine gC_0_4 C0 hR Nat.zero_lt_one tbs_wsX110 mC7_2_213 dX11_plan_6 ?_
    have w2 : (S.2 0 0 4) < 3 := hR.2.1.2.1
    refine gCn_13_8 C0 hR w2 tbs_wsX60 mC7_2_155 hT dX11_plan_9 ?_
    refine lv_icmp_lt (tgt := 23) hx hb dX11_plan_12 (by decide) (fun c3 => ?_) (fun c3 => ?_)
    · have h := h.1 c3
      refine lv_aload_n hx hb dX11_plan_23 rfl (lv_at hl 0 rfl) ?_
      refine gC_0_4 C0 hR Nat.zero_lt_one tbs_wsX110 mC7_2_213 dX11_plan_24 ?_
      have w4 : (S.2 0 0 4) < 3 := hR.2.1.2.1
      refine gCn_13_2 C0 hR w4 tbs_wsX60 mC7_2_135 hT dX11_plan_27 ?_
      have w5 : (S.2 0 0 4) < 3 := by omega
      refine lv_iload_n hx hb dX11_plan_30 rfl (lv_at hl 1 rfl) ?_
      obtain ⟨j6, hj6, ej6, h⟩ := h
      refine lC_16 C0 hR w5 hj6 ej6 dX11_plan_31 ?_
      have w7 : (4 * (S.2 0 0 4) + j6) < 12 := by omega
      refine lv_astore_n (lv' := [(3, .ref (b + adC 25 (4 * (S.2 0 0 4) + j6))), (0, .ref (b + adC 0 0)), (1, .int a1), (2, .int a2)]) hx hb dX11_plan_32 rfl hl (by decide) rfl (fun ls hl => ?_)
      refine lv_iload_n hx hb dX11_plan_33 rfl (lv_at hl 3 rfl) ?_
      by_cases c8 : a2 = 0
      · have h := h.1 c8
        refine lv_tableIn (tgt := 72) hx hb dX11_plan_34 (by rw [c8]; decide) (by rw [c8]; decide) (by rw [c8]; rfl) (by decide) ?_
        refine lv_aload_n hx hb dX11_plan_72 rfl (lv_at hl 0 rfl) ?_
        refine gCn_25_0 C0 hR w7 tbs_wsX40 mC7_2_86 hT dX11_plan_73 ?_
        refine vx_ret (W.widen (k := 2) (n := 12) (Nat.le_of_ble_eq_true rfl) (Nat.le_of_ble_eq_true rfl) ?_); exact rtC_i C0 hr hlk hR hS h dX11_plan_76
      have h := h.2 c8
      by_cases c9 : a2 = 1
      · have h := h.1 c9
        refine lv_tableIn (tgt := 77) hx hb dX11_plan_34 (by rw [c9]; decide) (by rw [c9]; decide) (by rw [c9]; rfl) (by decide) ?_
        refine lv_aload_n hx hb dX11_plan_77 rfl (lv_at hl 0 rfl) ?_
        refine gCn_25_1 C0 hR w7 tbs_wsX40 mC7_2_89 hT dX11_plan_78 ?_
        refine vx_ret (W.widen (k := 2) (n := 12) (Nat.le_of_ble_eq_true rfl) (Nat.le_of_ble_eq_true rfl) ?_); exact rtC_i C0 hr hlk hR hS h dX11_plan_81
      have h := h.2 c9
      by_cases c10 : a2 = 2
      · have h := h.1 c10
        refine lv_tableIn (tgt := 82) hx hb dX11_plan_34 (by rw [c10]; decide) (by rw [c10]; decide) (by rw [c10]; rfl) (by decide) ?_
        refine lv_aload_n hx hb dX11_plan_82 rfl (lv_at hl 0 rfl) ?_
        refine gCn_25_5 C0 hR w7 tbs_wsX40 mC7_2_101 hT dX11_plan_83 ?_
        refine vx_ret (W.widen (k := 2) (n := 12) (Nat.le_of_ble_eq_true rfl) (Nat.le_of_ble_eq_true rfl) ?_); exact rtC_i C0 hr hlk hR hS h dX11_plan_86
      have h := h.2 c10
      by_cases c11 : a2 = 3
      · have h := h.1 c11
        refine lv_tableIn (tgt := 87) hx hb dX11_plan_34 (by rw [c11]; decide) (by rw [c11]; decide) (by rw [c11]; rfl) (by decide) ?_
        refine lv_aload_n hx hb dX11_plan_87 rfl (lv_at hl 0 rfl) ?_
        refine gCn_25_6 C0 hR w7 tbs_wsX40 mC7_2_104 hT dX11_plan_88 ?_
        refine vx_ret (W.widen (k := 2) (n := 12) (Nat.le_of_ble_eq_true rfl) (Nat.le_of_ble_eq_true rfl) ?_); exact rtC_i C0 hr hlk hR hS h dX11_plan_91
      have h := h.2 c11
      by_cases c12 : a2 = 4
      · have h := h.1 c12
        refine lv_tableIn (tgt := 92) hx hb dX11_plan_34 (by rw [c12]; decide) (by rw [c12]; decide) (by rw [c12]; rfl) (by decide) ?_
        refine lv_aload_n hx hb dX11_plan_92 rfl (lv_at hl 0 rfl) ?_
        refine gCn_25_7 C0 hR w7 tbs_wsX40 mC7_2_108 hT dX11_plan_93 ?_
        refine vx_ret (W.widen (k := 2) (n := 12) (Nat.le_of_ble_eq_true rfl) (Nat.le_of_ble_eq_true rfl) ?_); exact rtC_i C0 hr hlk hR hS h dX11_plan_96
      have h := h.2 c12
      by_cases c13 : a2 = 5
      · have h := h.1 c13
        refine lv_tableIn (tgt := 97) hx hb dX11_plan_34 (by rw [c13]; decide) (by rw [c13]; decide) (by rw [c13]; rfl) (by decide) ?_
        refine lv_aload_n hx hb dX11_plan_97 rfl (lv_at hl 0 rfl) ?_
        refine lv_aload_n hx hb dX11_plan_98 rfl (lv_at hl 0 rfl) ?_
        refine gCn_25_7 C0 hR w7 tbs_wsX40 mC7_2_108 hT dX11_plan_99 ?_
        refine lv_iconst (v := 1) hx hb dX11_plan_102 (by decide) ?_
        refine lv_iadd hx hb dX11_plan_103 ?_
        refine qC_Vi (As := [.int ((S.1 25 (4 * (S.2 0 0 4) + j6) 7) + 1)]) (rest := []) C0 (c_X4_timeOf l w7 h) (cwV 1 C0.2.2.2.2 (tbV mC7_6_105 ⟨mC7_6_14, mC7_6_15, mC7_1_10, mC7_6_16⟩) rfl rfl rfl (by decide +kernel) ⟨Nat.le_of_ble_eq_true rfl, Nat.le_of_ble_eq_true rfl⟩) (rcC_25 hR w7) hR hT hS rfl hl.1 rfl (Nat.le_of_ble_eq_true rfl) dX11_plan_104 ⟨Nat.le_of_ble_eq_true rfl, Nat.le_of_ble_eq_true rfl⟩ (fun r14 S15 H locs h hR hS => ?_)
        refine vx_ret (W.widen (k := 2) (n := 12) (Nat.le_of_ble_eq_true rfl) (Nat.le_of_ble_eq_true rfl) ?_); exact rtC_i C0 hr hlk hR hS h dX11_plan_107
      have h := h.2 c13
      refine lv_tableOut (tgt := 108) hx hb dX11_plan_34 (by have a9 := fun j : Int32 => (Int32.toInt_inj (x := a2) (y := j)).mp; have b9 : ∀ j : Int32, a2 ≠ j → (a2 : Int32).toInt ≠ j.toInt := fun j n9 q9 => n9 (a9 j q9); have c8_ := b9 _ c8; have c9_ := b9 _ c9; have c10_ := b9 _ c10; have c11_ := b9 _ c11; have c12_ := b9 _ c12; have c13_ := b9 _ c13; simp at c8_ c9_ c10_ c11_ c12_ c13_; omega) (by decide) ?_
      exact w_throw_4 C0 hl0 hX0 hT hR hS hl.1 hexc hlk h mC7_6_46 mC7_1_26 dX11_plan_108 dX11_plan_111 dX11_plan_112 dX11_plan_115 (Nat.le_of_ble_eq_true rfl) (Nat.le_of_ble_eq_true rfl) (Nat.le_of_ble_eq_true rfl) (Nat.le_of_ble_eq_true rfl) (Nat.le_of_ble_eq_true rfl) (Nat.le_of_ble_eq_true rfl)
    · have h := h.2 c3
      refine W.widen (k := 0) (n := 0) (Nat.le_of_ble_eq_true rfl) (Nat.le_of_ble_eq_true rfl) ?_
      exact Bw_X11_plan_15 C0 hr hlk hT hl0 hX0 hexc S _ _ _ h hR hS (lv_sub hl [] rfl)

def rm_X11_may : Room := { frames := 7, cells := 2, slots := 12, locals := 112 }
def F_X11_may (a1 : Int32) (a2 : Int32) (S : sSt) (k : Int32 → sSt → Prop) (kx : String → sSt → Prop) : Prop := F_X11_needSession a1 S (fun S2 => F_X11_needJob a1 a2 S2 (fun r4 S5 => F_X0_hindrance (S2.2 0 0 4) r4 a1 S5 (fun r6 S7 => ((¬ r6 = 0 → k 0 S7) ∧ (r6 = 0 → k 1 S7)))) kx) kx
set_option maxHeartbeats 4000000 in
set_option maxRecDepth 100000 in
theorem c_X11_may (l : Launch) (hl0 : l.stackTraces = false) {D : va_G} {cy : Nat → ClassId} {b z : Nat} {tx : TX} {a1 : Int32} {a2 : Int32} {S : sSt} {k : Int32 → sSt → Prop} {kx : String → sSt → Prop} (h : F_X11_may a1 a2 S k kx) : vx_Met l yX11_may (Cond.code yX11_may cX11_may 3 (some .boolean) :: TB) rm_X11_may (va_Pc [.ref (b + adC 0 0), .int a1, .int a2] (fun U => RelC D cy b z tx S U U.heap ∧ TxR tx U)) (PiC D cy b z tx k) (XeC D cy b z tx kx) 2 12 (gA b 709 z) := by
  refine vx_ofW (cc := cX11_may) (maxL := 3) (ret := (some .boolean)) (by decide) rfl ?_
  intro p e s m args below meth c s₁ B hml hexc hv
  obtain ⟨rfl, hR, hT⟩ := hv
  have hX0 := hR.2.2
  have C0 : CallFix p m c cX11_may 3 s _ TB RX11 := ⟨B.exec, B.bytes, hml, findClass_of_methodNamed B.named, fun w hw => atoms_spec B.pre w (List.mem_cons_of_mem _ hw)⟩
  have hr := B.returns
  have hlk := B.notSynchronized
  have hx := C0.1
  have hb := C0.2.1
  have hS : va_S (gA b 709 z) s.heap s.heap [] := va_S.rf
  have hl := lv_entry ([.ref (b + adC 0 0), .int a1, .int a2]) (n := 3) (Nat.le_of_ble_eq_true rfl)
  rw [lg_entry_eq]
  generalize (lg_sl ([.ref (b + adC 0 0), .int a1, .int a2]) ++ List.replicate (3 - (lg_sl ([.ref (b + adC 0 0), .int a1, .int a2])).length) Slot.unset).toArray = ls at hl ⊢
  have hl : lv_has ls 3 [(0, .ref (b + adC 0 0)), (1, .int a1), (2, .int a2)] := hl
  show W p l e rm_X11_may s m _ below meth c s.heap [] 0 0 (vx_MQ below (PiC D cy b z tx k) (XeC D cy b z tx kx) _ s 2 12 (gA b 709 z)) _
  unfold F_X11_may at h
  refine lv_aload_n hx hb dX11_may_0 rfl (lv_at hl 0 rfl) ?_
  refine lv_iload_n hx hb dX11_may_1 rfl (lv_at hl 1 rfl) ?_
  refine qx_Vv (As := [.int a1]) (rest := []) C0 hlk hexc (c_X11_needSession l hl0 h) (cwV 1 C0.2.2.2.2 (tbV mC7_4_133 ⟨mC7_4_135, mpC7_1_5, mC7_1_1, mC7_4_136⟩) rfl rfl rfl (by decide +kernel) ⟨Nat.le_of_ble_eq_true rfl, Nat.le_of_ble_eq_true rfl⟩) (rcC_0 hR Nat.zero_lt_one) hR hT hS rfl hl.1 rfl (Nat.le_of_ble_eq_true rfl) dX11_may_2 ⟨Nat.le_of_ble_eq_true rfl, Nat.le_of_ble_eq_true rfl⟩ ⟨Nat.le_of_ble_eq_true rfl, Nat.le_of_ble_eq_true rfl⟩ (fun S2 H locs h hR hS => ?_)
  refine lv_aload_n hx hb dX11_may_5 rfl (lv_at hl 0 rfl) ?_
  refine gC_0_4 C0 hR Nat.zero_lt_one tbs_wsX110 mC7_2_213 dX11_may_6 ?_
  have w3 : (S2.2 0 0 4) < 3 := hR.2.1.2.1
  refine lv_aload_n hx hb dX11_may_9 rfl (lv_at hl 0 rfl) ?_
  refine lv_iload_n hx hb dX11_may_10 rfl (lv_at hl 1 rfl) ?_
  refine lv_iload_n hx hb dX11_may_11 rfl (lv_at hl 2 rfl) ?_
  refine qx_Vr (As := [.int a1, .int a2]) (rest := [.ref (b + adC 13 (S2.2 0 0 4))]) C0 hlk hexc (c_X11_needJob l hl0 h) (cwV 2 C0.2.2.2.2 (tbV mC7_5_134 ⟨mC7_5_136, mpC7_1_12, mC7_1_1, mC7_5_137⟩) rfl rfl rfl (by decide +kernel) ⟨Nat.le_of_ble_eq_true rfl, Nat.le_of_ble_eq_true rfl⟩) (rcC_0 hR Nat.zero_lt_one) hR hT hS rfl hl.1 rfl (Nat.le_of_ble_eq_true rfl) dX11_may_12 ⟨Nat.le_of_ble_eq_true rfl, Nat.le_of_ble_eq_true rfl⟩ ⟨Nat.le_of_ble_eq_true rfl, Nat.le_of_ble_eq_true rfl⟩ (fun r4 S5 H locs vr4 h hR hS => ?_)
  refine lv_iload_n hx hb dX11_may_15 rfl (lv_at hl 1 rfl) ?_
  refine qC_Si (As := [.ref (b + adC 13 (S2.2 0 0 4)), .ref (b + adC 21 r4), .int a1]) (rest := []) C0 (c_X0_hindrance l w3 vr4 h) (va_cwS 3 C0.2.2.2.2 (tbS mC7_6_113 ⟨mC7_5_77, mC7_1_4, mC7_5_78⟩) rfl rfl rfl (by decide +kernel) ⟨Nat.le_of_ble_eq_true rfl, Nat.le_of_ble_eq_true rfl⟩) hR hT hS rfl hl.1 rfl (Nat.le_of_ble_eq_true rfl) dX11_may_16 ⟨Nat.le_of_ble_eq_true rfl, Nat.le_of_ble_eq_true rfl⟩ (fun r6 S7 H locs h hR hS => ?_)
  refine lv_if_ne (tgt := 26) hx hb dX11_may_19 (by decide) (fun c8 => ?_) (fun c8 => ?_)
  · have h := h.1 c8
    refine lv_iconst (v := 0) hx hb dX11_may_26 (by decide) ?_
    refine vx_ret (W.widen (k := 2) (n := 12) (Nat.le_of_ble_eq_true rfl) (Nat.le_of_ble_eq_true rfl) ?_); exact rtC_z C0 hr hlk hR hS (by decide) h dX11_may_27
  · have h := h.2 c8
    refine lv_iconst (v := 1) hx hb dX11_may_22 (by decide) ?_
    refine lv_goto (tgt := 27) hx hb dX11_may_23 (by decide) ?_
    refine vx_ret (W.widen (k := 2) (n := 12) (Nat.le_of_ble_eq_true rfl) (Nat.le_of_ble_eq_true rfl) ?_); exact rtC_z C0 hr hlk hR hS (by decide) h dX11_may_27

def rm_X0_pickAt : Room := { frames := 0, cells := 0, slots := 0, locals := 0 }
def B_X0_pickAt_12 (S : sSt) (k : Int32 → sSt → Prop) : Prop := k (-1) S
set_option maxHeartbeats 4000000 in
set_option maxRecDepth 100000 in
theorem Bw_X0_pickAt_12 {p : Program} {l : Launch} {e : Env} {s : State} {m : MethodId} {args : Array Value} {below : List Frame} {meth : Method} {c : Code} {D : va_G} {cy : Nat → ClassId} {b z : Nat} {tx : TX} (C0 : CallFix p m c cX0_pickAt 2 s args TB RX0) (hr : meth.sig.returnType = (some .int)) (hlk : meth.locks = false) (hT : TxR tx s) {k : Int32 → sSt → Prop} : ∀ (S : sSt) (H : Heap) (locs : List Loc) (ls : Array Slot) , B_X0_pickAt_12 S k → RelC D cy b z tx S s H → va_S (gA b 709 z) s.heap H locs → lv_has ls 2 [] → W p l e rm_X0_pickAt s m args below meth c H locs 0 0 (MQ below (PiC D cy b z tx k) args s 0 0 (gA b 709 z)) (F0 m 12 ls []) := by
  intro S H locs ls h hR hS hl
  have hx := C0.1
  have hb := C0.2.1
  unfold B_X0_pickAt_12 at h
  refine lv_iconst (v := (-1)) hx hb dX0_pickAt_12 (by decide) ?_
  refine lv_goto (tgt := 22) hx hb dX0_pickAt_13 (by decide) ?_
  exact rtC_i C0 hr hlk hR hS h dX0_pickAt_22
def F_X0_pickAt (a1 : Int32) (S : sSt) (k : Int32 → sSt → Prop) : Prop := ((a1 < 0 → B_X0_pickAt_12 S k) ∧ (¬ a1 < 0 → ((a1 < (S.1 9 0 3) → ix a1 6 (fun j3 => k (S.1 10 0 j3) S)) ∧ (¬ a1 < (S.1 9 0 3) → B_X0_pickAt_12 S k))))
set_option maxHeartbeats 4000000 in
set_option maxRecDepth 100000 in
theorem c_X0_pickAt (l : Launch) {D : va_G} {cy : Nat → ClassId} {b z : Nat} {tx : TX} {a1 : Int32} {S : sSt} {k : Int32 → sSt → Prop} (h : F_X0_pickAt a1 S k) : Met l yX0_pickAt (Cond.code yX0_pickAt cX0_pickAt 2 (some .int) :: TB) rm_X0_pickAt (va_Pc [.ref (b + adC 9 0), .int a1] (fun U => RelC D cy b z tx S U U.heap ∧ TxR tx U)) (PiC D cy b z tx k) 0 0 (gA b 709 z) := by
  refine Met.ofW (cc := cX0_pickAt) (maxL := 2) (ret := (some .int)) (by decide) rfl ?_
  intro p e s m args below meth c s₁ B hml hv
  obtain ⟨rfl, hR, hT⟩ := hv
  have C0 : CallFix p m c cX0_pickAt 2 s _ TB RX0 := ⟨B.exec, B.bytes, hml, findClass_of_methodNamed B.named, fun w hw => atoms_spec B.pre w (List.mem_cons_of_mem _ hw)⟩
  have hr := B.returns
  have hlk := B.notSynchronized
  have hx := C0.1
  have hb := C0.2.1
  have hS : va_S (gA b 709 z) s.heap s.heap [] := va_S.rf
  have hl := lv_entry ([.ref (b + adC 9 0), .int a1]) (n := 2) (Nat.le_of_ble_eq_true rfl)
  rw [lg_entry_eq]
  generalize (lg_sl ([.ref (b + adC 9 0), .int a1]) ++ List.replicate (2 - (lg_sl ([.ref (b + adC 9 0), .int a1])).length) Slot.unset).toArray = ls at hl ⊢
  have hl : lv_has ls 2 [(0, .ref (b + adC 9 0)), (1, .int a1)] := hl
  show W p l e rm_X0_pickAt s m _ below meth c s.heap [] 0 0 (MQ below (PiC D cy b z tx k) _ s 0 0 (gA b 709 z)) _
  unfold F_X0_pickAt at h
  refine lv_iload_n hx hb dX0_pickAt_0 rfl (lv_at hl 1 rfl) ?_
  refine lv_if_lt (tgt := 12) hx hb dX0_pickAt_1 (by decide) (fun c1 => ?_) (fun c1 => ?_)
  · have h := h.1 c1
    exact Bw_X0_pickAt_12 C0 hr hlk hT S _ _ _ h hR hS (lv_sub hl [] rfl)
  · have h := h.2 c1
    refine lv_iload_n hx hb dX0_pickAt_4 rfl (lv_at hl 1 rfl) ?_
    refine lv_aload_n hx hb dX0_pickAt_5 rfl (lv_at hl 0 rfl) ?_
    refine gC_9_3 C0 hR Nat.zero_lt_one tbs_wsX00 mC7_1_106 dX0_pickAt_6 ?_
    refine lv_icmp_lt (tgt := 16) hx hb dX0_pickAt_9 (by decide) (fun c2 => ?_) (fun c2 => ?_)
    · have h := h.1 c2
      refine lv_aload_n hx hb dX0_pickAt_16 rfl (lv_at hl 0 rfl) ?_
      refine gC_9_0 C0 hR Nat.zero_lt_one tbs_wsX00 mC7_1_103 dX0_pickAt_17 ?_
      refine lv_iload_n hx hb dX0_pickAt_20 rfl (lv_at hl 1 rfl) ?_
      obtain ⟨j3, hj3, ej3, h⟩ := h
      refine lC_10 C0 hR Nat.zero_lt_one hj3 ej3 dX0_pickAt_21 ?_
      exact rtC_i C0 hr hlk hR hS h dX0_pickAt_22
    · have h := h.2 c2
      exact Bw_X0_pickAt_12 C0 hr hlk hT S _ _ _ h hR hS (lv_sub hl [] rfl)

def rm_X11_next : Room := { frames := 7, cells := 1, slots := 6, locals := 124 }
def F_X11_next (a1 : Int32) (a2 : Int32) (S : sSt) (k : Int32 → sSt → Prop) (kx : String → sSt → Prop) : Prop := F_X11_needSession a1 S (fun S2 => F_X6_copyFrom (S2.2 0 0 5) (S2.2 0 0 4) S2 (fun S6 => F_X0_claimAll (S6.2 0 0 5) a1 S6 (fun S9 => F_X0_pickAt a2 S9 (fun r10 S11 => k r10 S11)))) kx
set_option maxHeartbeats 4000000 in
set_option maxRecDepth 100000 in
theorem c_X11_next (l : Launch) (hl0 : l.stackTraces = false) {D : va_G} {cy : Nat → ClassId} {b z : Nat} {tx : TX} {a1 : Int32} {a2 : Int32} {S : sSt} {k : Int32 → sSt → Prop} {kx : String → sSt → Prop} (h : F_X11_next a1 a2 S k kx) : vx_Met l yX11_next (Cond.code yX11_next cX11_next 3 (some .int) :: TB) rm_X11_next (va_Pc [.ref (b + adC 0 0), .int a1, .int a2] (fun U => RelC D cy b z tx S U U.heap ∧ TxR tx U)) (PiC D cy b z tx k) (XeC D cy b z tx kx) 1 6 (gA b 709 z) := by
  refine vx_ofW (cc := cX11_next) (maxL := 3) (ret := (some .int)) (by decide) rfl ?_
  intro p e s m args below meth c s₁ B hml hexc hv
  obtain ⟨rfl, hR, hT⟩ := hv
  have hX0 := hR.2.2
  have C0 : CallFix p m c cX11_next 3 s _ TB RX11 := ⟨B.exec, B.bytes, hml, findClass_of_methodNamed B.named, fun w hw => atoms_spec B.pre w (List.mem_cons_of_mem _ hw)⟩
  have hr := B.returns
  have hlk := B.notSynchronized
  have hx := C0.1
  have hb := C0.2.1
  have hS : va_S (gA b 709 z) s.heap s.heap [] := va_S.rf
  have hl := lv_entry ([.ref (b + adC 0 0), .int a1, .int a2]) (n := 3) (Nat.le_of_ble_eq_true rfl)
  rw [lg_entry_eq]
  generalize (lg_sl ([.ref (b + adC 0 0), .int a1, .int a2]) ++ List.replicate (3 - (lg_sl ([.ref (b + adC 0 0), .int a1, .int a2])).length) Slot.unset).toArray = ls at hl ⊢
  have hl : lv_has ls 3 [(0, .ref (b + adC 0 0)), (1, .int a1), (2, .int a2)] := hl
  show W p l e rm_X11_next s m _ below meth c s.heap [] 0 0 (vx_MQ below (PiC D cy b z tx k) (XeC D cy b z tx kx) _ s 1 6 (gA b 709 z)) _
  unfold F_X11_next at h
  refine lv_aload_n hx hb dX11_next_0 rfl (lv_at hl 0 rfl) ?_
  refine lv_iload_n hx hb dX11_next_1 rfl (lv_at hl 1 rfl) ?_
  refine qx_Vv (As := [.int a1]) (rest := []) C0 hlk hexc (c_X11_needSession l hl0 h) (cwV 1 C0.2.2.2.2 (tbV mC7_4_133 ⟨mC7_4_135, mpC7_1_5, mC7_1_1, mC7_4_136⟩) rfl rfl rfl (by decide +kernel) ⟨Nat.le_of_ble_eq_true rfl, Nat.le_of_ble_eq_true rfl⟩) (rcC_0 hR Nat.zero_lt_one) hR hT hS rfl hl.1 rfl (Nat.le_of_ble_eq_true rfl) dX11_next_2 ⟨Nat.le_of_ble_eq_true rfl, Nat.le_of_ble_eq_true rfl⟩ ⟨Nat.le_of_ble_eq_true rfl, Nat.le_of_ble_eq_true rfl⟩ (fun S2 H locs h hR hS => ?_)
  refine lv_aload_n hx hb dX11_next_5 rfl (lv_at hl 0 rfl) ?_
  refine gC_0_5 C0 hR Nat.zero_lt_one tbs_wsX110 mC7_2_214 dX11_next_6 ?_
  have w3 : (S2.2 0 0 5) < 3 := hR.2.1.2.2
  refine lv_aload_n hx hb dX11_next_9 rfl (lv_at hl 0 rfl) ?_
  refine gC_0_4 C0 hR Nat.zero_lt_one tbs_wsX110 mC7_2_213 dX11_next_10 ?_
  have w4 : (S2.2 0 0 4) < 3 := hR.2.1.2.1
  refine qC_Vv (As := [.ref (b + adC 13 (S2.2 0 0 4))]) (rest := []) C0 (c_X6_copyFrom l w3 w4 h) (cwV 1 C0.2.2.2.2 (tbV mC7_3_53 ⟨mC7_3_54, mC7_3_55, mC7_1_5, mC7_3_56⟩) rfl rfl rfl (by decide +kernel) ⟨Nat.le_of_ble_eq_true rfl, Nat.le_of_ble_eq_true rfl⟩) (rcC_13 hR w3) hR hT hS rfl hl.1 rfl (Nat.le_of_ble_eq_true rfl) dX11_next_13 ⟨Nat.le_of_ble_eq_true rfl, Nat.le_of_ble_eq_true rfl⟩ (fun S6 H locs h hR hS => ?_)
  refine lv_aload_n hx hb dX11_next_16 rfl (lv_at hl 0 rfl) ?_
  refine gC_0_2 C0 hR Nat.zero_lt_one tbs_wsX110 mC7_2_211 dX11_next_17 ?_
  refine lv_aload_n hx hb dX11_next_20 rfl (lv_at hl 0 rfl) ?_
  refine gC_0_5 C0 hR Nat.zero_lt_one tbs_wsX110 mC7_2_214 dX11_next_21 ?_
  have w7 : (S6.2 0 0 5) < 3 := hR.2.1.2.2
  refine lv_iload_n hx hb dX11_next_24 rfl (lv_at hl 1 rfl) ?_
  refine qC_Vv (As := [.ref (b + adC 13 (S6.2 0 0 5)), .int a1]) (rest := []) C0 (c_X0_claimAll l w7 h) (cwV 2 C0.2.2.2.2 (tbV mC7_5_62 ⟨mC7_5_63, mC7_5_64, mC7_1_4, mC7_5_65⟩) rfl rfl rfl (by decide +kernel) ⟨Nat.le_of_ble_eq_true rfl, Nat.le_of_ble_eq_true rfl⟩) (rcC_9 hR Nat.zero_lt_one) hR hT hS rfl hl.1 rfl (Nat.le_of_ble_eq_true rfl) dX11_next_25 ⟨Nat.le_of_ble_eq_true rfl, Nat.le_of_ble_eq_true rfl⟩ (fun S9 H locs h hR hS => ?_)
  refine lv_aload_n hx hb dX11_next_28 rfl (lv_at hl 0 rfl) ?_
  refine gC_0_2 C0 hR Nat.zero_lt_one tbs_wsX110 mC7_2_211 dX11_next_29 ?_
  refine lv_iload_n hx hb dX11_next_32 rfl (lv_at hl 2 rfl) ?_
  refine qC_Vi (As := [.int a2]) (rest := []) C0 (c_X0_pickAt l h) (cwV 1 C0.2.2.2.2 (tbV mC7_6_121 ⟨mC7_6_122, mC7_6_123, mC7_1_4, mC7_6_124⟩) rfl rfl rfl (by decide +kernel) ⟨Nat.le_of_ble_eq_true rfl, Nat.le_of_ble_eq_true rfl⟩) (rcC_9 hR Nat.zero_lt_one) hR hT hS rfl hl.1 rfl (Nat.le_of_ble_eq_true rfl) dX11_next_33 ⟨Nat.le_of_ble_eq_true rfl, Nat.le_of_ble_eq_true rfl⟩ (fun r10 S11 H locs h hR hS => ?_)
  refine vx_ret (W.widen (k := 1) (n := 6) (Nat.le_of_ble_eq_true rfl) (Nat.le_of_ble_eq_true rfl) ?_); exact rtC_i C0 hr hlk hR hS h dX11_next_36

def rm_X0_hasPicked : Room := { frames := 0, cells := 0, slots := 0, locals := 0 }
def Bb_X0_hasPicked_2 (kk2 : Int32 → Int32 → sSt → Prop) (a1 : Int32) (a2 : Int32) (S : sSt) (k : Int32 → sSt → Prop) : Prop := (((S.1 9 0 3) ≤ a2 → k 0 S) ∧ (¬ (S.1 9 0 3) ≤ a2 → ix a2 6 (fun j2 => ((¬ (S.1 10 0 j2) = a1 → ∀ x4 : Int32, x4 = a2 + 1 → kk2 a1 x4 S) ∧ ((S.1 10 0 j2) = a1 → k 1 S)))))
set_option maxHeartbeats 4000000 in
set_option maxRecDepth 100000 in
theorem Bbw_X0_hasPicked_2 {p : Program} {l : Launch} {e : Env} {s : State} {m : MethodId} {args : Array Value} {below : List Frame} {meth : Method} {c : Code} {D : va_G} {cy : Nat → ClassId} {b z : Nat} {tx : TX} (C0 : CallFix p m c cX0_hasPicked 3 s args TB RX0) (hr : meth.sig.returnType = (some .boolean)) (hlk : meth.locks = false) (hT : TxR tx s) {k : Int32 → sSt → Prop} {kk2 : Int32 → Int32 → sSt → Prop} (ih2 : ∀ (a1 : Int32) (a2 : Int32) (S : sSt) (H : Heap) (locs : List Loc) (ls : Array Slot) , kk2 a1 a2 S → RelC D cy b z tx S s H → va_S (gA b 709 z) s.heap H locs → lv_has ls 3 [(0, .ref (b + adC 9 0)), (1, .int a1), (2, .int a2)] → W p l e rm_X0_hasPicked s m args below meth c H locs 0 0 (MQ below (PiC D cy b z tx k) args s 0 0 (gA b 709 z)) (F0 m 2 ls [])) : ∀ (a1 : Int32) (a2 : Int32) (S : sSt) (H : Heap) (locs : List Loc) (ls : Array Slot) , Bb_X0_hasPicked_2 kk2 a1 a2 S k → RelC D cy b z tx S s H → va_S (gA b 709 z) s.heap H locs → lv_has ls 3 [(0, .ref (b + adC 9 0)), (1, .int a1), (2, .int a2)] → W p l e rm_X0_hasPicked s m args below meth c H locs 0 0 (MQ below (PiC D cy b z tx k) args s 0 0 (gA b 709 z)) (F0 m 2 ls []) := by
  intro a1 a2 S H locs ls h hR hS hl
  have hx := C0.1
  have hb := C0.2.1
  unfold Bb_X0_hasPicked_2 at h
  refine lv_iload_n hx hb dX0_hasPicked_2 rfl (lv_at hl 2 rfl) ?_
  refine lv_aload_n hx hb dX0_hasPicked_3 rfl (lv_at hl 0 rfl) ?_
  refine gC_9_3 C0 hR Nat.zero_lt_one tbs_wsX00 mC7_1_106 dX0_hasPicked_4 ?_
  refine lv_icmp_ge (tgt := 28) hx hb dX0_hasPicked_7 (by decide) (fun c1 => ?_) (fun c1 => ?_)
  · have h := h.1 c1
    refine lv_iconst (v := 0) hx hb dX0_hasPicked_28 (by decide) ?_
    exact rtC_z C0 hr hlk hR hS (by decide) h dX0_hasPicked_29
  · have h := h.2 c1
    refine lv_aload_n hx hb dX0_hasPicked_10 rfl (lv_at hl 0 rfl) ?_
    refine gC_9_0 C0 hR Nat.zero_lt_one tbs_wsX00 mC7_1_103 dX0_hasPicked_11 ?_
    refine lv_iload_n hx hb dX0_hasPicked_14 rfl (lv_at hl 2 rfl) ?_
    obtain ⟨j2, hj2, ej2, h⟩ := h
    refine lC_10 C0 hR Nat.zero_lt_one hj2 ej2 dX0_hasPicked_15 ?_
    refine lv_iload_n hx hb dX0_hasPicked_16 rfl (lv_at hl 1 rfl) ?_
    refine lv_icmp_ne (tgt := 22) hx hb dX0_hasPicked_17 (by decide) (fun c3 => ?_) (fun c3 => ?_)
    · have h := h.1 c3
      obtain ⟨x4, ex4⟩ : ∃ x4 : Int32, x4 = a2 + 1 := ⟨_, rfl⟩
      have h := h x4 ex4
      refine w_iinc (v0 := 1) (lv' := [(2, .int x4), (0, .ref (b + adC 9 0)), (1, .int a1)]) C0 dX0_hasPicked_22 hl (k := 2) rfl (by decide) (by decide) x4 ex4 rfl (fun ls hl => ?_)
      refine lv_goto (tgt := 2) hx hb dX0_hasPicked_25 (by decide) ?_
      exact ih2 a1 x4 S _ _ _  h hR hS (lv_sub hl [1, 2, 0] rfl)
    · have h := h.2 c3
      refine lv_iconst (v := 1) hx hb dX0_hasPicked_20 (by decide) ?_
      exact rtC_z C0 hr hlk hR hS (by decide) h dX0_hasPicked_21
def B_X0_hasPicked_2 (n9 : Nat) (a1 : Int32) (a2 : Int32) (S : sSt) (k : Int32 → sSt → Prop) : Prop := (Nat.rec (motive := fun _ => Int32 → Int32 → sSt → Prop) (fun _ _ _ => False) (fun _ r9 => fun a1 a2 S => Bb_X0_hasPicked_2 r9 a1 a2 S k) n9 : Int32 → Int32 → sSt → Prop) a1 a2 S
theorem B_X0_hasPicked_2_s (n9 : Nat) (a1 : Int32) (a2 : Int32) (S : sSt) (k : Int32 → sSt → Prop) : B_X0_hasPicked_2 (n9 + 1) a1 a2 S k = Bb_X0_hasPicked_2 (fun a1 a2 S => B_X0_hasPicked_2 n9 a1 a2 S k) a1 a2 S k := rfl
set_option maxHeartbeats 4000000 in
set_option maxRecDepth 100000 in
theorem Bw_X0_hasPicked_2 {p : Program} {l : Launch} {e : Env} {s : State} {m : MethodId} {args : Array Value} {below : List Frame} {meth : Method} {c : Code} {D : va_G} {cy : Nat → ClassId} {b z : Nat} {tx : TX} (C0 : CallFix p m c cX0_hasPicked 3 s args TB RX0) (hr : meth.sig.returnType = (some .boolean)) (hlk : meth.locks = false) (hT : TxR tx s) {k : Int32 → sSt → Prop} : ∀ (n9 : Nat), ∀ (a1 : Int32) (a2 : Int32) (S : sSt) (H : Heap) (locs : List Loc) (ls : Array Slot) , B_X0_hasPicked_2 n9 a1 a2 S k → RelC D cy b z tx S s H → va_S (gA b 709 z) s.heap H locs → lv_has ls 3 [(0, .ref (b + adC 9 0)), (1, .int a1), (2, .int a2)] → W p l e rm_X0_hasPicked s m args below meth c H locs 0 0 (MQ below (PiC D cy b z tx k) args s 0 0 (gA b 709 z)) (F0 m 2 ls []) := by
  intro n9
  induction n9 with
  | zero => intro a1 a2 S H locs ls h; exact h.elim
  | succ n9 ih =>
    intro a1 a2 S H locs ls h hR hS hl
    exact Bbw_X0_hasPicked_2 C0 hr hlk hT ih a1 a2 S H locs ls h hR hS hl
def F_X0_hasPicked (a1 : Int32) (S : sSt) (k : Int32 → sSt → Prop) : Prop := B_X0_hasPicked_2 fuel a1 0 S k
set_option maxHeartbeats 4000000 in
set_option maxRecDepth 100000 in
theorem c_X0_hasPicked (l : Launch) {D : va_G} {cy : Nat → ClassId} {b z : Nat} {tx : TX} {a1 : Int32} {S : sSt} {k : Int32 → sSt → Prop} (h : F_X0_hasPicked a1 S k) : Met l yX0_hasPicked (Cond.code yX0_hasPicked cX0_hasPicked 3 (some .boolean) :: TB) rm_X0_hasPicked (va_Pc [.ref (b + adC 9 0), .int a1] (fun U => RelC D cy b z tx S U U.heap ∧ TxR tx U)) (PiC D cy b z tx k) 0 0 (gA b 709 z) := by
  refine Met.ofW (cc := cX0_hasPicked) (maxL := 3) (ret := (some .boolean)) (by decide) rfl ?_
  intro p e s m args below meth c s₁ B hml hv
  obtain ⟨rfl, hR, hT⟩ := hv
  have C0 : CallFix p m c cX0_hasPicked 3 s _ TB RX0 := ⟨B.exec, B.bytes, hml, findClass_of_methodNamed B.named, fun w hw => atoms_spec B.pre w (List.mem_cons_of_mem _ hw)⟩
  have hr := B.returns
  have hlk := B.notSynchronized
  have hx := C0.1
  have hb := C0.2.1
  have hS : va_S (gA b 709 z) s.heap s.heap [] := va_S.rf
  have hl := lv_entry ([.ref (b + adC 9 0), .int a1]) (n := 3) (Nat.le_of_ble_eq_true rfl)
  rw [lg_entry_eq]
  generalize (lg_sl ([.ref (b + adC 9 0), .int a1]) ++ List.replicate (3 - (lg_sl ([.ref (b + adC 9 0), .int a1])).length) Slot.unset).toArray = ls at hl ⊢
  have hl : lv_has ls 3 [(0, .ref (b + adC 9 0)), (1, .int a1)] := hl
  show W p l e rm_X0_hasPicked s m _ below meth c s.heap [] 0 0 (MQ below (PiC D cy b z tx k) _ s 0 0 (gA b 709 z)) _
  unfold F_X0_hasPicked at h
  refine lv_iconst (v := 0) hx hb dX0_hasPicked_0 (by decide) ?_
  refine lv_istore_n (lv' := [(2, .int 0), (0, .ref (b + adC 9 0)), (1, .int a1)]) hx hb dX0_hasPicked_1 rfl hl (by decide) rfl (fun ls hl => ?_)
  exact Bw_X0_hasPicked_2 C0 hr hlk hT fuel a1 0 S _ _ _ h hR hS (lv_sub hl [1, 2, 0] rfl)

def rm_X0_barOfUnclaimed : Room := { frames := 3, cells := 0, slots := 0, locals := 71 }
def F_X0_barOfUnclaimed (a0 : Nat) (a1 : Nat) (a2 : Int32) (S : sSt) (k : Int32 → sSt → Prop) : Prop := F_X0_hindrance a0 a1 a2 S (fun r1 S2 => ((r1 = 0 → ix a2 4 (fun j5 => F_X3_fits ((4 * a0 + j5) + 1) a0 a1 a2 S2 (fun r8 S9 => ((r8 = 0 → k 6 S9) ∧ (¬ r8 = 0 → k 7 S9))))) ∧ (¬ r1 = 0 → k r1 S2)))
set_option maxHeartbeats 4000000 in
set_option maxRecDepth 100000 in
theorem c_X0_barOfUnclaimed (l : Launch) {D : va_G} {cy : Nat → ClassId} {b z : Nat} {tx : TX} {a0 : Nat} {a1 : Nat} {a2 : Int32} {S : sSt} {k : Int32 → sSt → Prop} (av0 : a0 < 3) (av1 : a1 < 72) (h : F_X0_barOfUnclaimed a0 a1 a2 S k) : Met l yX0_barOfUnclaimed (Cond.code yX0_barOfUnclaimed cX0_barOfUnclaimed 5 (some .int) :: TB) rm_X0_barOfUnclaimed (va_Pc [.ref (b + adC 13 a0), .ref (b + adC 21 a1), .int a2] (fun U => RelC D cy b z tx S U U.heap ∧ TxR tx U)) (PiC D cy b z tx k) 0 0 (gA b 709 z) := by
  refine Met.ofW (cc := cX0_barOfUnclaimed) (maxL := 5) (ret := (some .int)) (by decide) rfl ?_
  intro p e s m args below meth c s₁ B hml hv
  obtain ⟨rfl, hR, hT⟩ := hv
  have C0 : CallFix p m c cX0_barOfUnclaimed 5 s _ TB RX0 := ⟨B.exec, B.bytes, hml, findClass_of_methodNamed B.named, fun w hw => atoms_spec B.pre w (List.mem_cons_of_mem _ hw)⟩
  have hr := B.returns
  have hlk := B.notSynchronized
  have hx := C0.1
  have hb := C0.2.1
  have hS : va_S (gA b 709 z) s.heap s.heap [] := va_S.rf
  have hl := lv_entry ([.ref (b + adC 13 a0), .ref (b + adC 21 a1), .int a2]) (n := 5) (Nat.le_of_ble_eq_true rfl)
  rw [lg_entry_eq]
  generalize (lg_sl ([.ref (b + adC 13 a0), .ref (b + adC 21 a1), .int a2]) ++ List.replicate (5 - (lg_sl ([.ref (b + adC 13 a0), .ref (b + adC 21 a1), .int a2])).length) Slot.unset).toArray = ls at hl ⊢
  have hl : lv_has ls 5 [(0, .ref (b + adC 13 a0)), (1, .ref (b + adC 21 a1)), (2, .int a2)] := hl
  show W p l e rm_X0_barOfUnclaimed s m _ below meth c s.heap [] 0 0 (MQ below (PiC D cy b z tx k) _ s 0 0 (gA b 709 z)) _
  unfold F_X0_barOfUnclaimed at h
  refine lv_aload_n hx hb dX0_barOfUnclaimed_0 rfl (lv_at hl 0 rfl) ?_
  refine lv_aload_n hx hb dX0_barOfUnclaimed_1 rfl (lv_at hl 1 rfl) ?_
  refine lv_iload_n hx hb dX0_barOfUnclaimed_2 rfl (lv_at hl 2 rfl) ?_
  refine qC_Si (As := [.ref (b + adC 13 a0), .ref (b + adC 21 a1), .int a2]) (rest := []) C0 (c_X0_hindrance l av0 av1 h) (va_cwS 3 C0.2.2.2.2 (tbS mC7_5_76 ⟨mC7_5_77, mC7_1_4, mC7_5_78⟩) rfl rfl rfl (by decide +kernel) ⟨Nat.le_of_ble_eq_true rfl, Nat.le_of_ble_eq_true rfl⟩) hR hT hS rfl hl.1 rfl (Nat.le_of_ble_eq_true rfl) dX0_barOfUnclaimed_3 ⟨Nat.zero_le _, Nat.zero_le _⟩ (fun r1 S2 H locs h hR hS => ?_)
  refine lv_istore_n (lv' := [(3, .int r1), (0, .ref (b + adC 13 a0)), (1, .ref (b + adC 21 a1)), (2, .int a2)]) hx hb dX0_barOfUnclaimed_6 rfl hl (by decide) rfl (fun ls hl => ?_)
  refine lv_iload_n hx hb dX0_barOfUnclaimed_7 rfl (lv_at hl 0 rfl) ?_
  refine lv_if_eq (tgt := 13) hx hb dX0_barOfUnclaimed_8 (by decide) (fun c3 => ?_) (fun c3 => ?_)
  · have h := h.1 c3
    refine lv_aload_n hx hb dX0_barOfUnclaimed_13 rfl (lv_at hl 1 rfl) ?_
    refine gCn_13_1 C0 hR av0 tbs_wsX60 mC7_2_130 hT dX0_barOfUnclaimed_14 ?_
    have w4 : a0 < 3 := by omega
    refine lv_iload_n hx hb dX0_barOfUnclaimed_17 rfl (lv_at hl 3 rfl) ?_
    obtain ⟨j5, hj5, ej5, h⟩ := h
    refine lC_15 C0 hR w4 hj5 ej5 dX0_barOfUnclaimed_18 ?_
    have w6 : (4 * a0 + j5) < 12 := by omega
    refine gCn_24_0 C0 hR w6 tbs_wsX50 mC7_2_53 hT dX0_barOfUnclaimed_19 ?_
    have w7 : ((4 * a0 + j5) + 1) < 13 := by omega
    refine lv_aload_n hx hb dX0_barOfUnclaimed_22 rfl (lv_at hl 1 rfl) ?_
    refine lv_aload_n hx hb dX0_barOfUnclaimed_23 rfl (lv_at hl 2 rfl) ?_
    refine lv_iload_n hx hb dX0_barOfUnclaimed_24 rfl (lv_at hl 3 rfl) ?_
    refine qC_Vi (As := [.ref (b + adC 13 a0), .ref (b + adC 21 a1), .int a2]) (rest := []) C0 (c_X3_fits l w7 av0 av1 h) (cwV 3 C0.2.2.2.2 (tbV mC7_5_93 ⟨mC7_5_94, mC7_5_95, mC7_1_3, mC7_5_96⟩) rfl rfl rfl (by decide +kernel) ⟨Nat.le_of_ble_eq_true rfl, Nat.le_of_ble_eq_true rfl⟩) (rcC_3 hR w7) hR hT hS rfl hl.1 rfl (Nat.le_of_ble_eq_true rfl) dX0_barOfUnclaimed_25 ⟨Nat.zero_le _, Nat.zero_le _⟩ (fun r8 S9 H locs h hR hS => ?_)
    refine lv_istore (lv' := [(4, .int r8), (3, .int r1), (0, .ref (b + adC 13 a0)), (1, .ref (b + adC 21 a1)), (2, .int a2)]) hx hb dX0_barOfUnclaimed_28 hl (by decide) rfl (fun ls hl => ?_)
    refine lv_iload hx hb dX0_barOfUnclaimed_30 (lv_at hl 0 rfl) ?_
    refine lv_if_eq (tgt := 40) hx hb dX0_barOfUnclaimed_32 (by decide) (fun c10 => ?_) (fun c10 => ?_)
    · have h := h.1 c10
      refine lv_bipush (v := 6) hx hb dX0_barOfUnclaimed_40 (by decide) ?_
      exact rtC_i C0 hr hlk hR hS h dX0_barOfUnclaimed_42
    · have h := h.2 c10
      refine lv_bipush (v := 7) hx hb dX0_barOfUnclaimed_35 (by decide) ?_
      refine lv_goto (tgt := 42) hx hb dX0_barOfUnclaimed_37 (by decide) ?_
      exact rtC_i C0 hr hlk hR hS h dX0_barOfUnclaimed_42
  · have h := h.2 c3
    refine lv_iload_n hx hb dX0_barOfUnclaimed_11 rfl (lv_at hl 0 rfl) ?_
    exact rtC_i C0 hr hlk hR hS h dX0_barOfUnclaimed_12

def rm_X11_bar : Room := { frames := 7, cells := 2, slots := 12, locals := 124 }
def F_X11_bar (a1 : Int32) (a2 : Int32) (S : sSt) (k : Int32 → sSt → Prop) (kx : String → sSt → Prop) : Prop := F_X11_needSession a1 S (fun S2 => F_X11_needJob a1 a2 S2 (fun r3 S4 => F_X6_copyFrom (S4.2 0 0 5) (S4.2 0 0 4) S4 (fun S8 => F_X0_claimAll (S8.2 0 0 5) a1 S8 (fun S11 => F_X0_hasPicked a2 S11 (fun r12 S13 => ((r12 = 0 → F_X0_barOfUnclaimed (S13.2 0 0 4) r3 a1 S13 (fun r16 S17 => k r16 S17)) ∧ (¬ r12 = 0 → k 0 S13)))))) kx) kx
set_option maxHeartbeats 4000000 in
set_option maxRecDepth 100000 in
theorem c_X11_bar (l : Launch) (hl0 : l.stackTraces = false) {D : va_G} {cy : Nat → ClassId} {b z : Nat} {tx : TX} {a1 : Int32} {a2 : Int32} {S : sSt} {k : Int32 → sSt → Prop} {kx : String → sSt → Prop} (h : F_X11_bar a1 a2 S k kx) : vx_Met l yX11_bar (Cond.code yX11_bar cX11_bar 4 (some .int) :: TB) rm_X11_bar (va_Pc [.ref (b + adC 0 0), .int a1, .int a2] (fun U => RelC D cy b z tx S U U.heap ∧ TxR tx U)) (PiC D cy b z tx k) (XeC D cy b z tx kx) 2 12 (gA b 709 z) := by
  refine vx_ofW (cc := cX11_bar) (maxL := 4) (ret := (some .int)) (by decide) rfl ?_
  intro p e s m args below meth c s₁ B hml hexc hv
  obtain ⟨rfl, hR, hT⟩ := hv
  have hX0 := hR.2.2
  have C0 : CallFix p m c cX11_bar 4 s _ TB RX11 := ⟨B.exec, B.bytes, hml, findClass_of_methodNamed B.named, fun w hw => atoms_spec B.pre w (List.mem_cons_of_mem _ hw)⟩
  have hr := B.returns
  have hlk := B.notSynchronized
  have hx := C0.1
  have hb := C0.2.1
  have hS : va_S (gA b 709 z) s.heap s.heap [] := va_S.rf
  have hl := lv_entry ([.ref (b + adC 0 0), .int a1, .int a2]) (n := 4) (Nat.le_of_ble_eq_true rfl)
  rw [lg_entry_eq]
  generalize (lg_sl ([.ref (b + adC 0 0), .int a1, .int a2]) ++ List.replicate (4 - (lg_sl ([.ref (b + adC 0 0), .int a1, .int a2])).length) Slot.unset).toArray = ls at hl ⊢
  have hl : lv_has ls 4 [(0, .ref (b + adC 0 0)), (1, .int a1), (2, .int a2)] := hl
  show W p l e rm_X11_bar s m _ below meth c s.heap [] 0 0 (vx_MQ below (PiC D cy b z tx k) (XeC D cy b z tx kx) _ s 2 12 (gA b 709 z)) _
  unfold F_X11_bar at h
  refine lv_aload_n hx hb dX11_bar_0 rfl (lv_at hl 0 rfl) ?_
  refine lv_iload_n hx hb dX11_bar_1 rfl (lv_at hl 1 rfl) ?_
  refine qx_Vv (As := [.int a1]) (rest := []) C0 hlk hexc (c_X11_needSession l hl0 h) (cwV 1 C0.2.2.2.2 (tbV mC7_4_133 ⟨mC7_4_135, mpC7_1_5, mC7_1_1, mC7_4_136⟩) rfl rfl rfl (by decide +kernel) ⟨Nat.le_of_ble_eq_true rfl, Nat.le_of_ble_eq_true rfl⟩) (rcC_0 hR Nat.zero_lt_one) hR hT hS rfl hl.1 rfl (Nat.le_of_ble_eq_true rfl) dX11_bar_2 ⟨Nat.le_of_ble_eq_true rfl, Nat.le_of_ble_eq_true rfl⟩ ⟨Nat.le_of_ble_eq_true rfl, Nat.le_of_ble_eq_true rfl⟩ (fun S2 H locs h hR hS => ?_)
  refine lv_aload_n hx hb dX11_bar_5 rfl (lv_at hl 0 rfl) ?_
  refine lv_iload_n hx hb dX11_bar_6 rfl (lv_at hl 1 rfl) ?_
  refine lv_iload_n hx hb dX11_bar_7 rfl (lv_at hl 2 rfl) ?_
  refine qx_Vr (As := [.int a1, .int a2]) (rest := []) C0 hlk hexc (c_X11_needJob l hl0 h) (cwV 2 C0.2.2.2.2 (tbV mC7_5_134 ⟨mC7_5_136, mpC7_1_12, mC7_1_1, mC7_5_137⟩) rfl rfl rfl (by decide +kernel) ⟨Nat.le_of_ble_eq_true rfl, Nat.le_of_ble_eq_true rfl⟩) (rcC_0 hR Nat.zero_lt_one) hR hT hS rfl hl.1 rfl (Nat.le_of_ble_eq_true rfl) dX11_bar_8 ⟨Nat.le_of_ble_eq_true rfl, Nat.le_of_ble_eq_true rfl⟩ ⟨Nat.le_of_ble_eq_true rfl, Nat.le_of_ble_eq_true rfl⟩ (fun r3 S4 H locs vr3 h hR hS => ?_)
  refine lv_astore_n (lv' := [(3, .ref (b + adC 21 r3)), (0, .ref (b + adC 0 0)), (1, .int a1), (2, .int a2)]) hx hb dX11_bar_11 rfl hl (by decide) rfl (fun ls hl => ?_)
  refine lv_aload_n hx hb dX11_bar_12 rfl (lv_at hl 1 rfl) ?_
  refine gC_0_5 C0 hR Nat.zero_lt_one tbs_wsX110 mC7_2_214 dX11_bar_13 ?_
  have w5 : (S4.2 0 0 5) < 3 := hR.2.1.2.2
  refine lv_aload_n hx hb dX11_bar_16 rfl (lv_at hl 1 rfl) ?_
  refine gC_0_4 C0 hR Nat.zero_lt_one tbs_wsX110 mC7_2_213 dX11_bar_17 ?_
  have w6 : (S4.2 0 0 4) < 3 := hR.2.1.2.1
  refine qC_Vv (As := [.ref (b + adC 13 (S4.2 0 0 4))]) (rest := []) C0 (c_X6_copyFrom l w5 w6 h) (cwV 1 C0.2.2.2.2 (tbV mC7_3_53 ⟨mC7_3_54, mC7_3_55, mC7_1_5, mC7_3_56⟩) rfl rfl rfl (by decide +kernel) ⟨Nat.le_of_ble_eq_true rfl, Nat.le_of_ble_eq_true rfl⟩) (rcC_13 hR w5) hR hT hS rfl hl.1 rfl (Nat.le_of_ble_eq_true rfl) dX11_bar_20 ⟨Nat.le_of_ble_eq_true rfl, Nat.le_of_ble_eq_true rfl⟩ (fun S8 H locs h hR hS => ?_)
  refine lv_aload_n hx hb dX11_bar_23 rfl (lv_at hl 1 rfl) ?_
  refine gC_0_2 C0 hR Nat.zero_lt_one tbs_wsX110 mC7_2_211 dX11_bar_24 ?_
  refine lv_aload_n hx hb dX11_bar_27 rfl (lv_at hl 1 rfl) ?_
  refine gC_0_5 C0 hR Nat.zero_lt_one tbs_wsX110 mC7_2_214 dX11_bar_28 ?_
  have w9 : (S8.2 0 0 5) < 3 := hR.2.1.2.2
  refine lv_iload_n hx hb dX11_bar_31 rfl (lv_at hl 2 rfl) ?_
  refine qC_Vv (As := [.ref (b + adC 13 (S8.2 0 0 5)), .int a1]) (rest := []) C0 (c_X0_claimAll l w9 h) (cwV 2 C0.2.2.2.2 (tbV mC7_5_62 ⟨mC7_5_63, mC7_5_64, mC7_1_4, mC7_5_65⟩) rfl rfl rfl (by decide +kernel) ⟨Nat.le_of_ble_eq_true rfl, Nat.le_of_ble_eq_true rfl⟩) (rcC_9 hR Nat.zero_lt_one) hR hT hS rfl hl.1 rfl (Nat.le_of_ble_eq_true rfl) dX11_bar_32 ⟨Nat.le_of_ble_eq_true rfl, Nat.le_of_ble_eq_true rfl⟩ (fun S11 H locs h hR hS => ?_)
  refine lv_aload_n hx hb dX11_bar_35 rfl (lv_at hl 1 rfl) ?_
  refine gC_0_2 C0 hR Nat.zero_lt_one tbs_wsX110 mC7_2_211 dX11_bar_36 ?_
  refine lv_iload_n hx hb dX11_bar_39 rfl (lv_at hl 3 rfl) ?_
  refine qC_Vi (As := [.int a2]) (rest := []) C0 (c_X0_hasPicked l h) (cwV 1 C0.2.2.2.2 (tbV mC7_6_132 ⟨mC7_6_133, mC7_6_134, mC7_1_4, mC7_6_135⟩) rfl rfl rfl (by decide +kernel) ⟨Nat.le_of_ble_eq_true rfl, Nat.le_of_ble_eq_true rfl⟩) (rcC_9 hR Nat.zero_lt_one) hR hT hS rfl hl.1 rfl (Nat.le_of_ble_eq_true rfl) dX11_bar_40 ⟨Nat.le_of_ble_eq_true rfl, Nat.le_of_ble_eq_true rfl⟩ (fun r12 S13 H locs h hR hS => ?_)
  refine lv_if_eq (tgt := 50) hx hb dX11_bar_43 (by decide) (fun c14 => ?_) (fun c14 => ?_)
  · have h := h.1 c14
    refine lv_aload_n hx hb dX11_bar_50 rfl (lv_at hl 1 rfl) ?_
    refine gC_0_4 C0 hR Nat.zero_lt_one tbs_wsX110 mC7_2_213 dX11_bar_51 ?_
    have w15 : (S13.2 0 0 4) < 3 := hR.2.1.2.1
    refine lv_aload_n hx hb dX11_bar_54 rfl (lv_at hl 0 rfl) ?_
    refine lv_iload_n hx hb dX11_bar_55 rfl (lv_at hl 2 rfl) ?_
    refine qC_Si (As := [.ref (b + adC 13 (S13.2 0 0 4)), .ref (b + adC 21 r3), .int a1]) (rest := []) C0 (c_X0_barOfUnclaimed l w15 vr3 h) (va_cwS 3 C0.2.2.2.2 (tbS mC7_6_136 ⟨mC7_6_137, mC7_1_4, mC7_6_138⟩) rfl rfl rfl (by decide +kernel) ⟨Nat.le_of_ble_eq_true rfl, Nat.le_of_ble_eq_true rfl⟩) hR hT hS rfl hl.1 rfl (Nat.le_of_ble_eq_true rfl) dX11_bar_56 ⟨Nat.le_of_ble_eq_true rfl, Nat.le_of_ble_eq_true rfl⟩ (fun r16 S17 H locs h hR hS => ?_)
    refine vx_ret (W.widen (k := 2) (n := 12) (Nat.le_of_ble_eq_true rfl) (Nat.le_of_ble_eq_true rfl) ?_); exact rtC_i C0 hr hlk hR hS h dX11_bar_59
  · have h := h.2 c14
    refine lv_iconst (v := 0) hx hb dX11_bar_46 (by decide) ?_
    refine lv_goto (tgt := 59) hx hb dX11_bar_47 (by decide) ?_
    refine vx_ret (W.widen (k := 2) (n := 12) (Nat.le_of_ble_eq_true rfl) (Nat.le_of_ble_eq_true rfl) ?_); exact rtC_i C0 hr hlk hR hS h dX11_bar_59

def rm_X0_startRace : Room := { frames := 0, cells := 0, slots := 0, locals := 0 }
def Bb_X0_startRace_2 (kk2 : Int32 → sSt → Prop) (a1 : Int32) (S : sSt) (k : sSt → Prop) : Prop := ((24 ≤ a1 → k S) ∧ (¬ 24 ≤ a1 → ix a1 24 (fun j2 => ∀ S3, S3 = uI S 11 0 j2 (-1) → ∀ x4 : Int32, x4 = a1 + 1 → kk2 x4 S3)))
set_option maxHeartbeats 4000000 in
set_option maxRecDepth 100000 in
theorem Bbw_X0_startRace_2 {p : Program} {l : Launch} {e : Env} {s : State} {m : MethodId} {args : Array Value} {below : List Frame} {meth : Method} {c : Code} {D : va_G} {cy : Nat → ClassId} {b z : Nat} {tx : TX} (C0 : CallFix p m c cX0_startRace 2 s args TB RX0) (hr : meth.sig.returnType = none) (hlk : meth.locks = false) (hT : TxR tx s) {k : sSt → Prop} {kk2 : Int32 → sSt → Prop} (ih2 : ∀ (a1 : Int32) (S : sSt) (H : Heap) (locs : List Loc) (ls : Array Slot) , kk2 a1 S → RelC D cy b z tx S s H → va_S (gA b 709 z) s.heap H locs → lv_has ls 2 [(0, .ref (b + adC 9 0)), (1, .int a1)] → W p l e rm_X0_startRace s m args below meth c H locs 0 0 (MQ below (PvC D cy b z tx k) args s 0 0 (gA b 709 z)) (F0 m 2 ls [])) : ∀ (a1 : Int32) (S : sSt) (H : Heap) (locs : List Loc) (ls : Array Slot) , Bb_X0_startRace_2 kk2 a1 S k → RelC D cy b z tx S s H → va_S (gA b 709 z) s.heap H locs → lv_has ls 2 [(0, .ref (b + adC 9 0)), (1, .int a1)] → W p l e rm_X0_startRace s m args below meth c H locs 0 0 (MQ below (PvC D cy b z tx k) args s 0 0 (gA b 709 z)) (F0 m 2 ls []) := by
  intro a1 S H locs ls h hR hS hl
  have hx := C0.1
  have hb := C0.2.1
  unfold Bb_X0_startRace_2 at h
  refine lv_iload_n hx hb dX0_startRace_2 rfl (lv_at hl 1 rfl) ?_
  refine lv_aload_n hx hb dX0_startRace_3 rfl (lv_at hl 0 rfl) ?_
  refine gC_9_1 C0 hR Nat.zero_lt_one tbs_wsX00 mC7_1_104 dX0_startRace_4 ?_
  refine nC_11 C0 hR Nat.zero_lt_one dX0_startRace_7 ?_
  refine lv_icmp_ge (tgt := 24) hx hb dX0_startRace_8 (by decide) (fun c1 => ?_) (fun c1 => ?_)
  · have h := h.1 c1
    exact rtC_v C0 hr hlk hR hS h dX0_startRace_24
  · have h := h.2 c1
    refine lv_aload_n hx hb dX0_startRace_11 rfl (lv_at hl 0 rfl) ?_
    refine gC_9_1 C0 hR Nat.zero_lt_one tbs_wsX00 mC7_1_104 dX0_startRace_12 ?_
    refine lv_iload_n hx hb dX0_startRace_15 rfl (lv_at hl 1 rfl) ?_
    refine lv_iconst (v := (-1)) hx hb dX0_startRace_16 (by decide) ?_
    obtain ⟨j2, hj2, ej2, h⟩ := h
    refine sC_11 C0 hR hS Nat.zero_lt_one hj2 ej2 dX0_startRace_17 (fun S3 eS3 H locs hR hS => ?_)
    have h := h S3 eS3
    obtain ⟨x4, ex4⟩ : ∃ x4 : Int32, x4 = a1 + 1 := ⟨_, rfl⟩
    have h := h x4 ex4
    refine w_iinc (v0 := 1) (lv' := [(1, .int x4), (0, .ref (b + adC 9 0))]) C0 dX0_startRace_18 hl (k := 1) rfl (by decide) (by decide) x4 ex4 rfl (fun ls hl => ?_)
    refine lv_goto (tgt := 2) hx hb dX0_startRace_21 (by decide) ?_
    exact ih2 x4 S3 _ _ _  h hR hS (lv_sub hl [1, 0] rfl)
def B_X0_startRace_2 (n9 : Nat) (a1 : Int32) (S : sSt) (k : sSt → Prop) : Prop := (Nat.rec (motive := fun _ => Int32 → sSt → Prop) (fun _ _ => False) (fun _ r9 => fun a1 S => Bb_X0_startRace_2 r9 a1 S k) n9 : Int32 → sSt → Prop) a1 S
theorem B_X0_startRace_2_s (n9 : Nat) (a1 : Int32) (S : sSt) (k : sSt → Prop) : B_X0_startRace_2 (n9 + 1) a1 S k = Bb_X0_startRace_2 (fun a1 S => B_X0_startRace_2 n9 a1 S k) a1 S k := rfl
set_option maxHeartbeats 4000000 in
set_option maxRecDepth 100000 in
theorem Bw_X0_startRace_2 {p : Program} {l : Launch} {e : Env} {s : State} {m : MethodId} {args : Array Value} {below : List Frame} {meth : Method} {c : Code} {D : va_G} {cy : Nat → ClassId} {b z : Nat} {tx : TX} (C0 : CallFix p m c cX0_startRace 2 s args TB RX0) (hr : meth.sig.returnType = none) (hlk : meth.locks = false) (hT : TxR tx s) {k : sSt → Prop} : ∀ (n9 : Nat), ∀ (a1 : Int32) (S : sSt) (H : Heap) (locs : List Loc) (ls : Array Slot) , B_X0_startRace_2 n9 a1 S k → RelC D cy b z tx S s H → va_S (gA b 709 z) s.heap H locs → lv_has ls 2 [(0, .ref (b + adC 9 0)), (1, .int a1)] → W p l e rm_X0_startRace s m args below meth c H locs 0 0 (MQ below (PvC D cy b z tx k) args s 0 0 (gA b 709 z)) (F0 m 2 ls []) := by
  intro n9
  induction n9 with
  | zero => intro a1 S H locs ls h; exact h.elim
  | succ n9 ih =>
    intro a1 S H locs ls h hR hS hl
    exact Bbw_X0_startRace_2 C0 hr hlk hT ih a1 S H locs ls h hR hS hl
def F_X0_startRace (S : sSt) (k : sSt → Prop) : Prop := B_X0_startRace_2 fuel 0 S k
set_option maxHeartbeats 4000000 in
set_option maxRecDepth 100000 in
theorem c_X0_startRace (l : Launch) {D : va_G} {cy : Nat → ClassId} {b z : Nat} {tx : TX} {S : sSt} {k : sSt → Prop} (h : F_X0_startRace S k) : Met l yX0_startRace (Cond.code yX0_startRace cX0_startRace 2 none :: TB) rm_X0_startRace (va_Pc [.ref (b + adC 9 0)] (fun U => RelC D cy b z tx S U U.heap ∧ TxR tx U)) (PvC D cy b z tx k) 0 0 (gA b 709 z) := by
  refine Met.ofW (cc := cX0_startRace) (maxL := 2) (ret := none) (by decide) rfl ?_
  intro p e s m args below meth c s₁ B hml hv
  obtain ⟨rfl, hR, hT⟩ := hv
  have C0 : CallFix p m c cX0_startRace 2 s _ TB RX0 := ⟨B.exec, B.bytes, hml, findClass_of_methodNamed B.named, fun w hw => atoms_spec B.pre w (List.mem_cons_of_mem _ hw)⟩
  have hr := B.returns
  have hlk := B.notSynchronized
  have hx := C0.1
  have hb := C0.2.1
  have hS : va_S (gA b 709 z) s.heap s.heap [] := va_S.rf
  have hl := lv_entry ([.ref (b + adC 9 0)]) (n := 2) (Nat.le_of_ble_eq_true rfl)
  rw [lg_entry_eq]
  generalize (lg_sl ([.ref (b + adC 9 0)]) ++ List.replicate (2 - (lg_sl ([.ref (b + adC 9 0)])).length) Slot.unset).toArray = ls at hl ⊢
  have hl : lv_has ls 2 [(0, .ref (b + adC 9 0))] := hl
  show W p l e rm_X0_startRace s m _ below meth c s.heap [] 0 0 (MQ below (PvC D cy b z tx k) _ s 0 0 (gA b 709 z)) _
  unfold F_X0_startRace at h
  refine lv_iconst (v := 0) hx hb dX0_startRace_0 (by decide) ?_
  refine lv_istore_n (lv' := [(1, .int 0), (0, .ref (b + adC 9 0))]) hx hb dX0_startRace_1 rfl hl (by decide) rfl (fun ls hl => ?_)
  exact Bw_X0_startRace_2 C0 hr hlk hT fuel 0 S _ _ _ h hR hS (lv_sub hl [1, 0] rfl)

def rm_X11_tryBoth : Room := { frames := 5, cells := 0, slots := 0, locals := 124 }
def F_X11_tryBoth (a1 : Int32) (a2 : Int32) (S : sSt) (k : sSt → Prop) : Prop := F_X6_copyFrom (S.2 0 0 5) (S.2 0 0 4) S (fun S4 => F_X0_claimAll (S4.2 0 0 5) a1 S4 (fun S7 => F_X0_claimAll (S7.2 0 0 5) a2 S7 (fun S10 => k S10)))
set_option maxHeartbeats 4000000 in
set_option maxRecDepth 100000 in
theorem c_X11_tryBoth (l : Launch) {D : va_G} {cy : Nat → ClassId} {b z : Nat} {tx : TX} {a1 : Int32} {a2 : Int32} {S : sSt} {k : sSt → Prop} (h : F_X11_tryBoth a1 a2 S k) : Met l yX11_tryBoth (Cond.code yX11_tryBoth cX11_tryBoth 3 none :: TB) rm_X11_tryBoth (va_Pc [.ref (b + adC 0 0), .int a1, .int a2] (fun U => RelC D cy b z tx S U U.heap ∧ TxR tx U)) (PvC D cy b z tx k) 0 0 (gA b 709 z) := by
  refine Met.ofW (cc := cX11_tryBoth) (maxL := 3) (ret := none) (by decide) rfl ?_
  intro p e s m args below meth c s₁ B hml hv
  obtain ⟨rfl, hR, hT⟩ := hv
  have C0 : CallFix p m c cX11_tryBoth 3 s _ TB RX11 := ⟨B.exec, B.bytes, hml, findClass_of_methodNamed B.named, fun w hw => atoms_spec B.pre w (List.mem_cons_of_mem _ hw)⟩
  have hr := B.returns
  have hlk := B.notSynchronized
  have hx := C0.1
  have hb := C0.2.1
  have hS : va_S (gA b 709 z) s.heap s.heap [] := va_S.rf
  have hl := lv_entry ([.ref (b + adC 0 0), .int a1, .int a2]) (n := 3) (Nat.le_of_ble_eq_true rfl)
  rw [lg_entry_eq]
  generalize (lg_sl ([.ref (b + adC 0 0), .int a1, .int a2]) ++ List.replicate (3 - (lg_sl ([.ref (b + adC 0 0), .int a1, .int a2])).length) Slot.unset).toArray = ls at hl ⊢
  have hl : lv_has ls 3 [(0, .ref (b + adC 0 0)), (1, .int a1), (2, .int a2)] := hl
  show W p l e rm_X11_tryBoth s m _ below meth c s.heap [] 0 0 (MQ below (PvC D cy b z tx k) _ s 0 0 (gA b 709 z)) _
  unfold F_X11_tryBoth at h
  refine lv_aload_n hx hb dX11_tryBoth_0 rfl (lv_at hl 0 rfl) ?_
  refine gC_0_5 C0 hR Nat.zero_lt_one tbs_wsX110 mC7_2_214 dX11_tryBoth_1 ?_
  have w1 : (S.2 0 0 5) < 3 := hR.2.1.2.2
  refine lv_aload_n hx hb dX11_tryBoth_4 rfl (lv_at hl 0 rfl) ?_
  refine gC_0_4 C0 hR Nat.zero_lt_one tbs_wsX110 mC7_2_213 dX11_tryBoth_5 ?_
  have w2 : (S.2 0 0 4) < 3 := hR.2.1.2.1
  refine qC_Vv (As := [.ref (b + adC 13 (S.2 0 0 4))]) (rest := []) C0 (c_X6_copyFrom l w1 w2 h) (cwV 1 C0.2.2.2.2 (tbV mC7_3_53 ⟨mC7_3_54, mC7_3_55, mC7_1_5, mC7_3_56⟩) rfl rfl rfl (by decide +kernel) ⟨Nat.le_of_ble_eq_true rfl, Nat.le_of_ble_eq_true rfl⟩) (rcC_13 hR w1) hR hT hS rfl hl.1 rfl (Nat.le_of_ble_eq_true rfl) dX11_tryBoth_8 ⟨Nat.zero_le _, Nat.zero_le _⟩ (fun S4 H locs h hR hS => ?_)
  refine lv_aload_n hx hb dX11_tryBoth_11 rfl (lv_at hl 0 rfl) ?_
  refine gC_0_2 C0 hR Nat.zero_lt_one tbs_wsX110 mC7_2_211 dX11_tryBoth_12 ?_
  refine lv_aload_n hx hb dX11_tryBoth_15 rfl (lv_at hl 0 rfl) ?_
  refine gC_0_5 C0 hR Nat.zero_lt_one tbs_wsX110 mC7_2_214 dX11_tryBoth_16 ?_
  have w5 : (S4.2 0 0 5) < 3 := hR.2.1.2.2
  refine lv_iload_n hx hb dX11_tryBoth_19 rfl (lv_at hl 1 rfl) ?_
  refine qC_Vv (As := [.ref (b + adC 13 (S4.2 0 0 5)), .int a1]) (rest := []) C0 (c_X0_claimAll l w5 h) (cwV 2 C0.2.2.2.2 (tbV mC7_5_62 ⟨mC7_5_63, mC7_5_64, mC7_1_4, mC7_5_65⟩) rfl rfl rfl (by decide +kernel) ⟨Nat.le_of_ble_eq_true rfl, Nat.le_of_ble_eq_true rfl⟩) (rcC_9 hR Nat.zero_lt_one) hR hT hS rfl hl.1 rfl (Nat.le_of_ble_eq_true rfl) dX11_tryBoth_20 ⟨Nat.zero_le _, Nat.zero_le _⟩ (fun S7 H locs h hR hS => ?_)
  refine lv_aload_n hx hb dX11_tryBoth_23 rfl (lv_at hl 0 rfl) ?_
  refine gC_0_2 C0 hR Nat.zero_lt_one tbs_wsX110 mC7_2_211 dX11_tryBoth_24 ?_
  refine lv_aload_n hx hb dX11_tryBoth_27 rfl (lv_at hl 0 rfl) ?_
  refine gC_0_5 C0 hR Nat.zero_lt_one tbs_wsX110 mC7_2_214 dX11_tryBoth_28 ?_
  have w8 : (S7.2 0 0 5) < 3 := hR.2.1.2.2
  refine lv_iload_n hx hb dX11_tryBoth_31 rfl (lv_at hl 2 rfl) ?_
  refine qC_Vv (As := [.ref (b + adC 13 (S7.2 0 0 5)), .int a2]) (rest := []) C0 (c_X0_claimAll l w8 h) (cwV 2 C0.2.2.2.2 (tbV mC7_5_62 ⟨mC7_5_63, mC7_5_64, mC7_1_4, mC7_5_65⟩) rfl rfl rfl (by decide +kernel) ⟨Nat.le_of_ble_eq_true rfl, Nat.le_of_ble_eq_true rfl⟩) (rcC_9 hR Nat.zero_lt_one) hR hT hS rfl hl.1 rfl (Nat.le_of_ble_eq_true rfl) dX11_tryBoth_32 ⟨Nat.zero_le _, Nat.zero_le _⟩ (fun S10 H locs h hR hS => ?_)
  exact rtC_v C0 hr hlk hR hS h dX11_tryBoth_35

def rm_X0_turnRace : Room := { frames := 1, cells := 0, slots := 0, locals := 40 }
def F_X0_turnRace (S : sSt) (k : sSt → Prop) : Prop := ∀ S1, S1 = uA S 12 0 (va_cpy (S.1 11 0) (S.1 12 0) 0 0 24) → F_X0_startRace S1 (fun S3 => k S3)
set_option maxHeartbeats 4000000 in
set_option maxRecDepth 100000 in
theorem c_X0_turnRace (l : Launch) {D : va_G} {cy : Nat → ClassId} {b z : Nat} {tx : TX} {S : sSt} {k : sSt → Prop} (h : F_X0_turnRace S k) : Met l yX0_turnRace (Cond.code yX0_turnRace cX0_turnRace 1 none :: TB) rm_X0_turnRace (va_Pc [.ref (b + adC 9 0)] (fun U => RelC D cy b z tx S U U.heap ∧ TxR tx U)) (PvC D cy b z tx k) 0 0 (gA b 709 z) := by
  refine Met.ofW (cc := cX0_turnRace) (maxL := 1) (ret := none) (by decide) rfl ?_
  intro p e s m args below meth c s₁ B hml hv
  obtain ⟨rfl, hR, hT⟩ := hv
  have C0 : CallFix p m c cX0_turnRace 1 s _ TB RX0 := ⟨B.exec, B.bytes, hml, findClass_of_methodNamed B.named, fun w hw => atoms_spec B.pre w (List.mem_cons_of_mem _ hw)⟩
  have hr := B.returns
  have hlk := B.notSynchronized
  have hx := C0.1
  have hb := C0.2.1
  have hS : va_S (gA b 709 z) s.heap s.heap [] := va_S.rf
  have hl := lv_entry ([.ref (b + adC 9 0)]) (n := 1) (Nat.le_of_ble_eq_true rfl)
  rw [lg_entry_eq]
  generalize (lg_sl ([.ref (b + adC 9 0)]) ++ List.replicate (1 - (lg_sl ([.ref (b + adC 9 0)])).length) Slot.unset).toArray = ls at hl ⊢
  have hl : lv_has ls 1 [(0, .ref (b + adC 9 0))] := hl
  show W p l e rm_X0_turnRace s m _ below meth c s.heap [] 0 0 (MQ below (PvC D cy b z tx k) _ s 0 0 (gA b 709 z)) _
  unfold F_X0_turnRace at h
  refine lv_aload_n hx hb dX0_turnRace_0 rfl (lv_at hl 0 rfl) ?_
  refine gC_9_1 C0 hR Nat.zero_lt_one tbs_wsX00 mC7_1_104 dX0_turnRace_1 ?_
  refine lv_iconst (v := 0) hx hb dX0_turnRace_4 (by decide) ?_
  refine lv_aload_n hx hb dX0_turnRace_5 rfl (lv_at hl 0 rfl) ?_
  refine gC_9_2 C0 hR Nat.zero_lt_one tbs_wsX00 mC7_1_105 dX0_turnRace_6 ?_
  refine lv_iconst (v := 0) hx hb dX0_turnRace_9 (by decide) ?_
  refine lv_aload_n hx hb dX0_turnRace_10 rfl (lv_at hl 0 rfl) ?_
  refine gC_9_1 C0 hR Nat.zero_lt_one tbs_wsX00 mC7_1_104 dX0_turnRace_11 ?_
  refine nC_11 C0 hR Nat.zero_lt_one dX0_turnRace_14 ?_
  refine cp_11_12 C0 hR hS hl.1 Nat.zero_lt_one Nat.zero_lt_one mC7_6_158 mC7_3_83 mC7_3_82 mC7_1_12 (Nat.le_of_ble_eq_true rfl) (Nat.le_of_ble_eq_true rfl) dX0_turnRace_15 (fun S1 eS1 H locs hR hS => ?_)
  have h := h S1 eS1
  refine lv_aload_n hx hb dX0_turnRace_18 rfl (lv_at hl 0 rfl) ?_
  refine qC_Vv (As := []) (rest := []) C0 (c_X0_startRace l h) (cwV 0 C0.2.2.2.2 (tbV mC7_6_159 ⟨mC7_6_147, mC7_6_148, mC7_1_4, mC7_6_149⟩) rfl rfl rfl (by decide +kernel) ⟨Nat.le_of_ble_eq_true rfl, Nat.le_of_ble_eq_true rfl⟩) (rcC_9 hR Nat.zero_lt_one) hR hT hS rfl hl.1 rfl (Nat.le_of_ble_eq_true rfl) dX0_turnRace_19 ⟨Nat.zero_le _, Nat.zero_le _⟩ (fun S3 H locs h hR hS => ?_)
  exact rtC_v C0 hr hlk hR hS h dX0_turnRace_22
