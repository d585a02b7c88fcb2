theorem mC5_1_220 : Cond.fieldLink RX1 25 "ClaimTable$Job" "locker" "I" ∈ TB := tbT_1 _ (List.mem_of_getElem? (i := 220) rfl) rfl
theorem mC5_1_215 : Cond.fieldLink RX1 18 "ClaimTable$Job" "own" "LClaimTable$Version;" ∈ TB := tbT_1 _ (List.mem_of_getElem? (i := 215) rfl) rfl
theorem mC5_1_210 : Cond.fieldLink RX1 12 "ClaimTable$Job" "base" "LClaimTable$Version;" ∈ TB := tbT_1 _ (List.mem_of_getElem? (i := 210) rfl) rfl
theorem mC5_3_61 : Cond.methodLink RX1 57 yX9_copyFrom ∈ TB := tbT_3 _ (List.mem_of_getElem? (i := 61) rfl) rfl
theorem mC5_3_64 : Cond.code yX9_copyFrom cX9_copyFrom 2 none ∈ TB := tbT_3 _ (List.mem_of_getElem? (i := 64) rfl) rfl
theorem mC5_3_62 : Cond.instanceMethod yX9_copyFrom ∈ TB := tbT_3 _ (List.mem_of_getElem? (i := 62) rfl) rfl
theorem mC5_3_63 : Cond.selects RX9 yX9_copyFrom yX9_copyFrom ∈ TB := tbT_3 _ (List.mem_of_getElem? (i := 63) rfl) rfl
theorem mC5_1_8 : Cond.initialized RX9 ∈ TB := tbT_1 _ (List.mem_of_getElem? (i := 8) rfl) rfl
theorem mC5_1_219 : Cond.fieldLink RX1 54 "ClaimTable$Job" "savedBits" "I" ∈ TB := tbT_1 _ (List.mem_of_getElem? (i := 219) rfl) rfl
theorem mC5_2_127 : Cond.fieldLinkNest RX0 59 "ClaimTable$Table" "jobs" "[LClaimTable$Job;" "ClaimTable" ∈ NB := nbT_2 _ (List.mem_of_getElem? (i := 127) rfl) rfl
theorem mC5_5_114 : Cond.methodLink RX0 95 yX1_lockFor ∈ TB := tbT_5 _ (List.mem_of_getElem? (i := 114) rfl) rfl
theorem mC5_5_117 : Cond.code yX1_lockFor cX1_lockFor 2 (some (.object "ClaimTable$Version")) ∈ TB := tbT_5 _ (List.mem_of_getElem? (i := 117) rfl) rfl
theorem mC5_5_115 : Cond.instanceMethod yX1_lockFor ∈ TB := tbT_5 _ (List.mem_of_getElem? (i := 115) rfl) rfl
theorem mC5_5_116 : Cond.selects RX1 yX1_lockFor yX1_lockFor ∈ TB := tbT_5 _ (List.mem_of_getElem? (i := 116) rfl) rfl
theorem mC5_1_7 : Cond.initialized RX1 ∈ TB := tbT_1 _ (List.mem_of_getElem? (i := 7) rfl) rfl
theorem mC5_2_168 : Cond.fieldLinkNest RX0 98 "ClaimTable$Table" "tokens" "I" "ClaimTable" ∈ NB := nbT_2 _ (List.mem_of_getElem? (i := 168) rfl) rfl
theorem mC5_1_158 : Cond.fieldLinkNest RX0 31 "ClaimTable$Version" "state" "I" "ClaimTable" ∈ NB := nbT_1 _ (List.mem_of_getElem? (i := 158) rfl) rfl
theorem mC5_1_184 : Cond.fieldLinkNest RX0 101 "ClaimTable$Version" "holder" "I" "ClaimTable" ∈ NB := nbT_1 _ (List.mem_of_getElem? (i := 184) rfl) rfl
theorem mC5_1_180 : Cond.fieldLinkNest RX0 104 "ClaimTable$Version" "token" "I" "ClaimTable" ∈ NB := nbT_1 _ (List.mem_of_getElem? (i := 180) rfl) rfl
theorem mC5_2_159 : Cond.fieldLinkNest RX0 40 "ClaimTable$Table" "mono" "I" "ClaimTable" ∈ NB := nbT_2 _ (List.mem_of_getElem? (i := 159) rfl) rfl
theorem mC5_2_141 : Cond.fieldLinkNest RX0 107 "ClaimTable$Table" "settings" "[I" "ClaimTable" ∈ NB := nbT_2 _ (List.mem_of_getElem? (i := 141) rfl) rfl
theorem mC5_1_189 : Cond.fieldLinkNest RX0 110 "ClaimTable$Version" "until" "I" "ClaimTable" ∈ NB := nbT_1 _ (List.mem_of_getElem? (i := 189) rfl) rfl
theorem mC5_2_130 : Cond.fieldLinkNest RX0 76 "ClaimTable$Table" "sessions" "[LClaimTable$Session;" "ClaimTable" ∈ NB := nbT_2 _ (List.mem_of_getElem? (i := 130) rfl) rfl
theorem mC5_1_234 : Cond.fieldLinkNest RX0 49 "ClaimTable$Job" "group" "I" "ClaimTable" ∈ NB := nbT_1 _ (List.mem_of_getElem? (i := 234) rfl) rfl
theorem mC5_2_59 : Cond.fieldLinkNest RX0 113 "ClaimTable$Session" "latest" "I" "ClaimTable" ∈ NB := nbT_2 _ (List.mem_of_getElem? (i := 59) rfl) rfl
theorem mC5_2_53 : Cond.fieldLinkNest RX0 80 "ClaimTable$Session" "query" "LClaimTable$Query;" "ClaimTable" ∈ NB := nbT_2 _ (List.mem_of_getElem? (i := 53) rfl) rfl
theorem mC5_1_74 : Cond.fieldLinkNest RX0 116 "ClaimTable$Query" "times" "I" "ClaimTable" ∈ NB := nbT_1 _ (List.mem_of_getElem? (i := 74) rfl) rfl
theorem mC5_5_66 : Cond.methodLink RX0 119 Lib.Math.min.name ∈ TB := tbT_5 _ (List.mem_of_getElem? (i := 66) rfl) rfl
theorem mC5_5_67 : Cond.static Lib.Math.min.name ∈ TB := tbT_5 _ (List.mem_of_getElem? (i := 67) rfl) rfl
theorem mC5_1_25 : Cond.initialized "java/lang/Math" ∈ TB := tbT_1 _ (List.mem_of_getElem? (i := 25) rfl) rfl
theorem mC5_5_68 : Cond.code Lib.Math.min.name Lib.Math.min.code 2 (some .int) ∈ TB := tbT_5 _ (List.mem_of_getElem? (i := 68) rfl) rfl
theorem mC5_1_106 : Cond.fieldLink RX0 125 "ClaimTable$Claims" "picked" "I" ∈ TB := tbT_1 _ (List.mem_of_getElem? (i := 106) rfl) rfl
theorem mC5_5_69 : Cond.methodLink RX0 128 yX0_placeToClaim ∈ TB := tbT_5 _ (List.mem_of_getElem? (i := 69) rfl) rfl
theorem mC5_5_71 : Cond.code yX0_placeToClaim cX0_placeToClaim 7 (some .int) ∈ TB := tbT_5 _ (List.mem_of_getElem? (i := 71) rfl) rfl
theorem mC5_5_70 : Cond.static yX0_placeToClaim ∈ TB := tbT_5 _ (List.mem_of_getElem? (i := 70) rfl) rfl
theorem mC5_1_4 : Cond.initialized RX0 ∈ TB := tbT_1 _ (List.mem_of_getElem? (i := 4) rfl) rfl
theorem mC5_5_111 : Cond.methodLink RX0 132 yX0_hold ∈ TB := tbT_5 _ (List.mem_of_getElem? (i := 111) rfl) rfl
theorem mC5_5_113 : Cond.code yX0_hold cX0_hold 5 none ∈ TB := tbT_5 _ (List.mem_of_getElem? (i := 113) rfl) rfl
theorem mC5_5_112 : Cond.static yX0_hold ∈ TB := tbT_5 _ (List.mem_of_getElem? (i := 112) rfl) rfl
theorem mC5_1_103 : Cond.fieldLink RX0 9 "ClaimTable$Claims" "picks" "[I" ∈ TB := tbT_1 _ (List.mem_of_getElem? (i := 103) rfl) rfl
theorem mC5_1_228 : Cond.fieldLinkNest RX0 63 "ClaimTable$Job" "number" "I" "ClaimTable" ∈ NB := nbT_1 _ (List.mem_of_getElem? (i := 228) rfl) rfl
theorem mC5_1_104 : Cond.fieldLink RX0 15 "ClaimTable$Claims" "takers" "[I" ∈ TB := tbT_1 _ (List.mem_of_getElem? (i := 104) rfl) rfl
theorem mC5_2_129 : Cond.fieldLink RX6 19 "ClaimTable$Table" "sessions" "[LClaimTable$Session;" ∈ TB := tbT_2 _ (List.mem_of_getElem? (i := 129) rfl) rfl
theorem mC5_2_64 : Cond.fieldLinkNest RX6 175 "ClaimTable$Session" "open" "Z" "ClaimTable" ∈ NB := nbT_2 _ (List.mem_of_getElem? (i := 64) rfl) rfl
theorem mC5_5_122 : Cond.methodLink RX6 178 yX6_commitAll ∈ TB := tbT_5 _ (List.mem_of_getElem? (i := 122) rfl) rfl
theorem mC5_5_34 : Cond.code yX6_commitAll cX6_commitAll 4 (some .int) ∈ TB := tbT_5 _ (List.mem_of_getElem? (i := 34) rfl) rfl
theorem mC5_5_32 : Cond.instanceMethod yX6_commitAll ∈ TB := tbT_5 _ (List.mem_of_getElem? (i := 32) rfl) rfl
theorem mC5_5_33 : Cond.selects RX6 yX6_commitAll yX6_commitAll ∈ TB := tbT_5 _ (List.mem_of_getElem? (i := 33) rfl) rfl
theorem mC5_1_5 : Cond.initialized RX6 ∈ TB := tbT_1 _ (List.mem_of_getElem? (i := 5) rfl) rfl
theorem mC5_4_133 : Cond.methodLink RX11 77 yX11_needSession ∈ TB := tbT_4 _ (List.mem_of_getElem? (i := 133) rfl) rfl
theorem mC5_4_136 : Cond.code yX11_needSession cX11_needSession 2 none ∈ TB := tbT_4 _ (List.mem_of_getElem? (i := 136) rfl) rfl
theorem mC5_4_135 : Cond.instanceMethod yX11_needSession ∈ TB := tbT_4 _ (List.mem_of_getElem? (i := 135) rfl) rfl
theorem mpC5_1_5 : Cond.selects RX11 yX11_needSession yX11_needSession ∈ TB := tbP_1 (yX11_needSession, 8) (List.mem_of_getElem? (i := 5) rfl)
theorem mC5_1_1 : Cond.initialized RX11 ∈ TB := tbT_1 _ (List.mem_of_getElem? (i := 1) rfl) rfl
theorem mC5_2_211 : Cond.fieldLink RX11 26 "ClaimTable" "claims" "LClaimTable$Claims;" ∈ TB := tbT_2 _ (List.mem_of_getElem? (i := 211) rfl) rfl
theorem mC5_2_213 : Cond.fieldLink RX11 37 "ClaimTable" "live" "LClaimTable$Table;" ∈ TB := tbT_2 _ (List.mem_of_getElem? (i := 213) rfl) rfl
theorem mC5_5_62 : Cond.methodLink RX11 136 yX0_claimAll ∈ TB := tbT_5 _ (List.mem_of_getElem? (i := 62) rfl) rfl
theorem mC5_5_65 : Cond.code yX0_claimAll cX0_claimAll 6 none ∈ TB := tbT_5 _ (List.mem_of_getElem? (i := 65) rfl) rfl
theorem mC5_5_63 : Cond.instanceMethod yX0_claimAll ∈ TB := tbT_5 _ (List.mem_of_getElem? (i := 63) rfl) rfl
theorem mC5_5_64 : Cond.selects RX0 yX0_claimAll yX0_claimAll ∈ TB := tbT_5 _ (List.mem_of_getElem? (i := 64) rfl) rfl
theorem mC5_5_118 : Cond.methodLink RX11 140 yX6_closeAct ∈ TB := tbT_5 _ (List.mem_of_getElem? (i := 118) rfl) rfl
theorem mC5_5_121 : Cond.code yX6_closeAct cX6_closeAct 2 none ∈ TB := tbT_5 _ (List.mem_of_getElem? (i := 121) rfl) rfl
theorem mC5_5_119 : Cond.instanceMethod yX6_closeAct ∈ TB := tbT_5 _ (List.mem_of_getElem? (i := 119) rfl) rfl
theorem mC5_5_120 : Cond.selects RX6 yX6_closeAct yX6_closeAct ∈ TB := tbT_5 _ (List.mem_of_getElem? (i := 120) rfl) rfl
theorem mC5_1_107 : Cond.fieldLinkNest RX11 143 "ClaimTable$Claims" "picked" "I" "ClaimTable" ∈ NB := nbT_1 _ (List.mem_of_getElem? (i := 107) rfl) rfl
theorem mC5_2_146 : Cond.fieldLink RX6 46 "ClaimTable$Table" "size" "I" ∈ TB := tbT_2 _ (List.mem_of_getElem? (i := 146) rfl) rfl
theorem mC5_2_126 : Cond.fieldLink RX6 11 "ClaimTable$Table" "jobs" "[LClaimTable$Job;" ∈ TB := tbT_2 _ (List.mem_of_getElem? (i := 126) rfl) rfl
theorem mC5_1_230 : Cond.fieldLinkNest RX6 96 "ClaimTable$Job" "number" "I" "ClaimTable" ∈ NB := nbT_1 _ (List.mem_of_getElem? (i := 230) rfl) rfl
theorem mC5_5_142 : Cond.methodLink RX6 137 yX1_isSeenBy ∈ TB := tbT_5 _ (List.mem_of_getElem? (i := 142) rfl) rfl
theorem mC5_5_75 : Cond.code yX1_isSeenBy cX1_isSeenBy 2 (some .boolean) ∈ TB := tbT_5 _ (List.mem_of_getElem? (i := 75) rfl) rfl
theorem mC5_5_73 : Cond.instanceMethod yX1_isSeenBy ∈ TB := tbT_5 _ (List.mem_of_getElem? (i := 73) rfl) rfl
theorem mC5_5_74 : Cond.selects RX1 yX1_isSeenBy yX1_isSeenBy ∈ TB := tbT_5 _ (List.mem_of_getElem? (i := 74) rfl) rfl
theorem mC5_5_138 : Cond.methodLink RX11 397 yX6_jobSeen ∈ TB := tbT_5 _ (List.mem_of_getElem? (i := 138) rfl) rfl
theorem mC5_5_141 : Cond.code yX6_jobSeen cX6_jobSeen 4 (some (.object "ClaimTable$Job")) ∈ TB := tbT_5 _ (List.mem_of_getElem? (i := 141) rfl) rfl
theorem mC5_5_139 : Cond.instanceMethod yX6_jobSeen ∈ TB := tbT_5 _ (List.mem_of_getElem? (i := 139) rfl) rfl
theorem mC5_5_140 : Cond.selects RX6 yX6_jobSeen yX6_jobSeen ∈ TB := tbT_5 _ (List.mem_of_getElem? (i := 140) rfl) rfl
theorem mC5_4_137 : Cond.classLink RX11 271 "java/lang/IndexOutOfBoundsException" ∈ TB := tbT_4 _ (List.mem_of_getElem? (i := 137) rfl) rfl
theorem mC5_1_23 : Cond.initialized "java/lang/IndexOutOfBoundsException" ∈ TB := tbT_1 _ (List.mem_of_getElem? (i := 23) rfl) rfl
theorem mC5_5_147 : Cond.methodLink RX11 217 yX1_seenBy ∈ TB := tbT_5 _ (List.mem_of_getElem? (i := 147) rfl) rfl
theorem mC5_5_82 : Cond.code yX1_seenBy cX1_seenBy 2 (some (.object "ClaimTable$Version")) ∈ TB := tbT_5 _ (List.mem_of_getElem? (i := 82) rfl) rfl
theorem mC5_5_80 : Cond.instanceMethod yX1_seenBy ∈ TB := tbT_5 _ (List.mem_of_getElem? (i := 80) rfl) rfl
theorem mC5_5_81 : Cond.selects RX1 yX1_seenBy yX1_seenBy ∈ TB := tbT_5 _ (List.mem_of_getElem? (i := 81) rfl) rfl
theorem mC5_5_148 : Cond.methodLink RX11 407 yX1_isLockedByOther ∈ TB := tbT_5 _ (List.mem_of_getElem? (i := 148) rfl) rfl
theorem mC5_5_86 : Cond.code yX1_isLockedByOther cX1_isLockedByOther 2 (some .boolean) ∈ TB := tbT_5 _ (List.mem_of_getElem? (i := 86) rfl) rfl
theorem mC5_5_84 : Cond.instanceMethod yX1_isLockedByOther ∈ TB := tbT_5 _ (List.mem_of_getElem? (i := 84) rfl) rfl
theorem mC5_5_85 : Cond.selects RX1 yX1_isLockedByOther yX1_isLockedByOther ∈ TB := tbT_5 _ (List.mem_of_getElem? (i := 85) rfl) rfl
theorem mC5_1_162 : Cond.fieldLinkNest RX11 162 "ClaimTable$Version" "state" "I" "ClaimTable" ∈ NB := nbT_1 _ (List.mem_of_getElem? (i := 162) rfl) rfl
theorem mC5_1_181 : Cond.fieldLinkNest RX11 235 "ClaimTable$Version" "token" "I" "ClaimTable" ∈ NB := nbT_1 _ (List.mem_of_getElem? (i := 181) rfl) rfl
theorem mC5_1_185 : Cond.fieldLinkNest RX11 238 "ClaimTable$Version" "holder" "I" "ClaimTable" ∈ NB := nbT_1 _ (List.mem_of_getElem? (i := 185) rfl) rfl
theorem mC5_1_190 : Cond.fieldLinkNest RX11 157 "ClaimTable$Version" "until" "I" "ClaimTable" ∈ NB := nbT_1 _ (List.mem_of_getElem? (i := 190) rfl) rfl
theorem mC5_2_163 : Cond.fieldLinkNest RX11 150 "ClaimTable$Table" "mono" "I" "ClaimTable" ∈ NB := nbT_2 _ (List.mem_of_getElem? (i := 163) rfl) rfl
theorem mC5_5_134 : Cond.methodLink RX11 168 yX11_needJob ∈ TB := tbT_5 _ (List.mem_of_getElem? (i := 134) rfl) rfl
theorem mC5_5_137 : Cond.code yX11_needJob cX11_needJob 4 (some (.object "ClaimTable$Job")) ∈ TB := tbT_5 _ (List.mem_of_getElem? (i := 137) rfl) rfl
theorem mC5_5_136 : Cond.instanceMethod yX11_needJob ∈ TB := tbT_5 _ (List.mem_of_getElem? (i := 136) rfl) rfl
theorem mpC5_1_12 : Cond.selects RX11 yX11_needJob yX11_needJob ∈ TB := tbP_1 (yX11_needJob, 8) (List.mem_of_getElem? (i := 12) rfl)
theorem mC5_5_143 : Cond.methodLink RX11 403 yX11_whyNotHeld ∈ TB := tbT_5 _ (List.mem_of_getElem? (i := 143) rfl) rfl
theorem mC5_5_146 : Cond.code yX11_whyNotHeld cX11_whyNotHeld 5 (some .int) ∈ TB := tbT_5 _ (List.mem_of_getElem? (i := 146) rfl) rfl
theorem mC5_5_145 : Cond.instanceMethod yX11_whyNotHeld ∈ TB := tbT_5 _ (List.mem_of_getElem? (i := 145) rfl) rfl
theorem mpC5_1_13 : Cond.selects RX11 yX11_whyNotHeld yX11_whyNotHeld ∈ TB := tbP_1 (yX11_whyNotHeld, 8) (List.mem_of_getElem? (i := 13) rfl)
theorem mC5_4_202 : Cond.methodLink RX11 109 yX11_settle ∈ TB := tbT_4 _ (List.mem_of_getElem? (i := 202) rfl) rfl
theorem mC5_4_205 : Cond.code yX11_settle cX11_settle 2 none ∈ TB := tbT_4 _ (List.mem_of_getElem? (i := 205) rfl) rfl
theorem mC5_4_204 : Cond.instanceMethod yX11_settle ∈ TB := tbT_4 _ (List.mem_of_getElem? (i := 204) rfl) rfl
theorem mpC5_1_8 : Cond.selects RX11 yX11_settle yX11_settle ∈ TB := tbP_1 (yX11_settle, 8) (List.mem_of_getElem? (i := 8) rfl)
theorem mC5_5_149 : Cond.methodLink RX11 186 yX1_lockFor ∈ TB := tbT_5 _ (List.mem_of_getElem? (i := 149) rfl) rfl
theorem mC5_5_130 : Cond.methodLink RX11 146 yX11_lockHeld ∈ TB := tbT_5 _ (List.mem_of_getElem? (i := 130) rfl) rfl
theorem mC5_5_133 : Cond.code yX11_lockHeld cX11_lockHeld 5 (some (.object "ClaimTable$Version")) ∈ TB := tbT_5 _ (List.mem_of_getElem? (i := 133) rfl) rfl
theorem mC5_5_132 : Cond.instanceMethod yX11_lockHeld ∈ TB := tbT_5 _ (List.mem_of_getElem? (i := 132) rfl) rfl
theorem mpC5_1_11 : Cond.selects RX11 yX11_lockHeld yX11_lockHeld ∈ TB := tbP_1 (yX11_lockHeld, 8) (List.mem_of_getElem? (i := 11) rfl)
theorem mC5_2_143 : Cond.fieldLinkNest RX11 153 "ClaimTable$Table" "settings" "[I" "ClaimTable" ∈ NB := nbT_2 _ (List.mem_of_getElem? (i := 143) rfl) rfl
theorem mC5_1_173 : Cond.fieldLinkNest RX11 165 "ClaimTable$Version" "tries" "I" "ClaimTable" ∈ NB := nbT_1 _ (List.mem_of_getElem? (i := 173) rfl) rfl
theorem mC5_1_177 : Cond.fieldLink RX9 24 "ClaimTable$Version" "causeBits" "I" ∈ TB := tbT_1 _ (List.mem_of_getElem? (i := 177) rfl) rfl
theorem mC5_5_172 : Cond.constant RX9 36 134217727 ∈ TB := tbT_5 _ (List.mem_of_getElem? (i := 172) rfl) rfl
theorem mC5_1_174 : Cond.fieldLink RX9 21 "ClaimTable$Version" "causeCount" "I" ∈ TB := tbT_1 _ (List.mem_of_getElem? (i := 174) rfl) rfl
theorem mC5_5_173 : Cond.methodLink RX9 37 Lib.Math.min.name ∈ TB := tbT_5 _ (List.mem_of_getElem? (i := 173) rfl) rfl
theorem mC5_2_140 : Cond.fieldLink RX6 33 "ClaimTable$Table" "settings" "[I" ∈ TB := tbT_2 _ (List.mem_of_getElem? (i := 140) rfl) rfl
theorem mC5_5_178 : Cond.methodLink RX6 195 Lib.Math.min.name ∈ TB := tbT_5 _ (List.mem_of_getElem? (i := 178) rfl) rfl
theorem mC5_1_172 : Cond.fieldLinkNest RX6 182 "ClaimTable$Version" "tries" "I" "ClaimTable" ∈ NB := nbT_1 _ (List.mem_of_getElem? (i := 172) rfl) rfl
theorem mC5_5_168 : Cond.methodLink RX6 185 yX9_addCause ∈ TB := tbT_5 _ (List.mem_of_getElem? (i := 168) rfl) rfl
theorem mC5_5_171 : Cond.code yX9_addCause cX9_addCause 2 none ∈ TB := tbT_5 _ (List.mem_of_getElem? (i := 171) rfl) rfl
theorem mC5_5_169 : Cond.instanceMethod yX9_addCause ∈ TB := tbT_5 _ (List.mem_of_getElem? (i := 169) rfl) rfl
theorem mC5_5_170 : Cond.selects RX9 yX9_addCause yX9_addCause ∈ TB := tbT_5 _ (List.mem_of_getElem? (i := 170) rfl) rfl
theorem mC5_1_161 : Cond.fieldLinkNest RX6 141 "ClaimTable$Version" "state" "I" "ClaimTable" ∈ NB := nbT_1 _ (List.mem_of_getElem? (i := 161) rfl) rfl
theorem mC5_2_160 : Cond.fieldLink RX6 78 "ClaimTable$Table" "mono" "I" ∈ TB := tbT_2 _ (List.mem_of_getElem? (i := 160) rfl) rfl
theorem mC5_5_174 : Cond.methodLink RX6 188 yX6_waitOf ∈ TB := tbT_5 _ (List.mem_of_getElem? (i := 174) rfl) rfl
theorem mC5_5_177 : Cond.code yX6_waitOf cX6_waitOf 5 (some .int) ∈ TB := tbT_5 _ (List.mem_of_getElem? (i := 177) rfl) rfl
theorem mC5_5_176 : Cond.instanceMethod yX6_waitOf ∈ TB := tbT_5 _ (List.mem_of_getElem? (i := 176) rfl) rfl
theorem mpC5_1_14 : Cond.selects RX6 yX6_waitOf yX6_waitOf ∈ TB := tbP_1 (yX6_waitOf, 16) (List.mem_of_getElem? (i := 14) rfl)
theorem mC5_1_168 : Cond.fieldLinkNest RX6 192 "ClaimTable$Version" "due" "I" "ClaimTable" ∈ NB := nbT_1 _ (List.mem_of_getElem? (i := 168) rfl) rfl
theorem mC5_4_45 : Cond.classLink RX11 68 "java/lang/IllegalArgumentException" ∈ TB := tbT_4 _ (List.mem_of_getElem? (i := 45) rfl) rfl
theorem mC5_1_21 : Cond.initialized "java/lang/IllegalArgumentException" ∈ TB := tbT_1 _ (List.mem_of_getElem? (i := 21) rfl) rfl
theorem mC5_5_164 : Cond.methodLink RX11 172 yX6_recordFailure ∈ TB := tbT_5 _ (List.mem_of_getElem? (i := 164) rfl) rfl
theorem mC5_5_167 : Cond.code yX6_recordFailure cX6_recordFailure 4 none ∈ TB := tbT_5 _ (List.mem_of_getElem? (i := 167) rfl) rfl
theorem mC5_5_165 : Cond.instanceMethod yX6_recordFailure ∈ TB := tbT_5 _ (List.mem_of_getElem? (i := 165) rfl) rfl
theorem mC5_5_166 : Cond.selects RX6 yX6_recordFailure yX6_recordFailure ∈ TB := tbT_5 _ (List.mem_of_getElem? (i := 166) rfl) rfl
theorem mC5_1_169 : Cond.fieldLinkNest RX11 176 "ClaimTable$Version" "due" "I" "ClaimTable" ∈ NB := nbT_1 _ (List.mem_of_getElem? (i := 169) rfl) rfl
theorem mC5_1_191 : Cond.fieldLinkNest RX6 221 "ClaimTable$Version" "until" "I" "ClaimTable" ∈ NB := nbT_1 _ (List.mem_of_getElem? (i := 191) rfl) rfl
theorem mC5_5_198 : Cond.methodLink RX6 206 yX1_seenBy ∈ TB := tbT_5 _ (List.mem_of_getElem? (i := 198) rfl) rfl
theorem mC5_5_199 : Cond.methodLink RX6 210 yX6_isLate ∈ TB := tbT_5 _ (List.mem_of_getElem? (i := 199) rfl) rfl
theorem mC5_5_202 : Cond.code yX6_isLate cX6_isLate 2 (some .boolean) ∈ TB := tbT_5 _ (List.mem_of_getElem? (i := 202) rfl) rfl
theorem mC5_5_201 : Cond.instanceMethod yX6_isLate ∈ TB := tbT_5 _ (List.mem_of_getElem? (i := 201) rfl) rfl
theorem mpC5_1_15 : Cond.selects RX6 yX6_isLate yX6_isLate ∈ TB := tbP_1 (yX6_isLate, 16) (List.mem_of_getElem? (i := 15) rfl)
theorem mC5_5_203 : Cond.methodLink RX6 214 yX1_lockFor ∈ TB := tbT_5 _ (List.mem_of_getElem? (i := 203) rfl) rfl
theorem mC5_5_204 : Cond.methodLink RX6 217 yX6_recordFailure ∈ TB := tbT_5 _ (List.mem_of_getElem? (i := 204) rfl) rfl
theorem mC5_5_197 : Cond.methodLink RX6 203 yX1_isLockedByOther ∈ TB := tbT_5 _ (List.mem_of_getElem? (i := 197) rfl) rfl
def rm_X1_lockFor : Room := { frames := 1, cells := 0, slots := 0, locals := 21 }
def F_X1_lockFor (a0 : Nat) (a1 : Int32) (S : sSt) (k : Nat → sSt → Prop) : Prop := ((¬ (S.1 21 a0 4) = (-1) → k (6 * a0 + 1) S) ∧ ((S.1 21 a0 4) = (-1) → F_X9_copyFrom (6 * a0 + 1) (6 * a0) S (fun S6 => ∀ S7, S7 = uI S6 21 a0 3 0 → ∀ S8, S8 = uI S7 21 a0 4 a1 → k (6 * a0 + 1) S8)))
set_option maxHeartbeats 4000000 in
set_option maxRecDepth 100000 in
theorem c_X1_lockFor (l : Launch) {D : va_G} {cy : Nat → ClassId} {b z : Nat} {tx : TX} {a0 : Nat} {a1 : Int32} {S : sSt} {k : Nat → sSt → Prop} (av0 : a0 < 72) (h : F_X1_lockFor a0 a1 S k) : Met l yX1_lockFor (Cond.code yX1_lockFor cX1_lockFor 2 (some (.object "ClaimTable$Version")) :: TB) rm_X1_lockFor (va_Pc [.ref (b + adC 21 a0), .int a1] (fun U => RelC D cy b z tx S U U.heap ∧ TxR tx U)) (PrC D cy b z tx 22 432 k) 0 0 (gA b 709 z) := by
  refine Met.ofW (cc := cX1_lockFor) (maxL := 2) (ret := (some (.object "ClaimTable$Version"))) (by decide) rfl ?_
  intro p e s m args below meth c s₁ B hml hv
  obtain ⟨rfl, hR, hT⟩ := hv
  have C0 : CallFix p m c cX1_lockFor 2 s _ TB RX1 := ⟨B.exec, B.bytes, hml, findClass_of_methodNamed B.named, fun w hw => atoms_spec B.pre w (List.mem_cons_of_mem _ hw)⟩
  have hr := B.returns
  have hlk := B.notSynchronized
  have hx := C0.1
  have hb := C0.2.1
  have hS : va_S (gA b 709 z) s.heap s.heap [] := va_S.rf
  have hl := lv_entry ([.ref (b + adC 21 a0), .int a1]) (n := 2) (Nat.le_of_ble_eq_true rfl)
  rw [lg_entry_eq]
  generalize (lg_sl ([.ref (b + adC 21 a0), .int a1]) ++ List.replicate (2 - (lg_sl ([.ref (b + adC 21 a0), .int a1])).length) Slot.unset).toArray = ls at hl ⊢
  have hl : lv_has ls 2 [(0, .ref (b + adC 21 a0)), (1, .int a1)] := hl
  show W p l e rm_X1_lockFor s m _ below meth c s.heap [] 0 0 (MQ below (PrC D cy b z tx 22 432 k) _ s 0 0 (gA b 709 z)) _
  unfold F_X1_lockFor at h
  refine lv_aload_n hx hb dX1_lockFor_0 rfl (lv_at hl 0 rfl) ?_
  refine gC_21_4 C0 hR av0 tbs_wsX10 mC5_1_220 dX1_lockFor_1 ?_
  refine lv_iconst (v := (-1)) hx hb dX1_lockFor_4 (by decide) ?_
  refine lv_icmp_ne (tgt := 29) hx hb dX1_lockFor_5 (by decide) (fun c1 => ?_) (fun c1 => ?_)
  · have h := h.1 c1
    refine lv_aload_n hx hb dX1_lockFor_29 rfl (lv_at hl 0 rfl) ?_
    refine gC_21_1 C0 hR av0 tbs_wsX10 mC5_1_215 dX1_lockFor_30 ?_
    have w2 : (6 * a0 + 1) < 432 := by omega
    exact rtC_r C0 hr hlk hR hS w2 h dX1_lockFor_33
  · have h := h.2 c1
    refine lv_aload_n hx hb dX1_lockFor_8 rfl (lv_at hl 0 rfl) ?_
    refine gC_21_1 C0 hR av0 tbs_wsX10 mC5_1_215 dX1_lockFor_9 ?_
    have w3 : (6 * a0 + 1) < 432 := by omega
    refine lv_aload_n hx hb dX1_lockFor_12 rfl (lv_at hl 0 rfl) ?_
    refine gC_21_0 C0 hR av0 tbs_wsX10 mC5_1_210 dX1_lockFor_13 ?_
    have w4 : (6 * a0) < 432 := by omega
    refine qC_Vv (As := [.ref (b + adC 22 (6 * a0))]) (rest := []) C0 (c_X9_copyFrom l w3 w4 h) (cwV 1 C0.2.2.2.2 (tbV mC5_3_61 ⟨mC5_3_62, mC5_3_63, mC5_1_8, mC5_3_64⟩) rfl rfl rfl (by decide +kernel) ⟨Nat.le_of_ble_eq_true rfl, Nat.le_of_ble_eq_true rfl⟩) (rcC_22 hR w3) hR hT hS rfl hl.1 rfl (Nat.le_of_ble_eq_true rfl) dX1_lockFor_16 ⟨Nat.zero_le _, Nat.zero_le _⟩ (fun S6 H locs h hR hS => ?_)
    refine lv_aload_n hx hb dX1_lockFor_19 rfl (lv_at hl 0 rfl) ?_
    refine lv_iconst (v := 0) hx hb dX1_lockFor_20 (by decide) ?_
    refine pC_21_3 C0 hR hS av0 tbs_wsX10 mC5_1_219 dX1_lockFor_21 (fun S7 eS7 H locs hR hS => ?_)
    have h := h S7 eS7
    refine lv_aload_n hx hb dX1_lockFor_24 rfl (lv_at hl 0 rfl) ?_
    refine lv_iload_n hx hb dX1_lockFor_25 rfl (lv_at hl 1 rfl) ?_
    refine pC_21_4 C0 hR hS av0 tbs_wsX10 mC5_1_220 dX1_lockFor_26 (fun S8 eS8 H locs hR hS => ?_)
    have h := h S8 eS8
    refine lv_aload_n hx hb dX1_lockFor_29 rfl (lv_at hl 0 rfl) ?_
    refine gC_21_1 C0 hR av0 tbs_wsX10 mC5_1_215 dX1_lockFor_30 ?_
    have w9 : (6 * a0 + 1) < 432 := by omega
    exact rtC_r C0 hr hlk hR hS w9 h dX1_lockFor_33

def rm_X0_hold : Room := { frames := 2, cells := 0, slots := 0, locals := 42 }
def F_X0_hold (a0 : Nat) (a1 : Int32) (a2 : Int32) (S : sSt) (k : sSt → Prop) : Prop := ix a1 24 (fun j2 => F_X1_lockFor (S.2 14 a0 j2) a2 S (fun r4 S5 => ∀ S6, S6 = uI S5 13 a0 12 ((S5.1 13 a0 12) + 1) → ∀ S7, S7 = uI S6 22 r4 0 1 → ∀ S8, S8 = uI S7 22 r4 6 a2 → ∀ S9, S9 = uI S8 22 r4 5 (S8.1 13 a0 12) → ∀ S11, S11 = uI S9 22 r4 7 ((S9.1 13 a0 10) + (S9.1 18 a0 0)) → ix a2 4 (fun j13 => ∀ S15, S15 = uI S11 24 (4 * a0 + j13) 2 (S11.1 21 (S.2 14 a0 j2) 7) → k S15)))
set_option maxHeartbeats 4000000 in
set_option maxRecDepth 100000 in
theorem c_X0_hold (l : Launch) {D : va_G} {cy : Nat → ClassId} {b z : Nat} {tx : TX} {a0 : Nat} {a1 : Int32} {a2 : Int32} {S : sSt} {k : sSt → Prop} (av0 : a0 < 3) (h : F_X0_hold a0 a1 a2 S k) : Met l yX0_hold (Cond.code yX0_hold cX0_hold 5 none :: TB) rm_X0_hold (va_Pc [.ref (b + adC 13 a0), .int a1, .int a2] (fun U => RelC D cy b z tx S U U.heap ∧ TxR tx U)) (PvC D cy b z tx k) 0 0 (gA b 709 z) := by
  refine Met.ofW (cc := cX0_hold) (maxL := 5) (ret := none) (by decide) rfl ?_
  intro p e s m args below meth c s₁ B hml hv
  obtain ⟨rfl, hR, hT⟩ := hv
  have C0 : CallFix p m c cX0_hold 5 s _ TB RX0 := ⟨B.exec, B.bytes, hml, findClass_of_methodNamed B.named, fun w hw => atoms_spec B.pre w (List.mem_cons_of_mem _ hw)⟩
  have hr := B.returns
  have hlk := B.notSynchronized
  have hx := C0.1
  have hb := C0.2.1
  have hS : va_S (gA b 709 z) s.heap s.heap [] := va_S.rf
  have hl := lv_entry ([.ref (b + adC 13 a0), .int a1, .int a2]) (n := 5) (Nat.le_of_ble_eq_true rfl)
  rw [lg_entry_eq]
  generalize (lg_sl ([.ref (b + adC 13 a0), .int a1, .int a2]) ++ List.replicate (5 - (lg_sl ([.ref (b + adC 13 a0), .int a1, .int a2])).length) Slot.unset).toArray = ls at hl ⊢
  have hl : lv_has ls 5 [(0, .ref (b + adC 13 a0)), (1, .int a1), (2, .int a2)] := hl
  show W p l e rm_X0_hold s m _ below meth c s.heap [] 0 0 (MQ below (PvC D cy b z tx k) _ s 0 0 (gA b 709 z)) _
  unfold F_X0_hold at h
  refine lv_aload_n hx hb dX0_hold_0 rfl (lv_at hl 0 rfl) ?_
  refine gCn_13_0 C0 hR av0 tbs_wsX60 mC5_2_127 hT dX0_hold_1 ?_
  have w1 : a0 < 3 := by omega
  refine lv_iload_n hx hb dX0_hold_4 rfl (lv_at hl 1 rfl) ?_
  obtain ⟨j2, hj2, ej2, h⟩ := h
  refine lC_14 C0 hR w1 hj2 ej2 dX0_hold_5 ?_
  have w3 : (S.2 14 a0 j2) < 72 := hR.2.1.1 _ _ w1 hj2
  refine lv_astore_n (lv' := [(3, .ref (b + adC 21 (S.2 14 a0 j2))), (0, .ref (b + adC 13 a0)), (1, .int a1), (2, .int a2)]) hx hb dX0_hold_6 rfl hl (by decide) rfl (fun ls hl => ?_)
  refine lv_aload_n hx hb dX0_hold_7 rfl (lv_at hl 0 rfl) ?_
  refine lv_iload_n hx hb dX0_hold_8 rfl (lv_at hl 3 rfl) ?_
  refine qC_Vr (As := [.int a2]) (rest := []) C0 (c_X1_lockFor l w3 h) (cwV 1 C0.2.2.2.2 (tbV mC5_5_114 ⟨mC5_5_115, mC5_5_116, mC5_1_7, mC5_5_117⟩) rfl rfl rfl (by decide +kernel) ⟨Nat.le_of_ble_eq_true rfl, Nat.le_of_ble_eq_true rfl⟩) (rcC_21 hR w3) hR hT hS rfl hl.1 rfl (Nat.le_of_ble_eq_true rfl) dX0_hold_9 ⟨Nat.zero_le _, Nat.zero_le _⟩ (fun r4 S5 H locs vr4 h hR hS => ?_)
  refine lv_astore (lv' := [(4, .ref (b + adC 22 r4)), (3, .ref (b + adC 21 (S.2 14 a0 j2))), (0, .ref (b + adC 13 a0)), (1, .int a1), (2, .int a2)]) hx hb dX0_hold_12 hl (by decide) rfl (fun ls hl => ?_)
  refine lv_aload_n hx hb dX0_hold_14 rfl (lv_at hl 2 rfl) ?_
  refine lv_dup hx hb dX0_hold_15 rfl ?_
  refine gCn_13_12 C0 hR av0 tbs_wsX60 mC5_2_168 hT dX0_hold_16 ?_
  refine lv_iconst (v := 1) hx hb dX0_hold_19 (by decide) ?_
  refine lv_iadd hx hb dX0_hold_20 ?_
  refine pCn_13_12 C0 hR hS av0 tbs_wsX60 mC5_2_168 hT dX0_hold_21 (fun S6 eS6 H locs hR hS => ?_)
  have h := h S6 eS6
  refine lv_aload hx hb dX0_hold_24 (lv_at hl 0 rfl) ?_
  refine lv_iconst (v := 1) hx hb dX0_hold_26 (by decide) ?_
  refine pCn_22_0 C0 hR hS vr4 tbs_wsX90 mC5_1_158 hT dX0_hold_27 (fun S7 eS7 H locs hR hS => ?_)
  have h := h S7 eS7
  refine lv_aload hx hb dX0_hold_30 (lv_at hl 0 rfl) ?_
  refine lv_iload_n hx hb dX0_hold_32 rfl (lv_at hl 4 rfl) ?_
  refine pCn_22_6 C0 hR hS vr4 tbs_wsX90 mC5_1_184 hT dX0_hold_33 (fun S8 eS8 H locs hR hS => ?_)
  have h := h S8 eS8
  refine lv_aload hx hb dX0_hold_36 (lv_at hl 0 rfl) ?_
  refine lv_aload_n hx hb dX0_hold_38 rfl (lv_at hl 2 rfl) ?_
  refine gCn_13_12 C0 hR av0 tbs_wsX60 mC5_2_168 hT dX0_hold_39 ?_
  refine pCn_22_5 C0 hR hS vr4 tbs_wsX90 mC5_1_180 hT dX0_hold_42 (fun S9 eS9 H locs hR hS => ?_)
  have h := h S9 eS9
  refine lv_aload hx hb dX0_hold_45 (lv_at hl 0 rfl) ?_
  refine lv_aload_n hx hb dX0_hold_47 rfl (lv_at hl 2 rfl) ?_
  refine gCn_13_10 C0 hR av0 tbs_wsX60 mC5_2_159 hT dX0_hold_48 ?_
  refine lv_aload_n hx hb dX0_hold_51 rfl (lv_at hl 2 rfl) ?_
  refine gCn_13_4 C0 hR av0 tbs_wsX60 mC5_2_141 hT dX0_hold_52 ?_
  have w10 : a0 < 3 := by omega
  refine lv_iconst (v := 0) hx hb dX0_hold_55 (by decide) ?_
  refine lC_18 C0 hR w10 (by decide) rfl dX0_hold_56 ?_
  refine lv_iadd hx hb dX0_hold_57 ?_
  refine pCn_22_7 C0 hR hS vr4 tbs_wsX90 mC5_1_189 hT dX0_hold_58 (fun S11 eS11 H locs hR hS => ?_)
  have h := h S11 eS11
  refine lv_aload_n hx hb dX0_hold_61 rfl (lv_at hl 2 rfl) ?_
  refine gCn_13_1 C0 hR av0 tbs_wsX60 mC5_2_130 hT dX0_hold_62 ?_
  have w12 : a0 < 3 := by omega
  refine lv_iload_n hx hb dX0_hold_65 rfl (lv_at hl 4 rfl) ?_
  obtain ⟨j13, hj13, ej13, h⟩ := h
  refine lC_15 C0 hR w12 hj13 ej13 dX0_hold_66 ?_
  have w14 : (4 * a0 + j13) < 12 := by omega
  refine lv_aload_n hx hb dX0_hold_67 rfl (lv_at hl 1 rfl) ?_
  refine gCn_21_7 C0 hR w3 tbs_wsX10 mC5_1_234 hT dX0_hold_68 ?_
  refine pCn_24_2 C0 hR hS w14 tbs_wsX50 mC5_2_59 hT dX0_hold_71 (fun S15 eS15 H locs hR hS => ?_)
  have h := h S15 eS15
  exact rtC_v C0 hr hlk hR hS h dX0_hold_74

def rm_X0_claimAll : Room := { frames := 4, cells := 0, slots := 0, locals := 99 }
def Bb_X0_claimAll_26 (kk26 : Nat → Int32 → Int32 → Int32 → sSt → Prop) (a1 : Nat) (a2 : Int32) (a3 : Int32) (a4 : Int32) (S : sSt) (k : sSt → Prop) : Prop := ((a3 ≤ a4 → k S) ∧ (¬ a3 ≤ a4 → F_X0_placeToClaim a1 a2 S (fun r8 S9 => ((¬ r8 = (-1) → F_X0_hold a1 r8 a2 S9 (fun S12 => ix r8 24 (fun j14 => ix a4 6 (fun j16 => ∀ S17, S17 = uI S12 10 0 j16 (S12.1 21 (S12.2 14 a1 j14) 6) → ∀ S18, S18 = uI S17 11 0 j14 a2 → ∀ S19, S19 = uI S18 9 0 3 ((S18.1 9 0 3) + 1) → ∀ x20 : Int32, x20 = a4 + 1 → kk26 a1 a2 a3 x20 S19)))) ∧ (r8 = (-1) → k S9)))))
set_option maxHeartbeats 4000000 in
set_option maxRecDepth 100000 in
theorem Bbw_X0_claimAll_26 {p : Program} {l : Launch} {e : Env} {s : State} {m : MethodId} {args : Array Value} {below : List Frame} {meth : Method} {c : Code} {D : va_G} {cy : Nat → ClassId} {b z : Nat} {tx : TX} (C0 : CallFix p m c cX0_claimAll 6 s args TB RX0) (hr : meth.sig.returnType = none) (hlk : meth.locks = false) (hT : TxR tx s) {k : sSt → Prop} {kk26 : Nat → Int32 → Int32 → Int32 → sSt → Prop} (ih26 : ∀ (a1 : Nat) (a2 : Int32) (a3 : Int32) (a4 : Int32) (S : sSt) (H : Heap) (locs : List Loc) (ls : Array Slot) (av1 : a1 < 3), kk26 a1 a2 a3 a4 S → RelC D cy b z tx S s H → va_S (gA b 709 z) s.heap H locs → lv_has ls 6 [(0, .ref (b + adC 9 0)), (1, .ref (b + adC 13 a1)), (2, .int a2), (3, .int a3), (4, .int a4)] → W p l e rm_X0_claimAll s m args below meth c H locs 0 0 (MQ below (PvC D cy b z tx k) args s 0 0 (gA b 709 z)) (F0 m 26 ls [])) : ∀ (a1 : Nat) (a2 : Int32) (a3 : Int32) (a4 : Int32) (S : sSt) (H : Heap) (locs : List Loc) (ls : Array Slot) (av1 : a1 < 3), Bb_X0_claimAll_26 kk26 a1 a2 a3 a4 S k → RelC D cy b z tx S s H → va_S (gA b 709 z) s.heap H locs → lv_has ls 6 [(0, .ref (b + adC 9 0)), (1, .ref (b + adC 13 a1)), (2, .int a2), (3, .int a3), (4, .int a4)] → W p l e rm_X0_claimAll s m args below meth c H locs 0 0 (MQ below (PvC D cy b z tx k) args s 0 0 (gA b 709 z)) (F0 m 26 ls []) := by
  intro a1 a2 a3 a4 S H locs ls av1 h hR hS hl
  have hx := C0.1
  have hb := C0.2.1
  unfold Bb_X0_claimAll_26 at h
  refine lv_iload hx hb dX0_claimAll_26 (lv_at hl 4 rfl) ?_
  refine lv_iload_n hx hb dX0_claimAll_28 rfl (lv_at hl 3 rfl) ?_
  refine lv_icmp_ge (tgt := 94) hx hb dX0_claimAll_29 (by decide) (fun c7 => ?_) (fun c7 => ?_)
  · have h := h.1 c7
    exact rtC_v C0 hr hlk hR hS h dX0_claimAll_94
  · have h := h.2 c7
    refine lv_aload_n hx hb dX0_claimAll_32 rfl (lv_at hl 1 rfl) ?_
    refine lv_iload_n hx hb dX0_claimAll_33 rfl (lv_at hl 2 rfl) ?_
    refine qC_Si (As := [.ref (b + adC 13 a1), .int a2]) (rest := []) C0 (c_X0_placeToClaim l av1 h) (va_cwS 2 C0.2.2.2.2 (tbS mC5_5_69 ⟨mC5_5_70, mC5_1_4, mC5_5_71⟩) rfl rfl rfl (by decide +kernel) ⟨Nat.le_of_ble_eq_true rfl, Nat.le_of_ble_eq_true rfl⟩) hR hT hS rfl hl.1 rfl (Nat.le_of_ble_eq_true rfl) dX0_claimAll_34 ⟨Nat.zero_le _, Nat.zero_le _⟩ (fun r8 S9 H locs h hR hS => ?_)
    refine lv_istore (lv' := [(5, .int r8), (0, .ref (b + adC 9 0)), (1, .ref (b + adC 13 a1)), (2, .int a2), (3, .int a3), (4, .int a4)]) hx hb dX0_claimAll_37 hl (by decide) rfl (fun ls hl => ?_)
    refine lv_iload hx hb dX0_claimAll_39 (lv_at hl 0 rfl) ?_
    refine lv_iconst (v := (-1)) hx hb dX0_claimAll_41 (by decide) ?_
    refine lv_icmp_ne (tgt := 46) hx hb dX0_claimAll_42 (by decide) (fun c10 => ?_) (fun c10 => ?_)
    · have h := h.1 c10
      refine lv_aload_n hx hb dX0_claimAll_46 rfl (lv_at hl 2 rfl) ?_
      refine lv_iload hx hb dX0_claimAll_47 (lv_at hl 0 rfl) ?_
      refine lv_iload_n hx hb dX0_claimAll_49 rfl (lv_at hl 3 rfl) ?_
      refine qC_Sv (As := [.ref (b + adC 13 a1), .int r8, .int a2]) (rest := []) C0 (c_X0_hold l av1 h) (va_cwS 3 C0.2.2.2.2 (tbS mC5_5_111 ⟨mC5_5_112, mC5_1_4, mC5_5_113⟩) rfl rfl rfl (by decide +kernel) ⟨Nat.le_of_ble_eq_true rfl, Nat.le_of_ble_eq_true rfl⟩) hR hT hS rfl hl.1 rfl (Nat.le_of_ble_eq_true rfl) dX0_claimAll_50 ⟨Nat.zero_le _, Nat.zero_le _⟩ (fun S12 H locs h hR hS => ?_)
      refine lv_aload_n hx hb dX0_claimAll_53 rfl (lv_at hl 1 rfl) ?_
      refine gC_9_0 C0 hR Nat.zero_lt_one tbs_wsX00 mC5_1_103 dX0_claimAll_54 ?_
      refine lv_iload hx hb dX0_claimAll_57 (lv_at hl 5 rfl) ?_
      refine lv_aload_n hx hb dX0_claimAll_59 rfl (lv_at hl 2 rfl) ?_
      refine gCn_13_0 C0 hR av1 tbs_wsX60 mC5_2_127 hT dX0_claimAll_60 ?_
      have w13 : a1 < 3 := by omega
      refine lv_iload hx hb dX0_claimAll_63 (lv_at hl 0 rfl) ?_
      obtain ⟨j14, hj14, ej14, h⟩ := h
      refine lC_14 C0 hR w13 hj14 ej14 dX0_claimAll_65 ?_
      have w15 : (S12.2 14 a1 j14) < 72 := hR.2.1.1 _ _ w13 hj14
      refine gCn_21_6 C0 hR w15 tbs_wsX10 mC5_1_228 hT dX0_claimAll_66 ?_
      obtain ⟨j16, hj16, ej16, h⟩ := h
      refine sC_10 C0 hR hS Nat.zero_lt_one hj16 ej16 dX0_claimAll_69 (fun S17 eS17 H locs hR hS => ?_)
      have h := h S17 eS17
      refine lv_aload_n hx hb dX0_claimAll_70 rfl (lv_at hl 1 rfl) ?_
      refine gC_9_1 C0 hR Nat.zero_lt_one tbs_wsX00 mC5_1_104 dX0_claimAll_71 ?_
      refine lv_iload hx hb dX0_claimAll_74 (lv_at hl 0 rfl) ?_
      refine lv_iload_n hx hb dX0_claimAll_76 rfl (lv_at hl 3 rfl) ?_
      refine sC_11 C0 hR hS Nat.zero_lt_one hj14 ej14 dX0_claimAll_77 (fun S18 eS18 H locs hR hS => ?_)
      have h := h S18 eS18
      refine lv_aload_n hx hb dX0_claimAll_78 rfl (lv_at hl 1 rfl) ?_
      refine lv_dup hx hb dX0_claimAll_79 rfl ?_
      refine gC_9_3 C0 hR Nat.zero_lt_one tbs_wsX00 mC5_1_106 dX0_claimAll_80 ?_
      refine lv_iconst (v := 1) hx hb dX0_claimAll_83 (by decide) ?_
      refine lv_iadd hx hb dX0_claimAll_84 ?_
      refine pC_9_3 C0 hR hS Nat.zero_lt_one tbs_wsX00 mC5_1_106 dX0_claimAll_85 (fun S19 eS19 H locs hR hS => ?_)
      have h := h S19 eS19
      obtain ⟨x20, ex20⟩ : ∃ x20 : Int32, x20 = a4 + 1 := ⟨_, rfl⟩
      have h := h x20 ex20
      refine w_iinc (v0 := 1) (lv' := [(4, .int x20), (5, .int r8), (0, .ref (b + adC 9 0)), (1, .ref (b + adC 13 a1)), (2, .int a2), (3, .int a3)]) C0 dX0_claimAll_88 hl (k := 5) rfl (by decide) (by decide) x20 ex20 rfl (fun ls hl => ?_)
      refine lv_goto (tgt := 26) hx hb dX0_claimAll_91 (by decide) ?_
      exact ih26 a1 a2 a3 x20 S19 _ _ _ av1 h hR hS (lv_sub hl [2, 3, 4, 5, 0] rfl)
    · have h := h.2 c10
      exact rtC_v C0 hr hlk hR hS h dX0_claimAll_45
def B_X0_claimAll_26 (n9 : Nat) (a1 : Nat) (a2 : Int32) (a3 : Int32) (a4 : Int32) (S : sSt) (k : sSt → Prop) : Prop := (Nat.rec (motive := fun _ => Nat → Int32 → Int32 → Int32 → sSt → Prop) (fun _ _ _ _ _ => False) (fun _ r9 => fun a1 a2 a3 a4 S => Bb_X0_claimAll_26 r9 a1 a2 a3 a4 S k) n9 : Nat → Int32 → Int32 → Int32 → sSt → Prop) a1 a2 a3 a4 S
theorem B_X0_claimAll_26_s (n9 : Nat) (a1 : Nat) (a2 : Int32) (a3 : Int32) (a4 : Int32) (S : sSt) (k : sSt → Prop) : B_X0_claimAll_26 (n9 + 1) a1 a2 a3 a4 S k = Bb_X0_claimAll_26 (fun a1 a2 a3 a4 S => B_X0_claimAll_26 n9 a1 a2 a3 a4 S k) a1 a2 a3 a4 S k := rfl
set_option maxHeartbeats 4000000 in
set_option maxRecDepth 100000 in
theorem Bw_X0_claimAll_26 {p : Program} {l : Launch} {e : Env} {s : State} {m : MethodId} {args : Array Value} {below : List Frame} {meth : Method} {c : Code} {D : va_G} {cy : Nat → ClassId} {b z : Nat} {tx : TX} (C0 : CallFix p m c cX0_claimAll 6 s args TB RX0) (hr : meth.sig.returnType = none) (hlk : meth.locks = false) (hT : TxR tx s) {k : sSt → Prop} : ∀ (n9 : Nat), ∀ (a1 : Nat) (a2 : Int32) (a3 : Int32) (a4 : Int32) (S : sSt) (H : Heap) (locs : List Loc) (ls : Array Slot) (av1 : a1 < 3), B_X0_claimAll_26 n9 a1 a2 a3 a4 S k → RelC D cy b z tx S s H → va_S (gA b 709 z) s.heap H locs → lv_has ls 6 [(0, .ref (b + adC 9 0)), (1, .ref (b + adC 13 a1)), (2, .int a2), (3, .int a3), (4, .int a4)] → W p l e rm_X0_claimAll s m args below meth c H locs 0 0 (MQ below (PvC D cy b z tx k) args s 0 0 (gA b 709 z)) (F0 m 26 ls []) := by
  intro n9
  induction n9 with
  | zero => intro a1 a2 a3 a4 S H locs ls av1 h; exact h.elim
  | succ n9 ih =>
    intro a1 a2 a3 a4 S H locs ls av1 h hR hS hl
    exact Bbw_X0_claimAll_26 C0 hr hlk hT ih a1 a2 a3 a4 S H locs ls av1 h hR hS hl
def F_X0_claimAll (a1 : Nat) (a2 : Int32) (S : sSt) (k : sSt → Prop) : Prop := ix a2 4 (fun j2 => ∀ x5 : Int32, x5 = (if 6 < (S.1 3 ((4 * a1 + j2) + 1) 5) then 6 else (S.1 3 ((4 * a1 + j2) + 1) 5)) → ∀ S6, S6 = uI S 9 0 3 0 → B_X0_claimAll_26 fuel a1 a2 x5 0 S6 k)
set_option maxHeartbeats 4000000 in
set_option maxRecDepth 100000 in
theorem c_X0_claimAll (l : Launch) {D : va_G} {cy : Nat → ClassId} {b z : Nat} {tx : TX} {a1 : Nat} {a2 : Int32} {S : sSt} {k : sSt → Prop} (av1 : a1 < 3) (h : F_X0_claimAll a1 a2 S k) : Met l yX0_claimAll (Cond.code yX0_claimAll cX0_claimAll 6 none :: TB) rm_X0_claimAll (va_Pc [.ref (b + adC 9 0), .ref (b + adC 13 a1), .int a2] (fun U => RelC D cy b z tx S U U.heap ∧ TxR tx U)) (PvC D cy b z tx k) 0 0 (gA b 709 z) := by
  refine Met.ofW (cc := cX0_claimAll) (maxL := 6) (ret := none) (by decide) rfl ?_
  intro p e s m args below meth c s₁ B hml hv
  obtain ⟨rfl, hR, hT⟩ := hv
  have C0 : CallFix p m c cX0_claimAll 6 s _ TB RX0 := ⟨B.exec, B.bytes, hml, findClass_of_methodNamed B.named, fun w hw => atoms_spec B.pre w (List.mem_cons_of_mem _ hw)⟩
  have hr := B.returns
  have hlk := B.notSynchronized
  have hx := C0.1
  have hb := C0.2.1
  have hS : va_S (gA b 709 z) s.heap s.heap [] := va_S.rf
  have hl := lv_entry ([.ref (b + adC 9 0), .ref (b + adC 13 a1), .int a2]) (n := 6) (Nat.le_of_ble_eq_true rfl)
  rw [lg_entry_eq]
  generalize (lg_sl ([.ref (b + adC 9 0), .ref (b + adC 13 a1), .int a2]) ++ List.replicate (6 - (lg_sl ([.ref (b + adC 9 0), .ref (b + adC 13 a1), .int a2])).length) Slot.unset).toArray = ls at hl ⊢
  have hl : lv_has ls 6 [(0, .ref (b + adC 9 0)), (1, .ref (b + adC 13 a1)), (2, .int a2)] := hl
  show W p l e rm_X0_claimAll s m _ below meth c s.heap [] 0 0 (MQ below (PvC D cy b z tx k) _ s 0 0 (gA b 709 z)) _
  unfold F_X0_claimAll at h
  refine lv_aload_n hx hb dX0_claimAll_0 rfl (lv_at hl 1 rfl) ?_
  refine gCn_13_1 C0 hR av1 tbs_wsX60 mC5_2_130 hT dX0_claimAll_1 ?_
  have w1 : a1 < 3 := by omega
  refine lv_iload_n hx hb dX0_claimAll_4 rfl (lv_at hl 2 rfl) ?_
  obtain ⟨j2, hj2, ej2, h⟩ := h
  refine lC_15 C0 hR w1 hj2 ej2 dX0_claimAll_5 ?_
  have w3 : (4 * a1 + j2) < 12 := by omega
  refine gCn_24_0 C0 hR w3 tbs_wsX50 mC5_2_53 hT dX0_claimAll_6 ?_
  have w4 : ((4 * a1 + j2) + 1) < 13 := by omega
  refine gCn_3_5 C0 hR w4 tbs_wsX30 mC5_1_74 hT dX0_claimAll_9 ?_
  refine lv_bipush (v := 6) hx hb dX0_claimAll_12 (by decide) ?_
  refine va_mmin hx hb (C0.2.2.1.trans hl.1.symm) C0.2.2.2.1 (C0.2.2.2.2 _ mC5_5_66) (C0.2.2.2.2 _ mC5_5_67) (C0.2.2.2.2 _ mC5_1_25) (C0.2.2.2.2 _ mC5_5_68) (Nat.le_of_ble_eq_true rfl) (Nat.le_of_ble_eq_true rfl) (Nat.zero_le _) (Nat.zero_le _) dX0_claimAll_14 ?_
  refine lv_topi (fun x5 ex5 => ?_)
  have h := h x5 ex5
  refine lv_istore_n (lv' := [(3, .int x5), (0, .ref (b + adC 9 0)), (1, .ref (b + adC 13 a1)), (2, .int a2)]) hx hb dX0_claimAll_17 rfl hl (by decide) rfl (fun ls hl => ?_)
  refine lv_aload_n hx hb dX0_claimAll_18 rfl (lv_at hl 1 rfl) ?_
  refine lv_iconst (v := 0) hx hb dX0_claimAll_19 (by decide) ?_
  refine pC_9_3 C0 hR hS Nat.zero_lt_one tbs_wsX00 mC5_1_106 dX0_claimAll_20 (fun S6 eS6 H locs hR hS => ?_)
  have h := h S6 eS6
  refine lv_iconst (v := 0) hx hb dX0_claimAll_23 (by decide) ?_
  refine lv_istore (lv' := [(4, .int 0), (3, .int x5), (0, .ref (b + adC 9 0)), (1, .ref (b + adC 13 a1)), (2, .int a2)]) hx hb dX0_claimAll_24 hl (by decide) rfl (fun ls hl => ?_)
  exact Bw_X0_claimAll_26 C0 hr hlk hT fuel a1 a2 x5 0 S6 _ _ _ av1 h hR hS (lv_sub hl [2, 3, 4, 1, 0] rfl)

def rm_X6_closeAct : Room := { frames := 3, cells := 0, slots := 0, locals := 64 }
def F_X6_closeAct (a0 : Nat) (a1 : Int32) (S : sSt) (k : sSt → Prop) : Prop := ix a1 4 (fun j2 => ((¬ (S.1 24 (4 * a0 + j2) 3) = 0 → k S) ∧ ((S.1 24 (4 * a0 + j2) 3) = 0 → F_X6_commitAll a0 a1 S (fun r5 S6 => k S6))))
set_option maxHeartbeats 4000000 in
set_option maxRecDepth 100000 in
theorem c_X6_closeAct (l : Launch) {D : va_G} {cy : Nat → ClassId} {b z : Nat} {tx : TX} {a0 : Nat} {a1 : Int32} {S : sSt} {k : sSt → Prop} (av0 : a0 < 3) (h : F_X6_closeAct a0 a1 S k) : Met l yX6_closeAct (Cond.code yX6_closeAct cX6_closeAct 2 none :: TB) rm_X6_closeAct (va_Pc [.ref (b + adC 13 a0), .int a1] (fun U => RelC D cy b z tx S U U.heap ∧ TxR tx U)) (PvC D cy b z tx k) 0 0 (gA b 709 z) := by
  refine Met.ofW (cc := cX6_closeAct) (maxL := 2) (ret := none) (by decide) rfl ?_
  intro p e s m args below meth c s₁ B hml hv
  obtain ⟨rfl, hR, hT⟩ := hv
  have C0 : CallFix p m c cX6_closeAct 2 s _ TB RX6 := ⟨B.exec, B.bytes, hml, findClass_of_methodNamed B.named, fun w hw => atoms_spec B.pre w (List.mem_cons_of_mem _ hw)⟩
  have hr := B.returns
  have hlk := B.notSynchronized
  have hx := C0.1
  have hb := C0.2.1
  have hS : va_S (gA b 709 z) s.heap s.heap [] := va_S.rf
  have hl := lv_entry ([.ref (b + adC 13 a0), .int a1]) (n := 2) (Nat.le_of_ble_eq_true rfl)
  rw [lg_entry_eq]
  generalize (lg_sl ([.ref (b + adC 13 a0), .int a1]) ++ List.replicate (2 - (lg_sl ([.ref (b + adC 13 a0), .int a1])).length) Slot.unset).toArray = ls at hl ⊢
  have hl : lv_has ls 2 [(0, .ref (b + adC 13 a0)), (1, .int a1)] := hl
  show W p l e rm_X6_closeAct s m _ below meth c s.heap [] 0 0 (MQ below (PvC D cy b z tx k) _ s 0 0 (gA b 709 z)) _
  unfold F_X6_closeAct at h
  refine lv_aload_n hx hb dX6_closeAct_0 rfl (lv_at hl 0 rfl) ?_
  refine gC_13_1 C0 hR av0 tbs_wsX60 mC5_2_129 dX6_closeAct_1 ?_
  have w1 : a0 < 3 := by omega
  refine lv_iload_n hx hb dX6_closeAct_4 rfl (lv_at hl 1 rfl) ?_
  obtain ⟨j2, hj2, ej2, h⟩ := h
  refine lC_15 C0 hR w1 hj2 ej2 dX6_closeAct_5 ?_
  have w3 : (4 * a0 + j2) < 12 := by omega
  refine gCn_24_3 C0 hR w3 tbs_wsX50 mC5_2_64 hT dX6_closeAct_6 ?_
  refine lv_if_ne (tgt := 18) hx hb dX6_closeAct_9 (by decide) (fun c4 => ?_) (fun c4 => ?_)
  · have h := h.1 c4
    exact rtC_v C0 hr hlk hR hS h dX6_closeAct_18
  · have h := h.2 c4
    refine lv_aload_n hx hb dX6_closeAct_12 rfl (lv_at hl 0 rfl) ?_
    refine lv_iload_n hx hb dX6_closeAct_13 rfl (lv_at hl 1 rfl) ?_
    refine qC_Vi (As := [.int a1]) (rest := []) C0 (c_X6_commitAll l av0 h) (cwV 1 C0.2.2.2.2 (tbV mC5_5_122 ⟨mC5_5_32, mC5_5_33, mC5_1_5, mC5_5_34⟩) rfl rfl rfl (by decide +kernel) ⟨Nat.le_of_ble_eq_true rfl, Nat.le_of_ble_eq_true rfl⟩) (rcC_13 hR av0) hR hT hS rfl hl.1 rfl (Nat.le_of_ble_eq_true rfl) dX6_closeAct_14 ⟨Nat.zero_le _, Nat.zero_le _⟩ (fun r5 S6 H locs h hR hS => ?_)
    refine lv_pop hx hb dX6_closeAct_17 rfl ?_
    exact rtC_v C0 hr hlk hR hS h dX6_closeAct_18

def rm_X11_claim : Room := { frames := 7, cells := 1, slots := 6, locals := 124 }
def F_X11_claim (a1 : Int32) (S : sSt) (k : Int32 → sSt → Prop) (kx : String → sSt → Prop) : Prop := F_X11_needSession a1 S (fun S2 => F_X0_claimAll (S2.2 0 0 4) a1 S2 (fun S5 => F_X6_closeAct (S5.2 0 0 4) a1 S5 (fun S8 => k (S8.1 9 0 3) S8))) kx
set_option maxHeartbeats 4000000 in
set_option maxRecDepth 100000 in
theorem c_X11_claim (l : Launch) (hl0 : l.stackTraces = false) {D : va_G} {cy : Nat → ClassId} {b z : Nat} {tx : TX} {a1 : Int32} {S : sSt} {k : Int32 → sSt → Prop} {kx : String → sSt → Prop} (h : F_X11_claim a1 S k kx) : vx_Met l yX11_claim (Cond.code yX11_claim cX11_claim 2 (some .int) :: TB) rm_X11_claim (va_Pc [.ref (b + adC 0 0), .int a1] (fun U => RelC D cy b z tx S U U.heap ∧ TxR tx U)) (PiC D cy b z tx k) (XeC D cy b z tx kx) 1 6 (gA b 709 z) := by
  refine vx_ofW (cc := cX11_claim) (maxL := 2) (ret := (some .int)) (by decide) rfl ?_
  intro p e s m args below meth c s₁ B hml hexc hv
  obtain ⟨rfl, hR, hT⟩ := hv
  have hX0 := hR.2.2
  have C0 : CallFix p m c cX11_claim 2 s _ TB RX11 := ⟨B.exec, B.bytes, hml, findClass_of_methodNamed B.named, fun w hw => atoms_spec B.pre w (List.mem_cons_of_mem _ hw)⟩
  have hr := B.returns
  have hlk := B.notSynchronized
  have hx := C0.1
  have hb := C0.2.1
  have hS : va_S (gA b 709 z) s.heap s.heap [] := va_S.rf
  have hl := lv_entry ([.ref (b + adC 0 0), .int a1]) (n := 2) (Nat.le_of_ble_eq_true rfl)
  rw [lg_entry_eq]
  generalize (lg_sl ([.ref (b + adC 0 0), .int a1]) ++ List.replicate (2 - (lg_sl ([.ref (b + adC 0 0), .int a1])).length) Slot.unset).toArray = ls at hl ⊢
  have hl : lv_has ls 2 [(0, .ref (b + adC 0 0)), (1, .int a1)] := hl
  show W p l e rm_X11_claim s m _ below meth c s.heap [] 0 0 (vx_MQ below (PiC D cy b z tx k) (XeC D cy b z tx kx) _ s 1 6 (gA b 709 z)) _
  unfold F_X11_claim at h
  refine lv_aload_n hx hb dX11_claim_0 rfl (lv_at hl 0 rfl) ?_
  refine lv_iload_n hx hb dX11_claim_1 rfl (lv_at hl 1 rfl) ?_
  refine qx_Vv (As := [.int a1]) (rest := []) C0 hlk hexc (c_X11_needSession l hl0 h) (cwV 1 C0.2.2.2.2 (tbV mC5_4_133 ⟨mC5_4_135, mpC5_1_5, mC5_1_1, mC5_4_136⟩) rfl rfl rfl (by decide +kernel) ⟨Nat.le_of_ble_eq_true rfl, Nat.le_of_ble_eq_true rfl⟩) (rcC_0 hR Nat.zero_lt_one) hR hT hS rfl hl.1 rfl (Nat.le_of_ble_eq_true rfl) dX11_claim_2 ⟨Nat.le_of_ble_eq_true rfl, Nat.le_of_ble_eq_true rfl⟩ ⟨Nat.le_of_ble_eq_true rfl, Nat.le_of_ble_eq_true rfl⟩ (fun S2 H locs h hR hS => ?_)
  refine lv_aload_n hx hb dX11_claim_5 rfl (lv_at hl 0 rfl) ?_
  refine gC_0_2 C0 hR Nat.zero_lt_one tbs_wsX110 mC5_2_211 dX11_claim_6 ?_
  refine lv_aload_n hx hb dX11_claim_9 rfl (lv_at hl 0 rfl) ?_
  refine gC_0_4 C0 hR Nat.zero_lt_one tbs_wsX110 mC5_2_213 dX11_claim_10 ?_
  have w3 : (S2.2 0 0 4) < 3 := hR.2.1.2.1
  refine lv_iload_n hx hb dX11_claim_13 rfl (lv_at hl 1 rfl) ?_
  refine qC_Vv (As := [.ref (b + adC 13 (S2.2 0 0 4)), .int a1]) (rest := []) C0 (c_X0_claimAll l w3 h) (cwV 2 C0.2.2.2.2 (tbV mC5_5_62 ⟨mC5_5_63, mC5_5_64, mC5_1_4, mC5_5_65⟩) rfl rfl rfl (by decide +kernel) ⟨Nat.le_of_ble_eq_true rfl, Nat.le_of_ble_eq_true rfl⟩) (rcC_9 hR Nat.zero_lt_one) hR hT hS rfl hl.1 rfl (Nat.le_of_ble_eq_true rfl) dX11_claim_14 ⟨Nat.le_of_ble_eq_true rfl, Nat.le_of_ble_eq_true rfl⟩ (fun S5 H locs h hR hS => ?_)
  refine lv_aload_n hx hb dX11_claim_17 rfl (lv_at hl 0 rfl) ?_
  refine gC_0_4 C0 hR Nat.zero_lt_one tbs_wsX110 mC5_2_213 dX11_claim_18 ?_
  have w6 : (S5.2 0 0 4) < 3 := hR.2.1.2.1
  refine lv_iload_n hx hb dX11_claim_21 rfl (lv_at hl 1 rfl) ?_
  refine qC_Vv (As := [.int a1]) (rest := []) C0 (c_X6_closeAct l w6 h) (cwV 1 C0.2.2.2.2 (tbV mC5_5_118 ⟨mC5_5_119, mC5_5_120, mC5_1_5, mC5_5_121⟩) rfl rfl rfl (by decide +kernel) ⟨Nat.le_of_ble_eq_true rfl, Nat.le_of_ble_eq_true rfl⟩) (rcC_13 hR w6) hR hT hS rfl hl.1 rfl (Nat.le_of_ble_eq_true rfl) dX11_claim_22 ⟨Nat.le_of_ble_eq_true rfl, Nat.le_of_ble_eq_true rfl⟩ (fun S8 H locs h hR hS => ?_)
  refine lv_aload_n hx hb dX11_claim_25 rfl (lv_at hl 0 rfl) ?_
  refine gC_0_2 C0 hR Nat.zero_lt_one tbs_wsX110 mC5_2_211 dX11_claim_26 ?_
  refine gCn_9_3 C0 hR Nat.zero_lt_one tbs_wsX00 mC5_1_107 hT dX11_claim_29 ?_
  refine vx_ret (W.widen (k := 1) (n := 6) (Nat.le_of_ble_eq_true rfl) (Nat.le_of_ble_eq_true rfl) ?_); exact rtC_i C0 hr hlk hR hS h dX11_claim_32

def rm_X6_jobSeen : Room := { frames := 1, cells := 0, slots := 0, locals := 21 }
def B_X6_jobSeen_43 (kk2 : Nat → Int32 → Int32 → Int32 → sSt → Prop) (a0 : Nat) (a1 : Int32) (a2 : Int32) (a3 : Int32) (S : sSt) (k : Option Nat → sSt → Prop) : Prop := ∀ x6 : Int32, x6 = a3 + 1 → kk2 a0 a1 a2 x6 S
set_option maxHeartbeats 4000000 in
set_option maxRecDepth 100000 in
theorem Bw_X6_jobSeen_43 {p : Program} {l : Launch} {e : Env} {s : State} {m : MethodId} {args : Array Value} {below : List Frame} {meth : Method} {c : Code} {D : va_G} {cy : Nat → ClassId} {b z : Nat} {tx : TX} (C0 : CallFix p m c cX6_jobSeen 4 s args TB RX6) (hr : meth.sig.returnType = (some (.object "ClaimTable$Job"))) (hlk : meth.locks = false) (hT : TxR tx s) {k : Option Nat → sSt → Prop} {kk2 : Nat → Int32 → Int32 → Int32 → sSt → Prop} (ih2 : ∀ (a0 : Nat) (a1 : Int32) (a2 : Int32) (a3 : Int32) (S : sSt) (H : Heap) (locs : List Loc) (ls : Array Slot) (av0 : a0 < 3), kk2 a0 a1 a2 a3 S → RelC D cy b z tx S s H → va_S (gA b 709 z) s.heap H locs → lv_has ls 4 [(0, .ref (b + adC 13 a0)), (1, .int a1), (2, .int a2), (3, .int a3)] → W p l e rm_X6_jobSeen s m args below meth c H locs 0 0 (MQ below (PqC D cy b z tx 21 72 k) args s 0 0 (gA b 709 z)) (F0 m 2 ls [])) : ∀ (a0 : Nat) (a1 : Int32) (a2 : Int32) (a3 : Int32) (S : sSt) (H : Heap) (locs : List Loc) (ls : Array Slot) (av0 : a0 < 3), B_X6_jobSeen_43 kk2 a0 a1 a2 a3 S k → RelC D cy b z tx S s H → va_S (gA b 709 z) s.heap H locs → lv_has ls 4 [(0, .ref (b + adC 13 a0)), (1, .int a1), (2, .int a2), (3, .int a3)] → W p l e rm_X6_jobSeen s m args below meth c H locs 0 0 (MQ below (PqC D cy b z tx 21 72 k) args s 0 0 (gA b 709 z)) (F0 m 43 ls []) := by
  intro a0 a1 a2 a3 S H locs ls av0 h hR hS hl
  have hx := C0.1
  have hb := C0.2.1
  unfold B_X6_jobSeen_43 at h
  obtain ⟨x6, ex6⟩ : ∃ x6 : Int32, x6 = a3 + 1 := ⟨_, rfl⟩
  have h := h x6 ex6
  refine w_iinc (v0 := 1) (lv' := [(3, .int x6), (0, .ref (b + adC 13 a0)), (1, .int a1), (2, .int a2)]) C0 dX6_jobSeen_43 hl (k := 3) rfl (by decide) (by decide) x6 ex6 rfl (fun ls hl => ?_)
  refine lv_goto (tgt := 2) hx hb dX6_jobSeen_46 (by decide) ?_
  exact ih2 a0 a1 a2 x6 S _ _ _ av0 h hR hS (lv_sub hl [1, 2, 3, 0] rfl)
def Bb_X6_jobSeen_2 (kk2 : Nat → Int32 → Int32 → Int32 → sSt → Prop) (a0 : Nat) (a1 : Int32) (a2 : Int32) (a3 : Int32) (S : sSt) (k : Option Nat → sSt → Prop) : Prop := (((S.1 13 a0 6) ≤ a3 → k none S) ∧ (¬ (S.1 13 a0 6) ≤ a3 → ix a3 24 (fun j3 => ((¬ (S.1 21 (S.2 14 a0 j3) 6) = a1 → B_X6_jobSeen_43 kk2 a0 a1 a2 a3 S k) ∧ ((S.1 21 (S.2 14 a0 j3) 6) = a1 → F_X1_isSeenBy (S.2 14 a0 j3) a2 S (fun r9 S10 => ((r9 = 0 → B_X6_jobSeen_43 kk2 a0 a1 a2 a3 S10 k) ∧ (¬ r9 = 0 → k (some (S10.2 14 a0 j3)) S10))))))))
set_option maxHeartbeats 4000000 in
set_option maxRecDepth 100000 in
theorem Bbw_X6_jobSeen_2 {p : Program} {l : Launch} {e : Env} {s : State} {m : MethodId} {args : Array Value} {below : List Frame} {meth : Method} {c : Code} {D : va_G} {cy : Nat → ClassId} {b z : Nat} {tx : TX} (C0 : CallFix p m c cX6_jobSeen 4 s args TB RX6) (hr : meth.sig.returnType = (some (.object "ClaimTable$Job"))) (hlk : meth.locks = false) (hT : TxR tx s) {k : Option Nat → sSt → Prop} {kk2 : Nat → Int32 → Int32 → Int32 → sSt → Prop} (ih2 : ∀ (a0 : Nat) (a1 : Int32) (a2 : Int32) (a3 : Int32) (S : sSt) (H : Heap) (locs : List Loc) (ls : Array Slot) (av0 : a0 < 3), kk2 a0 a1 a2 a3 S → RelC D cy b z tx S s H → va_S (gA b 709 z) s.heap H locs → lv_has ls 4 [(0, .ref (b + adC 13 a0)), (1, .int a1), (2, .int a2), (3, .int a3)] → W p l e rm_X6_jobSeen s m args below meth c H locs 0 0 (MQ below (PqC D cy b z tx 21 72 k) args s 0 0 (gA b 709 z)) (F0 m 2 ls [])) : ∀ (a0 : Nat) (a1 : Int32) (a2 : Int32) (a3 : Int32) (S : sSt) (H : Heap) (locs : List Loc) (ls : Array Slot) (av0 : a0 < 3), Bb_X6_jobSeen_2 kk2 a0 a1 a2 a3 S k → RelC D cy b z tx S s H → va_S (gA b 709 z) s.heap H locs → lv_has ls 4 [(0, .ref (b + adC 13 a0)), (1, .int a1), (2, .int a2), (3, .int a3)] → W p l e rm_X6_jobSeen s m args below meth c H locs 0 0 (MQ below (PqC D cy b z tx 21 72 k) args s 0 0 (gA b 709 z)) (F0 m 2 ls []) := by
  intro a0 a1 a2 a3 S H locs ls av0 h hR hS hl
  have hx := C0.1
  have hb := C0.2.1
  unfold Bb_X6_jobSeen_2 at h
  refine lv_iload_n hx hb dX6_jobSeen_2 rfl (lv_at hl 3 rfl) ?_
  refine lv_aload_n hx hb dX6_jobSeen_3 rfl (lv_at hl 0 rfl) ?_
  refine gC_13_6 C0 hR av0 tbs_wsX60 mC5_2_146 dX6_jobSeen_4 ?_
  refine lv_icmp_ge (tgt := 49) hx hb dX6_jobSeen_7 (by decide) (fun c1 => ?_) (fun c1 => ?_)
  · have h := h.1 c1
    refine lv_null hx hb dX6_jobSeen_49 ?_
    exact rtC_n C0 hr hlk hR hS h dX6_jobSeen_50
  · have h := h.2 c1
    refine lv_aload_n hx hb dX6_jobSeen_10 rfl (lv_at hl 0 rfl) ?_
    refine gC_13_0 C0 hR av0 tbs_wsX60 mC5_2_126 dX6_jobSeen_11 ?_
    have w2 : a0 < 3 := by omega
    refine lv_iload_n hx hb dX6_jobSeen_14 rfl (lv_at hl 3 rfl) ?_
    obtain ⟨j3, hj3, ej3, h⟩ := h
    refine lC_14 C0 hR w2 hj3 ej3 dX6_jobSeen_15 ?_
    have w4 : (S.2 14 a0 j3) < 72 := hR.2.1.1 _ _ w2 hj3
    refine gCn_21_6 C0 hR w4 tbs_wsX10 mC5_1_230 hT dX6_jobSeen_16 ?_
    refine lv_iload_n hx hb dX6_jobSeen_19 rfl (lv_at hl 1 rfl) ?_
    refine lv_icmp_ne (tgt := 43) hx hb dX6_jobSeen_20 (by decide) (fun c5 => ?_) (fun c5 => ?_)
    · have h := h.1 c5
      exact Bw_X6_jobSeen_43 C0 hr hlk hT ih2 a0 a1 a2 a3 S _ _ _ av0 h hR hS (lv_sub hl [0, 1, 2, 3] rfl)
    · have h := h.2 c5
      refine lv_aload_n hx hb dX6_jobSeen_23 rfl (lv_at hl 0 rfl) ?_
      refine gC_13_0 C0 hR av0 tbs_wsX60 mC5_2_126 dX6_jobSeen_24 ?_
      have w7 : a0 < 3 := by omega
      refine lv_iload_n hx hb dX6_jobSeen_27 rfl (lv_at hl 3 rfl) ?_
      refine lC_14 C0 hR w7 hj3 ej3 dX6_jobSeen_28 ?_
      have w8 : (S.2 14 a0 j3) < 72 := hR.2.1.1 _ _ w7 hj3
      refine lv_iload_n hx hb dX6_jobSeen_29 rfl (lv_at hl 2 rfl) ?_
      refine qC_Vi (As := [.int a2]) (rest := []) C0 (c_X1_isSeenBy l w8 h) (cwV 1 C0.2.2.2.2 (tbV mC5_5_142 ⟨mC5_5_73, mC5_5_74, mC5_1_7, mC5_5_75⟩) rfl rfl rfl (by decide +kernel) ⟨Nat.le_of_ble_eq_true rfl, Nat.le_of_ble_eq_true rfl⟩) (rcC_21 hR w8) hR hT hS rfl hl.1 rfl (Nat.le_of_ble_eq_true rfl) dX6_jobSeen_30 ⟨Nat.zero_le _, Nat.zero_le _⟩ (fun r9 S10 H locs h hR hS => ?_)
      refine lv_if_eq (tgt := 43) hx hb dX6_jobSeen_33 (by decide) (fun c11 => ?_) (fun c11 => ?_)
      · have h := h.1 c11
        exact Bw_X6_jobSeen_43 C0 hr hlk hT ih2 a0 a1 a2 a3 S10 _ _ _ av0 h hR hS (lv_sub hl [0, 1, 2, 3] rfl)
      · have h := h.2 c11
        refine lv_aload_n hx hb dX6_jobSeen_36 rfl (lv_at hl 0 rfl) ?_
        refine gC_13_0 C0 hR av0 tbs_wsX60 mC5_2_126 dX6_jobSeen_37 ?_
        have w12 : a0 < 3 := by omega
        refine lv_iload_n hx hb dX6_jobSeen_40 rfl (lv_at hl 3 rfl) ?_
        refine lC_14 C0 hR w12 hj3 ej3 dX6_jobSeen_41 ?_
        have w13 : (S10.2 14 a0 j3) < 72 := hR.2.1.1 _ _ w12 hj3
        exact rtC_q C0 hr hlk hR hS w13 h dX6_jobSeen_42
def B_X6_jobSeen_2 (n9 : Nat) (a0 : Nat) (a1 : Int32) (a2 : Int32) (a3 : Int32) (S : sSt) (k : Option Nat → sSt → Prop) : Prop := (Nat.rec (motive := fun _ => Nat → Int32 → Int32 → Int32 → sSt → Prop) (fun _ _ _ _ _ => False) (fun _ r9 => fun a0 a1 a2 a3 S => Bb_X6_jobSeen_2 r9 a0 a1 a2 a3 S k) n9 : Nat → Int32 → Int32 → Int32 → sSt → Prop) a0 a1 a2 a3 S
theorem B_X6_jobSeen_2_s (n9 : Nat) (a0 : Nat) (a1 : Int32) (a2 : Int32) (a3 : Int32) (S : sSt) (k : Option Nat → sSt → Prop) : B_X6_jobSeen_2 (n9 + 1) a0 a1 a2 a3 S k = Bb_X6_jobSeen_2 (fun a0 a1 a2 a3 S => B_X6_jobSeen_2 n9 a0 a1 a2 a3 S k) a0 a1 a2 a3 S k := rfl
set_option maxHeartbeats 4000000 in
set_option maxRecDepth 100000 in
theorem Bw_X6_jobSeen_2 {p : Program} {l : Launch} {e : Env} {s : State} {m : MethodId} {args : Array Value} {below : List Frame} {meth : Method} {c : Code} {D : va_G} {cy : Nat → ClassId} {b z : Nat} {tx : TX} (C0 : CallFix p m c cX6_jobSeen 4 s args TB RX6) (hr : meth.sig.returnType = (some (.object "ClaimTable$Job"))) (hlk : meth.locks = false) (hT : TxR tx s) {k : Option Nat → sSt → Prop} : ∀ (n9 : Nat), ∀ (a0 : Nat) (a1 : Int32) (a2 : Int32) (a3 : Int32) (S : sSt) (H : Heap) (locs : List Loc) (ls : Array Slot) (av0 : a0 < 3), B_X6_jobSeen_2 n9 a0 a1 a2 a3 S k → RelC D cy b z tx S s H → va_S (gA b 709 z) s.heap H locs → lv_has ls 4 [(0, .ref (b + adC 13 a0)), (1, .int a1), (2, .int a2), (3, .int a3)] → W p l e rm_X6_jobSeen s m args below meth c H locs 0 0 (MQ below (PqC D cy b z tx 21 72 k) args s 0 0 (gA b 709 z)) (F0 m 2 ls []) := by
  intro n9
  induction n9 with
  | zero => intro a0 a1 a2 a3 S H locs ls av0 h; exact h.elim
  | succ n9 ih =>
    intro a0 a1 a2 a3 S H locs ls av0 h hR hS hl
    exact Bbw_X6_jobSeen_2 C0 hr hlk hT ih a0 a1 a2 a3 S H locs ls av0 h hR hS hl
def F_X6_jobSeen (a0 : Nat) (a1 : Int32) (a2 : Int32) (S : sSt) (k : Option Nat → sSt → Prop) : Prop := B_X6_jobSeen_2 fuel a0 a1 a2 0 S k
set_option maxHeartbeats 4000000 in
set_option maxRecDepth 100000 in
theorem c_X6_jobSeen (l : Launch) {D : va_G} {cy : Nat → ClassId} {b z : Nat} {tx : TX} {a0 : Nat} {a1 : Int32} {a2 : Int32} {S : sSt} {k : Option Nat → sSt → Prop} (av0 : a0 < 3) (h : F_X6_jobSeen a0 a1 a2 S k) : Met l yX6_jobSeen (Cond.code yX6_jobSeen cX6_jobSeen 4 (some (.object "ClaimTable$Job")) :: TB) rm_X6_jobSeen (va_Pc [.ref (b + adC 13 a0), .int a1, .int a2] (fun U => RelC D cy b z tx S U U.heap ∧ TxR tx U)) (PqC D cy b z tx 21 72 k) 0 0 (gA b 709 z) := by
  refine Met.ofW (cc := cX6_jobSeen) (maxL := 4) (ret := (some (.object "ClaimTable$Job"))) (by decide) rfl ?_
  intro p e s m args below meth c s₁ B hml hv
  obtain ⟨rfl, hR, hT⟩ := hv
  have C0 : CallFix p m c cX6_jobSeen 4 s _ TB RX6 := ⟨B.exec, B.bytes, hml, findClass_of_methodNamed B.named, fun w hw => atoms_spec B.pre w (List.mem_cons_of_mem _ hw)⟩
  have hr := B.returns
  have hlk := B.notSynchronized
  have hx := C0.1
  have hb := C0.2.1
  have hS : va_S (gA b 709 z) s.heap s.heap [] := va_S.rf
  have hl := lv_entry ([.ref (b + adC 13 a0), .int a1, .int a2]) (n := 4) (Nat.le_of_ble_eq_true rfl)
  rw [lg_entry_eq]
  generalize (lg_sl ([.ref (b + adC 13 a0), .int a1, .int a2]) ++ List.replicate (4 - (lg_sl ([.ref (b + adC 13 a0), .int a1, .int a2])).length) Slot.unset).toArray = ls at hl ⊢
  have hl : lv_has ls 4 [(0, .ref (b + adC 13 a0)), (1, .int a1), (2, .int a2)] := hl
  show W p l e rm_X6_jobSeen s m _ below meth c s.heap [] 0 0 (MQ below (PqC D cy b z tx 21 72 k) _ s 0 0 (gA b 709 z)) _
  unfold F_X6_jobSeen at h
  refine lv_iconst (v := 0) hx hb dX6_jobSeen_0 (by decide) ?_
  refine lv_istore_n (lv' := [(3, .int 0), (0, .ref (b + adC 13 a0)), (1, .int a1), (2, .int a2)]) hx hb dX6_jobSeen_1 rfl hl (by decide) rfl (fun ls hl => ?_)
  exact Bw_X6_jobSeen_2 C0 hr hlk hT fuel a0 a1 a2 0 S _ _ _ av0 h hR hS (lv_sub hl [1, 2, 3, 0] rfl)

def rm_X11_needJob : Room := { frames := 6, cells := 1, slots := 6, locals := 89 }
def F_X11_needJob (a1 : Int32) (a2 : Int32) (S : sSt) (k : Nat → sSt → Prop) (kx : String → sSt → Prop) : Prop := F_X6_jobSeen (S.2 0 0 4) a2 a1 S (fun o4 S3 => ((o4 = none → kx "java/lang/IndexOutOfBoundsException" S3) ∧ (∀ r2, o4 = some r2 → k r2 S3)))
set_option maxHeartbeats 4000000 in
set_option maxRecDepth 100000 in
theorem c_X11_needJob (l : Launch) (hl0 : l.stackTraces = false) {D : va_G} {cy : Nat → ClassId} {b z : Nat} {tx : TX} {a1 : Int32} {a2 : Int32} {S : sSt} {k : Nat → sSt → Prop} {kx : String → sSt → Prop} (h : F_X11_needJob a1 a2 S k kx) : vx_Met l yX11_needJob (Cond.code yX11_needJob cX11_needJob 4 (some (.object "ClaimTable$Job")) :: TB) rm_X11_needJob (va_Pc [.ref (b + adC 0 0), .int a1, .int a2] (fun U => RelC D cy b z tx S U U.heap ∧ TxR tx U)) (PrC D cy b z tx 21 72 k) (XeC D cy b z tx kx) 1 6 (gA b 709 z) := by
  refine vx_ofW (cc := cX11_needJob) (maxL := 4) (ret := (some (.object "ClaimTable$Job"))) (by decide) rfl ?_
  intro p e s m args below meth c s₁ B hml hexc hv
  obtain ⟨rfl, hR, hT⟩ := hv
  have hX0 := hR.2.2
  have C0 : CallFix p m c cX11_needJob 4 s _ TB RX11 := ⟨B.exec, B.bytes, hml, findClass_of_methodNamed B.named, fun w hw => atoms_spec B.pre w (List.mem_cons_of_mem _ hw)⟩
  have hr := B.returns
  have hlk := B.notSynchronized
  have hx := C0.1
  have hb := C0.2.1
  have hS : va_S (gA b 709 z) s.heap s.heap [] := va_S.rf
  have hl := lv_entry ([.ref (b + adC 0 0), .int a1, .int a2]) (n := 4) (Nat.le_of_ble_eq_true rfl)
  rw [lg_entry_eq]
  generalize (lg_sl ([.ref (b + adC 0 0), .int a1, .int a2]) ++ List.replicate (4 - (lg_sl ([.ref (b + adC 0 0), .int a1, .int a2])).length) Slot.unset).toArray = ls at hl ⊢
  have hl : lv_has ls 4 [(0, .ref (b + adC 0 0)), (1, .int a1), (2, .int a2)] := hl
  show W p l e rm_X11_needJob s m _ below meth c s.heap [] 0 0 (vx_MQ below (PrC D cy b z tx 21 72 k) (XeC D cy b z tx kx) _ s 1 6 (gA b 709 z)) _
  unfold F_X11_needJob at h
  refine lv_aload_n hx hb dX11_needJob_0 rfl (lv_at hl 0 rfl) ?_
  refine gC_0_4 C0 hR Nat.zero_lt_one tbs_wsX110 mC5_2_213 dX11_needJob_1 ?_
  have w1 : (S.2 0 0 4) < 3 := hR.2.1.2.1
  refine lv_iload_n hx hb dX11_needJob_4 rfl (lv_at hl 2 rfl) ?_
  refine lv_iload_n hx hb dX11_needJob_5 rfl (lv_at hl 1 rfl) ?_
  refine qC_Vq (As := [.int a2, .int a1]) (rest := []) C0 (c_X6_jobSeen l w1 h) (cwV 2 C0.2.2.2.2 (tbV mC5_5_138 ⟨mC5_5_139, mC5_5_140, mC5_1_5, mC5_5_141⟩) rfl rfl rfl (by decide +kernel) ⟨Nat.le_of_ble_eq_true rfl, Nat.le_of_ble_eq_true rfl⟩) (rcC_13 hR w1) hR hT hS rfl hl.1 rfl (Nat.le_of_ble_eq_true rfl) dX11_needJob_6 ⟨Nat.le_of_ble_eq_true rfl, Nat.le_of_ble_eq_true rfl⟩ (fun S3 H locs h hR hS => ?_) (fun r2 S3 H locs vr2 h hR hS => ?_)
  · have h := h.1 rfl
    refine lv_astore_nN (lv' := [(3, .null), (0, .ref (b + adC 0 0)), (1, .int a1), (2, .int a2)]) hx hb dX11_needJob_9 rfl hl (by decide) rfl (fun ls hl => ?_)
    refine lv_aload_nN hx hb dX11_needJob_10 rfl (lv_at hl 0 rfl) ?_
    refine lv_ifnonnullN hx hb dX11_needJob_11 ?_
    exact w_throw_2 C0 hl0 hX0 hT hR hS hl.1 hexc hlk h mC5_4_137 mC5_1_23 dX11_needJob_14 dX11_needJob_17 dX11_needJob_18 dX11_needJob_21 (Nat.le_of_ble_eq_true rfl) (Nat.le_of_ble_eq_true rfl) (Nat.le_of_ble_eq_true rfl) (Nat.le_of_ble_eq_true rfl) (Nat.le_of_ble_eq_true rfl) (Nat.le_of_ble_eq_true rfl)
  · have h := h.2 r2 rfl
    refine lv_astore_n (lv' := [(3, .ref (b + adC 21 r2)), (0, .ref (b + adC 0 0)), (1, .int a1), (2, .int a2)]) hx hb dX11_needJob_9 rfl hl (by decide) rfl (fun ls hl => ?_)
    refine lv_aload_n hx hb dX11_needJob_10 rfl (lv_at hl 0 rfl) ?_
    refine lv_ifnonnull (tgt := 22) hx hb dX11_needJob_11 (by decide) ?_
    refine lv_aload_n hx hb dX11_needJob_22 rfl (lv_at hl 0 rfl) ?_
    refine vx_ret (W.widen (k := 1) (n := 6) (Nat.le_of_ble_eq_true rfl) (Nat.le_of_ble_eq_true rfl) ?_); exact rtC_r C0 hr hlk hR hS vr2 h dX11_needJob_23

def rm_X11_whyNotHeld : Room := { frames := 1, cells := 0, slots := 0, locals := 21 }
def F_X11_whyNotHeld (a1 : Nat) (a2 : Int32) (a3 : Int32) (S : sSt) (k : Int32 → sSt → Prop) : Prop := F_X1_seenBy a1 a2 S (fun r1 S2 => F_X1_isLockedByOther a1 a2 S2 (fun r3 S4 => ((r3 = 0 → ((¬ (S4.1 22 r1 0) = 1 → k 3 S4) ∧ ((S4.1 22 r1 0) = 1 → ((¬ (S4.1 22 r1 5) = a3 → k 3 S4) ∧ ((S4.1 22 r1 5) = a3 → (((S4.1 22 r1 6) = a2 → (((S4.1 13 (S4.2 0 0 4) 10) ≤ (S4.1 22 r1 7) → k 0 S4) ∧ (¬ (S4.1 13 (S4.2 0 0 4) 10) ≤ (S4.1 22 r1 7) → k 4 S4))) ∧ (¬ (S4.1 22 r1 6) = a2 → k 3 S4))))))) ∧ (¬ r3 = 0 → k 2 S4))))
set_option maxHeartbeats 4000000 in
set_option maxRecDepth 100000 in
theorem c_X11_whyNotHeld (l : Launch) {D : va_G} {cy : Nat → ClassId} {b z : Nat} {tx : TX} {a1 : Nat} {a2 : Int32} {a3 : Int32} {S : sSt} {k : Int32 → sSt → Prop} (av1 : a1 < 72) (h : F_X11_whyNotHeld a1 a2 a3 S k) : Met l yX11_whyNotHeld (Cond.code yX11_whyNotHeld cX11_whyNotHeld 5 (some .int) :: TB) rm_X11_whyNotHeld (va_Pc [.ref (b + adC 0 0), .ref (b + adC 21 a1), .int a2, .int a3] (fun U => RelC D cy b z tx S U U.heap ∧ TxR tx U)) (PiC D cy b z tx k) 0 0 (gA b 709 z) := by
  refine Met.ofW (cc := cX11_whyNotHeld) (maxL := 5) (ret := (some .int)) (by decide) rfl ?_
  intro p e s m args below meth c s₁ B hml hv
  obtain ⟨rfl, hR, hT⟩ := hv
  have C0 : CallFix p m c cX11_whyNotHeld 5 s _ TB RX11 := ⟨B.exec, B.bytes, hml, findClass_of_methodNamed B.named, fun w hw => atoms_spec B.pre w (List.mem_cons_of_mem _ hw)⟩
  have hr := B.returns
  have hlk := B.notSynchronized
  have hx := C0.1
  have hb := C0.2.1
  have hS : va_S (gA b 709 z) s.heap s.heap [] := va_S.rf
  have hl := lv_entry ([.ref (b + adC 0 0), .ref (b + adC 21 a1), .int a2, .int a3]) (n := 5) (Nat.le_of_ble_eq_true rfl)
  rw [lg_entry_eq]
  generalize (lg_sl ([.ref (b + adC 0 0), .ref (b + adC 21 a1), .int a2, .int a3]) ++ List.replicate (5 - (lg_sl ([.ref (b + adC 0 0), .ref (b + adC 21 a1), .int a2, .int a3])).length) Slot.unset).toArray = ls at hl ⊢
  have hl : lv_has ls 5 [(0, .ref (b + adC 0 0)), (1, .ref (b + adC 21 a1)), (2, .int a2), (3, .int a3)] := hl
  show W p l e rm_X11_whyNotHeld s m _ below meth c s.heap [] 0 0 (MQ below (PiC D cy b z tx k) _ s 0 0 (gA b 709 z)) _
  unfold F_X11_whyNotHeld at h
  refine lv_aload_n hx hb dX11_whyNotHeld_0 rfl (lv_at hl 1 rfl) ?_
  refine lv_iload_n hx hb dX11_whyNotHeld_1 rfl (lv_at hl 2 rfl) ?_
  refine qC_Vr (As := [.int a2]) (rest := []) C0 (c_X1_seenBy l av1 h) (cwV 1 C0.2.2.2.2 (tbV mC5_5_147 ⟨mC5_5_80, mC5_5_81, mC5_1_7, mC5_5_82⟩) rfl rfl rfl (by decide +kernel) ⟨Nat.le_of_ble_eq_true rfl, Nat.le_of_ble_eq_true rfl⟩) (rcC_21 hR av1) hR hT hS rfl hl.1 rfl (Nat.le_of_ble_eq_true rfl) dX11_whyNotHeld_2 ⟨Nat.zero_le _, Nat.zero_le _⟩ (fun r1 S2 H locs vr1 h hR hS => ?_)
  refine lv_astore (lv' := [(4, .ref (b + adC 22 r1)), (0, .ref (b + adC 0 0)), (1, .ref (b + adC 21 a1)), (2, .int a2), (3, .int a3)]) hx hb dX11_whyNotHeld_5 hl (by decide) rfl (fun ls hl => ?_)
  refine lv_aload_n hx hb dX11_whyNotHeld_7 rfl (lv_at hl 2 rfl) ?_
  refine lv_iload_n hx hb dX11_whyNotHeld_8 rfl (lv_at hl 3 rfl) ?_
  refine qC_Vi (As := [.int a2]) (rest := []) C0 (c_X1_isLockedByOther l av1 h) (cwV 1 C0.2.2.2.2 (tbV mC5_5_148 ⟨mC5_5_84, mC5_5_85, mC5_1_7, mC5_5_86⟩) rfl rfl rfl (by decide +kernel) ⟨Nat.le_of_ble_eq_true rfl, Nat.le_of_ble_eq_true rfl⟩) (rcC_21 hR av1) hR hT hS rfl hl.1 rfl (Nat.le_of_ble_eq_true rfl) dX11_whyNotHeld_9 ⟨Nat.zero_le _, Nat.zero_le _⟩ (fun r3 S4 H locs h hR hS => ?_)
  refine lv_if_eq (tgt := 17) hx hb dX11_whyNotHeld_12 (by decide) (fun c5 => ?_) (fun c5 => ?_)
  · have h := h.1 c5
    refine lv_aload hx hb dX11_whyNotHeld_17 (lv_at hl 0 rfl) ?_
    refine gCn_22_0 C0 hR vr1 tbs_wsX90 mC5_1_162 hT dX11_whyNotHeld_19 ?_
    refine lv_iconst (v := 1) hx hb dX11_whyNotHeld_22 (by decide) ?_
    refine lv_icmp_ne (tgt := 44) hx hb dX11_whyNotHeld_23 (by decide) (fun c6 => ?_) (fun c6 => ?_)
    · have h := h.1 c6
      refine lv_iconst (v := 3) hx hb dX11_whyNotHeld_44 (by decide) ?_
      exact rtC_i C0 hr hlk hR hS h dX11_whyNotHeld_45
    · have h := h.2 c6
      refine lv_aload hx hb dX11_whyNotHeld_26 (lv_at hl 0 rfl) ?_
      refine gCn_22_5 C0 hR vr1 tbs_wsX90 mC5_1_181 hT dX11_whyNotHeld_28 ?_
      refine lv_iload_n hx hb dX11_whyNotHeld_31 rfl (lv_at hl 4 rfl) ?_
      refine lv_icmp_ne (tgt := 44) hx hb dX11_whyNotHeld_32 (by decide) (fun c7 => ?_) (fun c7 => ?_)
      · have h := h.1 c7
        refine lv_iconst (v := 3) hx hb dX11_whyNotHeld_44 (by decide) ?_
        exact rtC_i C0 hr hlk hR hS h dX11_whyNotHeld_45
      · have h := h.2 c7
        refine lv_aload hx hb dX11_whyNotHeld_35 (lv_at hl 0 rfl) ?_
        refine gCn_22_6 C0 hR vr1 tbs_wsX90 mC5_1_185 hT dX11_whyNotHeld_37 ?_
        refine lv_iload_n hx hb dX11_whyNotHeld_40 rfl (lv_at hl 3 rfl) ?_
        refine lv_icmp_eq (tgt := 46) hx hb dX11_whyNotHeld_41 (by decide) (fun c8 => ?_) (fun c8 => ?_)
        · have h := h.1 c8
          refine lv_aload hx hb dX11_whyNotHeld_46 (lv_at hl 0 rfl) ?_
          refine gCn_22_7 C0 hR vr1 tbs_wsX90 mC5_1_190 hT dX11_whyNotHeld_48 ?_
          refine lv_aload_n hx hb dX11_whyNotHeld_51 rfl (lv_at hl 1 rfl) ?_
          refine gC_0_4 C0 hR Nat.zero_lt_one tbs_wsX110 mC5_2_213 dX11_whyNotHeld_52 ?_
          have w9 : (S4.2 0 0 4) < 3 := hR.2.1.2.1
          refine gCn_13_10 C0 hR w9 tbs_wsX60 mC5_2_163 hT dX11_whyNotHeld_55 ?_
          refine lv_icmp_ge (tgt := 65) hx hb dX11_whyNotHeld_58 (by decide) (fun c10 => ?_) (fun c10 => ?_)
          · have h := h.1 c10
            refine lv_iconst (v := 0) hx hb dX11_whyNotHeld_65 (by decide) ?_
            exact rtC_i C0 hr hlk hR hS h dX11_whyNotHeld_66
          · have h := h.2 c10
            refine lv_iconst (v := 4) hx hb dX11_whyNotHeld_61 (by decide) ?_
            refine lv_goto (tgt := 66) hx hb dX11_whyNotHeld_62 (by decide) ?_
            exact rtC_i C0 hr hlk hR hS h dX11_whyNotHeld_66
        · have h := h.2 c8
          refine lv_iconst (v := 3) hx hb dX11_whyNotHeld_44 (by decide) ?_
          exact rtC_i C0 hr hlk hR hS h dX11_whyNotHeld_45
  · have h := h.2 c5
    refine lv_iconst (v := 2) hx hb dX11_whyNotHeld_15 (by decide) ?_
    exact rtC_i C0 hr hlk hR hS h dX11_whyNotHeld_16

def rm_X11_lockHeld : Room := { frames := 7, cells := 3, slots := 18, locals := 112 }
def F_X11_lockHeld (a1 : Int32) (a2 : Int32) (a3 : Int32) (S : sSt) (k : Nat → sSt → Prop) (kx : String → sSt → Prop) : Prop := F_X11_needSession a1 S (fun S2 => F_X11_needJob a1 a2 S2 (fun r3 S4 => F_X11_whyNotHeld r3 a1 a3 S4 (fun r5 S6 => F_X11_settle r5 S6 (fun S8 => F_X1_lockFor r3 a1 S8 (fun r9 S10 => k r9 S10)) kx)) kx) kx
set_option maxHeartbeats 4000000 in
set_option maxRecDepth 100000 in
theorem c_X11_lockHeld (l : Launch) (hl0 : l.stackTraces = false) {D : va_G} {cy : Nat → ClassId} {b z : Nat} {tx : TX} {a1 : Int32} {a2 : Int32} {a3 : Int32} {S : sSt} {k : Nat → sSt → Prop} {kx : String → sSt → Prop} (h : F_X11_lockHeld a1 a2 a3 S k kx) : vx_Met l yX11_lockHeld (Cond.code yX11_lockHeld cX11_lockHeld 5 (some (.object "ClaimTable$Version")) :: TB) rm_X11_lockHeld (va_Pc [.ref (b + adC 0 0), .int a1, .int a2, .int a3] (fun U => RelC D cy b z tx S U U.heap ∧ TxR tx U)) (PrC D cy b z tx 22 432 k) (XeC D cy b z tx kx) 3 18 (gA b 709 z) := by
  refine vx_ofW (cc := cX11_lockHeld) (maxL := 5) (ret := (some (.object "ClaimTable$Version"))) (by decide) rfl ?_
  intro p e s m args below meth c s₁ B hml hexc hv
  obtain ⟨rfl, hR, hT⟩ := hv
  have hX0 := hR.2.2
  have C0 : CallFix p m c cX11_lockHeld 5 s _ TB RX11 := ⟨B.exec, B.bytes, hml, findClass_of_methodNamed B.named, fun w hw => atoms_spec B.pre w (List.mem_cons_of_mem _ hw)⟩
  have hr := B.returns
  have hlk := B.notSynchronized
  have hx := C0.1
  have hb := C0.2.1
  have hS : va_S (gA b 709 z) s.heap s.heap [] := va_S.rf
  have hl := lv_entry ([.ref (b + adC 0 0), .int a1, .int a2, .int a3]) (n := 5) (Nat.le_of_ble_eq_true rfl)
  rw [lg_entry_eq]
  generalize (lg_sl ([.ref (b + adC 0 0), .int a1, .int a2, .int a3]) ++ List.replicate (5 - (lg_sl ([.ref (b + adC 0 0), .int a1, .int a2, .int a3])).length) Slot.unset).toArray = ls at hl ⊢
  have hl : lv_has ls 5 [(0, .ref (b + adC 0 0)), (1, .int a1), (2, .int a2), (3, .int a3)] := hl
  show W p l e rm_X11_lockHeld s m _ below meth c s.heap [] 0 0 (vx_MQ below (PrC D cy b z tx 22 432 k) (XeC D cy b z tx kx) _ s 3 18 (gA b 709 z)) _
  unfold F_X11_lockHeld at h
  refine lv_aload_n hx hb dX11_lockHeld_0 rfl (lv_at hl 0 rfl) ?_
  refine lv_iload_n hx hb dX11_lockHeld_1 rfl (lv_at hl 1 rfl) ?_
  refine qx_Vv (As := [.int a1]) (rest := []) C0 hlk hexc (c_X11_needSession l hl0 h) (cwV 1 C0.2.2.2.2 (tbV mC5_4_133 ⟨mC5_4_135, mpC5_1_5, mC5_1_1, mC5_4_136⟩) rfl rfl rfl (by decide +kernel) ⟨Nat.le_of_ble_eq_true rfl, Nat.le_of_ble_eq_true rfl⟩) (rcC_0 hR Nat.zero_lt_one) hR hT hS rfl hl.1 rfl (Nat.le_of_ble_eq_true rfl) dX11_lockHeld_2 ⟨Nat.le_of_ble_eq_true rfl, Nat.le_of_ble_eq_true rfl⟩ ⟨Nat.le_of_ble_eq_true rfl, Nat.le_of_ble_eq_true rfl⟩ (fun S2 H locs h hR hS => ?_)
  refine lv_aload_n hx hb dX11_lockHeld_5 rfl (lv_at hl 0 rfl) ?_
  refine lv_iload_n hx hb dX11_lockHeld_6 rfl (lv_at hl 1 rfl) ?_
  refine lv_iload_n hx hb dX11_lockHeld_7 rfl (lv_at hl 2 rfl) ?_
  refine qx_Vr (As := [.int a1, .int a2]) (rest := []) C0 hlk hexc (c_X11_needJob l hl0 h) (cwV 2 C0.2.2.2.2 (tbV mC5_5_134 ⟨mC5_5_136, mpC5_1_12, mC5_1_1, mC5_5_137⟩) rfl rfl rfl (by decide +kernel) ⟨Nat.le_of_ble_eq_true rfl, Nat.le_of_ble_eq_true rfl⟩) (rcC_0 hR Nat.zero_lt_one) hR hT hS rfl hl.1 rfl (Nat.le_of_ble_eq_true rfl) dX11_lockHeld_8 ⟨Nat.le_of_ble_eq_true rfl, Nat.le_of_ble_eq_true rfl⟩ ⟨Nat.le_of_ble_eq_true rfl, Nat.le_of_ble_eq_true rfl⟩ (fun r3 S4 H locs vr3 h hR hS => ?_)
  refine lv_astore (lv' := [(4, .ref (b + adC 21 r3)), (0, .ref (b + adC 0 0)), (1, .int a1), (2, .int a2), (3, .int a3)]) hx hb dX11_lockHeld_11 hl (by decide) rfl (fun ls hl => ?_)
  refine lv_aload_n hx hb dX11_lockHeld_13 rfl (lv_at hl 1 rfl) ?_
  refine lv_aload_n hx hb dX11_lockHeld_14 rfl (lv_at hl 1 rfl) ?_
  refine lv_aload hx hb dX11_lockHeld_15 (lv_at hl 0 rfl) ?_
  refine lv_iload_n hx hb dX11_lockHeld_17 rfl (lv_at hl 2 rfl) ?_
  refine lv_iload_n hx hb dX11_lockHeld_18 rfl (lv_at hl 4 rfl) ?_
  refine qC_Vi (As := [.ref (b + adC 21 r3), .int a1, .int a3]) (rest := [.ref (b + adC 0 0)]) C0 (c_X11_whyNotHeld l vr3 h) (cwV 3 C0.2.2.2.2 (tbV mC5_5_143 ⟨mC5_5_145, mpC5_1_13, mC5_1_1, mC5_5_146⟩) rfl rfl rfl (by decide +kernel) ⟨Nat.le_of_ble_eq_true rfl, Nat.le_of_ble_eq_true rfl⟩) (rcC_0 hR Nat.zero_lt_one) hR hT hS rfl hl.1 rfl (Nat.le_of_ble_eq_true rfl) dX11_lockHeld_19 ⟨Nat.le_of_ble_eq_true rfl, Nat.le_of_ble_eq_true rfl⟩ (fun r5 S6 H locs h hR hS => ?_)
  refine qx_Vv (As := [.int r5]) (rest := []) C0 hlk hexc (c_X11_settle l hl0 h) (cwV 1 C0.2.2.2.2 (tbV mC5_4_202 ⟨mC5_4_204, mpC5_1_8, mC5_1_1, mC5_4_205⟩) rfl rfl rfl (by decide +kernel) ⟨Nat.le_of_ble_eq_true rfl, Nat.le_of_ble_eq_true rfl⟩) (rcC_0 hR Nat.zero_lt_one) hR hT hS rfl hl.1 rfl (Nat.le_of_ble_eq_true rfl) dX11_lockHeld_22 ⟨Nat.le_of_ble_eq_true rfl, Nat.le_of_ble_eq_true rfl⟩ ⟨Nat.le_of_ble_eq_true rfl, Nat.le_of_ble_eq_true rfl⟩ (fun S8 H locs h hR hS => ?_)
  refine lv_aload hx hb dX11_lockHeld_25 (lv_at hl 0 rfl) ?_
  refine lv_iload_n hx hb dX11_lockHeld_27 rfl (lv_at hl 2 rfl) ?_
  refine qC_Vr (As := [.int a1]) (rest := []) C0 (c_X1_lockFor l vr3 h) (cwV 1 C0.2.2.2.2 (tbV mC5_5_149 ⟨mC5_5_115, mC5_5_116, mC5_1_7, mC5_5_117⟩) rfl rfl rfl (by decide +kernel) ⟨Nat.le_of_ble_eq_true rfl, Nat.le_of_ble_eq_true rfl⟩) (rcC_21 hR vr3) hR hT hS rfl hl.1 rfl (Nat.le_of_ble_eq_true rfl) dX11_lockHeld_28 ⟨Nat.le_of_ble_eq_true rfl, Nat.le_of_ble_eq_true rfl⟩ (fun r9 S10 H locs vr9 h hR hS => ?_)
  refine vx_ret (W.widen (k := 3) (n := 18) (Nat.le_of_ble_eq_true rfl) (Nat.le_of_ble_eq_true rfl) ?_); exact rtC_r C0 hr hlk hR hS vr9 h dX11_lockHeld_31

def rm_X11_renew : Room := { frames := 8, cells := 3, slots := 18, locals := 136 }
def F_X11_renew (a1 : Int32) (a2 : Int32) (a3 : Int32) (S : sSt) (k : Int32 → sSt → Prop) (kx : String → sSt → Prop) : Prop := F_X11_lockHeld a1 a2 a3 S (fun r1 S2 => ∀ S6, S6 = uI S2 22 r1 7 ((S2.1 13 (S2.2 0 0 4) 10) + (S2.1 18 (S2.2 0 0 4) 0)) → F_X6_closeAct (S6.2 0 0 4) a1 S6 (fun S9 => k (S9.1 22 r1 7) S9)) kx
set_option maxHeartbeats 4000000 in
set_option maxRecDepth 100000 in
theorem c_X11_renew (l : Launch) (hl0 : l.stackTraces = false) {D : va_G} {cy : Nat → ClassId} {b z : Nat} {tx : TX} {a1 : Int32} {a2 : Int32} {a3 : Int32} {S : sSt} {k : Int32 → sSt → Prop} {kx : String → sSt → Prop} (h : F_X11_renew a1 a2 a3 S k kx) : vx_Met l yX11_renew (Cond.code yX11_renew cX11_renew 5 (some .int) :: TB) rm_X11_renew (va_Pc [.ref (b + adC 0 0), .int a1, .int a2, .int a3] (fun U => RelC D cy b z tx S U U.heap ∧ TxR tx U)) (PiC D cy b z tx k) (XeC D cy b z tx kx) 3 18 (gA b 709 z) := by
  refine vx_ofW (cc := cX11_renew) (maxL := 5) (ret := (some .int)) (by decide) rfl ?_
  intro p e s m args below meth c s₁ B hml hexc hv
  obtain ⟨rfl, hR, hT⟩ := hv
  have hX0 := hR.2.2
  have C0 : CallFix p m c cX11_renew 5 s _ TB RX11 := ⟨B.exec, B.bytes, hml, findClass_of_methodNamed B.named, fun w hw => atoms_spec B.pre w (List.mem_cons_of_mem _ hw)⟩
  have hr := B.returns
  have hlk := B.notSynchronized
  have hx := C0.1
  have hb := C0.2.1
  have hS : va_S (gA b 709 z) s.heap s.heap [] := va_S.rf
  have hl := lv_entry ([.ref (b + adC 0 0), .int a1, .int a2, .int a3]) (n := 5) (Nat.le_of_ble_eq_true rfl)
  rw [lg_entry_eq]
  generalize (lg_sl ([.ref (b + adC 0 0), .int a1, .int a2, .int a3]) ++ List.replicate (5 - (lg_sl ([.ref (b + adC 0 0), .int a1, .int a2, .int a3])).length) Slot.unset).toArray = ls at hl ⊢
  have hl : lv_has ls 5 [(0, .ref (b + adC 0 0)), (1, .int a1), (2, .int a2), (3, .int a3)] := hl
  show W p l e rm_X11_renew s m _ below meth c s.heap [] 0 0 (vx_MQ below (PiC D cy b z tx k) (XeC D cy b z tx kx) _ s 3 18 (gA b 709 z)) _
  unfold F_X11_renew at h
  refine lv_aload_n hx hb dX11_renew_0 rfl (lv_at hl 0 rfl) ?_
  refine lv_iload_n hx hb dX11_renew_1 rfl (lv_at hl 1 rfl) ?_
  refine lv_iload_n hx hb dX11_renew_2 rfl (lv_at hl 2 rfl) ?_
  refine lv_iload_n hx hb dX11_renew_3 rfl (lv_at hl 3 rfl) ?_
  refine qx_Vr (As := [.int a1, .int a2, .int a3]) (rest := []) C0 hlk hexc (c_X11_lockHeld l hl0 h) (cwV 3 C0.2.2.2.2 (tbV mC5_5_130 ⟨mC5_5_132, mpC5_1_11, mC5_1_1, mC5_5_133⟩) rfl rfl rfl (by decide +kernel) ⟨Nat.le_of_ble_eq_true rfl, Nat.le_of_ble_eq_true rfl⟩) (rcC_0 hR Nat.zero_lt_one) hR hT hS rfl hl.1 rfl (Nat.le_of_ble_eq_true rfl) dX11_renew_4 ⟨Nat.le_of_ble_eq_true rfl, Nat.le_of_ble_eq_true rfl⟩ ⟨Nat.le_of_ble_eq_true rfl, Nat.le_of_ble_eq_true rfl⟩ (fun r1 S2 H locs vr1 h hR hS => ?_)
  refine lv_astore (lv' := [(4, .ref (b + adC 22 r1)), (0, .ref (b + adC 0 0)), (1, .int a1), (2, .int a2), (3, .int a3)]) hx hb dX11_renew_7 hl (by decide) rfl (fun ls hl => ?_)
  refine lv_aload hx hb dX11_renew_9 (lv_at hl 0 rfl) ?_
  refine lv_aload_n hx hb dX11_renew_11 rfl (lv_at hl 1 rfl) ?_
  refine gC_0_4 C0 hR Nat.zero_lt_one tbs_wsX110 mC5_2_213 dX11_renew_12 ?_
  have w3 : (S2.2 0 0 4) < 3 := hR.2.1.2.1
  refine gCn_13_10 C0 hR w3 tbs_wsX60 mC5_2_163 hT dX11_renew_15 ?_
  refine lv_aload_n hx hb dX11_renew_18 rfl (lv_at hl 1 rfl) ?_
  refine gC_0_4 C0 hR Nat.zero_lt_one tbs_wsX110 mC5_2_213 dX11_renew_19 ?_
  have w4 : (S2.2 0 0 4) < 3 := hR.2.1.2.1
  refine gCn_13_4 C0 hR w4 tbs_wsX60 mC5_2_143 hT dX11_renew_22 ?_
  have w5 : (S2.2 0 0 4) < 3 := by omega
  refine lv_iconst (v := 0) hx hb dX11_renew_25 (by decide) ?_
  refine lC_18 C0 hR w5 (by decide) rfl dX11_renew_26 ?_
  refine lv_iadd hx hb dX11_renew_27 ?_
  refine pCn_22_7 C0 hR hS vr1 tbs_wsX90 mC5_1_190 hT dX11_renew_28 (fun S6 eS6 H locs hR hS => ?_)
  have h := h S6 eS6
  refine lv_aload_n hx hb dX11_renew_31 rfl (lv_at hl 1 rfl) ?_
  refine gC_0_4 C0 hR Nat.zero_lt_one tbs_wsX110 mC5_2_213 dX11_renew_32 ?_
  have w7 : (S6.2 0 0 4) < 3 := hR.2.1.2.1
  refine lv_iload_n hx hb dX11_renew_35 rfl (lv_at hl 2 rfl) ?_
  refine qC_Vv (As := [.int a1]) (rest := []) C0 (c_X6_closeAct l w7 h) (cwV 1 C0.2.2.2.2 (tbV mC5_5_118 ⟨mC5_5_119, mC5_5_120, mC5_1_5, mC5_5_121⟩) rfl rfl rfl (by decide +kernel) ⟨Nat.le_of_ble_eq_true rfl, Nat.le_of_ble_eq_true rfl⟩) (rcC_13 hR w7) hR hT hS rfl hl.1 rfl (Nat.le_of_ble_eq_true rfl) dX11_renew_36 ⟨Nat.le_of_ble_eq_true rfl, Nat.le_of_ble_eq_true rfl⟩ (fun S9 H locs h hR hS => ?_)
  refine lv_aload hx hb dX11_renew_39 (lv_at hl 0 rfl) ?_
  refine gCn_22_7 C0 hR vr1 tbs_wsX90 mC5_1_190 hT dX11_renew_41 ?_
  refine vx_ret (W.widen (k := 3) (n := 18) (Nat.le_of_ble_eq_true rfl) (Nat.le_of_ble_eq_true rfl) ?_); exact rtC_i C0 hr hlk hR hS h dX11_renew_44

def rm_X11_finish : Room := { frames := 8, cells := 3, slots := 18, locals := 136 }
def F_X11_finish (a1 : Int32) (a2 : Int32) (a3 : Int32) (S : sSt) (k : Int32 → sSt → Prop) (kx : String → sSt → Prop) : Prop := F_X11_lockHeld a1 a2 a3 S (fun r1 S2 => ∀ S3, S3 = uI S2 22 r1 0 2 → F_X6_closeAct (S3.2 0 0 4) a1 S3 (fun S6 => k (S6.1 22 r1 2) S6)) kx
set_option maxHeartbeats 4000000 in
set_option maxRecDepth 100000 in
theorem c_X11_finish (l : Launch) (hl0 : l.stackTraces = false) {D : va_G} {cy : Nat → ClassId} {b z : Nat} {tx : TX} {a1 : Int32} {a2 : Int32} {a3 : Int32} {S : sSt} {k : Int32 → sSt → Prop} {kx : String → sSt → Prop} (h : F_X11_finish a1 a2 a3 S k kx) : vx_Met l yX11_finish (Cond.code yX11_finish cX11_finish 5 (some .int) :: TB) rm_X11_finish (va_Pc [.ref (b + adC 0 0), .int a1, .int a2, .int a3] (fun U => RelC D cy b z tx S U U.heap ∧ TxR tx U)) (PiC D cy b z tx k) (XeC D cy b z tx kx) 3 18 (gA b 709 z) := by
  refine vx_ofW (cc := cX11_finish) (maxL := 5) (ret := (some .int)) (by decide) rfl ?_
  intro p e s m args below meth c s₁ B hml hexc hv
  obtain ⟨rfl, hR, hT⟩ := hv
  have hX0 := hR.2.2
  have C0 : CallFix p m c cX11_finish 5 s _ TB RX11 := ⟨B.exec, B.bytes, hml, findClass_of_methodNamed B.named, fun w hw => atoms_spec B.pre w (List.mem_cons_of_mem _ hw)⟩
  have hr := B.returns
  have hlk := B.notSynchronized
  have hx := C0.1
  have hb := C0.2.1
  have hS : va_S (gA b 709 z) s.heap s.heap [] := va_S.rf
  have hl := lv_entry ([.ref (b + adC 0 0), .int a1, .int a2, .int a3]) (n := 5) (Nat.le_of_ble_eq_true rfl)
  rw [lg_entry_eq]
  generalize (lg_sl ([.ref (b + adC 0 0), .int a1, .int a2, .int a3]) ++ List.replicate (5 - (lg_sl ([.ref (b + adC 0 0), .int a1, .int a2, .int a3])).length) Slot.unset).toArray = ls at hl ⊢
  have hl : lv_has ls 5 [(0, .ref (b + adC 0 0)), (1, .int a1), (2, .int a2), (3, .int a3)] := hl
  show W p l e rm_X11_finish s m _ below meth c s.heap [] 0 0 (vx_MQ below (PiC D cy b z tx k) (XeC D cy b z tx kx) _ s 3 18 (gA b 709 z)) _
  unfold F_X11_finish at h
  refine lv_aload_n hx hb dX11_finish_0 rfl (lv_at hl 0 rfl) ?_
  refine lv_iload_n hx hb dX11_finish_1 rfl (lv_at hl 1 rfl) ?_
  refine lv_iload_n hx hb dX11_finish_2 rfl (lv_at hl 2 rfl) ?_
  refine lv_iload_n hx hb dX11_finish_3 rfl (lv_at hl 3 rfl) ?_
  refine qx_Vr (As := [.int a1, .int a2, .int a3]) (rest := []) C0 hlk hexc (c_X11_lockHeld l hl0 h) (cwV 3 C0.2.2.2.2 (tbV mC5_5_130 ⟨mC5_5_132, mpC5_1_11, mC5_1_1, mC5_5_133⟩) rfl rfl rfl (by decide +kernel) ⟨Nat.le_of_ble_eq_true rfl, Nat.le_of_ble_eq_true rfl⟩) (rcC_0 hR Nat.zero_lt_one) hR hT hS rfl hl.1 rfl (Nat.le_of_ble_eq_true rfl) dX11_finish_4 ⟨Nat.le_of_ble_eq_true rfl, Nat.le_of_ble_eq_true rfl⟩ ⟨Nat.le_of_ble_eq_true rfl, Nat.le_of_ble_eq_true rfl⟩ (fun r1 S2 H locs vr1 h hR hS => ?_)
  refine lv_astore (lv' := [(4, .ref (b + adC 22 r1)), (0, .ref (b + adC 0 0)), (1, .int a1), (2, .int a2), (3, .int a3)]) hx hb dX11_finish_7 hl (by decide) rfl (fun ls hl => ?_)
  refine lv_aload hx hb dX11_finish_9 (lv_at hl 0 rfl) ?_
  refine lv_iconst (v := 2) hx hb dX11_finish_11 (by decide) ?_
  refine pCn_22_0 C0 hR hS vr1 tbs_wsX90 mC5_1_162 hT dX11_finish_12 (fun S3 eS3 H locs hR hS => ?_)
  have h := h S3 eS3
  refine lv_aload_n hx hb dX11_finish_15 rfl (lv_at hl 1 rfl) ?_
  refine gC_0_4 C0 hR Nat.zero_lt_one tbs_wsX110 mC5_2_213 dX11_finish_16 ?_
  have w4 : (S3.2 0 0 4) < 3 := hR.2.1.2.1
  refine lv_iload_n hx hb dX11_finish_19 rfl (lv_at hl 2 rfl) ?_
  refine qC_Vv (As := [.int a1]) (rest := []) C0 (c_X6_closeAct l w4 h) (cwV 1 C0.2.2.2.2 (tbV mC5_5_118 ⟨mC5_5_119, mC5_5_120, mC5_1_5, mC5_5_121⟩) rfl rfl rfl (by decide +kernel) ⟨Nat.le_of_ble_eq_true rfl, Nat.le_of_ble_eq_true rfl⟩) (rcC_13 hR w4) hR hT hS rfl hl.1 rfl (Nat.le_of_ble_eq_true rfl) dX11_finish_20 ⟨Nat.le_of_ble_eq_true rfl, Nat.le_of_ble_eq_true rfl⟩ (fun S6 H locs h hR hS => ?_)
  refine lv_aload hx hb dX11_finish_23 (lv_at hl 0 rfl) ?_
  refine gCn_22_2 C0 hR vr1 tbs_wsX90 mC5_1_173 hT dX11_finish_25 ?_
  refine vx_ret (W.widen (k := 3) (n := 18) (Nat.le_of_ble_eq_true rfl) (Nat.le_of_ble_eq_true rfl) ?_); exact rtC_i C0 hr hlk hR hS h dX11_finish_28

def rm_X9_addCause : Room := { frames := 1, cells := 0, slots := 0, locals := 22 }
def F_X9_addCause (a0 : Nat) (a1 : Int32) (S : sSt) (k : sSt → Prop) : Prop := ∀ S1, S1 = uI S 22 a0 4 ((((S.1 22 a0 4) <<< (3 &&& 31)) ||| a1) &&& 134217727) → ∀ S2, S2 = uI S1 22 a0 3 (if 9 < ((S1.1 22 a0 3) + 1) then 9 else ((S1.1 22 a0 3) + 1)) → k S2
set_option maxHeartbeats 4000000 in
set_option maxRecDepth 100000 in
theorem c_X9_addCause (l : Launch) {D : va_G} {cy : Nat → ClassId} {b z : Nat} {tx : TX} {a0 : Nat} {a1 : Int32} {S : sSt} {k : sSt → Prop} (av0 : a0 < 432) (h : F_X9_addCause a0 a1 S k) : Met l yX9_addCause (Cond.code yX9_addCause cX9_addCause 2 none :: TB) rm_X9_addCause (va_Pc [.ref (b + adC 22 a0), .int a1] (fun U => RelC D cy b z tx S U U.heap ∧ TxR tx U)) (PvC D cy b z tx k) 0 0 (gA b 709 z) := by
  refine Met.ofW (cc := cX9_addCause) (maxL := 2) (ret := none) (by decide) rfl ?_
  intro p e s m args below meth c s₁ B hml hv
  obtain ⟨rfl, hR, hT⟩ := hv
  have C0 : CallFix p m c cX9_addCause 2 s _ TB RX9 := ⟨B.exec, B.bytes, hml, findClass_of_methodNamed B.named, fun w hw => atoms_spec B.pre w (List.mem_cons_of_mem _ hw)⟩
  have hr := B.returns
  have hlk := B.notSynchronized
  have hx := C0.1
  have hb := C0.2.1
  have hS : va_S (gA b 709 z) s.heap s.heap [] := va_S.rf
  have hl := lv_entry ([.ref (b + adC 22 a0), .int a1]) (n := 2) (Nat.le_of_ble_eq_true rfl)
  rw [lg_entry_eq]
  generalize (lg_sl ([.ref (b + adC 22 a0), .int a1]) ++ List.replicate (2 - (lg_sl ([.ref (b + adC 22 a0), .int a1])).length) Slot.unset).toArray = ls at hl ⊢
  have hl : lv_has ls 2 [(0, .ref (b + adC 22 a0)), (1, .int a1)] := hl
  show W p l e rm_X9_addCause s m _ below meth c s.heap [] 0 0 (MQ below (PvC D cy b z tx k) _ s 0 0 (gA b 709 z)) _
  unfold F_X9_addCause at h
  refine lv_aload_n hx hb dX9_addCause_0 rfl (lv_at hl 0 rfl) ?_
  refine lv_aload_n hx hb dX9_addCause_1 rfl (lv_at hl 0 rfl) ?_
  refine gC_22_4 C0 hR av0 tbs_wsX90 mC5_1_177 dX9_addCause_2 ?_
  refine lv_iconst (v := 3) hx hb dX9_addCause_5 (by decide) ?_
  refine lv_ishl hx hb dX9_addCause_6 ?_
  refine lv_iload_n hx hb dX9_addCause_7 rfl (lv_at hl 1 rfl) ?_
  refine lv_ior hx hb dX9_addCause_8 ?_
  refine lv_ldc (v := 134217727) hx hb C0.2.2.2.1 (C0.2.2.2.2 _ mC5_5_172) dX9_addCause_9 ?_
  refine lv_iand hx hb dX9_addCause_11 ?_
  refine pC_22_4 C0 hR hS av0 tbs_wsX90 mC5_1_177 dX9_addCause_12 (fun S1 eS1 H locs hR hS => ?_)
  have h := h S1 eS1
  refine lv_aload_n hx hb dX9_addCause_15 rfl (lv_at hl 0 rfl) ?_
  refine lv_aload_n hx hb dX9_addCause_16 rfl (lv_at hl 0 rfl) ?_
  refine gC_22_3 C0 hR av0 tbs_wsX90 mC5_1_174 dX9_addCause_17 ?_
  refine lv_iconst (v := 1) hx hb dX9_addCause_20 (by decide) ?_
  refine lv_iadd hx hb dX9_addCause_21 ?_
  refine lv_bipush (v := 9) hx hb dX9_addCause_22 (by decide) ?_
  refine va_mmin hx hb (C0.2.2.1.trans hl.1.symm) C0.2.2.2.1 (C0.2.2.2.2 _ mC5_5_173) (C0.2.2.2.2 _ mC5_5_67) (C0.2.2.2.2 _ mC5_1_25) (C0.2.2.2.2 _ mC5_5_68) (Nat.le_of_ble_eq_true rfl) (Nat.le_of_ble_eq_true rfl) (Nat.zero_le _) (Nat.zero_le _) dX9_addCause_24 ?_
  refine pC_22_3 C0 hR hS av0 tbs_wsX90 mC5_1_174 dX9_addCause_27 (fun S2 eS2 H locs hR hS => ?_)
  have h := h S2 eS2
  exact rtC_v C0 hr hlk hR hS h dX9_addCause_30

def rm_X6_waitOf : Room := { frames := 1, cells := 0, slots := 0, locals := 22 }
def B_X6_waitOf_36 (a0 : Nat) (a1 : Int32) (a2 : Int32) (a3 : Int32) (S : sSt) (k : Int32 → sSt → Prop) : Prop := ∀ x5 : Int32, x5 = (if (S.1 18 a0 2) < a3 then (S.1 18 a0 2) else a3) → ∀ x7 : Int32, x7 = ((S.1 18 a0 3) + 1) → ((1 ≤ x7 → (¬ x7 = 0) ∧ (k (x5 + (((7 * a1) + (3 * a2)) - ((7 * a1) + (3 * a2)) / x7 * x7)) S)) ∧ (¬ 1 ≤ x7 → k x5 S))
set_option maxHeartbeats 4000000 in
set_option maxRecDepth 100000 in
theorem Bw_X6_waitOf_36 {p : Program} {l : Launch} {e : Env} {s : State} {m : MethodId} {args : Array Value} {below : List Frame} {meth : Method} {c : Code} {D : va_G} {cy : Nat → ClassId} {b z : Nat} {tx : TX} (C0 : CallFix p m c cX6_waitOf 5 s args TB RX6) (hr : meth.sig.returnType = (some .int)) (hlk : meth.locks = false) (hT : TxR tx s) {k : Int32 → sSt → Prop} : ∀ (a0 : Nat) (a1 : Int32) (a2 : Int32) (a3 : Int32) (S : sSt) (H : Heap) (locs : List Loc) (ls : Array Slot) (av0 : a0 < 3), B_X6_waitOf_36 a0 a1 a2 a3 S k → RelC D cy b z tx S s H → va_S (gA b 709 z) s.heap H locs → lv_has ls 5 [(0, .ref (b + adC 13 a0)), (1, .int a1), (2, .int a2), (3, .int a3)] → W p l e rm_X6_waitOf s m args below meth c H locs 0 0 (MQ below (PiC D cy b z tx k) args s 0 0 (gA b 709 z)) (F0 m 36 ls []) := by
  intro a0 a1 a2 a3 S H locs ls av0 h hR hS hl
  have hx := C0.1
  have hb := C0.2.1
  unfold B_X6_waitOf_36 at h
  refine lv_iload_n hx hb dX6_waitOf_36 rfl (lv_at hl 3 rfl) ?_
  refine lv_aload_n hx hb dX6_waitOf_37 rfl (lv_at hl 0 rfl) ?_
  refine gC_13_4 C0 hR av0 tbs_wsX60 mC5_2_140 dX6_waitOf_38 ?_
  have w4 : a0 < 3 := by omega
  refine lv_iconst (v := 2) hx hb dX6_waitOf_41 (by decide) ?_
  refine lC_18 C0 hR w4 (by decide) rfl dX6_waitOf_42 ?_
  refine va_mmin hx hb (C0.2.2.1.trans hl.1.symm) C0.2.2.2.1 (C0.2.2.2.2 _ mC5_5_178) (C0.2.2.2.2 _ mC5_5_67) (C0.2.2.2.2 _ mC5_1_25) (C0.2.2.2.2 _ mC5_5_68) (Nat.le_of_ble_eq_true rfl) (Nat.le_of_ble_eq_true rfl) (Nat.zero_le _) (Nat.zero_le _) dX6_waitOf_43 ?_
  refine lv_topi (fun x5 ex5 => ?_)
  have h := h x5 ex5
  refine lv_istore_n (lv' := [(3, .int x5), (0, .ref (b + adC 13 a0)), (1, .int a1), (2, .int a2)]) hx hb dX6_waitOf_46 rfl hl (by decide) rfl (fun ls hl => ?_)
  refine lv_aload_n hx hb dX6_waitOf_47 rfl (lv_at hl 1 rfl) ?_
  refine gC_13_4 C0 hR av0 tbs_wsX60 mC5_2_140 dX6_waitOf_48 ?_
  have w6 : a0 < 3 := by omega
  refine lv_iconst (v := 3) hx hb dX6_waitOf_51 (by decide) ?_
  refine lC_18 C0 hR w6 (by decide) rfl dX6_waitOf_52 ?_
  refine lv_iconst (v := 1) hx hb dX6_waitOf_53 (by decide) ?_
  refine lv_iadd hx hb dX6_waitOf_54 ?_
  refine lv_topi (fun x7 ex7 => ?_)
  have h := h x7 ex7
  refine lv_istore (lv' := [(4, .int x7), (3, .int x5), (0, .ref (b + adC 13 a0)), (1, .int a1), (2, .int a2)]) hx hb dX6_waitOf_55 hl (by decide) rfl (fun ls hl => ?_)
  refine lv_iload hx hb dX6_waitOf_57 (lv_at hl 0 rfl) ?_
  refine lv_iconst (v := 1) hx hb dX6_waitOf_59 (by decide) ?_
  refine lv_icmp_ge (tgt := 67) hx hb dX6_waitOf_60 (by decide) (fun c8 => ?_) (fun c8 => ?_)
  · have h := h.1 c8
    refine lv_iload_n hx hb dX6_waitOf_67 rfl (lv_at hl 1 rfl) ?_
    refine lv_bipush (v := 7) hx hb dX6_waitOf_68 (by decide) ?_
    refine lv_iload_n hx hb dX6_waitOf_70 rfl (lv_at hl 3 rfl) ?_
    refine lv_imul hx hb dX6_waitOf_71 ?_
    refine lv_iconst (v := 3) hx hb dX6_waitOf_72 (by decide) ?_
    refine lv_iload_n hx hb dX6_waitOf_73 rfl (lv_at hl 4 rfl) ?_
    refine lv_imul hx hb dX6_waitOf_74 ?_
    refine lv_iadd hx hb dX6_waitOf_75 ?_
    refine lv_iload hx hb dX6_waitOf_76 (lv_at hl 0 rfl) ?_
    obtain ⟨n9, h⟩ := h
    refine lv_irem hx hb dX6_waitOf_78 n9 ?_
    refine lv_iadd hx hb dX6_waitOf_79 ?_
    exact rtC_i C0 hr hlk hR hS h dX6_waitOf_80
  · have h := h.2 c8
    refine lv_iload_n hx hb dX6_waitOf_63 rfl (lv_at hl 1 rfl) ?_
    refine lv_goto (tgt := 80) hx hb dX6_waitOf_64 (by decide) ?_
    exact rtC_i C0 hr hlk hR hS h dX6_waitOf_80
def Bb_X6_waitOf_10 (kk10 : Nat → Int32 → Int32 → Int32 → Int32 → sSt → Prop) (a0 : Nat) (a1 : Int32) (a2 : Int32) (a3 : Int32) (a4 : Int32) (S : sSt) (k : Int32 → sSt → Prop) : Prop := ((a2 ≤ a4 → B_X6_waitOf_36 a0 a1 a2 a3 S k) ∧ (¬ a2 ≤ a4 → (((S.1 18 a0 2) ≤ a3 → B_X6_waitOf_36 a0 a1 a2 a3 S k) ∧ (¬ (S.1 18 a0 2) ≤ a3 → ∀ x12 : Int32, x12 = (a3 * 2) → ∀ x13 : Int32, x13 = a4 + 1 → kk10 a0 a1 a2 x12 x13 S))))
set_option maxHeartbeats 4000000 in
set_option maxRecDepth 100000 in
theorem Bbw_X6_waitOf_10 {p : Program} {l : Launch} {e : Env} {s : State} {m : MethodId} {args : Array Value} {below : List Frame} {meth : Method} {c : Code} {D : va_G} {cy : Nat → ClassId} {b z : Nat} {tx : TX} (C0 : CallFix p m c cX6_waitOf 5 s args TB RX6) (hr : meth.sig.returnType = (some .int)) (hlk : meth.locks = false) (hT : TxR tx s) {k : Int32 → sSt → Prop} {kk10 : Nat → Int32 → Int32 → Int32 → Int32 → sSt → Prop} (ih10 : ∀ (a0 : Nat) (a1 : Int32) (a2 : Int32) (a3 : Int32) (a4 : Int32) (S : sSt) (H : Heap) (locs : List Loc) (ls : Array Slot) (av0 : a0 < 3), kk10 a0 a1 a2 a3 a4 S → RelC D cy b z tx S s H → va_S (gA b 709 z) s.heap H locs → lv_has ls 5 [(0, .ref (b + adC 13 a0)), (1, .int a1), (2, .int a2), (3, .int a3), (4, .int a4)] → W p l e rm_X6_waitOf s m args below meth c H locs 0 0 (MQ below (PiC D cy b z tx k) args s 0 0 (gA b 709 z)) (F0 m 10 ls [])) : ∀ (a0 : Nat) (a1 : Int32) (a2 : Int32) (a3 : Int32) (a4 : Int32) (S : sSt) (H : Heap) (locs : List Loc) (ls : Array Slot) (av0 : a0 < 3), Bb_X6_waitOf_10 kk10 a0 a1 a2 a3 a4 S k → RelC D cy b z tx S s H → va_S (gA b 709 z) s.heap H locs → lv_has ls 5 [(0, .ref (b + adC 13 a0)), (1, .int a1), (2, .int a2), (3, .int a3), (4, .int a4)] → W p l e rm_X6_waitOf s m args below meth c H locs 0 0 (MQ below (PiC D cy b z tx k) args s 0 0 (gA b 709 z)) (F0 m 10 ls []) := by
  intro a0 a1 a2 a3 a4 S H locs ls av0 h hR hS hl
  have hx := C0.1
  have hb := C0.2.1
  unfold Bb_X6_waitOf_10 at h
  refine lv_iload hx hb dX6_waitOf_10 (lv_at hl 4 rfl) ?_
  refine lv_iload_n hx hb dX6_waitOf_12 rfl (lv_at hl 2 rfl) ?_
  refine lv_icmp_ge (tgt := 36) hx hb dX6_waitOf_13 (by decide) (fun c3 => ?_) (fun c3 => ?_)
  · have h := h.1 c3
    exact Bw_X6_waitOf_36 C0 hr hlk hT a0 a1 a2 a3 S _ _ _ av0 h hR hS (lv_sub hl [0, 1, 2, 3] rfl)
  · have h := h.2 c3
    refine lv_iload_n hx hb dX6_waitOf_16 rfl (lv_at hl 3 rfl) ?_
    refine lv_aload_n hx hb dX6_waitOf_17 rfl (lv_at hl 0 rfl) ?_
    refine gC_13_4 C0 hR av0 tbs_wsX60 mC5_2_140 dX6_waitOf_18 ?_
    have w10 : a0 < 3 := by omega
    refine lv_iconst (v := 2) hx hb dX6_waitOf_21 (by decide) ?_
    refine lC_18 C0 hR w10 (by decide) rfl dX6_waitOf_22 ?_
    refine lv_icmp_ge (tgt := 36) hx hb dX6_waitOf_23 (by decide) (fun c11 => ?_) (fun c11 => ?_)
    · have h := h.1 c11
      exact Bw_X6_waitOf_36 C0 hr hlk hT a0 a1 a2 a3 S _ _ _ av0 h hR hS (lv_sub hl [0, 1, 2, 3] rfl)
    · have h := h.2 c11
      refine lv_iload_n hx hb dX6_waitOf_26 rfl (lv_at hl 3 rfl) ?_
      refine lv_iconst (v := 2) hx hb dX6_waitOf_27 (by decide) ?_
      refine lv_imul hx hb dX6_waitOf_28 ?_
      refine lv_topi (fun x12 ex12 => ?_)
      have h := h x12 ex12
      refine lv_istore_n (lv' := [(3, .int x12), (0, .ref (b + adC 13 a0)), (1, .int a1), (2, .int a2), (4, .int a4)]) hx hb dX6_waitOf_29 rfl hl (by decide) rfl (fun ls hl => ?_)
      obtain ⟨x13, ex13⟩ : ∃ x13 : Int32, x13 = a4 + 1 := ⟨_, rfl⟩
      have h := h x13 ex13
      refine w_iinc (v0 := 1) (lv' := [(4, .int x13), (3, .int x12), (0, .ref (b + adC 13 a0)), (1, .int a1), (2, .int a2)]) C0 dX6_waitOf_30 hl (k := 4) rfl (by decide) (by decide) x13 ex13 rfl (fun ls hl => ?_)
      refine lv_goto (tgt := 10) hx hb dX6_waitOf_33 (by decide) ?_
      exact ih10 a0 a1 a2 x12 x13 S _ _ _ av0 h hR hS (lv_sub hl [2, 3, 4, 1, 0] rfl)
def B_X6_waitOf_10 (n9 : Nat) (a0 : Nat) (a1 : Int32) (a2 : Int32) (a3 : Int32) (a4 : Int32) (S : sSt) (k : Int32 → sSt → Prop) : Prop := (Nat.rec (motive := fun _ => Nat → Int32 → Int32 → Int32 → Int32 → sSt → Prop) (fun _ _ _ _ _ _ => False) (fun _ r9 => fun a0 a1 a2 a3 a4 S => Bb_X6_waitOf_10 r9 a0 a1 a2 a3 a4 S k) n9 : Nat → Int32 → Int32 → Int32 → Int32 → sSt → Prop) a0 a1 a2 a3 a4 S
theorem B_X6_waitOf_10_s (n9 : Nat) (a0 : Nat) (a1 : Int32) (a2 : Int32) (a3 : Int32) (a4 : Int32) (S : sSt) (k : Int32 → sSt → Prop) : B_X6_waitOf_10 (n9 + 1) a0 a1 a2 a3 a4 S k = Bb_X6_waitOf_10 (fun a0 a1 a2 a3 a4 S => B_X6_waitOf_10 n9 a0 a1 a2 a3 a4 S k) a0 a1 a2 a3 a4 S k := rfl
set_option maxHeartbeats 4000000 in
set_option maxRecDepth 100000 in
theorem Bw_X6_waitOf_10 {p : Program} {l : Launch} {e : Env} {s : State} {m : MethodId} {args : Array Value} {below : List Frame} {meth : Method} {c : Code} {D : va_G} {cy : Nat → ClassId} {b z : Nat} {tx : TX} (C0 : CallFix p m c cX6_waitOf 5 s args TB RX6) (hr : meth.sig.returnType = (some .int)) (hlk : meth.locks = false) (hT : TxR tx s) {k : Int32 → sSt → Prop} : ∀ (n9 : Nat), ∀ (a0 : Nat) (a1 : Int32) (a2 : Int32) (a3 : Int32) (a4 : Int32) (S : sSt) (H : Heap) (locs : List Loc) (ls : Array Slot) (av0 : a0 < 3), B_X6_waitOf_10 n9 a0 a1 a2 a3 a4 S k → RelC D cy b z tx S s H → va_S (gA b 709 z) s.heap H locs → lv_has ls 5 [(0, .ref (b + adC 13 a0)), (1, .int a1), (2, .int a2), (3, .int a3), (4, .int a4)] → W p l e rm_X6_waitOf s m args below meth c H locs 0 0 (MQ below (PiC D cy b z tx k) args s 0 0 (gA b 709 z)) (F0 m 10 ls []) := by
  intro n9
  induction n9 with
  | zero => intro a0 a1 a2 a3 a4 S H locs ls av0 h; exact h.elim
  | succ n9 ih =>
    intro a0 a1 a2 a3 a4 S H locs ls av0 h hR hS hl
    exact Bbw_X6_waitOf_10 C0 hr hlk hT ih a0 a1 a2 a3 a4 S H locs ls av0 h hR hS hl
def F_X6_waitOf (a0 : Nat) (a1 : Int32) (a2 : Int32) (S : sSt) (k : Int32 → sSt → Prop) : Prop := ∀ x2 : Int32, x2 = (S.1 18 a0 1) → B_X6_waitOf_10 fuel a0 a1 a2 x2 1 S k
set_option maxHeartbeats 4000000 in
set_option maxRecDepth 100000 in
theorem c_X6_waitOf (l : Launch) {D : va_G} {cy : Nat → ClassId} {b z : Nat} {tx : TX} {a0 : Nat} {a1 : Int32} {a2 : Int32} {S : sSt} {k : Int32 → sSt → Prop} (av0 : a0 < 3) (h : F_X6_waitOf a0 a1 a2 S k) : Met l yX6_waitOf (Cond.code yX6_waitOf cX6_waitOf 5 (some .int) :: TB) rm_X6_waitOf (va_Pc [.ref (b + adC 13 a0), .int a1, .int a2] (fun U => RelC D cy b z tx S U U.heap ∧ TxR tx U)) (PiC D cy b z tx k) 0 0 (gA b 709 z) := by
  refine Met.ofW (cc := cX6_waitOf) (maxL := 5) (ret := (some .int)) (by decide) rfl ?_
  intro p e s m args below meth c s₁ B hml hv
  obtain ⟨rfl, hR, hT⟩ := hv
  have C0 : CallFix p m c cX6_waitOf 5 s _ TB RX6 := ⟨B.exec, B.bytes, hml, findClass_of_methodNamed B.named, fun w hw => atoms_spec B.pre w (List.mem_cons_of_mem _ hw)⟩
  have hr := B.returns
  have hlk := B.notSynchronized
  have hx := C0.1
  have hb := C0.2.1
  have hS : va_S (gA b 709 z) s.heap s.heap [] := va_S.rf
  have hl := lv_entry ([.ref (b + adC 13 a0), .int a1, .int a2]) (n := 5) (Nat.le_of_ble_eq_true rfl)
  rw [lg_entry_eq]
  generalize (lg_sl ([.ref (b + adC 13 a0), .int a1, .int a2]) ++ List.replicate (5 - (lg_sl ([.ref (b + adC 13 a0), .int a1, .int a2])).length) Slot.unset).toArray = ls at hl ⊢
  have hl : lv_has ls 5 [(0, .ref (b + adC 13 a0)), (1, .int a1), (2, .int a2)] := hl
  show W p l e rm_X6_waitOf s m _ below meth c s.heap [] 0 0 (MQ below (PiC D cy b z tx k) _ s 0 0 (gA b 709 z)) _
  unfold F_X6_waitOf at h
  refine lv_aload_n hx hb dX6_waitOf_0 rfl (lv_at hl 0 rfl) ?_
  refine gC_13_4 C0 hR av0 tbs_wsX60 mC5_2_140 dX6_waitOf_1 ?_
  have w1 : a0 < 3 := by omega
  refine lv_iconst (v := 1) hx hb dX6_waitOf_4 (by decide) ?_
  refine lC_18 C0 hR w1 (by decide) rfl dX6_waitOf_5 ?_
  refine lv_topi (fun x2 ex2 => ?_)
  have h := h x2 ex2
  refine lv_istore_n (lv' := [(3, .int x2), (0, .ref (b + adC 13 a0)), (1, .int a1), (2, .int a2)]) hx hb dX6_waitOf_6 rfl hl (by decide) rfl (fun ls hl => ?_)
  refine lv_iconst (v := 1) hx hb dX6_waitOf_7 (by decide) ?_
  refine lv_istore (lv' := [(4, .int 1), (3, .int x2), (0, .ref (b + adC 13 a0)), (1, .int a1), (2, .int a2)]) hx hb dX6_waitOf_8 hl (by decide) rfl (fun ls hl => ?_)
  exact Bw_X6_waitOf_10 C0 hr hlk hT fuel a0 a1 a2 x2 1 S _ _ _ av0 h hR hS (lv_sub hl [2, 3, 4, 1, 0] rfl)

def rm_X6_recordFailure : Room := { frames := 2, cells := 0, slots := 0, locals := 46 }
def B_X6_recordFailure_33 (a1 : Nat) (S : sSt) (k : sSt → Prop) : Prop := ∀ S5, S5 = uI S 22 a1 0 3 → k S5
set_option maxHeartbeats 4000000 in
set_option maxRecDepth 100000 in
theorem Bw_X6_recordFailure_33 {p : Program} {l : Launch} {e : Env} {s : State} {m : MethodId} {args : Array Value} {below : List Frame} {meth : Method} {c : Code} {D : va_G} {cy : Nat → ClassId} {b z : Nat} {tx : TX} (C0 : CallFix p m c cX6_recordFailure 4 s args TB RX6) (hr : meth.sig.returnType = none) (hlk : meth.locks = false) (hT : TxR tx s) {k : sSt → Prop} : ∀ (a1 : Nat) (S : sSt) (H : Heap) (locs : List Loc) (ls : Array Slot) (av1 : a1 < 432), B_X6_recordFailure_33 a1 S k → RelC D cy b z tx S s H → va_S (gA b 709 z) s.heap H locs → lv_has ls 4 [(1, .ref (b + adC 22 a1))] → W p l e rm_X6_recordFailure s m args below meth c H locs 0 0 (MQ below (PvC D cy b z tx k) args s 0 0 (gA b 709 z)) (F0 m 33 ls []) := by
  intro a1 S H locs ls av1 h hR hS hl
  have hx := C0.1
  have hb := C0.2.1
  unfold B_X6_recordFailure_33 at h
  refine lv_aload_n hx hb dX6_recordFailure_33 rfl (lv_at hl 0 rfl) ?_
  refine lv_iconst (v := 3) hx hb dX6_recordFailure_34 (by decide) ?_
  refine pCn_22_0 C0 hR hS av1 tbs_wsX90 mC5_1_161 hT dX6_recordFailure_35 (fun S5 eS5 H locs hR hS => ?_)
  have h := h S5 eS5
  exact rtC_v C0 hr hlk hR hS h dX6_recordFailure_38
def F_X6_recordFailure (a0 : Nat) (a1 : Nat) (a2 : Int32) (a3 : Int32) (S : sSt) (k : sSt → Prop) : Prop := ∀ S1, S1 = uI S 22 a1 2 ((S.1 22 a1 2) + 1) → F_X9_addCause a1 a3 S1 (fun S3 => ((a3 = 5 → B_X6_recordFailure_33 a1 S3 k) ∧ (¬ a3 = 5 → (((S3.1 22 a1 2) < (S3.1 18 a0 4) → ∀ S8, S8 = uI S3 22 a1 0 0 → F_X6_waitOf a0 a2 (S8.1 22 a1 2) S8 (fun r9 S10 => ∀ S11, S11 = uI S10 22 a1 1 ((S8.1 13 a0 10) + r9) → k S11)) ∧ (¬ (S3.1 22 a1 2) < (S3.1 18 a0 4) → B_X6_recordFailure_33 a1 S3 k)))))
set_option maxHeartbeats 4000000 in
set_option maxRecDepth 100000 in
theorem c_X6_recordFailure (l : Launch) {D : va_G} {cy : Nat → ClassId} {b z : Nat} {tx : TX} {a0 : Nat} {a1 : Nat} {a2 : Int32} {a3 : Int32} {S : sSt} {k : sSt → Prop} (av0 : a0 < 3) (av1 : a1 < 432) (h : F_X6_recordFailure a0 a1 a2 a3 S k) : Met l yX6_recordFailure (Cond.code yX6_recordFailure cX6_recordFailure 4 none :: TB) rm_X6_recordFailure (va_Pc [.ref (b + adC 13 a0), .ref (b + adC 22 a1), .int a2, .int a3] (fun U => RelC D cy b z tx S U U.heap ∧ TxR tx U)) (PvC D cy b z tx k) 0 0 (gA b 709 z) := by
  refine Met.ofW (cc := cX6_recordFailure) (maxL := 4) (ret := none) (by decide) rfl ?_
  intro p e s m args below meth c s₁ B hml hv
  obtain ⟨rfl, hR, hT⟩ := hv
  have C0 : CallFix p m c cX6_recordFailure 4 s _ TB RX6 := ⟨B.exec, B.bytes, hml, findClass_of_methodNamed B.named, fun w hw => atoms_spec B.pre w (List.mem_cons_of_mem _ hw)⟩
  have hr := B.returns
  have hlk := B.notSynchronized
  have hx := C0.1
  have hb := C0.2.1
  have hS : va_S (gA b 709 z) s.heap s.heap [] := va_S.rf
  have hl := lv_entry ([.ref (b + adC 13 a0), .ref (b + adC 22 a1), .int a2, .int a3]) (n := 4) (Nat.le_of_ble_eq_true rfl)
  rw [lg_entry_eq]
  generalize (lg_sl ([.ref (b + adC 13 a0), .ref (b + adC 22 a1), .int a2, .int a3]) ++ List.replicate (4 - (lg_sl ([.ref (b + adC 13 a0), .ref (b + adC 22 a1), .int a2, .int a3])).length) Slot.unset).toArray = ls at hl ⊢
  have hl : lv_has ls 4 [(0, .ref (b + adC 13 a0)), (1, .ref (b + adC 22 a1)), (2, .int a2), (3, .int a3)] := hl
  show W p l e rm_X6_recordFailure s m _ below meth c s.heap [] 0 0 (MQ below (PvC D cy b z tx k) _ s 0 0 (gA b 709 z)) _
  unfold F_X6_recordFailure at h
  refine lv_aload_n hx hb dX6_recordFailure_0 rfl (lv_at hl 1 rfl) ?_
  refine lv_dup hx hb dX6_recordFailure_1 rfl ?_
  refine gCn_22_2 C0 hR av1 tbs_wsX90 mC5_1_172 hT dX6_recordFailure_2 ?_
  refine lv_iconst (v := 1) hx hb dX6_recordFailure_5 (by decide) ?_
  refine lv_iadd hx hb dX6_recordFailure_6 ?_
  refine pCn_22_2 C0 hR hS av1 tbs_wsX90 mC5_1_172 hT dX6_recordFailure_7 (fun S1 eS1 H locs hR hS => ?_)
  have h := h S1 eS1
  refine lv_aload_n hx hb dX6_recordFailure_10 rfl (lv_at hl 1 rfl) ?_
  refine lv_iload_n hx hb dX6_recordFailure_11 rfl (lv_at hl 3 rfl) ?_
  refine qC_Vv (As := [.int a3]) (rest := []) C0 (c_X9_addCause l av1 h) (cwV 1 C0.2.2.2.2 (tbV mC5_5_168 ⟨mC5_5_169, mC5_5_170, mC5_1_8, mC5_5_171⟩) rfl rfl rfl (by decide +kernel) ⟨Nat.le_of_ble_eq_true rfl, Nat.le_of_ble_eq_true rfl⟩) (rcC_22 hR av1) hR hT hS rfl hl.1 rfl (Nat.le_of_ble_eq_true rfl) dX6_recordFailure_12 ⟨Nat.zero_le _, Nat.zero_le _⟩ (fun S3 H locs h hR hS => ?_)
  refine lv_iload_n hx hb dX6_recordFailure_15 rfl (lv_at hl 3 rfl) ?_
  refine lv_iconst (v := 5) hx hb dX6_recordFailure_16 (by decide) ?_
  refine lv_icmp_eq (tgt := 33) hx hb dX6_recordFailure_17 (by decide) (fun c4 => ?_) (fun c4 => ?_)
  · have h := h.1 c4
    exact Bw_X6_recordFailure_33 C0 hr hlk hT a1 S3 _ _ _ av1 h hR hS (lv_sub hl [1] rfl)
  · have h := h.2 c4
    refine lv_aload_n hx hb dX6_recordFailure_20 rfl (lv_at hl 1 rfl) ?_
    refine gCn_22_2 C0 hR av1 tbs_wsX90 mC5_1_172 hT dX6_recordFailure_21 ?_
    refine lv_aload_n hx hb dX6_recordFailure_24 rfl (lv_at hl 0 rfl) ?_
    refine gC_13_4 C0 hR av0 tbs_wsX60 mC5_2_140 dX6_recordFailure_25 ?_
    have w6 : a0 < 3 := by omega
    refine lv_iconst (v := 4) hx hb dX6_recordFailure_28 (by decide) ?_
    refine lC_18 C0 hR w6 (by decide) rfl dX6_recordFailure_29 ?_
    refine lv_icmp_lt (tgt := 39) hx hb dX6_recordFailure_30 (by decide) (fun c7 => ?_) (fun c7 => ?_)
    · have h := h.1 c7
      refine lv_aload_n hx hb dX6_recordFailure_39 rfl (lv_at hl 1 rfl) ?_
      refine lv_iconst (v := 0) hx hb dX6_recordFailure_40 (by decide) ?_
      refine pCn_22_0 C0 hR hS av1 tbs_wsX90 mC5_1_161 hT dX6_recordFailure_41 (fun S8 eS8 H locs hR hS => ?_)
      have h := h S8 eS8
      refine lv_aload_n hx hb dX6_recordFailure_44 rfl (lv_at hl 1 rfl) ?_
      refine lv_aload_n hx hb dX6_recordFailure_45 rfl (lv_at hl 0 rfl) ?_
      refine gC_13_10 C0 hR av0 tbs_wsX60 mC5_2_160 dX6_recordFailure_46 ?_
      refine lv_aload_n hx hb dX6_recordFailure_49 rfl (lv_at hl 0 rfl) ?_
      refine lv_iload_n hx hb dX6_recordFailure_50 rfl (lv_at hl 2 rfl) ?_
      refine lv_aload_n hx hb dX6_recordFailure_51 rfl (lv_at hl 1 rfl) ?_
      refine gCn_22_2 C0 hR av1 tbs_wsX90 mC5_1_172 hT dX6_recordFailure_52 ?_
      refine qC_Vi (As := [.int a2, .int (S8.1 22 a1 2)]) (rest := [.int (S8.1 13 a0 10), .ref (b + adC 22 a1)]) C0 (c_X6_waitOf l av0 h) (cwV 2 C0.2.2.2.2 (tbV mC5_5_174 ⟨mC5_5_176, mpC5_1_14, mC5_1_5, mC5_5_177⟩) rfl rfl rfl (by decide +kernel) ⟨Nat.le_of_ble_eq_true rfl, Nat.le_of_ble_eq_true rfl⟩) (rcC_13 hR av0) hR hT hS rfl hl.1 rfl (Nat.le_of_ble_eq_true rfl) dX6_recordFailure_55 ⟨Nat.zero_le _, Nat.zero_le _⟩ (fun r9 S10 H locs h hR hS => ?_)
      refine lv_iadd hx hb dX6_recordFailure_58 ?_
      refine pCn_22_1 C0 hR hS av1 tbs_wsX90 mC5_1_168 hT dX6_recordFailure_59 (fun S11 eS11 H locs hR hS => ?_)
      have h := h S11 eS11
      exact rtC_v C0 hr hlk hR hS h dX6_recordFailure_62
    · have h := h.2 c7
      exact Bw_X6_recordFailure_33 C0 hr hlk hT a1 S3 _ _ _ av1 h hR hS (lv_sub hl [1] rfl)

def rm_X11_fail : Room := { frames := 8, cells := 6, slots := 36, locals := 136 }
def B_X11_fail_23 (S : sSt) (k : Int32 → sSt → Prop) (kx : String → sSt → Prop) : Prop := kx "java/lang/IllegalArgumentException" S
set_option maxHeartbeats 4000000 in
set_option maxRecDepth 100000 in
theorem Bw_X11_fail_23 {p : Program} {l : Launch} {e : Env} {s : State} {m : MethodId} {args : Array Value} {below : List Frame} {meth : Method} {c : Code} {D : va_G} {cy : Nat → ClassId} {b z : Nat} {tx : TX} (C0 : CallFix p m c cX11_fail 6 s args TB RX11) (hr : meth.sig.returnType = (some .int)) (hlk : meth.locks = false) (hT : TxR tx s) (hl0 : l.stackTraces = false) (hX0 : TxP tx b z s s.heap) (hexc : ∀ x ∈ c.exceptionTable.toList, False) {k : Int32 → sSt → Prop} {kx : String → sSt → Prop} : ∀ (S : sSt) (H : Heap) (locs : List Loc) (ls : Array Slot) , B_X11_fail_23 S k kx → RelC D cy b z tx S s H → va_S (gA b 709 z) s.heap H locs → lv_has ls 6 [] → W p l e rm_X11_fail s m args below meth c H locs 2 12 (vx_MQ below (PiC D cy b z tx k) (XeC D cy b z tx kx) args s 6 36 (gA b 709 z)) (F0 m 23 ls []) := by
  intro S H locs ls h hR hS hl
  have hx := C0.1
  have hb := C0.2.1
  unfold B_X11_fail_23 at h
  exact w_throw_0 C0 hl0 hX0 hT hR hS hl.1 hexc hlk h mC5_4_45 mC5_1_21 dX11_fail_23 dX11_fail_26 dX11_fail_27 dX11_fail_30 (Nat.le_of_ble_eq_true rfl) (Nat.le_of_ble_eq_true rfl) (Nat.le_of_ble_eq_true rfl) (Nat.le_of_ble_eq_true rfl) (Nat.le_of_ble_eq_true rfl) (Nat.le_of_ble_eq_true rfl)
def F_X11_fail (a1 : Int32) (a2 : Int32) (a3 : Int32) (a4 : Int32) (S : sSt) (k : Int32 → sSt → Prop) (kx : String → sSt → Prop) : Prop := F_X11_needSession a1 S (fun S2 => F_X11_needJob a1 a2 S2 (fun r3 S4 => ((a4 < 0 → B_X11_fail_23 S4 k kx) ∧ (¬ a4 < 0 → ((a4 ≤ 5 → F_X11_lockHeld a1 a2 a3 S4 (fun r7 S8 => F_X6_recordFailure (S8.2 0 0 4) r7 a2 a4 S8 (fun S11 => F_X6_closeAct (S11.2 0 0 4) a1 S11 (fun S14 => k (S14.1 22 r7 0) S14))) kx) ∧ (¬ a4 ≤ 5 → B_X11_fail_23 S4 k kx))))) kx) kx
set_option maxHeartbeats 4000000 in
set_option maxRecDepth 100000 in
theorem c_X11_fail (l : Launch) (hl0 : l.stackTraces = false) {D : va_G} {cy : Nat → ClassId} {b z : Nat} {tx : TX} {a1 : Int32} {a2 : Int32} {a3 : Int32} {a4 : Int32} {S : sSt} {k : Int32 → sSt → Prop} {kx : String → sSt → Prop} (h : F_X11_fail a1 a2 a3 a4 S k kx) : vx_Met l yX11_fail (Cond.code yX11_fail cX11_fail 6 (some .int) :: TB) rm_X11_fail (va_Pc [.ref (b + adC 0 0), .int a1, .int a2, .int a3, .int a4] (fun U => RelC D cy b z tx S U U.heap ∧ TxR tx U)) (PiC D cy b z tx k) (XeC D cy b z tx kx) 6 36 (gA b 709 z) := by
  refine vx_ofW (cc := cX11_fail) (maxL := 6) (ret := (some .int)) (by decide) rfl ?_
  intro p e s m args below meth c s₁ B hml hexc hv
  obtain ⟨rfl, hR, hT⟩ := hv
  have hX0 := hR.2.2
  have C0 : CallFix p m c cX11_fail 6 s _ TB RX11 := ⟨B.exec, B.bytes, hml, findClass_of_methodNamed B.named, fun w hw => atoms_spec B.pre w (List.mem_cons_of_mem _ hw)⟩
  have hr := B.returns
  have hlk := B.notSynchronized
  have hx := C0.1
  have hb := C0.2.1
  have hS : va_S (gA b 709 z) s.heap s.heap [] := va_S.rf
  have hl := lv_entry ([.ref (b + adC 0 0), .int a1, .int a2, .int a3, .int a4]) (n := 6) (Nat.le_of_ble_eq_true rfl)
  rw [lg_entry_eq]
  generalize (lg_sl ([.ref (b + adC 0 0), .int a1, .int a2, .int a3, .int a4]) ++ List.replicate (6 - (lg_sl ([.ref (b + adC 0 0), .int a1, .int a2, .int a3, .int a4])).length) Slot.unset).toArray = ls at hl ⊢
  have hl : lv_has ls 6 [(0, .ref (b + adC 0 0)), (1, .int a1), (2, .int a2), (3, .int a3), (4, .int a4)] := hl
  show W p l e rm_X11_fail s m _ below meth c s.heap [] 0 0 (vx_MQ below (PiC D cy b z tx k) (XeC D cy b z tx kx) _ s 6 36 (gA b 709 z)) _
  unfold F_X11_fail at h
  refine lv_aload_n hx hb dX11_fail_0 rfl (lv_at hl 0 rfl) ?_
  refine lv_iload_n hx hb dX11_fail_1 rfl (lv_at hl 1 rfl) ?_
  refine qx_Vv (As := [.int a1]) (rest := []) C0 hlk hexc (c_X11_needSession l hl0 h) (cwV 1 C0.2.2.2.2 (tbV mC5_4_133 ⟨mC5_4_135, mpC5_1_5, mC5_1_1, mC5_4_136⟩) rfl rfl rfl (by decide +kernel) ⟨Nat.le_of_ble_eq_true rfl, Nat.le_of_ble_eq_true rfl⟩) (rcC_0 hR Nat.zero_lt_one) hR hT hS rfl hl.1 rfl (Nat.le_of_ble_eq_true rfl) dX11_fail_2 ⟨Nat.le_of_ble_eq_true rfl, Nat.le_of_ble_eq_true rfl⟩ ⟨Nat.le_of_ble_eq_true rfl, Nat.le_of_ble_eq_true rfl⟩ (fun S2 H locs h hR hS => ?_)
  refine lv_aload_n hx hb dX11_fail_5 rfl (lv_at hl 0 rfl) ?_
  refine lv_iload_n hx hb dX11_fail_6 rfl (lv_at hl 1 rfl) ?_
  refine lv_iload_n hx hb dX11_fail_7 rfl (lv_at hl 2 rfl) ?_
  refine qx_Vr (As := [.int a1, .int a2]) (rest := []) C0 hlk hexc (c_X11_needJob l hl0 h) (cwV 2 C0.2.2.2.2 (tbV mC5_5_134 ⟨mC5_5_136, mpC5_1_12, mC5_1_1, mC5_5_137⟩) rfl rfl rfl (by decide +kernel) ⟨Nat.le_of_ble_eq_true rfl, Nat.le_of_ble_eq_true rfl⟩) (rcC_0 hR Nat.zero_lt_one) hR hT hS rfl hl.1 rfl (Nat.le_of_ble_eq_true rfl) dX11_fail_8 ⟨Nat.le_of_ble_eq_true rfl, Nat.le_of_ble_eq_true rfl⟩ ⟨Nat.le_of_ble_eq_true rfl, Nat.le_of_ble_eq_true rfl⟩ (fun r3 S4 H locs vr3 h hR hS => ?_)
  refine lv_pop hx hb dX11_fail_11 rfl ?_
  refine lv_iload hx hb dX11_fail_12 (lv_at hl 4 rfl) ?_
  refine lv_if_lt (tgt := 23) hx hb dX11_fail_14 (by decide) (fun c5 => ?_) (fun c5 => ?_)
  · have h := h.1 c5
    refine W.widen (k := 2) (n := 12) (Nat.le_of_ble_eq_true rfl) (Nat.le_of_ble_eq_true rfl) ?_
    exact Bw_X11_fail_23 C0 hr hlk hT hl0 hX0 hexc S4 _ _ _ h hR hS (lv_sub hl [] rfl)
  · have h := h.2 c5
    refine lv_iload hx hb dX11_fail_17 (lv_at hl 4 rfl) ?_
    refine lv_iconst (v := 5) hx hb dX11_fail_19 (by decide) ?_
    refine lv_icmp_le (tgt := 31) hx hb dX11_fail_20 (by decide) (fun c6 => ?_) (fun c6 => ?_)
    · have h := h.1 c6
      refine lv_aload_n hx hb dX11_fail_31 rfl (lv_at hl 0 rfl) ?_
      refine lv_iload_n hx hb dX11_fail_32 rfl (lv_at hl 1 rfl) ?_
      refine lv_iload_n hx hb dX11_fail_33 rfl (lv_at hl 2 rfl) ?_
      refine lv_iload_n hx hb dX11_fail_34 rfl (lv_at hl 3 rfl) ?_
      refine qx_Vr (As := [.int a1, .int a2, .int a3]) (rest := []) C0 hlk hexc (c_X11_lockHeld l hl0 h) (cwV 3 C0.2.2.2.2 (tbV mC5_5_130 ⟨mC5_5_132, mpC5_1_11, mC5_1_1, mC5_5_133⟩) rfl rfl rfl (by decide +kernel) ⟨Nat.le_of_ble_eq_true rfl, Nat.le_of_ble_eq_true rfl⟩) (rcC_0 hR Nat.zero_lt_one) hR hT hS rfl hl.1 rfl (Nat.le_of_ble_eq_true rfl) dX11_fail_35 ⟨Nat.le_of_ble_eq_true rfl, Nat.le_of_ble_eq_true rfl⟩ ⟨Nat.le_of_ble_eq_true rfl, Nat.le_of_ble_eq_true rfl⟩ (fun r7 S8 H locs vr7 h hR hS => ?_)
      refine lv_astore (lv' := [(5, .ref (b + adC 22 r7)), (0, .ref (b + adC 0 0)), (1, .int a1), (2, .int a2), (3, .int a3), (4, .int a4)]) hx hb dX11_fail_38 hl (by decide) rfl (fun ls hl => ?_)
      refine lv_aload_n hx hb dX11_fail_40 rfl (lv_at hl 1 rfl) ?_
      refine gC_0_4 C0 hR Nat.zero_lt_one tbs_wsX110 mC5_2_213 dX11_fail_41 ?_
      have w9 : (S8.2 0 0 4) < 3 := hR.2.1.2.1
      refine lv_aload hx hb dX11_fail_44 (lv_at hl 0 rfl) ?_
      refine lv_iload_n hx hb dX11_fail_46 rfl (lv_at hl 3 rfl) ?_
      refine lv_iload hx hb dX11_fail_47 (lv_at hl 5 rfl) ?_
      refine qC_Vv (As := [.ref (b + adC 22 r7), .int a2, .int a4]) (rest := []) C0 (c_X6_recordFailure l w9 vr7 h) (cwV 3 C0.2.2.2.2 (tbV mC5_5_164 ⟨mC5_5_165, mC5_5_166, mC5_1_5, mC5_5_167⟩) rfl rfl rfl (by decide +kernel) ⟨Nat.le_of_ble_eq_true rfl, Nat.le_of_ble_eq_true rfl⟩) (rcC_13 hR w9) hR hT hS rfl hl.1 rfl (Nat.le_of_ble_eq_true rfl) dX11_fail_49 ⟨Nat.le_of_ble_eq_true rfl, Nat.le_of_ble_eq_true rfl⟩ (fun S11 H locs h hR hS => ?_)
      refine lv_aload_n hx hb dX11_fail_52 rfl (lv_at hl 1 rfl) ?_
      refine gC_0_4 C0 hR Nat.zero_lt_one tbs_wsX110 mC5_2_213 dX11_fail_53 ?_
      have w12 : (S11.2 0 0 4) < 3 := hR.2.1.2.1
      refine lv_iload_n hx hb dX11_fail_56 rfl (lv_at hl 2 rfl) ?_
      refine qC_Vv (As := [.int a1]) (rest := []) C0 (c_X6_closeAct l w12 h) (cwV 1 C0.2.2.2.2 (tbV mC5_5_118 ⟨mC5_5_119, mC5_5_120, mC5_1_5, mC5_5_121⟩) rfl rfl rfl (by decide +kernel) ⟨Nat.le_of_ble_eq_true rfl, Nat.le_of_ble_eq_true rfl⟩) (rcC_13 hR w12) hR hT hS rfl hl.1 rfl (Nat.le_of_ble_eq_true rfl) dX11_fail_57 ⟨Nat.le_of_ble_eq_true rfl, Nat.le_of_ble_eq_true rfl⟩ (fun S14 H locs h hR hS => ?_)
      refine lv_aload hx hb dX11_fail_60 (lv_at hl 0 rfl) ?_
      refine gCn_22_0 C0 hR vr7 tbs_wsX90 mC5_1_162 hT dX11_fail_62 ?_
      refine vx_ret (W.widen (k := 6) (n := 36) (Nat.le_of_ble_eq_true rfl) (Nat.le_of_ble_eq_true rfl) ?_); exact rtC_i C0 hr hlk hR hS h dX11_fail_65
    · have h := h.2 c6
      refine W.widen (k := 2) (n := 12) (Nat.le_of_ble_eq_true rfl) (Nat.le_of_ble_eq_true rfl) ?_
      exact Bw_X11_fail_23 C0 hr hlk hT hl0 hX0 hexc S4 _ _ _ h hR hS (lv_sub hl [] rfl)

def rm_X11_give : Room := { frames := 8, cells := 3, slots := 18, locals := 136 }
def F_X11_give (a1 : Int32) (a2 : Int32) (a3 : Int32) (S : sSt) (k : Int32 → sSt → Prop) (kx : String → sSt → Prop) : Prop := F_X11_lockHeld a1 a2 a3 S (fun r1 S2 => ∀ S3, S3 = uI S2 22 r1 0 0 → ∀ S5, S5 = uI S3 22 r1 1 (S3.1 13 (S3.2 0 0 4) 10) → F_X6_closeAct (S5.2 0 0 4) a1 S5 (fun S8 => k ((S8.1 22 r1 7) - (S8.1 13 (S8.2 0 0 4) 10)) S8)) kx
set_option maxHeartbeats 4000000 in
set_option maxRecDepth 100000 in
theorem c_X11_give (l : Launch) (hl0 : l.stackTraces = false) {D : va_G} {cy : Nat → ClassId} {b z : Nat} {tx : TX} {a1 : Int32} {a2 : Int32} {a3 : Int32} {S : sSt} {k : Int32 → sSt → Prop} {kx : String → sSt → Prop} (h : F_X11_give a1 a2 a3 S k kx) : vx_Met l yX11_give (Cond.code yX11_give cX11_give 5 (some .int) :: TB) rm_X11_give (va_Pc [.ref (b + adC 0 0), .int a1, .int a2, .int a3] (fun U => RelC D cy b z tx S U U.heap ∧ TxR tx U)) (PiC D cy b z tx k) (XeC D cy b z tx kx) 3 18 (gA b 709 z) := by
  refine vx_ofW (cc := cX11_give) (maxL := 5) (ret := (some .int)) (by decide) rfl ?_
  intro p e s m args below meth c s₁ B hml hexc hv
  obtain ⟨rfl, hR, hT⟩ := hv
  have hX0 := hR.2.2
  have C0 : CallFix p m c cX11_give 5 s _ TB RX11 := ⟨B.exec, B.bytes, hml, findClass_of_methodNamed B.named, fun w hw => atoms_spec B.pre w (List.mem_cons_of_mem _ hw)⟩
  have hr := B.returns
  have hlk := B.notSynchronized
  have hx := C0.1
  have hb := C0.2.1
  have hS : va_S (gA b 709 z) s.heap s.heap [] := va_S.rf
  have hl := lv_entry ([.ref (b + adC 0 0), .int a1, .int a2, .int a3]) (n := 5) (Nat.le_of_ble_eq_true rfl)
  rw [lg_entry_eq]
  generalize (lg_sl ([.ref (b + adC 0 0), .int a1, .int a2, .int a3]) ++ List.replicate (5 - (lg_sl ([.ref (b + adC 0 0), .int a1, .int a2, .int a3])).length) Slot.unset).toArray = ls at hl ⊢
  have hl : lv_has ls 5 [(0, .ref (b + adC 0 0)), (1, .int a1), (2, .int a2), (3, .int a3)] := hl
  show W p l e rm_X11_give s m _ below meth c s.heap [] 0 0 (vx_MQ below (PiC D cy b z tx k) (XeC D cy b z tx kx) _ s 3 18 (gA b 709 z)) _
  unfold F_X11_give at h
  refine lv_aload_n hx hb dX11_give_0 rfl (lv_at hl 0 rfl) ?_
  refine lv_iload_n hx hb dX11_give_1 rfl (lv_at hl 1 rfl) ?_
  refine lv_iload_n hx hb dX11_give_2 rfl (lv_at hl 2 rfl) ?_
  refine lv_iload_n hx hb dX11_give_3 rfl (lv_at hl 3 rfl) ?_
  refine qx_Vr (As := [.int a1, .int a2, .int a3]) (rest := []) C0 hlk hexc (c_X11_lockHeld l hl0 h) (cwV 3 C0.2.2.2.2 (tbV mC5_5_130 ⟨mC5_5_132, mpC5_1_11, mC5_1_1, mC5_5_133⟩) rfl rfl rfl (by decide +kernel) ⟨Nat.le_of_ble_eq_true rfl, Nat.le_of_ble_eq_true rfl⟩) (rcC_0 hR Nat.zero_lt_one) hR hT hS rfl hl.1 rfl (Nat.le_of_ble_eq_true rfl) dX11_give_4 ⟨Nat.le_of_ble_eq_true rfl, Nat.le_of_ble_eq_true rfl⟩ ⟨Nat.le_of_ble_eq_true rfl, Nat.le_of_ble_eq_true rfl⟩ (fun r1 S2 H locs vr1 h hR hS => ?_)
  refine lv_astore (lv' := [(4, .ref (b + adC 22 r1)), (0, .ref (b + adC 0 0)), (1, .int a1), (2, .int a2), (3, .int a3)]) hx hb dX11_give_7 hl (by decide) rfl (fun ls hl => ?_)
  refine lv_aload hx hb dX11_give_9 (lv_at hl 0 rfl) ?_
  refine lv_iconst (v := 0) hx hb dX11_give_11 (by decide) ?_
  refine pCn_22_0 C0 hR hS vr1 tbs_wsX90 mC5_1_162 hT dX11_give_12 (fun S3 eS3 H locs hR hS => ?_)
  have h := h S3 eS3
  refine lv_aload hx hb dX11_give_15 (lv_at hl 0 rfl) ?_
  refine lv_aload_n hx hb dX11_give_17 rfl (lv_at hl 1 rfl) ?_
  refine gC_0_4 C0 hR Nat.zero_lt_one tbs_wsX110 mC5_2_213 dX11_give_18 ?_
  have w4 : (S3.2 0 0 4) < 3 := hR.2.1.2.1
  refine gCn_13_10 C0 hR w4 tbs_wsX60 mC5_2_163 hT dX11_give_21 ?_
  refine pCn_22_1 C0 hR hS vr1 tbs_wsX90 mC5_1_169 hT dX11_give_24 (fun S5 eS5 H locs hR hS => ?_)
  have h := h S5 eS5
  refine lv_aload_n hx hb dX11_give_27 rfl (lv_at hl 1 rfl) ?_
  refine gC_0_4 C0 hR Nat.zero_lt_one tbs_wsX110 mC5_2_213 dX11_give_28 ?_
  have w6 : (S5.2 0 0 4) < 3 := hR.2.1.2.1
  refine lv_iload_n hx hb dX11_give_31 rfl (lv_at hl 2 rfl) ?_
  refine qC_Vv (As := [.int a1]) (rest := []) C0 (c_X6_closeAct l w6 h) (cwV 1 C0.2.2.2.2 (tbV mC5_5_118 ⟨mC5_5_119, mC5_5_120, mC5_1_5, mC5_5_121⟩) rfl rfl rfl (by decide +kernel) ⟨Nat.le_of_ble_eq_true rfl, Nat.le_of_ble_eq_true rfl⟩) (rcC_13 hR w6) hR hT hS rfl hl.1 rfl (Nat.le_of_ble_eq_true rfl) dX11_give_32 ⟨Nat.le_of_ble_eq_true rfl, Nat.le_of_ble_eq_true rfl⟩ (fun S8 H locs h hR hS => ?_)
  refine lv_aload hx hb dX11_give_35 (lv_at hl 0 rfl) ?_
  refine gCn_22_7 C0 hR vr1 tbs_wsX90 mC5_1_190 hT dX11_give_37 ?_
  refine lv_aload_n hx hb dX11_give_40 rfl (lv_at hl 1 rfl) ?_
  refine gC_0_4 C0 hR Nat.zero_lt_one tbs_wsX110 mC5_2_213 dX11_give_41 ?_
  have w9 : (S8.2 0 0 4) < 3 := hR.2.1.2.1
  refine gCn_13_10 C0 hR w9 tbs_wsX60 mC5_2_163 hT dX11_give_44 ?_
  refine lv_isub hx hb dX11_give_47 ?_
  refine vx_ret (W.widen (k := 3) (n := 18) (Nat.le_of_ble_eq_true rfl) (Nat.le_of_ble_eq_true rfl) ?_); exact rtC_i C0 hr hlk hR hS h dX11_give_48

def rm_X6_isLate : Room := { frames := 0, cells := 0, slots := 0, locals := 0 }
def F_X6_isLate (a0 : Nat) (a1 : Nat) (S : sSt) (k : Int32 → sSt → Prop) : Prop := ((¬ (S.1 22 a1 0) = 1 → k 0 S) ∧ ((S.1 22 a1 0) = 1 → (((S.1 13 a0 10) ≤ (S.1 22 a1 7) → k 0 S) ∧ (¬ (S.1 13 a0 10) ≤ (S.1 22 a1 7) → k 1 S))))
set_option maxHeartbeats 4000000 in
set_option maxRecDepth 100000 in
theorem c_X6_isLate (l : Launch) {D : va_G} {cy : Nat → ClassId} {b z : Nat} {tx : TX} {a0 : Nat} {a1 : Nat} {S : sSt} {k : Int32 → sSt → Prop} (av0 : a0 < 3) (av1 : a1 < 432) (h : F_X6_isLate a0 a1 S k) : Met l yX6_isLate (Cond.code yX6_isLate cX6_isLate 2 (some .boolean) :: TB) rm_X6_isLate (va_Pc [.ref (b + adC 13 a0), .ref (b + adC 22 a1)] (fun U => RelC D cy b z tx S U U.heap ∧ TxR tx U)) (PiC D cy b z tx k) 0 0 (gA b 709 z) := by
  refine Met.ofW (cc := cX6_isLate) (maxL := 2) (ret := (some .boolean)) (by decide) rfl ?_
  intro p e s m args below meth c s₁ B hml hv
  obtain ⟨rfl, hR, hT⟩ := hv
  have C0 : CallFix p m c cX6_isLate 2 s _ TB RX6 := ⟨B.exec, B.bytes, hml, findClass_of_methodNamed B.named, fun w hw => atoms_spec B.pre w (List.mem_cons_of_mem _ hw)⟩
  have hr := B.returns
  have hlk := B.notSynchronized
  have hx := C0.1
  have hb := C0.2.1
  have hS : va_S (gA b 709 z) s.heap s.heap [] := va_S.rf
  have hl := lv_entry ([.ref (b + adC 13 a0), .ref (b + adC 22 a1)]) (n := 2) (Nat.le_of_ble_eq_true rfl)
  rw [lg_entry_eq]
  generalize (lg_sl ([.ref (b + adC 13 a0), .ref (b + adC 22 a1)]) ++ List.replicate (2 - (lg_sl ([.ref (b + adC 13 a0), .ref (b + adC 22 a1)])).length) Slot.unset).toArray = ls at hl ⊢
  have hl : lv_has ls 2 [(0, .ref (b + adC 13 a0)), (1, .ref (b + adC 22 a1))] := hl
  show W p l e rm_X6_isLate s m _ below meth c s.heap [] 0 0 (MQ below (PiC D cy b z tx k) _ s 0 0 (gA b 709 z)) _
  unfold F_X6_isLate at h
  refine lv_aload_n hx hb dX6_isLate_0 rfl (lv_at hl 1 rfl) ?_
  refine gCn_22_0 C0 hR av1 tbs_wsX90 mC5_1_161 hT dX6_isLate_1 ?_
  refine lv_iconst (v := 1) hx hb dX6_isLate_4 (by decide) ?_
  refine lv_icmp_ne (tgt := 23) hx hb dX6_isLate_5 (by decide) (fun c1 => ?_) (fun c1 => ?_)
  · have h := h.1 c1
    refine lv_iconst (v := 0) hx hb dX6_isLate_23 (by decide) ?_
    exact rtC_z C0 hr hlk hR hS (by decide) h dX6_isLate_24
  · have h := h.2 c1
    refine lv_aload_n hx hb dX6_isLate_8 rfl (lv_at hl 1 rfl) ?_
    refine gCn_22_7 C0 hR av1 tbs_wsX90 mC5_1_191 hT dX6_isLate_9 ?_
    refine lv_aload_n hx hb dX6_isLate_12 rfl (lv_at hl 0 rfl) ?_
    refine gC_13_10 C0 hR av0 tbs_wsX60 mC5_2_160 dX6_isLate_13 ?_
    refine lv_icmp_ge (tgt := 23) hx hb dX6_isLate_16 (by decide) (fun c2 => ?_) (fun c2 => ?_)
    · have h := h.1 c2
      refine lv_iconst (v := 0) hx hb dX6_isLate_23 (by decide) ?_
      exact rtC_z C0 hr hlk hR hS (by decide) h dX6_isLate_24
    · have h := h.2 c2
      refine lv_iconst (v := 1) hx hb dX6_isLate_19 (by decide) ?_
      refine lv_goto (tgt := 24) hx hb dX6_isLate_20 (by decide) ?_
      exact rtC_z C0 hr hlk hR hS (by decide) h dX6_isLate_24

def rm_X6_reapLate : Room := { frames := 3, cells := 0, slots := 0, locals := 69 }
def B_X6_reapLate_83 (kk4 : Nat → Int32 → Int32 → Int32 → sSt → Prop) (a0 : Nat) (a1 : Int32) (a2 : Int32) (a3 : Int32) (S : sSt) (k : Int32 → sSt → Prop) : Prop := ∀ x9 : Int32, x9 = a3 + 1 → kk4 a0 a1 a2 x9 S
set_option maxHeartbeats 4000000 in
set_option maxRecDepth 100000 in
theorem Bw_X6_reapLate_83 {p : Program} {l : Launch} {e : Env} {s : State} {m : MethodId} {args : Array Value} {below : List Frame} {meth : Method} {c : Code} {D : va_G} {cy : Nat → ClassId} {b z : Nat} {tx : TX} (C0 : CallFix p m c cX6_reapLate 6 s args TB RX6) (hr : meth.sig.returnType = (some .int)) (hlk : meth.locks = false) (hT : TxR tx s) {k : Int32 → sSt → Prop} {kk4 : Nat → Int32 → Int32 → Int32 → sSt → Prop} (ih4 : ∀ (a0 : Nat) (a1 : Int32) (a2 : Int32) (a3 : Int32) (S : sSt) (H : Heap) (locs : List Loc) (ls : Array Slot) (av0 : a0 < 3), kk4 a0 a1 a2 a3 S → RelC D cy b z tx S s H → va_S (gA b 709 z) s.heap H locs → lv_has ls 6 [(0, .ref (b + adC 13 a0)), (1, .int a1), (2, .int a2), (3, .int a3)] → W p l e rm_X6_reapLate s m args below meth c H locs 0 0 (MQ below (PiC D cy b z tx k) args s 0 0 (gA b 709 z)) (F0 m 4 ls [])) : ∀ (a0 : Nat) (a1 : Int32) (a2 : Int32) (a3 : Int32) (S : sSt) (H : Heap) (locs : List Loc) (ls : Array Slot) (av0 : a0 < 3), B_X6_reapLate_83 kk4 a0 a1 a2 a3 S k → RelC D cy b z tx S s H → va_S (gA b 709 z) s.heap H locs → lv_has ls 6 [(0, .ref (b + adC 13 a0)), (1, .int a1), (2, .int a2), (3, .int a3)] → W p l e rm_X6_reapLate s m args below meth c H locs 0 0 (MQ below (PiC D cy b z tx k) args s 0 0 (gA b 709 z)) (F0 m 83 ls []) := by
  intro a0 a1 a2 a3 S H locs ls av0 h hR hS hl
  have hx := C0.1
  have hb := C0.2.1
  unfold B_X6_reapLate_83 at h
  obtain ⟨x9, ex9⟩ : ∃ x9 : Int32, x9 = a3 + 1 := ⟨_, rfl⟩
  have h := h x9 ex9
  refine w_iinc (v0 := 1) (lv' := [(3, .int x9), (0, .ref (b + adC 13 a0)), (1, .int a1), (2, .int a2)]) C0 dX6_reapLate_83 hl (k := 3) rfl (by decide) (by decide) x9 ex9 rfl (fun ls hl => ?_)
  refine lv_goto (tgt := 4) hx hb dX6_reapLate_86 (by decide) ?_
  exact ih4 a0 a1 a2 x9 S _ _ _ av0 h hR hS (lv_sub hl [1, 2, 3, 0] rfl)
def B_X6_reapLate_43 (kk4 : Nat → Int32 → Int32 → Int32 → sSt → Prop) (a0 : Nat) (a1 : Int32) (a2 : Int32) (a3 : Int32) (a4 : Nat) (t0 : Int32) (S : sSt) (k : Int32 → sSt → Prop) : Prop := ((t0 = 0 → B_X6_reapLate_83 kk4 a0 a1 a2 a3 S k) ∧ (¬ t0 = 0 → F_X1_seenBy a4 a1 S (fun r10 S11 => F_X6_isLate a0 r10 S11 (fun r12 S13 => ((r12 = 0 → B_X6_reapLate_83 kk4 a0 a1 a2 a3 S13 k) ∧ (¬ r12 = 0 → F_X1_lockFor a4 a1 S13 (fun r15 S16 => F_X6_recordFailure a0 r15 (S16.1 21 a4 6) 6 S16 (fun S18 => ∀ x19 : Int32, x19 = a2 + 1 → B_X6_reapLate_83 kk4 a0 a1 x19 a3 S18 k))))))))
set_option maxHeartbeats 4000000 in
set_option maxRecDepth 100000 in
theorem Bw_X6_reapLate_43 {p : Program} {l : Launch} {e : Env} {s : State} {m : MethodId} {args : Array Value} {below : List Frame} {meth : Method} {c : Code} {D : va_G} {cy : Nat → ClassId} {b z : Nat} {tx : TX} (C0 : CallFix p m c cX6_reapLate 6 s args TB RX6) (hr : meth.sig.returnType = (some .int)) (hlk : meth.locks = false) (hT : TxR tx s) {k : Int32 → sSt → Prop} {kk4 : Nat → Int32 → Int32 → Int32 → sSt → Prop} (ih4 : ∀ (a0 : Nat) (a1 : Int32) (a2 : Int32) (a3 : Int32) (S : sSt) (H : Heap) (locs : List Loc) (ls : Array Slot) (av0 : a0 < 3), kk4 a0 a1 a2 a3 S → RelC D cy b z tx S s H → va_S (gA b 709 z) s.heap H locs → lv_has ls 6 [(0, .ref (b + adC 13 a0)), (1, .int a1), (2, .int a2), (3, .int a3)] → W p l e rm_X6_reapLate s m args below meth c H locs 0 0 (MQ below (PiC D cy b z tx k) args s 0 0 (gA b 709 z)) (F0 m 4 ls [])) : ∀ (a0 : Nat) (a1 : Int32) (a2 : Int32) (a3 : Int32) (a4 : Nat) (t0 : Int32) (S : sSt) (H : Heap) (locs : List Loc) (ls : Array Slot) (av0 : a0 < 3) (av4 : a4 < 72), B_X6_reapLate_43 kk4 a0 a1 a2 a3 a4 t0 S k → RelC D cy b z tx S s H → va_S (gA b 709 z) s.heap H locs → lv_has ls 6 [(0, .ref (b + adC 13 a0)), (1, .int a1), (2, .int a2), (3, .int a3), (4, .ref (b + adC 21 a4))] → W p l e rm_X6_reapLate s m args below meth c H locs 0 0 (MQ below (PiC D cy b z tx k) args s 0 0 (gA b 709 z)) (F0 m 43 ls [.int t0]) := by
  intro a0 a1 a2 a3 a4 t0 S H locs ls av0 av4 h hR hS hl
  have hx := C0.1
  have hb := C0.2.1
  unfold B_X6_reapLate_43 at h
  refine lv_istore (lv' := [(5, .int t0), (0, .ref (b + adC 13 a0)), (1, .int a1), (2, .int a2), (3, .int a3), (4, .ref (b + adC 21 a4))]) hx hb dX6_reapLate_43 hl (by decide) rfl (fun ls hl => ?_)
  refine lv_iload hx hb dX6_reapLate_45 (lv_at hl 0 rfl) ?_
  refine lv_if_eq (tgt := 83) hx hb dX6_reapLate_47 (by decide) (fun c8 => ?_) (fun c8 => ?_)
  · have h := h.1 c8
    exact Bw_X6_reapLate_83 C0 hr hlk hT ih4 a0 a1 a2 a3 S _ _ _ av0 h hR hS (lv_sub hl [1, 2, 3, 4] rfl)
  · have h := h.2 c8
    refine lv_aload_n hx hb dX6_reapLate_50 rfl (lv_at hl 1 rfl) ?_
    refine lv_aload hx hb dX6_reapLate_51 (lv_at hl 5 rfl) ?_
    refine lv_iload_n hx hb dX6_reapLate_53 rfl (lv_at hl 2 rfl) ?_
    refine qC_Vr (As := [.int a1]) (rest := [.ref (b + adC 13 a0)]) C0 (c_X1_seenBy l av4 h) (cwV 1 C0.2.2.2.2 (tbV mC5_5_198 ⟨mC5_5_80, mC5_5_81, mC5_1_7, mC5_5_82⟩) rfl rfl rfl (by decide +kernel) ⟨Nat.le_of_ble_eq_true rfl, Nat.le_of_ble_eq_true rfl⟩) (rcC_21 hR av4) hR hT hS rfl hl.1 rfl (Nat.le_of_ble_eq_true rfl) dX6_reapLate_54 ⟨Nat.zero_le _, Nat.zero_le _⟩ (fun r10 S11 H locs vr10 h hR hS => ?_)
    refine qC_Vi (As := [.ref (b + adC 22 r10)]) (rest := []) C0 (c_X6_isLate l av0 vr10 h) (cwV 1 C0.2.2.2.2 (tbV mC5_5_199 ⟨mC5_5_201, mpC5_1_15, mC5_1_5, mC5_5_202⟩) rfl rfl rfl (by decide +kernel) ⟨Nat.le_of_ble_eq_true rfl, Nat.le_of_ble_eq_true rfl⟩) (rcC_13 hR av0) hR hT hS rfl hl.1 rfl (Nat.le_of_ble_eq_true rfl) dX6_reapLate_57 ⟨Nat.zero_le _, Nat.zero_le _⟩ (fun r12 S13 H locs h hR hS => ?_)
    refine lv_if_eq (tgt := 83) hx hb dX6_reapLate_60 (by decide) (fun c14 => ?_) (fun c14 => ?_)
    · have h := h.1 c14
      exact Bw_X6_reapLate_83 C0 hr hlk hT ih4 a0 a1 a2 a3 S13 _ _ _ av0 h hR hS (lv_sub hl [1, 2, 3, 4] rfl)
    · have h := h.2 c14
      refine lv_aload_n hx hb dX6_reapLate_63 rfl (lv_at hl 1 rfl) ?_
      refine lv_aload hx hb dX6_reapLate_64 (lv_at hl 5 rfl) ?_
      refine lv_iload_n hx hb dX6_reapLate_66 rfl (lv_at hl 2 rfl) ?_
      refine qC_Vr (As := [.int a1]) (rest := [.ref (b + adC 13 a0)]) C0 (c_X1_lockFor l av4 h) (cwV 1 C0.2.2.2.2 (tbV mC5_5_203 ⟨mC5_5_115, mC5_5_116, mC5_1_7, mC5_5_117⟩) rfl rfl rfl (by decide +kernel) ⟨Nat.le_of_ble_eq_true rfl, Nat.le_of_ble_eq_true rfl⟩) (rcC_21 hR av4) hR hT hS rfl hl.1 rfl (Nat.le_of_ble_eq_true rfl) dX6_reapLate_67 ⟨Nat.zero_le _, Nat.zero_le _⟩ (fun r15 S16 H locs vr15 h hR hS => ?_)
      refine lv_aload hx hb dX6_reapLate_70 (lv_at hl 5 rfl) ?_
      refine gCn_21_6 C0 hR av4 tbs_wsX10 mC5_1_230 hT dX6_reapLate_72 ?_
      refine lv_bipush (v := 6) hx hb dX6_reapLate_75 (by decide) ?_
      refine qC_Vv (As := [.ref (b + adC 22 r15), .int (S16.1 21 a4 6), .int 6]) (rest := []) C0 (c_X6_recordFailure l av0 vr15 h) (cwV 3 C0.2.2.2.2 (tbV mC5_5_204 ⟨mC5_5_165, mC5_5_166, mC5_1_5, mC5_5_167⟩) rfl rfl rfl (by decide +kernel) ⟨Nat.le_of_ble_eq_true rfl, Nat.le_of_ble_eq_true rfl⟩) (rcC_13 hR av0) hR hT hS rfl hl.1 rfl (Nat.le_of_ble_eq_true rfl) dX6_reapLate_77 ⟨Nat.zero_le _, Nat.zero_le _⟩ (fun S18 H locs h hR hS => ?_)
      obtain ⟨x19, ex19⟩ : ∃ x19 : Int32, x19 = a2 + 1 := ⟨_, rfl⟩
      have h := h x19 ex19
      refine w_iinc (v0 := 1) (lv' := [(2, .int x19), (5, .int t0), (0, .ref (b + adC 13 a0)), (1, .int a1), (3, .int a3), (4, .ref (b + adC 21 a4))]) C0 dX6_reapLate_80 hl (k := 3) rfl (by decide) (by decide) x19 ex19 rfl (fun ls hl => ?_)
      exact Bw_X6_reapLate_83 C0 hr hlk hT ih4 a0 a1 x19 a3 S18 _ _ _ av0 h hR hS (lv_sub hl [2, 3, 0, 4] rfl)
def B_X6_reapLate_42 (kk4 : Nat → Int32 → Int32 → Int32 → sSt → Prop) (a0 : Nat) (a1 : Int32) (a2 : Int32) (a3 : Int32) (a4 : Nat) (S : sSt) (k : Int32 → sSt → Prop) : Prop := B_X6_reapLate_43 kk4 a0 a1 a2 a3 a4 0 S k
set_option maxHeartbeats 4000000 in
set_option maxRecDepth 100000 in
theorem Bw_X6_reapLate_42 {p : Program} {l : Launch} {e : Env} {s : State} {m : MethodId} {args : Array Value} {below : List Frame} {meth : Method} {c : Code} {D : va_G} {cy : Nat → ClassId} {b z : Nat} {tx : TX} (C0 : CallFix p m c cX6_reapLate 6 s args TB RX6) (hr : meth.sig.returnType = (some .int)) (hlk : meth.locks = false) (hT : TxR tx s) {k : Int32 → sSt → Prop} {kk4 : Nat → Int32 → Int32 → Int32 → sSt → Prop} (ih4 : ∀ (a0 : Nat) (a1 : Int32) (a2 : Int32) (a3 : Int32) (S : sSt) (H : Heap) (locs : List Loc) (ls : Array Slot) (av0 : a0 < 3), kk4 a0 a1 a2 a3 S → RelC D cy b z tx S s H → va_S (gA b 709 z) s.heap H locs → lv_has ls 6 [(0, .ref (b + adC 13 a0)), (1, .int a1), (2, .int a2), (3, .int a3)] → W p l e rm_X6_reapLate s m args below meth c H locs 0 0 (MQ below (PiC D cy b z tx k) args s 0 0 (gA b 709 z)) (F0 m 4 ls [])) : ∀ (a0 : Nat) (a1 : Int32) (a2 : Int32) (a3 : Int32) (a4 : Nat) (S : sSt) (H : Heap) (locs : List Loc) (ls : Array Slot) (av0 : a0 < 3) (av4 : a4 < 72), B_X6_reapLate_42 kk4 a0 a1 a2 a3 a4 S k → RelC D cy b z tx S s H → va_S (gA b 709 z) s.heap H locs → lv_has ls 6 [(0, .ref (b + adC 13 a0)), (1, .int a1), (2, .int a2), (3, .int a3), (4, .ref (b + adC 21 a4))] → W p l e rm_X6_reapLate s m args below meth c H locs 0 0 (MQ below (PiC D cy b z tx k) args s 0 0 (gA b 709 z)) (F0 m 42 ls []) := by
  intro a0 a1 a2 a3 a4 S H locs ls av0 av4 h hR hS hl
  have hx := C0.1
  have hb := C0.2.1
  unfold B_X6_reapLate_42 at h
  refine lv_iconst (v := 0) hx hb dX6_reapLate_42 (by decide) ?_
  exact Bw_X6_reapLate_43 C0 hr hlk hT ih4 a0 a1 a2 a3 a4 0 S _ _ _ av0 av4 h hR hS (lv_sub hl [0, 1, 2, 3, 4] rfl)
def Bb_X6_reapLate_4 (kk4 : Nat → Int32 → Int32 → Int32 → sSt → Prop) (a0 : Nat) (a1 : Int32) (a2 : Int32) (a3 : Int32) (S : sSt) (k : Int32 → sSt → Prop) : Prop := (((S.1 13 a0 6) ≤ a3 → k a2 S) ∧ (¬ (S.1 13 a0 6) ≤ a3 → ix a3 24 (fun j3 => F_X1_isSeenBy (S.2 14 a0 j3) a1 S (fun r5 S6 => ((r5 = 0 → B_X6_reapLate_42 kk4 a0 a1 a2 a3 (S.2 14 a0 j3) S6 k) ∧ (¬ r5 = 0 → F_X1_isLockedByOther (S.2 14 a0 j3) a1 S6 (fun r20 S21 => ((¬ r20 = 0 → B_X6_reapLate_42 kk4 a0 a1 a2 a3 (S.2 14 a0 j3) S21 k) ∧ (r20 = 0 → B_X6_reapLate_43 kk4 a0 a1 a2 a3 (S.2 14 a0 j3) 1 S21 k)))))))))
set_option maxHeartbeats 4000000 in
set_option maxRecDepth 100000 in
theorem Bbw_X6_reapLate_4 {p : Program} {l : Launch} {e : Env} {s : State} {m : MethodId} {args : Array Value} {below : List Frame} {meth : Method} {c : Code} {D : va_G} {cy : Nat → ClassId} {b z : Nat} {tx : TX} (C0 : CallFix p m c cX6_reapLate 6 s args TB RX6) (hr : meth.sig.returnType = (some .int)) (hlk : meth.locks = false) (hT : TxR tx s) {k : Int32 → sSt → Prop} {kk4 : Nat → Int32 → Int32 → Int32 → sSt → Prop} (ih4 : ∀ (a0 : Nat) (a1 : Int32) (a2 : Int32) (a3 : Int32) (S : sSt) (H : Heap) (locs : List Loc) (ls : Array Slot) (av0 : a0 < 3), kk4 a0 a1 a2 a3 S → RelC D cy b z tx S s H → va_S (gA b 709 z) s.heap H locs → lv_has ls 6 [(0, .ref (b + adC 13 a0)), (1, .int a1), (2, .int a2), (3, .int a3)] → W p l e rm_X6_reapLate s m args below meth c H locs 0 0 (MQ below (PiC D cy b z tx k) args s 0 0 (gA b 709 z)) (F0 m 4 ls [])) : ∀ (a0 : Nat) (a1 : Int32) (a2 : Int32) (a3 : Int32) (S : sSt) (H : Heap) (locs : List Loc) (ls : Array Slot) (av0 : a0 < 3), Bb_X6_reapLate_4 kk4 a0 a1 a2 a3 S k → RelC D cy b z tx S s H → va_S (gA b 709 z) s.heap H locs → lv_has ls 6 [(0, .ref (b + adC 13 a0)), (1, .int a1), (2, .int a2), (3, .int a3)] → W p l e rm_X6_reapLate s m args below meth c H locs 0 0 (MQ below (PiC D cy b z tx k) args s 0 0 (gA b 709 z)) (F0 m 4 ls []) := by
  intro a0 a1 a2 a3 S H locs ls av0 h hR hS hl
  have hx := C0.1
  have hb := C0.2.1
  unfold Bb_X6_reapLate_4 at h
  refine lv_iload_n hx hb dX6_reapLate_4 rfl (lv_at hl 3 rfl) ?_
  refine lv_aload_n hx hb dX6_reapLate_5 rfl (lv_at hl 0 rfl) ?_
  refine gC_13_6 C0 hR av0 tbs_wsX60 mC5_2_146 dX6_reapLate_6 ?_
  refine lv_icmp_ge (tgt := 89) hx hb dX6_reapLate_9 (by decide) (fun c1 => ?_) (fun c1 => ?_)
  · have h := h.1 c1
    refine lv_iload_n hx hb dX6_reapLate_89 rfl (lv_at hl 2 rfl) ?_
    exact rtC_i C0 hr hlk hR hS h dX6_reapLate_90
  · have h := h.2 c1
    refine lv_aload_n hx hb dX6_reapLate_12 rfl (lv_at hl 0 rfl) ?_
    refine gC_13_0 C0 hR av0 tbs_wsX60 mC5_2_126 dX6_reapLate_13 ?_
    have w2 : a0 < 3 := by omega
    refine lv_iload_n hx hb dX6_reapLate_16 rfl (lv_at hl 3 rfl) ?_
    obtain ⟨j3, hj3, ej3, h⟩ := h
    refine lC_14 C0 hR w2 hj3 ej3 dX6_reapLate_17 ?_
    have w4 : (S.2 14 a0 j3) < 72 := hR.2.1.1 _ _ w2 hj3
    refine lv_astore (lv' := [(4, .ref (b + adC 21 (S.2 14 a0 j3))), (0, .ref (b + adC 13 a0)), (1, .int a1), (2, .int a2), (3, .int a3)]) hx hb dX6_reapLate_18 hl (by decide) rfl (fun ls hl => ?_)
    refine lv_aload hx hb dX6_reapLate_20 (lv_at hl 0 rfl) ?_
    refine lv_iload_n hx hb dX6_reapLate_22 rfl (lv_at hl 2 rfl) ?_
    refine qC_Vi (As := [.int a1]) (rest := []) C0 (c_X1_isSeenBy l w4 h) (cwV 1 C0.2.2.2.2 (tbV mC5_5_142 ⟨mC5_5_73, mC5_5_74, mC5_1_7, mC5_5_75⟩) rfl rfl rfl (by decide +kernel) ⟨Nat.le_of_ble_eq_true rfl, Nat.le_of_ble_eq_true rfl⟩) (rcC_21 hR w4) hR hT hS rfl hl.1 rfl (Nat.le_of_ble_eq_true rfl) dX6_reapLate_23 ⟨Nat.zero_le _, Nat.zero_le _⟩ (fun r5 S6 H locs h hR hS => ?_)
    refine lv_if_eq (tgt := 42) hx hb dX6_reapLate_26 (by decide) (fun c7 => ?_) (fun c7 => ?_)
    · have h := h.1 c7
      exact Bw_X6_reapLate_42 C0 hr hlk hT ih4 a0 a1 a2 a3 (S.2 14 a0 j3) S6 _ _ _ av0 w4 h hR hS (lv_sub hl [1, 2, 3, 4, 0] rfl)
    · have h := h.2 c7
      refine lv_aload hx hb dX6_reapLate_29 (lv_at hl 0 rfl) ?_
      refine lv_iload_n hx hb dX6_reapLate_31 rfl (lv_at hl 2 rfl) ?_
      refine qC_Vi (As := [.int a1]) (rest := []) C0 (c_X1_isLockedByOther l w4 h) (cwV 1 C0.2.2.2.2 (tbV mC5_5_197 ⟨mC5_5_84, mC5_5_85, mC5_1_7, mC5_5_86⟩) rfl rfl rfl (by decide +kernel) ⟨Nat.le_of_ble_eq_true rfl, Nat.le_of_ble_eq_true rfl⟩) (rcC_21 hR w4) hR hT hS rfl hl.1 rfl (Nat.le_of_ble_eq_true rfl) dX6_reapLate_32 ⟨Nat.zero_le _, Nat.zero_le _⟩ (fun r20 S21 H locs h hR hS => ?_)
      refine lv_if_ne (tgt := 42) hx hb dX6_reapLate_35 (by decide) (fun c22 => ?_) (fun c22 => ?_)
      · have h := h.1 c22
        exact Bw_X6_reapLate_42 C0 hr hlk hT ih4 a0 a1 a2 a3 (S.2 14 a0 j3) S21 _ _ _ av0 w4 h hR hS (lv_sub hl [1, 2, 3, 4, 0] rfl)
      · have h := h.2 c22
        refine lv_iconst (v := 1) hx hb dX6_reapLate_38 (by decide) ?_
        refine lv_goto (tgt := 43) hx hb dX6_reapLate_39 (by decide) ?_
        exact Bw_X6_reapLate_43 C0 hr hlk hT ih4 a0 a1 a2 a3 (S.2 14 a0 j3) 1 S21 _ _ _ av0 w4 h hR hS (lv_sub hl [1, 2, 3, 4, 0] rfl)
def B_X6_reapLate_4 (n9 : Nat) (a0 : Nat) (a1 : Int32) (a2 : Int32) (a3 : Int32) (S : sSt) (k : Int32 → sSt → Prop) : Prop := (Nat.rec (motive := fun _ => Nat → Int32 → Int32 → Int32 → sSt → Prop) (fun _ _ _ _ _ => False) (fun _ r9 => fun a0 a1 a2 a3 S => Bb_X6_reapLate_4 r9 a0 a1 a2 a3 S k) n9 : Nat → Int32 → Int32 → Int32 → sSt → Prop) a0 a1 a2 a3 S
theorem B_X6_reapLate_4_s (n9 : Nat) (a0 : Nat) (a1 : Int32) (a2 : Int32) (a3 : Int32) (S : sSt) (k : Int32 → sSt → Prop) : B_X6_reapLate_4 (n9 + 1) a0 a1 a2 a3 S k = Bb_X6_reapLate_4 (fun a0 a1 a2 a3 S => B_X6_reapLate_4 n9 a0 a1 a2 a3 S k) a0 a1 a2 a3 S k := rfl
set_option maxHeartbeats 4000000 in
set_option maxRecDepth 100000 in
theorem Bw_X6_reapLate_4 {p : Program} {l : Launch} {e : Env} {s : State} {m : MethodId} {args : Array Value} {below : List Frame} {meth : Method} {c : Code} {D : va_G} {cy : Nat → ClassId} {b z : Nat} {tx : TX} (C0 : CallFix p m c cX6_reapLate 6 s args TB RX6) (hr : meth.sig.returnType = (some .int)) (hlk : meth.locks = false) (hT : TxR tx s) {k : Int32 → sSt → Prop} : ∀ (n9 : Nat), ∀ (a0 : Nat) (a1 : Int32) (a2 : Int32) (a3 : Int32) (S : sSt) (H : Heap) (locs : List Loc) (ls : Array Slot) (av0 : a0 < 3), B_X6_reapLate_4 n9 a0 a1 a2 a3 S k → RelC D cy b z tx S s H → va_S (gA b 709 z) s.heap H locs → lv_has ls 6 [(0, .ref (b + adC 13 a0)), (1, .int a1), (2, .int a2), (3, .int a3)] → W p l e rm_X6_reapLate s m args below meth c H locs 0 0 (MQ below (PiC D cy b z tx k) args s 0 0 (gA b 709 z)) (F0 m 4 ls []) := by
  intro n9
  induction n9 with
  | zero => intro a0 a1 a2 a3 S H locs ls av0 h; exact h.elim
  | succ n9 ih =>
    intro a0 a1 a2 a3 S H locs ls av0 h hR hS hl
    exact Bbw_X6_reapLate_4 C0 hr hlk hT ih a0 a1 a2 a3 S H locs ls av0 h hR hS hl
def F_X6_reapLate (a0 : Nat) (a1 : Int32) (S : sSt) (k : Int32 → sSt → Prop) : Prop := B_X6_reapLate_4 fuel a0 a1 0 0 S k
set_option maxHeartbeats 4000000 in
set_option maxRecDepth 100000 in
theorem c_X6_reapLate (l : Launch) {D : va_G} {cy : Nat → ClassId} {b z : Nat} {tx : TX} {a0 : Nat} {a1 : Int32} {S : sSt} {k : Int32 → sSt → Prop} (av0 : a0 < 3) (h : F_X6_reapLate a0 a1 S k) : Met l yX6_reapLate (Cond.code yX6_reapLate cX6_reapLate 6 (some .int) :: TB) rm_X6_reapLate (va_Pc [.ref (b + adC 13 a0), .int a1] (fun U => RelC D cy b z tx S U U.heap ∧ TxR tx U)) (PiC D cy b z tx k) 0 0 (gA b 709 z) := by
  refine Met.ofW (cc := cX6_reapLate) (maxL := 6) (ret := (some .int)) (by decide) rfl ?_
  intro p e s m args below meth c s₁ B hml hv
  obtain ⟨rfl, hR, hT⟩ := hv
  have C0 : CallFix p m c cX6_reapLate 6 s _ TB RX6 := ⟨B.exec, B.bytes, hml, findClass_of_methodNamed B.named, fun w hw => atoms_spec B.pre w (List.mem_cons_of_mem _ hw)⟩
  have hr := B.returns
  have hlk := B.notSynchronized
  have hx := C0.1
  have hb := C0.2.1
  have hS : va_S (gA b 709 z) s.heap s.heap [] := va_S.rf
  have hl := lv_entry ([.ref (b + adC 13 a0), .int a1]) (n := 6) (Nat.le_of_ble_eq_true rfl)
  rw [lg_entry_eq]
  generalize (lg_sl ([.ref (b + adC 13 a0), .int a1]) ++ List.replicate (6 - (lg_sl ([.ref (b + adC 13 a0), .int a1])).length) Slot.unset).toArray = ls at hl ⊢
  have hl : lv_has ls 6 [(0, .ref (b + adC 13 a0)), (1, .int a1)] := hl
  show W p l e rm_X6_reapLate s m _ below meth c s.heap [] 0 0 (MQ below (PiC D cy b z tx k) _ s 0 0 (gA b 709 z)) _
  unfold F_X6_reapLate at h
  refine lv_iconst (v := 0) hx hb dX6_reapLate_0 (by decide) ?_
  refine lv_istore_n (lv' := [(2, .int 0), (0, .ref (b + adC 13 a0)), (1, .int a1)]) hx hb dX6_reapLate_1 rfl hl (by decide) rfl (fun ls hl => ?_)
  refine lv_iconst (v := 0) hx hb dX6_reapLate_2 (by decide) ?_
  refine lv_istore_n (lv' := [(3, .int 0), (2, .int 0), (0, .ref (b + adC 13 a0)), (1, .int a1)]) hx hb dX6_reapLate_3 rfl hl (by decide) rfl (fun ls hl => ?_)
  exact Bw_X6_reapLate_4 C0 hr hlk hT fuel a0 a1 0 0 S _ _ _ av0 h hR hS (lv_sub hl [2, 3, 1, 0] rfl)
