theorem mL_3_114 : Cond.methodLink RL 7 yX11_table ∈ TB := tbT_3 _ (List.mem_of_getElem? (i := 114) rfl) rfl
theorem mL_3_115 : Cond.instanceMethod yX11_table ∈ TB := tbT_3 _ (List.mem_of_getElem? (i := 115) rfl) rfl
theorem mL_3_116 : Cond.selects RX11 yX11_table yX11_table ∈ TB := tbT_3 _ (List.mem_of_getElem? (i := 116) rfl) rfl
theorem mL_1_1 : Cond.initialized RX11 ∈ TB := tbT_1 _ (List.mem_of_getElem? (i := 1) rfl) rfl
theorem mL_3_117 : Cond.code yX11_table cX11_table 2 (some .int) ∈ TB := tbT_3 _ (List.mem_of_getElem? (i := 117) rfl) rfl
theorem mL_3_112 : Cond.classLink RL 13 "java/lang/IllegalArgumentException" ∈ TB := tbT_3 _ (List.mem_of_getElem? (i := 112) rfl) rfl
theorem mL_4_47 : Cond.castable "java/lang/IllegalArgumentException" "java/lang/IllegalArgumentException" ∈ NB := nbT_4 _ (List.mem_of_getElem? (i := 47) rfl) rfl
theorem mL_3_113 : Cond.classLink RL 15 "java/lang/UnsupportedOperationException" ∈ TB := tbT_3 _ (List.mem_of_getElem? (i := 113) rfl) rfl
theorem mL_4_112 : Cond.castable "java/lang/UnsupportedOperationException" "java/lang/UnsupportedOperationException" ∈ NB := nbT_4 _ (List.mem_of_getElem? (i := 112) rfl) rfl
theorem mL_4_129 : Cond.methodLink RL 17 yX11_query ∈ TB := tbT_4 _ (List.mem_of_getElem? (i := 129) rfl) rfl
theorem mL_4_130 : Cond.instanceMethod yX11_query ∈ TB := tbT_4 _ (List.mem_of_getElem? (i := 130) rfl) rfl
theorem mL_4_131 : Cond.selects RX11 yX11_query yX11_query ∈ TB := tbT_4 _ (List.mem_of_getElem? (i := 131) rfl) rfl
theorem mL_4_132 : Cond.code yX11_query cX11_query 2 (some .int) ∈ TB := tbT_4 _ (List.mem_of_getElem? (i := 132) rfl) rfl
theorem mL_4_128 : Cond.classLink RL 21 "java/lang/IndexOutOfBoundsException" ∈ TB := tbT_4 _ (List.mem_of_getElem? (i := 128) rfl) rfl
theorem mL_4_139 : Cond.castable "java/lang/IndexOutOfBoundsException" "java/lang/IndexOutOfBoundsException" ∈ NB := nbT_4 _ (List.mem_of_getElem? (i := 139) rfl) rfl
theorem mL_4_198 : Cond.methodLink RL 23 yX11_begin ∈ TB := tbT_4 _ (List.mem_of_getElem? (i := 198) rfl) rfl
theorem mL_4_199 : Cond.instanceMethod yX11_begin ∈ TB := tbT_4 _ (List.mem_of_getElem? (i := 199) rfl) rfl
theorem mL_4_200 : Cond.selects RX11 yX11_begin yX11_begin ∈ TB := tbT_4 _ (List.mem_of_getElem? (i := 200) rfl) rfl
theorem mL_4_201 : Cond.code yX11_begin cX11_begin 2 (some .int) ∈ TB := tbT_4 _ (List.mem_of_getElem? (i := 201) rfl) rfl
theorem mL_4_197 : Cond.classLink RL 26 "java/lang/IllegalStateException" ∈ TB := tbT_4 _ (List.mem_of_getElem? (i := 197) rfl) rfl
theorem mL_4_208 : Cond.castable "java/lang/IllegalStateException" "java/lang/IllegalStateException" ∈ NB := nbT_4 _ (List.mem_of_getElem? (i := 208) rfl) rfl
theorem mL_4_224 : Cond.methodLink RL 28 yX11_save ∈ TB := tbT_4 _ (List.mem_of_getElem? (i := 224) rfl) rfl
theorem mL_4_225 : Cond.instanceMethod yX11_save ∈ TB := tbT_4 _ (List.mem_of_getElem? (i := 225) rfl) rfl
theorem mL_4_226 : Cond.selects RX11 yX11_save yX11_save ∈ TB := tbT_4 _ (List.mem_of_getElem? (i := 226) rfl) rfl
theorem mL_4_227 : Cond.code yX11_save cX11_save 3 (some .int) ∈ TB := tbT_4 _ (List.mem_of_getElem? (i := 227) rfl) rfl
theorem mL_5_3 : Cond.methodLink RL 31 yX11_undo ∈ TB := tbT_5 _ (List.mem_of_getElem? (i := 3) rfl) rfl
theorem mL_5_4 : Cond.instanceMethod yX11_undo ∈ TB := tbT_5 _ (List.mem_of_getElem? (i := 4) rfl) rfl
theorem mL_5_5 : Cond.selects RX11 yX11_undo yX11_undo ∈ TB := tbT_5 _ (List.mem_of_getElem? (i := 5) rfl) rfl
theorem mL_5_6 : Cond.code yX11_undo cX11_undo 4 (some .int) ∈ TB := tbT_5 _ (List.mem_of_getElem? (i := 6) rfl) rfl
theorem mL_5_27 : Cond.methodLink RL 35 yX11_commit ∈ TB := tbT_5 _ (List.mem_of_getElem? (i := 27) rfl) rfl
theorem mL_5_28 : Cond.instanceMethod yX11_commit ∈ TB := tbT_5 _ (List.mem_of_getElem? (i := 28) rfl) rfl
theorem mL_5_29 : Cond.selects RX11 yX11_commit yX11_commit ∈ TB := tbT_5 _ (List.mem_of_getElem? (i := 29) rfl) rfl
theorem mL_5_30 : Cond.code yX11_commit cX11_commit 2 (some .int) ∈ TB := tbT_5 _ (List.mem_of_getElem? (i := 30) rfl) rfl
theorem mL_5_47 : Cond.methodLink RL 38 yX11_roll ∈ TB := tbT_5 _ (List.mem_of_getElem? (i := 47) rfl) rfl
theorem mL_5_48 : Cond.instanceMethod yX11_roll ∈ TB := tbT_5 _ (List.mem_of_getElem? (i := 48) rfl) rfl
theorem mL_5_49 : Cond.selects RX11 yX11_roll yX11_roll ∈ TB := tbT_5 _ (List.mem_of_getElem? (i := 49) rfl) rfl
theorem mL_5_50 : Cond.code yX11_roll cX11_roll 2 (some .int) ∈ TB := tbT_5 _ (List.mem_of_getElem? (i := 50) rfl) rfl
theorem mL_5_58 : Cond.methodLink RL 41 yX11_claim ∈ TB := tbT_5 _ (List.mem_of_getElem? (i := 58) rfl) rfl
theorem mL_5_59 : Cond.instanceMethod yX11_claim ∈ TB := tbT_5 _ (List.mem_of_getElem? (i := 59) rfl) rfl
theorem mL_5_60 : Cond.selects RX11 yX11_claim yX11_claim ∈ TB := tbT_5 _ (List.mem_of_getElem? (i := 60) rfl) rfl
theorem mL_5_61 : Cond.code yX11_claim cX11_claim 2 (some .int) ∈ TB := tbT_5 _ (List.mem_of_getElem? (i := 61) rfl) rfl
theorem mL_5_126 : Cond.methodLink RL 44 yX11_renew ∈ TB := tbT_5 _ (List.mem_of_getElem? (i := 126) rfl) rfl
theorem mL_5_127 : Cond.instanceMethod yX11_renew ∈ TB := tbT_5 _ (List.mem_of_getElem? (i := 127) rfl) rfl
theorem mL_5_128 : Cond.selects RX11 yX11_renew yX11_renew ∈ TB := tbT_5 _ (List.mem_of_getElem? (i := 128) rfl) rfl
theorem mL_5_129 : Cond.code yX11_renew cX11_renew 5 (some .int) ∈ TB := tbT_5 _ (List.mem_of_getElem? (i := 129) rfl) rfl
theorem mL_5_153 : Cond.methodLink RL 48 yX11_finish ∈ TB := tbT_5 _ (List.mem_of_getElem? (i := 153) rfl) rfl
theorem mL_5_154 : Cond.instanceMethod yX11_finish ∈ TB := tbT_5 _ (List.mem_of_getElem? (i := 154) rfl) rfl
theorem mL_5_155 : Cond.selects RX11 yX11_finish yX11_finish ∈ TB := tbT_5 _ (List.mem_of_getElem? (i := 155) rfl) rfl
theorem mL_5_156 : Cond.code yX11_finish cX11_finish 5 (some .int) ∈ TB := tbT_5 _ (List.mem_of_getElem? (i := 156) rfl) rfl
theorem mL_5_160 : Cond.methodLink RL 51 yX11_fail ∈ TB := tbT_5 _ (List.mem_of_getElem? (i := 160) rfl) rfl
theorem mL_5_161 : Cond.instanceMethod yX11_fail ∈ TB := tbT_5 _ (List.mem_of_getElem? (i := 161) rfl) rfl
theorem mL_5_162 : Cond.selects RX11 yX11_fail yX11_fail ∈ TB := tbT_5 _ (List.mem_of_getElem? (i := 162) rfl) rfl
theorem mL_5_163 : Cond.code yX11_fail cX11_fail 6 (some .int) ∈ TB := tbT_5 _ (List.mem_of_getElem? (i := 163) rfl) rfl
theorem mL_5_182 : Cond.methodLink RL 55 yX11_give ∈ TB := tbT_5 _ (List.mem_of_getElem? (i := 182) rfl) rfl
theorem mL_5_183 : Cond.instanceMethod yX11_give ∈ TB := tbT_5 _ (List.mem_of_getElem? (i := 183) rfl) rfl
theorem mL_5_184 : Cond.selects RX11 yX11_give yX11_give ∈ TB := tbT_5 _ (List.mem_of_getElem? (i := 184) rfl) rfl
theorem mL_5_185 : Cond.code yX11_give cX11_give 5 (some .int) ∈ TB := tbT_5 _ (List.mem_of_getElem? (i := 185) rfl) rfl
theorem mL_5_189 : Cond.methodLink RL 58 yX11_reap ∈ TB := tbT_5 _ (List.mem_of_getElem? (i := 189) rfl) rfl
theorem mL_5_190 : Cond.instanceMethod yX11_reap ∈ TB := tbT_5 _ (List.mem_of_getElem? (i := 190) rfl) rfl
theorem mL_5_191 : Cond.selects RX11 yX11_reap yX11_reap ∈ TB := tbT_5 _ (List.mem_of_getElem? (i := 191) rfl) rfl
theorem mL_5_192 : Cond.code yX11_reap cX11_reap 3 (some .int) ∈ TB := tbT_5 _ (List.mem_of_getElem? (i := 192) rfl) rfl
theorem mL_5_208 : Cond.methodLink RL 61 yX11_retry ∈ TB := tbT_5 _ (List.mem_of_getElem? (i := 208) rfl) rfl
theorem mL_5_209 : Cond.instanceMethod yX11_retry ∈ TB := tbT_5 _ (List.mem_of_getElem? (i := 209) rfl) rfl
theorem mL_5_210 : Cond.selects RX11 yX11_retry yX11_retry ∈ TB := tbT_5 _ (List.mem_of_getElem? (i := 210) rfl) rfl
theorem mL_5_211 : Cond.code yX11_retry cX11_retry 6 (some .int) ∈ TB := tbT_5 _ (List.mem_of_getElem? (i := 211) rfl) rfl
theorem mL_5_218 : Cond.methodLink RL 64 yX11_bring ∈ TB := tbT_5 _ (List.mem_of_getElem? (i := 218) rfl) rfl
theorem mL_5_219 : Cond.instanceMethod yX11_bring ∈ TB := tbT_5 _ (List.mem_of_getElem? (i := 219) rfl) rfl
theorem mL_5_220 : Cond.selects RX11 yX11_bring yX11_bring ∈ TB := tbT_5 _ (List.mem_of_getElem? (i := 220) rfl) rfl
theorem mL_5_221 : Cond.code yX11_bring cX11_bring 6 (some .int) ∈ TB := tbT_5 _ (List.mem_of_getElem? (i := 221) rfl) rfl
theorem mL_5_235 : Cond.methodLink RL 67 yX11_ticks ∈ TB := tbT_5 _ (List.mem_of_getElem? (i := 235) rfl) rfl
theorem mL_5_236 : Cond.instanceMethod yX11_ticks ∈ TB := tbT_5 _ (List.mem_of_getElem? (i := 236) rfl) rfl
theorem mL_5_237 : Cond.selects RX11 yX11_ticks yX11_ticks ∈ TB := tbT_5 _ (List.mem_of_getElem? (i := 237) rfl) rfl
theorem mL_5_238 : Cond.code yX11_ticks cX11_ticks 2 (some .int) ∈ TB := tbT_5 _ (List.mem_of_getElem? (i := 238) rfl) rfl
theorem mL_6_25 : Cond.methodLink RL 70 yX11_jump ∈ TB := tbT_6 _ (List.mem_of_getElem? (i := 25) rfl) rfl
theorem mL_6_26 : Cond.instanceMethod yX11_jump ∈ TB := tbT_6 _ (List.mem_of_getElem? (i := 26) rfl) rfl
theorem mL_6_27 : Cond.selects RX11 yX11_jump yX11_jump ∈ TB := tbT_6 _ (List.mem_of_getElem? (i := 27) rfl) rfl
theorem mL_6_28 : Cond.code yX11_jump cX11_jump 2 (some .int) ∈ TB := tbT_6 _ (List.mem_of_getElem? (i := 28) rfl) rfl
theorem mL_6_38 : Cond.methodLink RL 73 yX11_job ∈ TB := tbT_6 _ (List.mem_of_getElem? (i := 38) rfl) rfl
theorem mL_6_39 : Cond.instanceMethod yX11_job ∈ TB := tbT_6 _ (List.mem_of_getElem? (i := 39) rfl) rfl
theorem mL_6_40 : Cond.selects RX11 yX11_job yX11_job ∈ TB := tbT_6 _ (List.mem_of_getElem? (i := 40) rfl) rfl
theorem mL_6_41 : Cond.code yX11_job cX11_job 6 (some .int) ∈ TB := tbT_6 _ (List.mem_of_getElem? (i := 41) rfl) rfl
theorem mL_6_37 : Cond.classLink RL 76 "java/util/NoSuchElementException" ∈ TB := tbT_6 _ (List.mem_of_getElem? (i := 37) rfl) rfl
theorem mL_6_48 : Cond.castable "java/util/NoSuchElementException" "java/util/NoSuchElementException" ∈ NB := nbT_6 _ (List.mem_of_getElem? (i := 48) rfl) rfl
theorem mL_6_64 : Cond.methodLink RL 78 yX11_cause ∈ TB := tbT_6 _ (List.mem_of_getElem? (i := 64) rfl) rfl
theorem mL_6_65 : Cond.instanceMethod yX11_cause ∈ TB := tbT_6 _ (List.mem_of_getElem? (i := 65) rfl) rfl
theorem mL_6_66 : Cond.selects RX11 yX11_cause yX11_cause ∈ TB := tbT_6 _ (List.mem_of_getElem? (i := 66) rfl) rfl
theorem mL_6_67 : Cond.code yX11_cause cX11_cause 4 (some .int) ∈ TB := tbT_6 _ (List.mem_of_getElem? (i := 67) rfl) rfl
theorem mL_6_75 : Cond.methodLink RL 81 yX11_locked ∈ TB := tbT_6 _ (List.mem_of_getElem? (i := 75) rfl) rfl
theorem mL_6_76 : Cond.instanceMethod yX11_locked ∈ TB := tbT_6 _ (List.mem_of_getElem? (i := 76) rfl) rfl
theorem mL_6_77 : Cond.selects RX11 yX11_locked yX11_locked ∈ TB := tbT_6 _ (List.mem_of_getElem? (i := 77) rfl) rfl
theorem mL_6_78 : Cond.code yX11_locked cX11_locked 2 (some .int) ∈ TB := tbT_6 _ (List.mem_of_getElem? (i := 78) rfl) rfl
theorem mL_6_82 : Cond.methodLink RL 84 yX11_session ∈ TB := tbT_6 _ (List.mem_of_getElem? (i := 82) rfl) rfl
theorem mL_6_83 : Cond.instanceMethod yX11_session ∈ TB := tbT_6 _ (List.mem_of_getElem? (i := 83) rfl) rfl
theorem mL_6_84 : Cond.selects RX11 yX11_session yX11_session ∈ TB := tbT_6 _ (List.mem_of_getElem? (i := 84) rfl) rfl
theorem mL_6_85 : Cond.code yX11_session cX11_session 4 (some .int) ∈ TB := tbT_6 _ (List.mem_of_getElem? (i := 85) rfl) rfl
theorem mL_6_101 : Cond.methodLink RL 87 yX11_plan ∈ TB := tbT_6 _ (List.mem_of_getElem? (i := 101) rfl) rfl
theorem mL_6_102 : Cond.instanceMethod yX11_plan ∈ TB := tbT_6 _ (List.mem_of_getElem? (i := 102) rfl) rfl
theorem mL_6_103 : Cond.selects RX11 yX11_plan yX11_plan ∈ TB := tbT_6 _ (List.mem_of_getElem? (i := 103) rfl) rfl
theorem mL_6_104 : Cond.code yX11_plan cX11_plan 4 (some .int) ∈ TB := tbT_6 _ (List.mem_of_getElem? (i := 104) rfl) rfl
theorem mL_6_109 : Cond.methodLink RL 90 yX11_may ∈ TB := tbT_6 _ (List.mem_of_getElem? (i := 109) rfl) rfl
theorem mL_6_110 : Cond.instanceMethod yX11_may ∈ TB := tbT_6 _ (List.mem_of_getElem? (i := 110) rfl) rfl
theorem mL_6_111 : Cond.selects RX11 yX11_may yX11_may ∈ TB := tbT_6 _ (List.mem_of_getElem? (i := 111) rfl) rfl
theorem mL_6_112 : Cond.code yX11_may cX11_may 3 (some .boolean) ∈ TB := tbT_6 _ (List.mem_of_getElem? (i := 112) rfl) rfl
theorem mL_6_117 : Cond.methodLink RL 94 yX11_next ∈ TB := tbT_6 _ (List.mem_of_getElem? (i := 117) rfl) rfl
theorem mL_6_118 : Cond.instanceMethod yX11_next ∈ TB := tbT_6 _ (List.mem_of_getElem? (i := 118) rfl) rfl
theorem mL_6_119 : Cond.selects RX11 yX11_next yX11_next ∈ TB := tbT_6 _ (List.mem_of_getElem? (i := 119) rfl) rfl
theorem mL_6_120 : Cond.code yX11_next cX11_next 3 (some .int) ∈ TB := tbT_6 _ (List.mem_of_getElem? (i := 120) rfl) rfl
theorem mL_6_128 : Cond.methodLink RL 97 yX11_bar ∈ TB := tbT_6 _ (List.mem_of_getElem? (i := 128) rfl) rfl
theorem mL_6_129 : Cond.instanceMethod yX11_bar ∈ TB := tbT_6 _ (List.mem_of_getElem? (i := 129) rfl) rfl
theorem mL_6_130 : Cond.selects RX11 yX11_bar yX11_bar ∈ TB := tbT_6 _ (List.mem_of_getElem? (i := 130) rfl) rfl
theorem mL_6_131 : Cond.code yX11_bar cX11_bar 4 (some .int) ∈ TB := tbT_6 _ (List.mem_of_getElem? (i := 131) rfl) rfl
theorem mL_6_142 : Cond.methodLink RL 100 yX11_race ∈ TB := tbT_6 _ (List.mem_of_getElem? (i := 142) rfl) rfl
theorem mL_6_143 : Cond.instanceMethod yX11_race ∈ TB := tbT_6 _ (List.mem_of_getElem? (i := 143) rfl) rfl
theorem mL_6_144 : Cond.selects RX11 yX11_race yX11_race ∈ TB := tbT_6 _ (List.mem_of_getElem? (i := 144) rfl) rfl
theorem mL_6_145 : Cond.code yX11_race cX11_race 3 (some .int) ∈ TB := tbT_6 _ (List.mem_of_getElem? (i := 145) rfl) rfl
theorem mL_6_167 : Cond.methodLink RL 103 yX11_passed ∈ TB := tbT_6 _ (List.mem_of_getElem? (i := 167) rfl) rfl
theorem mL_6_168 : Cond.instanceMethod yX11_passed ∈ TB := tbT_6 _ (List.mem_of_getElem? (i := 168) rfl) rfl
theorem mL_6_169 : Cond.selects RX11 yX11_passed yX11_passed ∈ TB := tbT_6 _ (List.mem_of_getElem? (i := 169) rfl) rfl
theorem mL_6_170 : Cond.code yX11_passed cX11_passed 3 (some .int) ∈ TB := tbT_6 _ (List.mem_of_getElem? (i := 170) rfl) rfl
theorem mL_6_177 : Cond.methodLink RL 106 yX11_again ∈ TB := tbT_6 _ (List.mem_of_getElem? (i := 177) rfl) rfl
theorem mL_6_178 : Cond.instanceMethod yX11_again ∈ TB := tbT_6 _ (List.mem_of_getElem? (i := 178) rfl) rfl
theorem mL_6_179 : Cond.selects RX11 yX11_again yX11_again ∈ TB := tbT_6 _ (List.mem_of_getElem? (i := 179) rfl) rfl
theorem mL_6_180 : Cond.code yX11_again cX11_again 5 (some .int) ∈ TB := tbT_6 _ (List.mem_of_getElem? (i := 180) rfl) rfl
theorem mL_6_188 : Cond.methodLink RL 109 yX11_would ∈ TB := tbT_6 _ (List.mem_of_getElem? (i := 188) rfl) rfl
theorem mL_6_189 : Cond.instanceMethod yX11_would ∈ TB := tbT_6 _ (List.mem_of_getElem? (i := 189) rfl) rfl
theorem mL_6_190 : Cond.selects RX11 yX11_would yX11_would ∈ TB := tbT_6 _ (List.mem_of_getElem? (i := 190) rfl) rfl
theorem mL_6_191 : Cond.code yX11_would cX11_would 3 (some .int) ∈ TB := tbT_6 _ (List.mem_of_getElem? (i := 191) rfl) rfl
theorem mL_6_195 : Cond.methodLink RL 113 yX11_work ∈ TB := tbT_6 _ (List.mem_of_getElem? (i := 195) rfl) rfl
theorem mL_6_196 : Cond.instanceMethod yX11_work ∈ TB := tbT_6 _ (List.mem_of_getElem? (i := 196) rfl) rfl
theorem mL_6_197 : Cond.selects RX11 yX11_work yX11_work ∈ TB := tbT_6 _ (List.mem_of_getElem? (i := 197) rfl) rfl
theorem mL_6_198 : Cond.code yX11_work cX11_work 3 (some .int) ∈ TB := tbT_6 _ (List.mem_of_getElem? (i := 198) rfl) rfl
theorem mL_6_222 : Cond.methodLink RL 116 yX11_was ∈ TB := tbT_6 _ (List.mem_of_getElem? (i := 222) rfl) rfl
theorem mL_6_223 : Cond.instanceMethod yX11_was ∈ TB := tbT_6 _ (List.mem_of_getElem? (i := 223) rfl) rfl
theorem mL_6_224 : Cond.selects RX11 yX11_was yX11_was ∈ TB := tbT_6 _ (List.mem_of_getElem? (i := 224) rfl) rfl
theorem mL_6_225 : Cond.code yX11_was cX11_was 3 (some .int) ∈ TB := tbT_6 _ (List.mem_of_getElem? (i := 225) rfl) rfl
theorem mL_6_233 : Cond.methodLink RL 119 yX11_overtaken ∈ TB := tbT_6 _ (List.mem_of_getElem? (i := 233) rfl) rfl
theorem mL_6_234 : Cond.instanceMethod yX11_overtaken ∈ TB := tbT_6 _ (List.mem_of_getElem? (i := 234) rfl) rfl
theorem mL_6_235 : Cond.selects RX11 yX11_overtaken yX11_overtaken ∈ TB := tbT_6 _ (List.mem_of_getElem? (i := 235) rfl) rfl
theorem mL_6_236 : Cond.code yX11_overtaken cX11_overtaken 2 (some .int) ∈ TB := tbT_6 _ (List.mem_of_getElem? (i := 236) rfl) rfl
theorem mL_7_20 : Cond.methodLink RL 122 yX11_alike ∈ TB := tbT_7 _ (List.mem_of_getElem? (i := 20) rfl) rfl
theorem mL_7_21 : Cond.instanceMethod yX11_alike ∈ TB := tbT_7 _ (List.mem_of_getElem? (i := 21) rfl) rfl
theorem mL_7_22 : Cond.selects RX11 yX11_alike yX11_alike ∈ TB := tbT_7 _ (List.mem_of_getElem? (i := 22) rfl) rfl
theorem mL_7_23 : Cond.code yX11_alike cX11_alike 5 (some .int) ∈ TB := tbT_7 _ (List.mem_of_getElem? (i := 23) rfl) rfl
theorem mL_7_32 : Cond.methodLink RL 125 yX11_root ∈ TB := tbT_7 _ (List.mem_of_getElem? (i := 32) rfl) rfl
theorem mL_7_33 : Cond.instanceMethod yX11_root ∈ TB := tbT_7 _ (List.mem_of_getElem? (i := 33) rfl) rfl
theorem mL_7_34 : Cond.selects RX11 yX11_root yX11_root ∈ TB := tbT_7 _ (List.mem_of_getElem? (i := 34) rfl) rfl
theorem mL_7_35 : Cond.code yX11_root cX11_root 2 (some .int) ∈ TB := tbT_7 _ (List.mem_of_getElem? (i := 35) rfl) rfl
theorem mL_7_44 : Cond.methodLink RL 128 yX11_find ∈ TB := tbT_7 _ (List.mem_of_getElem? (i := 44) rfl) rfl
theorem mL_7_45 : Cond.instanceMethod yX11_find ∈ TB := tbT_7 _ (List.mem_of_getElem? (i := 45) rfl) rfl
theorem mL_7_46 : Cond.selects RX11 yX11_find yX11_find ∈ TB := tbT_7 _ (List.mem_of_getElem? (i := 46) rfl) rfl
theorem mL_7_47 : Cond.code yX11_find cX11_find 3 (some .int) ∈ TB := tbT_7 _ (List.mem_of_getElem? (i := 47) rfl) rfl
theorem mL_7_59 : Cond.methodLink RL 131 yX11_log ∈ TB := tbT_7 _ (List.mem_of_getElem? (i := 59) rfl) rfl
theorem mL_7_60 : Cond.instanceMethod yX11_log ∈ TB := tbT_7 _ (List.mem_of_getElem? (i := 60) rfl) rfl
theorem mL_7_61 : Cond.selects RX11 yX11_log yX11_log ∈ TB := tbT_7 _ (List.mem_of_getElem? (i := 61) rfl) rfl
theorem mL_7_62 : Cond.code yX11_log cX11_log 3 (some .int) ∈ TB := tbT_7 _ (List.mem_of_getElem? (i := 62) rfl) rfl
def FW_table (Sc : sSt) (o : Int64) (k : Int32 → sSt → Int64 → Prop) : Prop := F_X11_table Sc (fun r S1 => k 0 S1 r.toInt64) (fun E S1 => (E = "java/lang/IllegalArgumentException" → k 1 S1 o) ∧ (¬ E = "java/lang/IllegalArgumentException" → (E = "java/lang/UnsupportedOperationException" → k 2 S1 o) ∧ (¬ E = "java/lang/UnsupportedOperationException" → False)))
set_option maxHeartbeats 4000000 in
set_option maxRecDepth 100000 in
theorem cw_table (l : Launch) (hl0 : l.stackTraces = false) {D : va_G} {cy : Nat → ClassId} {b : Nat} {tx : TX} {Sc Sm : sSt} {o : Int64} {k : Int32 → sSt → Int64 → Prop} (h : FW_table Sc o k) : Met l yL_table (Cond.codeWith yL_table cL_table 3 (some .int) [(0, 8, 11, 13), (0, 8, 14, 15)] :: TB) ({ frames := 10, cells := 2, slots := 12, locals := 220 }) (va_Pc [.ref (b + adC 0 0), .ref (b + 721)] (fun U => RelL D cy b tx Sc Sm o U U.heap ∧ TxR tx U ∧ TxN U)) (PwL D cy b tx Sm k) 2 12 (bA b) := by
  refine met_ofWH (cc := cL_table) (maxL := 3) (ret := (some .int)) (by decide) rfl ?_
  intro p e s m args below meth c s₁ B hml hv
  obtain ⟨rfl, hR, hT, hN⟩ := hv
  have htab : c.exceptionTable.toList = tableOf [(0, 8, 11, 13), (0, 8, 14, 15)] := vx_table (x := yL_table) B (atoms_spec B.pre _ List.mem_cons_self)
  have C0 : CallFix p m c cL_table 3 s _ TB RL := ⟨B.exec, B.bytes, hml, findClass_of_methodNamed B.named, fun w hw => atoms_spec B.pre w (List.mem_cons_of_mem _ hw)⟩
  have hr := B.returns
  have hlk := B.notSynchronized
  have hx := C0.1
  have hb := C0.2.1
  have hS : va_S (bA b) s.heap s.heap [] := va_S.rf
  have hl := lv_entry ([.ref (b + adC 0 0), .ref (b + 721)]) (n := 3) (Nat.le_of_ble_eq_true rfl)
  rw [lg_entry_eq]
  generalize (lg_sl ([.ref (b + adC 0 0), .ref (b + 721)]) ++ List.replicate (3 - (lg_sl ([.ref (b + adC 0 0), .ref (b + 721)])).length) Slot.unset).toArray = ls at hl ⊢
  have hl : lv_has ls 3 [(0, .ref (b + adC 0 0)), (1, .ref (b + 721))] := hl
  show W p l e ({ frames := 10, cells := 2, slots := 12, locals := 220 }) s m _ below meth c s.heap [] 0 0 (MQ below (PwL D cy b tx Sm k) _ s 2 12 (bA b)) _
  unfold FW_table at h
  refine lv_aload_n hx hb dL_table_0 rfl (lv_at hl 1 rfl) ?_
  refine lv_iconst (v := 0) hx hb dL_table_1 (by decide) ?_
  refine lv_aload_n hx hb dL_table_2 rfl (lv_at hl 0 rfl) ?_
  refine qLX (As := []) (rest := [.int 0, .ref (b + 721)]) C0 (c_X11_table l hl0 h) (cwV 0 C0.2.2.2.2 (tbV mL_3_114 ⟨mL_3_115, mL_3_116, mL_1_1, mL_3_117⟩) rfl rfl rfl (by decide +kernel) ⟨Nat.le_of_ble_eq_true rfl, Nat.le_of_ble_eq_true rfl⟩) hR hT hS rfl hl.1 rfl (Nat.le_of_ble_eq_true rfl) dL_table_3 ⟨Nat.le_of_ble_eq_true rfl, Nat.le_of_ble_eq_true rfl⟩ (fun E ce q9 S1 H locs h hR hS hce hcv hcl => ?_) (fun r S1 H locs h hR hS => ?_)
  · by_cases e0 : E = "java/lang/IllegalArgumentException"
    · subst e0
      have h := h
      have h := h.1 rfl
      refine vx_catch C0.2.2.2.1 [] ⟨0, 8, 11, 13⟩ [⟨0, 8, 14, 15⟩] htab (fun z hz => absurd hz List.not_mem_nil) (by decide) (by decide) (C0.2.2.2.2 _ mL_3_112) ((hT.2 _ mL_4_47).use rfl) hce hcv hcl ?_
      refine lv_astore_n (lv' := [(2, .ref q9), (0, .ref (b + adC 0 0)), (1, .ref (b + 721))]) hx hb dL_table_11 rfl hl (by decide) rfl (fun ls hl => ?_)
      refine lv_iconst (v := 1) hx hb dL_table_12 (by decide) ?_
      refine W.widen (k := 2) (n := 12) (Nat.le_of_ble_eq_true rfl) (Nat.le_of_ble_eq_true rfl) ?_
      exact rtL C0 hr hlk hR hS h dL_table_13
    by_cases e1 : E = "java/lang/UnsupportedOperationException"
    · subst e1
      have h := h
      have h := (h.2 e0).1 rfl
      refine vx_catch C0.2.2.2.1 [⟨0, 8, 11, 13⟩] ⟨0, 8, 14, 15⟩ [] htab (fun z hz => Or.inr (by
        rcases (show z = ⟨0, 8, 11, 13⟩ by simpa using hz) with rfl
        · exact ⟨by decide, "java/lang/IllegalArgumentException", C0.2.2.2.2 _ mL_3_112, hN ("java/lang/UnsupportedOperationException", "java/lang/IllegalArgumentException") (by decide)⟩
        )) (by decide) (by decide) (C0.2.2.2.2 _ mL_3_113) ((hT.2 _ mL_4_112).use rfl) hce hcv hcl ?_
      refine lv_astore_n (lv' := [(2, .ref q9), (0, .ref (b + adC 0 0)), (1, .ref (b + 721))]) hx hb dL_table_14 rfl hl (by decide) rfl (fun ls hl => ?_)
      refine lv_iconst (v := 2) hx hb dL_table_15 (by decide) ?_
      refine W.widen (k := 2) (n := 12) (Nat.le_of_ble_eq_true rfl) (Nat.le_of_ble_eq_true rfl) ?_
      exact rtL C0 hr hlk hR hS h dL_table_16
    exact ((h.2 e0).2 e1).elim
  · refine lv_i2l (v := r.toInt64) hx hb dL_table_6 rfl ?_
    refine lw_put C0 hR hS dL_table_7 (fun H locs hR hS => ?_)
    refine lv_goto (tgt := 17) hx hb dL_table_8 (by decide) ?_
    refine lv_iconst (v := 0) hx hb dL_table_17 (by decide) ?_
    refine W.widen (k := 2) (n := 12) (Nat.le_of_ble_eq_true rfl) (Nat.le_of_ble_eq_true rfl) ?_
    exact rtL C0 hr hlk hR hS h dL_table_18
def FW_query (a1 : Int32) (Sc : sSt) (o : Int64) (k : Int32 → sSt → Int64 → Prop) : Prop := F_X11_query a1 Sc (fun r S1 => k 0 S1 r.toInt64) (fun E S1 => (E = "java/lang/IndexOutOfBoundsException" → k 1 S1 o) ∧ (¬ E = "java/lang/IndexOutOfBoundsException" → (E = "java/lang/IllegalArgumentException" → k 2 S1 o) ∧ (¬ E = "java/lang/IllegalArgumentException" → False)))
set_option maxHeartbeats 4000000 in
set_option maxRecDepth 100000 in
theorem cw_query (l : Launch) (hl0 : l.stackTraces = false) {D : va_G} {cy : Nat → ClassId} {b : Nat} {tx : TX} {a1 : Int32} {Sc Sm : sSt} {o : Int64} {k : Int32 → sSt → Int64 → Prop} (h : FW_query a1 Sc o k) : Met l yL_query (Cond.codeWith yL_query cL_query 4 (some .int) [(0, 9, 12, 21), (0, 9, 15, 13)] :: TB) ({ frames := 9, cells := 2, slots := 12, locals := 191 }) (va_Pc [.ref (b + adC 0 0), .int a1, .ref (b + 721)] (fun U => RelL D cy b tx Sc Sm o U U.heap ∧ TxR tx U ∧ TxN U)) (PwL D cy b tx Sm k) 2 12 (bA b) := by
  refine met_ofWH (cc := cL_query) (maxL := 4) (ret := (some .int)) (by decide) rfl ?_
  intro p e s m args below meth c s₁ B hml hv
  obtain ⟨rfl, hR, hT, hN⟩ := hv
  have htab : c.exceptionTable.toList = tableOf [(0, 9, 12, 21), (0, 9, 15, 13)] := vx_table (x := yL_query) B (atoms_spec B.pre _ List.mem_cons_self)
  have C0 : CallFix p m c cL_query 4 s _ TB RL := ⟨B.exec, B.bytes, hml, findClass_of_methodNamed B.named, fun w hw => atoms_spec B.pre w (List.mem_cons_of_mem _ hw)⟩
  have hr := B.returns
  have hlk := B.notSynchronized
  have hx := C0.1
  have hb := C0.2.1
  have hS : va_S (bA b) s.heap s.heap [] := va_S.rf
  have hl := lv_entry ([.ref (b + adC 0 0), .int a1, .ref (b + 721)]) (n := 4) (Nat.le_of_ble_eq_true rfl)
  rw [lg_entry_eq]
  generalize (lg_sl ([.ref (b + adC 0 0), .int a1, .ref (b + 721)]) ++ List.replicate (4 - (lg_sl ([.ref (b + adC 0 0), .int a1, .ref (b + 721)])).length) Slot.unset).toArray = ls at hl ⊢
  have hl : lv_has ls 4 [(0, .ref (b + adC 0 0)), (1, .int a1), (2, .ref (b + 721))] := hl
  show W p l e ({ frames := 9, cells := 2, slots := 12, locals := 191 }) s m _ below meth c s.heap [] 0 0 (MQ below (PwL D cy b tx Sm k) _ s 2 12 (bA b)) _
  unfold FW_query at h
  refine lv_aload_n hx hb dL_query_0 rfl (lv_at hl 2 rfl) ?_
  refine lv_iconst (v := 0) hx hb dL_query_1 (by decide) ?_
  refine lv_aload_n hx hb dL_query_2 rfl (lv_at hl 0 rfl) ?_
  refine lv_iload_n hx hb dL_query_3 rfl (lv_at hl 1 rfl) ?_
  refine qLX (As := [.int a1]) (rest := [.int 0, .ref (b + 721)]) C0 (c_X11_query l hl0 h) (cwV 1 C0.2.2.2.2 (tbV mL_4_129 ⟨mL_4_130, mL_4_131, mL_1_1, mL_4_132⟩) rfl rfl rfl (by decide +kernel) ⟨Nat.le_of_ble_eq_true rfl, Nat.le_of_ble_eq_true rfl⟩) hR hT hS rfl hl.1 rfl (Nat.le_of_ble_eq_true rfl) dL_query_4 ⟨Nat.le_of_ble_eq_true rfl, Nat.le_of_ble_eq_true rfl⟩ (fun E ce q9 S1 H locs h hR hS hce hcv hcl => ?_) (fun r S1 H locs h hR hS => ?_)
  · by_cases e0 : E = "java/lang/IndexOutOfBoundsException"
    · subst e0
      have h := h
      have h := h.1 rfl
      refine vx_catch C0.2.2.2.1 [] ⟨0, 9, 12, 21⟩ [⟨0, 9, 15, 13⟩] htab (fun z hz => absurd hz List.not_mem_nil) (by decide) (by decide) (C0.2.2.2.2 _ mL_4_128) ((hT.2 _ mL_4_139).use rfl) hce hcv hcl ?_
      refine lv_astore_n (lv' := [(3, .ref q9), (0, .ref (b + adC 0 0)), (1, .int a1), (2, .ref (b + 721))]) hx hb dL_query_12 rfl hl (by decide) rfl (fun ls hl => ?_)
      refine lv_iconst (v := 1) hx hb dL_query_13 (by decide) ?_
      refine W.widen (k := 2) (n := 12) (Nat.le_of_ble_eq_true rfl) (Nat.le_of_ble_eq_true rfl) ?_
      exact rtL C0 hr hlk hR hS h dL_query_14
    by_cases e1 : E = "java/lang/IllegalArgumentException"
    · subst e1
      have h := h
      have h := (h.2 e0).1 rfl
      refine vx_catch C0.2.2.2.1 [⟨0, 9, 12, 21⟩] ⟨0, 9, 15, 13⟩ [] htab (fun z hz => Or.inr (by
        rcases (show z = ⟨0, 9, 12, 21⟩ by simpa using hz) with rfl
        · exact ⟨by decide, "java/lang/IndexOutOfBoundsException", C0.2.2.2.2 _ mL_4_128, hN ("java/lang/IllegalArgumentException", "java/lang/IndexOutOfBoundsException") (by decide)⟩
        )) (by decide) (by decide) (C0.2.2.2.2 _ mL_3_112) ((hT.2 _ mL_4_47).use rfl) hce hcv hcl ?_
      refine lv_astore_n (lv' := [(3, .ref q9), (0, .ref (b + adC 0 0)), (1, .int a1), (2, .ref (b + 721))]) hx hb dL_query_15 rfl hl (by decide) rfl (fun ls hl => ?_)
      refine lv_iconst (v := 2) hx hb dL_query_16 (by decide) ?_
      refine W.widen (k := 2) (n := 12) (Nat.le_of_ble_eq_true rfl) (Nat.le_of_ble_eq_true rfl) ?_
      exact rtL C0 hr hlk hR hS h dL_query_17
    exact ((h.2 e0).2 e1).elim
  · refine lv_i2l (v := r.toInt64) hx hb dL_query_7 rfl ?_
    refine lw_put C0 hR hS dL_query_8 (fun H locs hR hS => ?_)
    refine lv_goto (tgt := 18) hx hb dL_query_9 (by decide) ?_
    refine lv_iconst (v := 0) hx hb dL_query_18 (by decide) ?_
    refine W.widen (k := 2) (n := 12) (Nat.le_of_ble_eq_true rfl) (Nat.le_of_ble_eq_true rfl) ?_
    exact rtL C0 hr hlk hR hS h dL_query_19
def FW_begin (a1 : Int32) (Sc : sSt) (o : Int64) (k : Int32 → sSt → Int64 → Prop) : Prop := F_X11_begin a1 Sc (fun r S1 => k 0 S1 r.toInt64) (fun E S1 => (E = "java/lang/IndexOutOfBoundsException" → k 1 S1 o) ∧ (¬ E = "java/lang/IndexOutOfBoundsException" → (E = "java/lang/IllegalStateException" → k 2 S1 o) ∧ (¬ E = "java/lang/IllegalStateException" → False)))
set_option maxHeartbeats 4000000 in
set_option maxRecDepth 100000 in
theorem cw_begin (l : Launch) (hl0 : l.stackTraces = false) {D : va_G} {cy : Nat → ClassId} {b : Nat} {tx : TX} {a1 : Int32} {Sc Sm : sSt} {o : Int64} {k : Int32 → sSt → Int64 → Prop} (h : FW_begin a1 Sc o k) : Met l yL_begin (Cond.codeWith yL_begin cL_begin 4 (some .int) [(0, 9, 12, 21), (0, 9, 15, 26)] :: TB) ({ frames := 8, cells := 2, slots := 12, locals := 131 }) (va_Pc [.ref (b + adC 0 0), .int a1, .ref (b + 721)] (fun U => RelL D cy b tx Sc Sm o U U.heap ∧ TxR tx U ∧ TxN U)) (PwL D cy b tx Sm k) 2 12 (bA b) := by
  refine met_ofWH (cc := cL_begin) (maxL := 4) (ret := (some .int)) (by decide) rfl ?_
  intro p e s m args below meth c s₁ B hml hv
  obtain ⟨rfl, hR, hT, hN⟩ := hv
  have htab : c.exceptionTable.toList = tableOf [(0, 9, 12, 21), (0, 9, 15, 26)] := vx_table (x := yL_begin) B (atoms_spec B.pre _ List.mem_cons_self)
  have C0 : CallFix p m c cL_begin 4 s _ TB RL := ⟨B.exec, B.bytes, hml, findClass_of_methodNamed B.named, fun w hw => atoms_spec B.pre w (List.mem_cons_of_mem _ hw)⟩
  have hr := B.returns
  have hlk := B.notSynchronized
  have hx := C0.1
  have hb := C0.2.1
  have hS : va_S (bA b) s.heap s.heap [] := va_S.rf
  have hl := lv_entry ([.ref (b + adC 0 0), .int a1, .ref (b + 721)]) (n := 4) (Nat.le_of_ble_eq_true rfl)
  rw [lg_entry_eq]
  generalize (lg_sl ([.ref (b + adC 0 0), .int a1, .ref (b + 721)]) ++ List.replicate (4 - (lg_sl ([.ref (b + adC 0 0), .int a1, .ref (b + 721)])).length) Slot.unset).toArray = ls at hl ⊢
  have hl : lv_has ls 4 [(0, .ref (b + adC 0 0)), (1, .int a1), (2, .ref (b + 721))] := hl
  show W p l e ({ frames := 8, cells := 2, slots := 12, locals := 131 }) s m _ below meth c s.heap [] 0 0 (MQ below (PwL D cy b tx Sm k) _ s 2 12 (bA b)) _
  unfold FW_begin at h
  refine lv_aload_n hx hb dL_begin_0 rfl (lv_at hl 2 rfl) ?_
  refine lv_iconst (v := 0) hx hb dL_begin_1 (by decide) ?_
  refine lv_aload_n hx hb dL_begin_2 rfl (lv_at hl 0 rfl) ?_
  refine lv_iload_n hx hb dL_begin_3 rfl (lv_at hl 1 rfl) ?_
  refine qLX (As := [.int a1]) (rest := [.int 0, .ref (b + 721)]) C0 (c_X11_begin l hl0 h) (cwV 1 C0.2.2.2.2 (tbV mL_4_198 ⟨mL_4_199, mL_4_200, mL_1_1, mL_4_201⟩) rfl rfl rfl (by decide +kernel) ⟨Nat.le_of_ble_eq_true rfl, Nat.le_of_ble_eq_true rfl⟩) hR hT hS rfl hl.1 rfl (Nat.le_of_ble_eq_true rfl) dL_begin_4 ⟨Nat.le_of_ble_eq_true rfl, Nat.le_of_ble_eq_true rfl⟩ (fun E ce q9 S1 H locs h hR hS hce hcv hcl => ?_) (fun r S1 H locs h hR hS => ?_)
  · by_cases e0 : E = "java/lang/IndexOutOfBoundsException"
    · subst e0
      have h := h
      have h := h.1 rfl
      refine vx_catch C0.2.2.2.1 [] ⟨0, 9, 12, 21⟩ [⟨0, 9, 15, 26⟩] htab (fun z hz => absurd hz List.not_mem_nil) (by decide) (by decide) (C0.2.2.2.2 _ mL_4_128) ((hT.2 _ mL_4_139).use rfl) hce hcv hcl ?_
      refine lv_astore_n (lv' := [(3, .ref q9), (0, .ref (b + adC 0 0)), (1, .int a1), (2, .ref (b + 721))]) hx hb dL_begin_12 rfl hl (by decide) rfl (fun ls hl => ?_)
      refine lv_iconst (v := 1) hx hb dL_begin_13 (by decide) ?_
      refine W.widen (k := 2) (n := 12) (Nat.le_of_ble_eq_true rfl) (Nat.le_of_ble_eq_true rfl) ?_
      exact rtL C0 hr hlk hR hS h dL_begin_14
    by_cases e1 : E = "java/lang/IllegalStateException"
    · subst e1
      have h := h
      have h := (h.2 e0).1 rfl
      refine vx_catch C0.2.2.2.1 [⟨0, 9, 12, 21⟩] ⟨0, 9, 15, 26⟩ [] htab (fun z hz => Or.inr (by
        rcases (show z = ⟨0, 9, 12, 21⟩ by simpa using hz) with rfl
        · exact ⟨by decide, "java/lang/IndexOutOfBoundsException", C0.2.2.2.2 _ mL_4_128, hN ("java/lang/IllegalStateException", "java/lang/IndexOutOfBoundsException") (by decide)⟩
        )) (by decide) (by decide) (C0.2.2.2.2 _ mL_4_197) ((hT.2 _ mL_4_208).use rfl) hce hcv hcl ?_
      refine lv_astore_n (lv' := [(3, .ref q9), (0, .ref (b + adC 0 0)), (1, .int a1), (2, .ref (b + 721))]) hx hb dL_begin_15 rfl hl (by decide) rfl (fun ls hl => ?_)
      refine lv_iconst (v := 2) hx hb dL_begin_16 (by decide) ?_
      refine W.widen (k := 2) (n := 12) (Nat.le_of_ble_eq_true rfl) (Nat.le_of_ble_eq_true rfl) ?_
      exact rtL C0 hr hlk hR hS h dL_begin_17
    exact ((h.2 e0).2 e1).elim
  · refine lv_i2l (v := r.toInt64) hx hb dL_begin_7 rfl ?_
    refine lw_put C0 hR hS dL_begin_8 (fun H locs hR hS => ?_)
    refine lv_goto (tgt := 18) hx hb dL_begin_9 (by decide) ?_
    refine lv_iconst (v := 0) hx hb dL_begin_18 (by decide) ?_
    refine W.widen (k := 2) (n := 12) (Nat.le_of_ble_eq_true rfl) (Nat.le_of_ble_eq_true rfl) ?_
    exact rtL C0 hr hlk hR hS h dL_begin_19
def FW_save (a1 : Int32) (Sc : sSt) (o : Int64) (k : Int32 → sSt → Int64 → Prop) : Prop := F_X11_save a1 Sc (fun r S1 => k 0 S1 r.toInt64) (fun E S1 => (E = "java/lang/IndexOutOfBoundsException" → k 1 S1 o) ∧ (¬ E = "java/lang/IndexOutOfBoundsException" → (E = "java/lang/IllegalStateException" → k 2 S1 o) ∧ (¬ E = "java/lang/IllegalStateException" → False)))
set_option maxHeartbeats 4000000 in
set_option maxRecDepth 100000 in
theorem cw_save (l : Launch) (hl0 : l.stackTraces = false) {D : va_G} {cy : Nat → ClassId} {b : Nat} {tx : TX} {a1 : Int32} {Sc Sm : sSt} {o : Int64} {k : Int32 → sSt → Int64 → Prop} (h : FW_save a1 Sc o k) : Met l yL_save (Cond.codeWith yL_save cL_save 4 (some .int) [(0, 9, 12, 21), (0, 9, 15, 26)] :: TB) ({ frames := 8, cells := 2, slots := 12, locals := 132 }) (va_Pc [.ref (b + adC 0 0), .int a1, .ref (b + 721)] (fun U => RelL D cy b tx Sc Sm o U U.heap ∧ TxR tx U ∧ TxN U)) (PwL D cy b tx Sm k) 2 12 (bA b) := by
  refine met_ofWH (cc := cL_save) (maxL := 4) (ret := (some .int)) (by decide) rfl ?_
  intro p e s m args below meth c s₁ B hml hv
  obtain ⟨rfl, hR, hT, hN⟩ := hv
  have htab : c.exceptionTable.toList = tableOf [(0, 9, 12, 21), (0, 9, 15, 26)] := vx_table (x := yL_save) B (atoms_spec B.pre _ List.mem_cons_self)
  have C0 : CallFix p m c cL_save 4 s _ TB RL := ⟨B.exec, B.bytes, hml, findClass_of_methodNamed B.named, fun w hw => atoms_spec B.pre w (List.mem_cons_of_mem _ hw)⟩
  have hr := B.returns
  have hlk := B.notSynchronized
  have hx := C0.1
  have hb := C0.2.1
  have hS : va_S (bA b) s.heap s.heap [] := va_S.rf
  have hl := lv_entry ([.ref (b + adC 0 0), .int a1, .ref (b + 721)]) (n := 4) (Nat.le_of_ble_eq_true rfl)
  rw [lg_entry_eq]
  generalize (lg_sl ([.ref (b + adC 0 0), .int a1, .ref (b + 721)]) ++ List.replicate (4 - (lg_sl ([.ref (b + adC 0 0), .int a1, .ref (b + 721)])).length) Slot.unset).toArray = ls at hl ⊢
  have hl : lv_has ls 4 [(0, .ref (b + adC 0 0)), (1, .int a1), (2, .ref (b + 721))] := hl
  show W p l e ({ frames := 8, cells := 2, slots := 12, locals := 132 }) s m _ below meth c s.heap [] 0 0 (MQ below (PwL D cy b tx Sm k) _ s 2 12 (bA b)) _
  unfold FW_save at h
  refine lv_aload_n hx hb dL_save_0 rfl (lv_at hl 2 rfl) ?_
  refine lv_iconst (v := 0) hx hb dL_save_1 (by decide) ?_
  refine lv_aload_n hx hb dL_save_2 rfl (lv_at hl 0 rfl) ?_
  refine lv_iload_n hx hb dL_save_3 rfl (lv_at hl 1 rfl) ?_
  refine qLX (As := [.int a1]) (rest := [.int 0, .ref (b + 721)]) C0 (c_X11_save l hl0 h) (cwV 1 C0.2.2.2.2 (tbV mL_4_224 ⟨mL_4_225, mL_4_226, mL_1_1, mL_4_227⟩) rfl rfl rfl (by decide +kernel) ⟨Nat.le_of_ble_eq_true rfl, Nat.le_of_ble_eq_true rfl⟩) hR hT hS rfl hl.1 rfl (Nat.le_of_ble_eq_true rfl) dL_save_4 ⟨Nat.le_of_ble_eq_true rfl, Nat.le_of_ble_eq_true rfl⟩ (fun E ce q9 S1 H locs h hR hS hce hcv hcl => ?_) (fun r S1 H locs h hR hS => ?_)
  · by_cases e0 : E = "java/lang/IndexOutOfBoundsException"
    · subst e0
      have h := h
      have h := h.1 rfl
      refine vx_catch C0.2.2.2.1 [] ⟨0, 9, 12, 21⟩ [⟨0, 9, 15, 26⟩] htab (fun z hz => absurd hz List.not_mem_nil) (by decide) (by decide) (C0.2.2.2.2 _ mL_4_128) ((hT.2 _ mL_4_139).use rfl) hce hcv hcl ?_
      refine lv_astore_n (lv' := [(3, .ref q9), (0, .ref (b + adC 0 0)), (1, .int a1), (2, .ref (b + 721))]) hx hb dL_save_12 rfl hl (by decide) rfl (fun ls hl => ?_)
      refine lv_iconst (v := 1) hx hb dL_save_13 (by decide) ?_
      refine W.widen (k := 2) (n := 12) (Nat.le_of_ble_eq_true rfl) (Nat.le_of_ble_eq_true rfl) ?_
      exact rtL C0 hr hlk hR hS h dL_save_14
    by_cases e1 : E = "java/lang/IllegalStateException"
    · subst e1
      have h := h
      have h := (h.2 e0).1 rfl
      refine vx_catch C0.2.2.2.1 [⟨0, 9, 12, 21⟩] ⟨0, 9, 15, 26⟩ [] htab (fun z hz => Or.inr (by
        rcases (show z = ⟨0, 9, 12, 21⟩ by simpa using hz) with rfl
        · exact ⟨by decide, "java/lang/IndexOutOfBoundsException", C0.2.2.2.2 _ mL_4_128, hN ("java/lang/IllegalStateException", "java/lang/IndexOutOfBoundsException") (by decide)⟩
        )) (by decide) (by decide) (C0.2.2.2.2 _ mL_4_197) ((hT.2 _ mL_4_208).use rfl) hce hcv hcl ?_
      refine lv_astore_n (lv' := [(3, .ref q9), (0, .ref (b + adC 0 0)), (1, .int a1), (2, .ref (b + 721))]) hx hb dL_save_15 rfl hl (by decide) rfl (fun ls hl => ?_)
      refine lv_iconst (v := 2) hx hb dL_save_16 (by decide) ?_
      refine W.widen (k := 2) (n := 12) (Nat.le_of_ble_eq_true rfl) (Nat.le_of_ble_eq_true rfl) ?_
      exact rtL C0 hr hlk hR hS h dL_save_17
    exact ((h.2 e0).2 e1).elim
  · refine lv_i2l (v := r.toInt64) hx hb dL_save_7 rfl ?_
    refine lw_put C0 hR hS dL_save_8 (fun H locs hR hS => ?_)
    refine lv_goto (tgt := 18) hx hb dL_save_9 (by decide) ?_
    refine lv_iconst (v := 0) hx hb dL_save_18 (by decide) ?_
    refine W.widen (k := 2) (n := 12) (Nat.le_of_ble_eq_true rfl) (Nat.le_of_ble_eq_true rfl) ?_
    exact rtL C0 hr hlk hR hS h dL_save_19
def FW_undo (a1 a2 : Int32) (Sc : sSt) (o : Int64) (k : Int32 → sSt → Int64 → Prop) : Prop := F_X11_undo a1 a2 Sc (fun r S1 => k 0 S1 r.toInt64) (fun E S1 => (E = "java/lang/IndexOutOfBoundsException" → k 1 S1 o) ∧ (¬ E = "java/lang/IndexOutOfBoundsException" → (E = "java/lang/IllegalStateException" → k 2 S1 o) ∧ (¬ E = "java/lang/IllegalStateException" → (E = "java/lang/IllegalArgumentException" → k 3 S1 o) ∧ (¬ E = "java/lang/IllegalArgumentException" → False))))
set_option maxHeartbeats 4000000 in
set_option maxRecDepth 100000 in
theorem cw_undo (l : Launch) (hl0 : l.stackTraces = false) {D : va_G} {cy : Nat → ClassId} {b : Nat} {tx : TX} {a1 a2 : Int32} {Sc Sm : sSt} {o : Int64} {k : Int32 → sSt → Int64 → Prop} (h : FW_undo a1 a2 Sc o k) : Met l yL_undo (Cond.codeWith yL_undo cL_undo 5 (some .int) [(0, 10, 13, 21), (0, 10, 17, 26), (0, 10, 21, 13)] :: TB) ({ frames := 9, cells := 3, slots := 18, locals := 154 }) (va_Pc [.ref (b + adC 0 0), .int a1, .int a2, .ref (b + 721)] (fun U => RelL D cy b tx Sc Sm o U U.heap ∧ TxR tx U ∧ TxN U)) (PwL D cy b tx Sm k) 3 18 (bA b) := by
  refine met_ofWH (cc := cL_undo) (maxL := 5) (ret := (some .int)) (by decide) rfl ?_
  intro p e s m args below meth c s₁ B hml hv
  obtain ⟨rfl, hR, hT, hN⟩ := hv
  have htab : c.exceptionTable.toList = tableOf [(0, 10, 13, 21), (0, 10, 17, 26), (0, 10, 21, 13)] := vx_table (x := yL_undo) B (atoms_spec B.pre _ List.mem_cons_self)
  have C0 : CallFix p m c cL_undo 5 s _ TB RL := ⟨B.exec, B.bytes, hml, findClass_of_methodNamed B.named, fun w hw => atoms_spec B.pre w (List.mem_cons_of_mem _ hw)⟩
  have hr := B.returns
  have hlk := B.notSynchronized
  have hx := C0.1
  have hb := C0.2.1
  have hS : va_S (bA b) s.heap s.heap [] := va_S.rf
  have hl := lv_entry ([.ref (b + adC 0 0), .int a1, .int a2, .ref (b + 721)]) (n := 5) (Nat.le_of_ble_eq_true rfl)
  rw [lg_entry_eq]
  generalize (lg_sl ([.ref (b + adC 0 0), .int a1, .int a2, .ref (b + 721)]) ++ List.replicate (5 - (lg_sl ([.ref (b + adC 0 0), .int a1, .int a2, .ref (b + 721)])).length) Slot.unset).toArray = ls at hl ⊢
  have hl : lv_has ls 5 [(0, .ref (b + adC 0 0)), (1, .int a1), (2, .int a2), (3, .ref (b + 721))] := hl
  show W p l e ({ frames := 9, cells := 3, slots := 18, locals := 154 }) s m _ below meth c s.heap [] 0 0 (MQ below (PwL D cy b tx Sm k) _ s 3 18 (bA b)) _
  unfold FW_undo at h
  refine lv_aload_n hx hb dL_undo_0 rfl (lv_at hl 3 rfl) ?_
  refine lv_iconst (v := 0) hx hb dL_undo_1 (by decide) ?_
  refine lv_aload_n hx hb dL_undo_2 rfl (lv_at hl 0 rfl) ?_
  refine lv_iload_n hx hb dL_undo_3 rfl (lv_at hl 1 rfl) ?_
  refine lv_iload_n hx hb dL_undo_4 rfl (lv_at hl 2 rfl) ?_
  refine qLX (As := [.int a1, .int a2]) (rest := [.int 0, .ref (b + 721)]) C0 (c_X11_undo l hl0 h) (cwV 2 C0.2.2.2.2 (tbV mL_5_3 ⟨mL_5_4, mL_5_5, mL_1_1, mL_5_6⟩) rfl rfl rfl (by decide +kernel) ⟨Nat.le_of_ble_eq_true rfl, Nat.le_of_ble_eq_true rfl⟩) hR hT hS rfl hl.1 rfl (Nat.le_of_ble_eq_true rfl) dL_undo_5 ⟨Nat.le_of_ble_eq_true rfl, Nat.le_of_ble_eq_true rfl⟩ (fun E ce q9 S1 H locs h hR hS hce hcv hcl => ?_) (fun r S1 H locs h hR hS => ?_)
  · by_cases e0 : E = "java/lang/IndexOutOfBoundsException"
    · subst e0
      have h := h
      have h := h.1 rfl
      refine vx_catch C0.2.2.2.1 [] ⟨0, 10, 13, 21⟩ [⟨0, 10, 17, 26⟩, ⟨0, 10, 21, 13⟩] htab (fun z hz => absurd hz List.not_mem_nil) (by decide) (by decide) (C0.2.2.2.2 _ mL_4_128) ((hT.2 _ mL_4_139).use rfl) hce hcv hcl ?_
      refine lv_astore (lv' := [(4, .ref q9), (0, .ref (b + adC 0 0)), (1, .int a1), (2, .int a2), (3, .ref (b + 721))]) hx hb dL_undo_13 hl (by decide) rfl (fun ls hl => ?_)
      refine lv_iconst (v := 1) hx hb dL_undo_15 (by decide) ?_
      refine W.widen (k := 3) (n := 18) (Nat.le_of_ble_eq_true rfl) (Nat.le_of_ble_eq_true rfl) ?_
      exact rtL C0 hr hlk hR hS h dL_undo_16
    by_cases e1 : E = "java/lang/IllegalStateException"
    · subst e1
      have h := h
      have h := (h.2 e0).1 rfl
      refine vx_catch C0.2.2.2.1 [⟨0, 10, 13, 21⟩] ⟨0, 10, 17, 26⟩ [⟨0, 10, 21, 13⟩] htab (fun z hz => Or.inr (by
        rcases (show z = ⟨0, 10, 13, 21⟩ by simpa using hz) with rfl
        · exact ⟨by decide, "java/lang/IndexOutOfBoundsException", C0.2.2.2.2 _ mL_4_128, hN ("java/lang/IllegalStateException", "java/lang/IndexOutOfBoundsException") (by decide)⟩
        )) (by decide) (by decide) (C0.2.2.2.2 _ mL_4_197) ((hT.2 _ mL_4_208).use rfl) hce hcv hcl ?_
      refine lv_astore (lv' := [(4, .ref q9), (0, .ref (b + adC 0 0)), (1, .int a1), (2, .int a2), (3, .ref (b + 721))]) hx hb dL_undo_17 hl (by decide) rfl (fun ls hl => ?_)
      refine lv_iconst (v := 2) hx hb dL_undo_19 (by decide) ?_
      refine W.widen (k := 3) (n := 18) (Nat.le_of_ble_eq_true rfl) (Nat.le_of_ble_eq_true rfl) ?_
      exact rtL C0 hr hlk hR hS h dL_undo_20
    by_cases e2 : E = "java/lang/IllegalArgumentException"
    · subst e2
      have h := h
      have h := ((h.2 e0).2 e1).1 rfl
      refine vx_catch C0.2.2.2.1 [⟨0, 10, 13, 21⟩, ⟨0, 10, 17, 26⟩] ⟨0, 10, 21, 13⟩ [] htab (fun z hz => Or.inr (by
        rcases (show z = ⟨0, 10, 13, 21⟩ ∨ z = ⟨0, 10, 17, 26⟩ by simpa using hz) with rfl | rfl
        · exact ⟨by decide, "java/lang/IndexOutOfBoundsException", C0.2.2.2.2 _ mL_4_128, hN ("java/lang/IllegalArgumentException", "java/lang/IndexOutOfBoundsException") (by decide)⟩
        · exact ⟨by decide, "java/lang/IllegalStateException", C0.2.2.2.2 _ mL_4_197, hN ("java/lang/IllegalArgumentException", "java/lang/IllegalStateException") (by decide)⟩
        )) (by decide) (by decide) (C0.2.2.2.2 _ mL_3_112) ((hT.2 _ mL_4_47).use rfl) hce hcv hcl ?_
      refine lv_astore (lv' := [(4, .ref q9), (0, .ref (b + adC 0 0)), (1, .int a1), (2, .int a2), (3, .ref (b + 721))]) hx hb dL_undo_21 hl (by decide) rfl (fun ls hl => ?_)
      refine lv_iconst (v := 3) hx hb dL_undo_23 (by decide) ?_
      refine W.widen (k := 3) (n := 18) (Nat.le_of_ble_eq_true rfl) (Nat.le_of_ble_eq_true rfl) ?_
      exact rtL C0 hr hlk hR hS h dL_undo_24
    exact (((h.2 e0).2 e1).2 e2).elim
  · refine lv_i2l (v := r.toInt64) hx hb dL_undo_8 rfl ?_
    refine lw_put C0 hR hS dL_undo_9 (fun H locs hR hS => ?_)
    refine lv_goto (tgt := 25) hx hb dL_undo_10 (by decide) ?_
    refine lv_iconst (v := 0) hx hb dL_undo_25 (by decide) ?_
    refine W.widen (k := 3) (n := 18) (Nat.le_of_ble_eq_true rfl) (Nat.le_of_ble_eq_true rfl) ?_
    exact rtL C0 hr hlk hR hS h dL_undo_26
def FW_commit (a1 : Int32) (Sc : sSt) (o : Int64) (k : Int32 → sSt → Int64 → Prop) : Prop := F_X11_commit a1 Sc (fun r S1 => k 0 S1 r.toInt64) (fun E S1 => (E = "java/lang/IndexOutOfBoundsException" → k 1 S1 o) ∧ (¬ E = "java/lang/IndexOutOfBoundsException" → (E = "java/lang/IllegalStateException" → k 2 S1 o) ∧ (¬ E = "java/lang/IllegalStateException" → False)))
set_option maxHeartbeats 4000000 in
set_option maxRecDepth 100000 in
theorem cw_commit (l : Launch) (hl0 : l.stackTraces = false) {D : va_G} {cy : Nat → ClassId} {b : Nat} {tx : TX} {a1 : Int32} {Sc Sm : sSt} {o : Int64} {k : Int32 → sSt → Int64 → Prop} (h : FW_commit a1 Sc o k) : Met l yL_commit (Cond.codeWith yL_commit cL_commit 4 (some .int) [(0, 9, 12, 21), (0, 9, 15, 26)] :: TB) ({ frames := 9, cells := 2, slots := 12, locals := 152 }) (va_Pc [.ref (b + adC 0 0), .int a1, .ref (b + 721)] (fun U => RelL D cy b tx Sc Sm o U U.heap ∧ TxR tx U ∧ TxN U)) (PwL D cy b tx Sm k) 2 12 (bA b) := by
  refine met_ofWH (cc := cL_commit) (maxL := 4) (ret := (some .int)) (by decide) rfl ?_
  intro p e s m args below meth c s₁ B hml hv
  obtain ⟨rfl, hR, hT, hN⟩ := hv
  have htab : c.exceptionTable.toList = tableOf [(0, 9, 12, 21), (0, 9, 15, 26)] := vx_table (x := yL_commit) B (atoms_spec B.pre _ List.mem_cons_self)
  have C0 : CallFix p m c cL_commit 4 s _ TB RL := ⟨B.exec, B.bytes, hml, findClass_of_methodNamed B.named, fun w hw => atoms_spec B.pre w (List.mem_cons_of_mem _ hw)⟩
  have hr := B.returns
  have hlk := B.notSynchronized
  have hx := C0.1
  have hb := C0.2.1
  have hS : va_S (bA b) s.heap s.heap [] := va_S.rf
  have hl := lv_entry ([.ref (b + adC 0 0), .int a1, .ref (b + 721)]) (n := 4) (Nat.le_of_ble_eq_true rfl)
  rw [lg_entry_eq]
  generalize (lg_sl ([.ref (b + adC 0 0), .int a1, .ref (b + 721)]) ++ List.replicate (4 - (lg_sl ([.ref (b + adC 0 0), .int a1, .ref (b + 721)])).length) Slot.unset).toArray = ls at hl ⊢
  have hl : lv_has ls 4 [(0, .ref (b + adC 0 0)), (1, .int a1), (2, .ref (b + 721))] := hl
  show W p l e ({ frames := 9, cells := 2, slots := 12, locals := 152 }) s m _ below meth c s.heap [] 0 0 (MQ below (PwL D cy b tx Sm k) _ s 2 12 (bA b)) _
  unfold FW_commit at h
  refine lv_aload_n hx hb dL_commit_0 rfl (lv_at hl 2 rfl) ?_
  refine lv_iconst (v := 0) hx hb dL_commit_1 (by decide) ?_
  refine lv_aload_n hx hb dL_commit_2 rfl (lv_at hl 0 rfl) ?_
  refine lv_iload_n hx hb dL_commit_3 rfl (lv_at hl 1 rfl) ?_
  refine qLX (As := [.int a1]) (rest := [.int 0, .ref (b + 721)]) C0 (c_X11_commit l hl0 h) (cwV 1 C0.2.2.2.2 (tbV mL_5_27 ⟨mL_5_28, mL_5_29, mL_1_1, mL_5_30⟩) rfl rfl rfl (by decide +kernel) ⟨Nat.le_of_ble_eq_true rfl, Nat.le_of_ble_eq_true rfl⟩) hR hT hS rfl hl.1 rfl (Nat.le_of_ble_eq_true rfl) dL_commit_4 ⟨Nat.le_of_ble_eq_true rfl, Nat.le_of_ble_eq_true rfl⟩ (fun E ce q9 S1 H locs h hR hS hce hcv hcl => ?_) (fun r S1 H locs h hR hS => ?_)
  · by_cases e0 : E = "java/lang/IndexOutOfBoundsException"
    · subst e0
      have h := h
      have h := h.1 rfl
      refine vx_catch C0.2.2.2.1 [] ⟨0, 9, 12, 21⟩ [⟨0, 9, 15, 26⟩] htab (fun z hz => absurd hz List.not_mem_nil) (by decide) (by decide) (C0.2.2.2.2 _ mL_4_128) ((hT.2 _ mL_4_139).use rfl) hce hcv hcl ?_
      refine lv_astore_n (lv' := [(3, .ref q9), (0, .ref (b + adC 0 0)), (1, .int a1), (2, .ref (b + 721))]) hx hb dL_commit_12 rfl hl (by decide) rfl (fun ls hl => ?_)
      refine lv_iconst (v := 1) hx hb dL_commit_13 (by decide) ?_
      refine W.widen (k := 2) (n := 12) (Nat.le_of_ble_eq_true rfl) (Nat.le_of_ble_eq_true rfl) ?_
      exact rtL C0 hr hlk hR hS h dL_commit_14
    by_cases e1 : E = "java/lang/IllegalStateException"
    · subst e1
      have h := h
      have h := (h.2 e0).1 rfl
      refine vx_catch C0.2.2.2.1 [⟨0, 9, 12, 21⟩] ⟨0, 9, 15, 26⟩ [] htab (fun z hz => Or.inr (by
        rcases (show z = ⟨0, 9, 12, 21⟩ by simpa using hz) with rfl
        · exact ⟨by decide, "java/lang/IndexOutOfBoundsException", C0.2.2.2.2 _ mL_4_128, hN ("java/lang/IllegalStateException", "java/lang/IndexOutOfBoundsException") (by decide)⟩
        )) (by decide) (by decide) (C0.2.2.2.2 _ mL_4_197) ((hT.2 _ mL_4_208).use rfl) hce hcv hcl ?_
      refine lv_astore_n (lv' := [(3, .ref q9), (0, .ref (b + adC 0 0)), (1, .int a1), (2, .ref (b + 721))]) hx hb dL_commit_15 rfl hl (by decide) rfl (fun ls hl => ?_)
      refine lv_iconst (v := 2) hx hb dL_commit_16 (by decide) ?_
      refine W.widen (k := 2) (n := 12) (Nat.le_of_ble_eq_true rfl) (Nat.le_of_ble_eq_true rfl) ?_
      exact rtL C0 hr hlk hR hS h dL_commit_17
    exact ((h.2 e0).2 e1).elim
  · refine lv_i2l (v := r.toInt64) hx hb dL_commit_7 rfl ?_
    refine lw_put C0 hR hS dL_commit_8 (fun H locs hR hS => ?_)
    refine lv_goto (tgt := 18) hx hb dL_commit_9 (by decide) ?_
    refine lv_iconst (v := 0) hx hb dL_commit_18 (by decide) ?_
    refine W.widen (k := 2) (n := 12) (Nat.le_of_ble_eq_true rfl) (Nat.le_of_ble_eq_true rfl) ?_
    exact rtL C0 hr hlk hR hS h dL_commit_19
def FW_roll (a1 : Int32) (Sc : sSt) (o : Int64) (k : Int32 → sSt → Int64 → Prop) : Prop := F_X11_roll a1 Sc (fun r S1 => k 0 S1 r.toInt64) (fun E S1 => (E = "java/lang/IndexOutOfBoundsException" → k 1 S1 o) ∧ (¬ E = "java/lang/IndexOutOfBoundsException" → (E = "java/lang/IllegalStateException" → k 2 S1 o) ∧ (¬ E = "java/lang/IllegalStateException" → False)))
set_option maxHeartbeats 4000000 in
set_option maxRecDepth 100000 in
theorem cw_roll (l : Launch) (hl0 : l.stackTraces = false) {D : va_G} {cy : Nat → ClassId} {b : Nat} {tx : TX} {a1 : Int32} {Sc Sm : sSt} {o : Int64} {k : Int32 → sSt → Int64 → Prop} (h : FW_roll a1 Sc o k) : Met l yL_roll (Cond.codeWith yL_roll cL_roll 4 (some .int) [(0, 9, 12, 21), (0, 9, 15, 26)] :: TB) ({ frames := 9, cells := 2, slots := 12, locals := 152 }) (va_Pc [.ref (b + adC 0 0), .int a1, .ref (b + 721)] (fun U => RelL D cy b tx Sc Sm o U U.heap ∧ TxR tx U ∧ TxN U)) (PwL D cy b tx Sm k) 2 12 (bA b) := by
  refine met_ofWH (cc := cL_roll) (maxL := 4) (ret := (some .int)) (by decide) rfl ?_
  intro p e s m args below meth c s₁ B hml hv
  obtain ⟨rfl, hR, hT, hN⟩ := hv
  have htab : c.exceptionTable.toList = tableOf [(0, 9, 12, 21), (0, 9, 15, 26)] := vx_table (x := yL_roll) B (atoms_spec B.pre _ List.mem_cons_self)
  have C0 : CallFix p m c cL_roll 4 s _ TB RL := ⟨B.exec, B.bytes, hml, findClass_of_methodNamed B.named, fun w hw => atoms_spec B.pre w (List.mem_cons_of_mem _ hw)⟩
  have hr := B.returns
  have hlk := B.notSynchronized
  have hx := C0.1
  have hb := C0.2.1
  have hS : va_S (bA b) s.heap s.heap [] := va_S.rf
  have hl := lv_entry ([.ref (b + adC 0 0), .int a1, .ref (b + 721)]) (n := 4) (Nat.le_of_ble_eq_true rfl)
  rw [lg_entry_eq]
  generalize (lg_sl ([.ref (b + adC 0 0), .int a1, .ref (b + 721)]) ++ List.replicate (4 - (lg_sl ([.ref (b + adC 0 0), .int a1, .ref (b + 721)])).length) Slot.unset).toArray = ls at hl ⊢
  have hl : lv_has ls 4 [(0, .ref (b + adC 0 0)), (1, .int a1), (2, .ref (b + 721))] := hl
  show W p l e ({ frames := 9, cells := 2, slots := 12, locals := 152 }) s m _ below meth c s.heap [] 0 0 (MQ below (PwL D cy b tx Sm k) _ s 2 12 (bA b)) _
  unfold FW_roll at h
  refine lv_aload_n hx hb dL_roll_0 rfl (lv_at hl 2 rfl) ?_
  refine lv_iconst (v := 0) hx hb dL_roll_1 (by decide) ?_
  refine lv_aload_n hx hb dL_roll_2 rfl (lv_at hl 0 rfl) ?_
  refine lv_iload_n hx hb dL_roll_3 rfl (lv_at hl 1 rfl) ?_
  refine qLX (As := [.int a1]) (rest := [.int 0, .ref (b + 721)]) C0 (c_X11_roll l hl0 h) (cwV 1 C0.2.2.2.2 (tbV mL_5_47 ⟨mL_5_48, mL_5_49, mL_1_1, mL_5_50⟩) rfl rfl rfl (by decide +kernel) ⟨Nat.le_of_ble_eq_true rfl, Nat.le_of_ble_eq_true rfl⟩) hR hT hS rfl hl.1 rfl (Nat.le_of_ble_eq_true rfl) dL_roll_4 ⟨Nat.le_of_ble_eq_true rfl, Nat.le_of_ble_eq_true rfl⟩ (fun E ce q9 S1 H locs h hR hS hce hcv hcl => ?_) (fun r S1 H locs h hR hS => ?_)
  · by_cases e0 : E = "java/lang/IndexOutOfBoundsException"
    · subst e0
      have h := h
      have h := h.1 rfl
      refine vx_catch C0.2.2.2.1 [] ⟨0, 9, 12, 21⟩ [⟨0, 9, 15, 26⟩] htab (fun z hz => absurd hz List.not_mem_nil) (by decide) (by decide) (C0.2.2.2.2 _ mL_4_128) ((hT.2 _ mL_4_139).use rfl) hce hcv hcl ?_
      refine lv_astore_n (lv' := [(3, .ref q9), (0, .ref (b + adC 0 0)), (1, .int a1), (2, .ref (b + 721))]) hx hb dL_roll_12 rfl hl (by decide) rfl (fun ls hl => ?_)
      refine lv_iconst (v := 1) hx hb dL_roll_13 (by decide) ?_
      refine W.widen (k := 2) (n := 12) (Nat.le_of_ble_eq_true rfl) (Nat.le_of_ble_eq_true rfl) ?_
      exact rtL C0 hr hlk hR hS h dL_roll_14
    by_cases e1 : E = "java/lang/IllegalStateException"
    · subst e1
      have h := h
      have h := (h.2 e0).1 rfl
      refine vx_catch C0.2.2.2.1 [⟨0, 9, 12, 21⟩] ⟨0, 9, 15, 26⟩ [] htab (fun z hz => Or.inr (by
        rcases (show z = ⟨0, 9, 12, 21⟩ by simpa using hz) with rfl
        · exact ⟨by decide, "java/lang/IndexOutOfBoundsException", C0.2.2.2.2 _ mL_4_128, hN ("java/lang/IllegalStateException", "java/lang/IndexOutOfBoundsException") (by decide)⟩
        )) (by decide) (by decide) (C0.2.2.2.2 _ mL_4_197) ((hT.2 _ mL_4_208).use rfl) hce hcv hcl ?_
      refine lv_astore_n (lv' := [(3, .ref q9), (0, .ref (b + adC 0 0)), (1, .int a1), (2, .ref (b + 721))]) hx hb dL_roll_15 rfl hl (by decide) rfl (fun ls hl => ?_)
      refine lv_iconst (v := 2) hx hb dL_roll_16 (by decide) ?_
      refine W.widen (k := 2) (n := 12) (Nat.le_of_ble_eq_true rfl) (Nat.le_of_ble_eq_true rfl) ?_
      exact rtL C0 hr hlk hR hS h dL_roll_17
    exact ((h.2 e0).2 e1).elim
  · refine lv_i2l (v := r.toInt64) hx hb dL_roll_7 rfl ?_
    refine lw_put C0 hR hS dL_roll_8 (fun H locs hR hS => ?_)
    refine lv_goto (tgt := 18) hx hb dL_roll_9 (by decide) ?_
    refine lv_iconst (v := 0) hx hb dL_roll_18 (by decide) ?_
    refine W.widen (k := 2) (n := 12) (Nat.le_of_ble_eq_true rfl) (Nat.le_of_ble_eq_true rfl) ?_
    exact rtL C0 hr hlk hR hS h dL_roll_19
def FW_claim (a1 : Int32) (Sc : sSt) (o : Int64) (k : Int32 → sSt → Int64 → Prop) : Prop := F_X11_claim a1 Sc (fun r S1 => k 0 S1 r.toInt64) (fun E S1 => (E = "java/lang/IndexOutOfBoundsException" → k 1 S1 o) ∧ (¬ E = "java/lang/IndexOutOfBoundsException" → False))
set_option maxHeartbeats 4000000 in
set_option maxRecDepth 100000 in
theorem cw_claim (l : Launch) (hl0 : l.stackTraces = false) {D : va_G} {cy : Nat → ClassId} {b : Nat} {tx : TX} {a1 : Int32} {Sc Sm : sSt} {o : Int64} {k : Int32 → sSt → Int64 → Prop} (h : FW_claim a1 Sc o k) : Met l yL_claim (Cond.codeWith yL_claim cL_claim 4 (some .int) [(0, 9, 12, 21)] :: TB) ({ frames := 8, cells := 1, slots := 6, locals := 145 }) (va_Pc [.ref (b + adC 0 0), .int a1, .ref (b + 721)] (fun U => RelL D cy b tx Sc Sm o U U.heap ∧ TxR tx U ∧ TxN U)) (PwL D cy b tx Sm k) 1 6 (bA b) := by
  refine met_ofWH (cc := cL_claim) (maxL := 4) (ret := (some .int)) (by decide) rfl ?_
  intro p e s m args below meth c s₁ B hml hv
  obtain ⟨rfl, hR, hT, hN⟩ := hv
  have htab : c.exceptionTable.toList = tableOf [(0, 9, 12, 21)] := vx_table (x := yL_claim) B (atoms_spec B.pre _ List.mem_cons_self)
  have C0 : CallFix p m c cL_claim 4 s _ TB RL := ⟨B.exec, B.bytes, hml, findClass_of_methodNamed B.named, fun w hw => atoms_spec B.pre w (List.mem_cons_of_mem _ hw)⟩
  have hr := B.returns
  have hlk := B.notSynchronized
  have hx := C0.1
  have hb := C0.2.1
  have hS : va_S (bA b) s.heap s.heap [] := va_S.rf
  have hl := lv_entry ([.ref (b + adC 0 0), .int a1, .ref (b + 721)]) (n := 4) (Nat.le_of_ble_eq_true rfl)
  rw [lg_entry_eq]
  generalize (lg_sl ([.ref (b + adC 0 0), .int a1, .ref (b + 721)]) ++ List.replicate (4 - (lg_sl ([.ref (b + adC 0 0), .int a1, .ref (b + 721)])).length) Slot.unset).toArray = ls at hl ⊢
  have hl : lv_has ls 4 [(0, .ref (b + adC 0 0)), (1, .int a1), (2, .ref (b + 721))] := hl
  show W p l e ({ frames := 8, cells := 1, slots := 6, locals := 145 }) s m _ below meth c s.heap [] 0 0 (MQ below (PwL D cy b tx Sm k) _ s 1 6 (bA b)) _
  unfold FW_claim at h
  refine lv_aload_n hx hb dL_claim_0 rfl (lv_at hl 2 rfl) ?_
  refine lv_iconst (v := 0) hx hb dL_claim_1 (by decide) ?_
  refine lv_aload_n hx hb dL_claim_2 rfl (lv_at hl 0 rfl) ?_
  refine lv_iload_n hx hb dL_claim_3 rfl (lv_at hl 1 rfl) ?_
  refine qLX (As := [.int a1]) (rest := [.int 0, .ref (b + 721)]) C0 (c_X11_claim l hl0 h) (cwV 1 C0.2.2.2.2 (tbV mL_5_58 ⟨mL_5_59, mL_5_60, mL_1_1, mL_5_61⟩) rfl rfl rfl (by decide +kernel) ⟨Nat.le_of_ble_eq_true rfl, Nat.le_of_ble_eq_true rfl⟩) hR hT hS rfl hl.1 rfl (Nat.le_of_ble_eq_true rfl) dL_claim_4 ⟨Nat.le_of_ble_eq_true rfl, Nat.le_of_ble_eq_true rfl⟩ (fun E ce q9 S1 H locs h hR hS hce hcv hcl => ?_) (fun r S1 H locs h hR hS => ?_)
  · by_cases e0 : E = "java/lang/IndexOutOfBoundsException"
    · subst e0
      have h := h
      have h := h.1 rfl
      refine vx_catch C0.2.2.2.1 [] ⟨0, 9, 12, 21⟩ [] htab (fun z hz => absurd hz List.not_mem_nil) (by decide) (by decide) (C0.2.2.2.2 _ mL_4_128) ((hT.2 _ mL_4_139).use rfl) hce hcv hcl ?_
      refine lv_astore_n (lv' := [(3, .ref q9), (0, .ref (b + adC 0 0)), (1, .int a1), (2, .ref (b + 721))]) hx hb dL_claim_12 rfl hl (by decide) rfl (fun ls hl => ?_)
      refine lv_iconst (v := 1) hx hb dL_claim_13 (by decide) ?_
      refine W.widen (k := 1) (n := 6) (Nat.le_of_ble_eq_true rfl) (Nat.le_of_ble_eq_true rfl) ?_
      exact rtL C0 hr hlk hR hS h dL_claim_14
    exact (h.2 e0).elim
  · refine lv_i2l (v := r.toInt64) hx hb dL_claim_7 rfl ?_
    refine lw_put C0 hR hS dL_claim_8 (fun H locs hR hS => ?_)
    refine lv_goto (tgt := 15) hx hb dL_claim_9 (by decide) ?_
    refine lv_iconst (v := 0) hx hb dL_claim_15 (by decide) ?_
    refine W.widen (k := 1) (n := 6) (Nat.le_of_ble_eq_true rfl) (Nat.le_of_ble_eq_true rfl) ?_
    exact rtL C0 hr hlk hR hS h dL_claim_16
def FW_renew (a1 a2 a3 : Int32) (Sc : sSt) (o : Int64) (k : Int32 → sSt → Int64 → Prop) : Prop := F_X11_renew a1 a2 a3 Sc (fun r S1 => k 0 S1 r.toInt64) (fun E S1 => (E = "java/lang/IndexOutOfBoundsException" → k 1 S1 o) ∧ (¬ E = "java/lang/IndexOutOfBoundsException" → (E = "java/lang/IllegalStateException" → k 2 S1 o) ∧ (¬ E = "java/lang/IllegalStateException" → False)))
set_option maxHeartbeats 4000000 in
set_option maxRecDepth 100000 in
theorem cw_renew (l : Launch) (hl0 : l.stackTraces = false) {D : va_G} {cy : Nat → ClassId} {b : Nat} {tx : TX} {a1 a2 a3 : Int32} {Sc Sm : sSt} {o : Int64} {k : Int32 → sSt → Int64 → Prop} (h : FW_renew a1 a2 a3 Sc o k) : Met l yL_renew (Cond.codeWith yL_renew cL_renew 6 (some .int) [(0, 12, 15, 21), (0, 12, 19, 26)] :: TB) ({ frames := 9, cells := 3, slots := 18, locals := 160 }) (va_Pc [.ref (b + adC 0 0), .int a1, .int a2, .int a3, .ref (b + 721)] (fun U => RelL D cy b tx Sc Sm o U U.heap ∧ TxR tx U ∧ TxN U)) (PwL D cy b tx Sm k) 3 18 (bA b) := by
  refine met_ofWH (cc := cL_renew) (maxL := 6) (ret := (some .int)) (by decide) rfl ?_
  intro p e s m args below meth c s₁ B hml hv
  obtain ⟨rfl, hR, hT, hN⟩ := hv
  have htab : c.exceptionTable.toList = tableOf [(0, 12, 15, 21), (0, 12, 19, 26)] := vx_table (x := yL_renew) B (atoms_spec B.pre _ List.mem_cons_self)
  have C0 : CallFix p m c cL_renew 6 s _ TB RL := ⟨B.exec, B.bytes, hml, findClass_of_methodNamed B.named, fun w hw => atoms_spec B.pre w (List.mem_cons_of_mem _ hw)⟩
  have hr := B.returns
  have hlk := B.notSynchronized
  have hx := C0.1
  have hb := C0.2.1
  have hS : va_S (bA b) s.heap s.heap [] := va_S.rf
  have hl := lv_entry ([.ref (b + adC 0 0), .int a1, .int a2, .int a3, .ref (b + 721)]) (n := 6) (Nat.le_of_ble_eq_true rfl)
  rw [lg_entry_eq]
  generalize (lg_sl ([.ref (b + adC 0 0), .int a1, .int a2, .int a3, .ref (b + 721)]) ++ List.replicate (6 - (lg_sl ([.ref (b + adC 0 0), .int a1, .int a2, .int a3, .ref (b + 721)])).length) Slot.unset).toArray = ls at hl ⊢
  have hl : lv_has ls 6 [(0, .ref (b + adC 0 0)), (1, .int a1), (2, .int a2), (3, .int a3), (4, .ref (b + 721))] := hl
  show W p l e ({ frames := 9, cells := 3, slots := 18, locals := 160 }) s m _ below meth c s.heap [] 0 0 (MQ below (PwL D cy b tx Sm k) _ s 3 18 (bA b)) _
  unfold FW_renew at h
  refine lv_aload hx hb dL_renew_0 (lv_at hl 4 rfl) ?_
  refine lv_iconst (v := 0) hx hb dL_renew_2 (by decide) ?_
  refine lv_aload_n hx hb dL_renew_3 rfl (lv_at hl 0 rfl) ?_
  refine lv_iload_n hx hb dL_renew_4 rfl (lv_at hl 1 rfl) ?_
  refine lv_iload_n hx hb dL_renew_5 rfl (lv_at hl 2 rfl) ?_
  refine lv_iload_n hx hb dL_renew_6 rfl (lv_at hl 3 rfl) ?_
  refine qLX (As := [.int a1, .int a2, .int a3]) (rest := [.int 0, .ref (b + 721)]) C0 (c_X11_renew l hl0 h) (cwV 3 C0.2.2.2.2 (tbV mL_5_126 ⟨mL_5_127, mL_5_128, mL_1_1, mL_5_129⟩) rfl rfl rfl (by decide +kernel) ⟨Nat.le_of_ble_eq_true rfl, Nat.le_of_ble_eq_true rfl⟩) hR hT hS rfl hl.1 rfl (Nat.le_of_ble_eq_true rfl) dL_renew_7 ⟨Nat.le_of_ble_eq_true rfl, Nat.le_of_ble_eq_true rfl⟩ (fun E ce q9 S1 H locs h hR hS hce hcv hcl => ?_) (fun r S1 H locs h hR hS => ?_)
  · by_cases e0 : E = "java/lang/IndexOutOfBoundsException"
    · subst e0
      have h := h
      have h := h.1 rfl
      refine vx_catch C0.2.2.2.1 [] ⟨0, 12, 15, 21⟩ [⟨0, 12, 19, 26⟩] htab (fun z hz => absurd hz List.not_mem_nil) (by decide) (by decide) (C0.2.2.2.2 _ mL_4_128) ((hT.2 _ mL_4_139).use rfl) hce hcv hcl ?_
      refine lv_astore (lv' := [(5, .ref q9), (0, .ref (b + adC 0 0)), (1, .int a1), (2, .int a2), (3, .int a3), (4, .ref (b + 721))]) hx hb dL_renew_15 hl (by decide) rfl (fun ls hl => ?_)
      refine lv_iconst (v := 1) hx hb dL_renew_17 (by decide) ?_
      refine W.widen (k := 3) (n := 18) (Nat.le_of_ble_eq_true rfl) (Nat.le_of_ble_eq_true rfl) ?_
      exact rtL C0 hr hlk hR hS h dL_renew_18
    by_cases e1 : E = "java/lang/IllegalStateException"
    · subst e1
      have h := h
      have h := (h.2 e0).1 rfl
      refine vx_catch C0.2.2.2.1 [⟨0, 12, 15, 21⟩] ⟨0, 12, 19, 26⟩ [] htab (fun z hz => Or.inr (by
        rcases (show z = ⟨0, 12, 15, 21⟩ by simpa using hz) with rfl
        · exact ⟨by decide, "java/lang/IndexOutOfBoundsException", C0.2.2.2.2 _ mL_4_128, hN ("java/lang/IllegalStateException", "java/lang/IndexOutOfBoundsException") (by decide)⟩
        )) (by decide) (by decide) (C0.2.2.2.2 _ mL_4_197) ((hT.2 _ mL_4_208).use rfl) hce hcv hcl ?_
      refine lv_astore (lv' := [(5, .ref q9), (0, .ref (b + adC 0 0)), (1, .int a1), (2, .int a2), (3, .int a3), (4, .ref (b + 721))]) hx hb dL_renew_19 hl (by decide) rfl (fun ls hl => ?_)
      refine lv_iconst (v := 2) hx hb dL_renew_21 (by decide) ?_
      refine W.widen (k := 3) (n := 18) (Nat.le_of_ble_eq_true rfl) (Nat.le_of_ble_eq_true rfl) ?_
      exact rtL C0 hr hlk hR hS h dL_renew_22
    exact ((h.2 e0).2 e1).elim
  · refine lv_i2l (v := r.toInt64) hx hb dL_renew_10 rfl ?_
    refine lw_put C0 hR hS dL_renew_11 (fun H locs hR hS => ?_)
    refine lv_goto (tgt := 23) hx hb dL_renew_12 (by decide) ?_
    refine lv_iconst (v := 0) hx hb dL_renew_23 (by decide) ?_
    refine W.widen (k := 3) (n := 18) (Nat.le_of_ble_eq_true rfl) (Nat.le_of_ble_eq_true rfl) ?_
    exact rtL C0 hr hlk hR hS h dL_renew_24
def FW_finish (a1 a2 a3 : Int32) (Sc : sSt) (o : Int64) (k : Int32 → sSt → Int64 → Prop) : Prop := F_X11_finish a1 a2 a3 Sc (fun r S1 => k 0 S1 r.toInt64) (fun E S1 => (E = "java/lang/IndexOutOfBoundsException" → k 1 S1 o) ∧ (¬ E = "java/lang/IndexOutOfBoundsException" → (E = "java/lang/IllegalStateException" → k 2 S1 o) ∧ (¬ E = "java/lang/IllegalStateException" → False)))
set_option maxHeartbeats 4000000 in
set_option maxRecDepth 100000 in
theorem cw_finish (l : Launch) (hl0 : l.stackTraces = false) {D : va_G} {cy : Nat → ClassId} {b : Nat} {tx : TX} {a1 a2 a3 : Int32} {Sc Sm : sSt} {o : Int64} {k : Int32 → sSt → Int64 → Prop} (h : FW_finish a1 a2 a3 Sc o k) : Met l yL_finish (Cond.codeWith yL_finish cL_finish 6 (some .int) [(0, 12, 15, 21), (0, 12, 19, 26)] :: TB) ({ frames := 9, cells := 3, slots := 18, locals := 160 }) (va_Pc [.ref (b + adC 0 0), .int a1, .int a2, .int a3, .ref (b + 721)] (fun U => RelL D cy b tx Sc Sm o U U.heap ∧ TxR tx U ∧ TxN U)) (PwL D cy b tx Sm k) 3 18 (bA b) := by
  refine met_ofWH (cc := cL_finish) (maxL := 6) (ret := (some .int)) (by decide) rfl ?_
  intro p e s m args below meth c s₁ B hml hv
  obtain ⟨rfl, hR, hT, hN⟩ := hv
  have htab : c.exceptionTable.toList = tableOf [(0, 12, 15, 21), (0, 12, 19, 26)] := vx_table (x := yL_finish) B (atoms_spec B.pre _ List.mem_cons_self)
  have C0 : CallFix p m c cL_finish 6 s _ TB RL := ⟨B.exec, B.bytes, hml, findClass_of_methodNamed B.named, fun w hw => atoms_spec B.pre w (List.mem_cons_of_mem _ hw)⟩
  have hr := B.returns
  have hlk := B.notSynchronized
  have hx := C0.1
  have hb := C0.2.1
  have hS : va_S (bA b) s.heap s.heap [] := va_S.rf
  have hl := lv_entry ([.ref (b + adC 0 0), .int a1, .int a2, .int a3, .ref (b + 721)]) (n := 6) (Nat.le_of_ble_eq_true rfl)
  rw [lg_entry_eq]
  generalize (lg_sl ([.ref (b + adC 0 0), .int a1, .int a2, .int a3, .ref (b + 721)]) ++ List.replicate (6 - (lg_sl ([.ref (b + adC 0 0), .int a1, .int a2, .int a3, .ref (b + 721)])).length) Slot.unset).toArray = ls at hl ⊢
  have hl : lv_has ls 6 [(0, .ref (b + adC 0 0)), (1, .int a1), (2, .int a2), (3, .int a3), (4, .ref (b + 721))] := hl
  show W p l e ({ frames := 9, cells := 3, slots := 18, locals := 160 }) s m _ below meth c s.heap [] 0 0 (MQ below (PwL D cy b tx Sm k) _ s 3 18 (bA b)) _
  unfold FW_finish at h
  refine lv_aload hx hb dL_finish_0 (lv_at hl 4 rfl) ?_
  refine lv_iconst (v := 0) hx hb dL_finish_2 (by decide) ?_
  refine lv_aload_n hx hb dL_finish_3 rfl (lv_at hl 0 rfl) ?_
  refine lv_iload_n hx hb dL_finish_4 rfl (lv_at hl 1 rfl) ?_
  refine lv_iload_n hx hb dL_finish_5 rfl (lv_at hl 2 rfl) ?_
  refine lv_iload_n hx hb dL_finish_6 rfl (lv_at hl 3 rfl) ?_
  refine qLX (As := [.int a1, .int a2, .int a3]) (rest := [.int 0, .ref (b + 721)]) C0 (c_X11_finish l hl0 h) (cwV 3 C0.2.2.2.2 (tbV mL_5_153 ⟨mL_5_154, mL_5_155, mL_1_1, mL_5_156⟩) rfl rfl rfl (by decide +kernel) ⟨Nat.le_of_ble_eq_true rfl, Nat.le_of_ble_eq_true rfl⟩) hR hT hS rfl hl.1 rfl (Nat.le_of_ble_eq_true rfl) dL_finish_7 ⟨Nat.le_of_ble_eq_true rfl, Nat.le_of_ble_eq_true rfl⟩ (fun E ce q9 S1 H locs h hR hS hce hcv hcl => ?_) (fun r S1 H locs h hR hS => ?_)
  · by_cases e0 : E = "java/lang/IndexOutOfBoundsException"
    · subst e0
      have h := h
      have h := h.1 rfl
      refine vx_catch C0.2.2.2.1 [] ⟨0, 12, 15, 21⟩ [⟨0, 12, 19, 26⟩] htab (fun z hz => absurd hz List.not_mem_nil) (by decide) (by decide) (C0.2.2.2.2 _ mL_4_128) ((hT.2 _ mL_4_139).use rfl) hce hcv hcl ?_
      refine lv_astore (lv' := [(5, .ref q9), (0, .ref (b + adC 0 0)), (1, .int a1), (2, .int a2), (3, .int a3), (4, .ref (b + 721))]) hx hb dL_finish_15 hl (by decide) rfl (fun ls hl => ?_)
      refine lv_iconst (v := 1) hx hb dL_finish_17 (by decide) ?_
      refine W.widen (k := 3) (n := 18) (Nat.le_of_ble_eq_true rfl) (Nat.le_of_ble_eq_true rfl) ?_
      exact rtL C0 hr hlk hR hS h dL_finish_18
    by_cases e1 : E = "java/lang/IllegalStateException"
    · subst e1
      have h := h
      have h := (h.2 e0).1 rfl
      refine vx_catch C0.2.2.2.1 [⟨0, 12, 15, 21⟩] ⟨0, 12, 19, 26⟩ [] htab (fun z hz => Or.inr (by
        rcases (show z = ⟨0, 12, 15, 21⟩ by simpa using hz) with rfl
        · exact ⟨by decide, "java/lang/IndexOutOfBoundsException", C0.2.2.2.2 _ mL_4_128, hN ("java/lang/IllegalStateException", "java/lang/IndexOutOfBoundsException") (by decide)⟩
        )) (by decide) (by decide) (C0.2.2.2.2 _ mL_4_197) ((hT.2 _ mL_4_208).use rfl) hce hcv hcl ?_
      refine lv_astore (lv' := [(5, .ref q9), (0, .ref (b + adC 0 0)), (1, .int a1), (2, .int a2), (3, .int a3), (4, .ref (b + 721))]) hx hb dL_finish_19 hl (by decide) rfl (fun ls hl => ?_)
      refine lv_iconst (v := 2) hx hb dL_finish_21 (by decide) ?_
      refine W.widen (k := 3) (n := 18) (Nat.le_of_ble_eq_true rfl) (Nat.le_of_ble_eq_true rfl) ?_
      exact rtL C0 hr hlk hR hS h dL_finish_22
    exact ((h.2 e0).2 e1).elim
  · refine lv_i2l (v := r.toInt64) hx hb dL_finish_10 rfl ?_
    refine lw_put C0 hR hS dL_finish_11 (fun H locs hR hS => ?_)
    refine lv_goto (tgt := 23) hx hb dL_finish_12 (by decide) ?_
    refine lv_iconst (v := 0) hx hb dL_finish_23 (by decide) ?_
    refine W.widen (k := 3) (n := 18) (Nat.le_of_ble_eq_true rfl) (Nat.le_of_ble_eq_true rfl) ?_
    exact rtL C0 hr hlk hR hS h dL_finish_24
def FW_fail (a1 a2 a3 a4 : Int32) (Sc : sSt) (o : Int64) (k : Int32 → sSt → Int64 → Prop) : Prop := F_X11_fail a1 a2 a3 a4 Sc (fun r S1 => k 0 S1 r.toInt64) (fun E S1 => (E = "java/lang/IndexOutOfBoundsException" → k 1 S1 o) ∧ (¬ E = "java/lang/IndexOutOfBoundsException" → (E = "java/lang/IllegalArgumentException" → k 2 S1 o) ∧ (¬ E = "java/lang/IllegalArgumentException" → (E = "java/lang/IllegalStateException" → k 3 S1 o) ∧ (¬ E = "java/lang/IllegalStateException" → False))))
set_option maxHeartbeats 4000000 in
set_option maxRecDepth 100000 in
theorem cw_fail (l : Launch) (hl0 : l.stackTraces = false) {D : va_G} {cy : Nat → ClassId} {b : Nat} {tx : TX} {a1 a2 a3 a4 : Int32} {Sc Sm : sSt} {o : Int64} {k : Int32 → sSt → Int64 → Prop} (h : FW_fail a1 a2 a3 a4 Sc o k) : Met l yL_fail (Cond.codeWith yL_fail cL_fail 7 (some .int) [(0, 14, 17, 21), (0, 14, 21, 13), (0, 14, 25, 26)] :: TB) ({ frames := 9, cells := 6, slots := 36, locals := 161 }) (va_Pc [.ref (b + adC 0 0), .int a1, .int a2, .int a3, .int a4, .ref (b + 721)] (fun U => RelL D cy b tx Sc Sm o U U.heap ∧ TxR tx U ∧ TxN U)) (PwL D cy b tx Sm k) 6 36 (bA b) := by
  refine met_ofWH (cc := cL_fail) (maxL := 7) (ret := (some .int)) (by decide) rfl ?_
  intro p e s m args below meth c s₁ B hml hv
  obtain ⟨rfl, hR, hT, hN⟩ := hv
  have htab : c.exceptionTable.toList = tableOf [(0, 14, 17, 21), (0, 14, 21, 13), (0, 14, 25, 26)] := vx_table (x := yL_fail) B (atoms_spec B.pre _ List.mem_cons_self)
  have C0 : CallFix p m c cL_fail 7 s _ TB RL := ⟨B.exec, B.bytes, hml, findClass_of_methodNamed B.named, fun w hw => atoms_spec B.pre w (List.mem_cons_of_mem _ hw)⟩
  have hr := B.returns
  have hlk := B.notSynchronized
  have hx := C0.1
  have hb := C0.2.1
  have hS : va_S (bA b) s.heap s.heap [] := va_S.rf
  have hl := lv_entry ([.ref (b + adC 0 0), .int a1, .int a2, .int a3, .int a4, .ref (b + 721)]) (n := 7) (Nat.le_of_ble_eq_true rfl)
  rw [lg_entry_eq]
  generalize (lg_sl ([.ref (b + adC 0 0), .int a1, .int a2, .int a3, .int a4, .ref (b + 721)]) ++ List.replicate (7 - (lg_sl ([.ref (b + adC 0 0), .int a1, .int a2, .int a3, .int a4, .ref (b + 721)])).length) Slot.unset).toArray = ls at hl ⊢
  have hl : lv_has ls 7 [(0, .ref (b + adC 0 0)), (1, .int a1), (2, .int a2), (3, .int a3), (4, .int a4), (5, .ref (b + 721))] := hl
  show W p l e ({ frames := 9, cells := 6, slots := 36, locals := 161 }) s m _ below meth c s.heap [] 0 0 (MQ below (PwL D cy b tx Sm k) _ s 6 36 (bA b)) _
  unfold FW_fail at h
  refine lv_aload hx hb dL_fail_0 (lv_at hl 5 rfl) ?_
  refine lv_iconst (v := 0) hx hb dL_fail_2 (by decide) ?_
  refine lv_aload_n hx hb dL_fail_3 rfl (lv_at hl 0 rfl) ?_
  refine lv_iload_n hx hb dL_fail_4 rfl (lv_at hl 1 rfl) ?_
  refine lv_iload_n hx hb dL_fail_5 rfl (lv_at hl 2 rfl) ?_
  refine lv_iload_n hx hb dL_fail_6 rfl (lv_at hl 3 rfl) ?_
  refine lv_iload hx hb dL_fail_7 (lv_at hl 4 rfl) ?_
  refine qLX (As := [.int a1, .int a2, .int a3, .int a4]) (rest := [.int 0, .ref (b + 721)]) C0 (c_X11_fail l hl0 h) (cwV 4 C0.2.2.2.2 (tbV mL_5_160 ⟨mL_5_161, mL_5_162, mL_1_1, mL_5_163⟩) rfl rfl rfl (by decide +kernel) ⟨Nat.le_of_ble_eq_true rfl, Nat.le_of_ble_eq_true rfl⟩) hR hT hS rfl hl.1 rfl (Nat.le_of_ble_eq_true rfl) dL_fail_9 ⟨Nat.le_of_ble_eq_true rfl, Nat.le_of_ble_eq_true rfl⟩ (fun E ce q9 S1 H locs h hR hS hce hcv hcl => ?_) (fun r S1 H locs h hR hS => ?_)
  · by_cases e0 : E = "java/lang/IndexOutOfBoundsException"
    · subst e0
      have h := h
      have h := h.1 rfl
      refine vx_catch C0.2.2.2.1 [] ⟨0, 14, 17, 21⟩ [⟨0, 14, 21, 13⟩, ⟨0, 14, 25, 26⟩] htab (fun z hz => absurd hz List.not_mem_nil) (by decide) (by decide) (C0.2.2.2.2 _ mL_4_128) ((hT.2 _ mL_4_139).use rfl) hce hcv hcl ?_
      refine lv_astore (lv' := [(6, .ref q9), (0, .ref (b + adC 0 0)), (1, .int a1), (2, .int a2), (3, .int a3), (4, .int a4), (5, .ref (b + 721))]) hx hb dL_fail_17 hl (by decide) rfl (fun ls hl => ?_)
      refine lv_iconst (v := 1) hx hb dL_fail_19 (by decide) ?_
      refine W.widen (k := 6) (n := 36) (Nat.le_of_ble_eq_true rfl) (Nat.le_of_ble_eq_true rfl) ?_
      exact rtL C0 hr hlk hR hS h dL_fail_20
    by_cases e1 : E = "java/lang/IllegalArgumentException"
    · subst e1
      have h := h
      have h := (h.2 e0).1 rfl
      refine vx_catch C0.2.2.2.1 [⟨0, 14, 17, 21⟩] ⟨0, 14, 21, 13⟩ [⟨0, 14, 25, 26⟩] htab (fun z hz => Or.inr (by
        rcases (show z = ⟨0, 14, 17, 21⟩ by simpa using hz) with rfl
        · exact ⟨by decide, "java/lang/IndexOutOfBoundsException", C0.2.2.2.2 _ mL_4_128, hN ("java/lang/IllegalArgumentException", "java/lang/IndexOutOfBoundsException") (by decide)⟩
        )) (by decide) (by decide) (C0.2.2.2.2 _ mL_3_112) ((hT.2 _ mL_4_47).use rfl) hce hcv hcl ?_
      refine lv_astore (lv' := [(6, .ref q9), (0, .ref (b + adC 0 0)), (1, .int a1), (2, .int a2), (3, .int a3), (4, .int a4), (5, .ref (b + 721))]) hx hb dL_fail_21 hl (by decide) rfl (fun ls hl => ?_)
      refine lv_iconst (v := 2) hx hb dL_fail_23 (by decide) ?_
      refine W.widen (k := 6) (n := 36) (Nat.le_of_ble_eq_true rfl) (Nat.le_of_ble_eq_true rfl) ?_
      exact rtL C0 hr hlk hR hS h dL_fail_24
    by_cases e2 : E = "java/lang/IllegalStateException"
    · subst e2
      have h := h
      have h := ((h.2 e0).2 e1).1 rfl
      refine vx_catch C0.2.2.2.1 [⟨0, 14, 17, 21⟩, ⟨0, 14, 21, 13⟩] ⟨0, 14, 25, 26⟩ [] htab (fun z hz => Or.inr (by
        rcases (show z = ⟨0, 14, 17, 21⟩ ∨ z = ⟨0, 14, 21, 13⟩ by simpa using hz) with rfl | rfl
        · exact ⟨by decide, "java/lang/IndexOutOfBoundsException", C0.2.2.2.2 _ mL_4_128, hN ("java/lang/IllegalStateException", "java/lang/IndexOutOfBoundsException") (by decide)⟩
        · exact ⟨by decide, "java/lang/IllegalArgumentException", C0.2.2.2.2 _ mL_3_112, hN ("java/lang/IllegalStateException", "java/lang/IllegalArgumentException") (by decide)⟩
        )) (by decide) (by decide) (C0.2.2.2.2 _ mL_4_197) ((hT.2 _ mL_4_208).use rfl) hce hcv hcl ?_
      refine lv_astore (lv' := [(6, .ref q9), (0, .ref (b + adC 0 0)), (1, .int a1), (2, .int a2), (3, .int a3), (4, .int a4), (5, .ref (b + 721))]) hx hb dL_fail_25 hl (by decide) rfl (fun ls hl => ?_)
      refine lv_iconst (v := 3) hx hb dL_fail_27 (by decide) ?_
      refine W.widen (k := 6) (n := 36) (Nat.le_of_ble_eq_true rfl) (Nat.le_of_ble_eq_true rfl) ?_
      exact rtL C0 hr hlk hR hS h dL_fail_28
    exact (((h.2 e0).2 e1).2 e2).elim
  · refine lv_i2l (v := r.toInt64) hx hb dL_fail_12 rfl ?_
    refine lw_put C0 hR hS dL_fail_13 (fun H locs hR hS => ?_)
    refine lv_goto (tgt := 29) hx hb dL_fail_14 (by decide) ?_
    refine lv_iconst (v := 0) hx hb dL_fail_29 (by decide) ?_
    refine W.widen (k := 6) (n := 36) (Nat.le_of_ble_eq_true rfl) (Nat.le_of_ble_eq_true rfl) ?_
    exact rtL C0 hr hlk hR hS h dL_fail_30
def FW_give (a1 a2 a3 : Int32) (Sc : sSt) (o : Int64) (k : Int32 → sSt → Int64 → Prop) : Prop := F_X11_give a1 a2 a3 Sc (fun r S1 => k 0 S1 r.toInt64) (fun E S1 => (E = "java/lang/IndexOutOfBoundsException" → k 1 S1 o) ∧ (¬ E = "java/lang/IndexOutOfBoundsException" → (E = "java/lang/IllegalStateException" → k 2 S1 o) ∧ (¬ E = "java/lang/IllegalStateException" → False)))
set_option maxHeartbeats 4000000 in
set_option maxRecDepth 100000 in
theorem cw_give (l : Launch) (hl0 : l.stackTraces = false) {D : va_G} {cy : Nat → ClassId} {b : Nat} {tx : TX} {a1 a2 a3 : Int32} {Sc Sm : sSt} {o : Int64} {k : Int32 → sSt → Int64 → Prop} (h : FW_give a1 a2 a3 Sc o k) : Met l yL_give (Cond.codeWith yL_give cL_give 6 (some .int) [(0, 12, 15, 21), (0, 12, 19, 26)] :: TB) ({ frames := 9, cells := 3, slots := 18, locals := 160 }) (va_Pc [.ref (b + adC 0 0), .int a1, .int a2, .int a3, .ref (b + 721)] (fun U => RelL D cy b tx Sc Sm o U U.heap ∧ TxR tx U ∧ TxN U)) (PwL D cy b tx Sm k) 3 18 (bA b) := by
  refine met_ofWH (cc := cL_give) (maxL := 6) (ret := (some .int)) (by decide) rfl ?_
  intro p e s m args below meth c s₁ B hml hv
  obtain ⟨rfl, hR, hT, hN⟩ := hv
  have htab : c.exceptionTable.toList = tableOf [(0, 12, 15, 21), (0, 12, 19, 26)] := vx_table (x := yL_give) B (atoms_spec B.pre _ List.mem_cons_self)
  have C0 : CallFix p m c cL_give 6 s _ TB RL := ⟨B.exec, B.bytes, hml, findClass_of_methodNamed B.named, fun w hw => atoms_spec B.pre w (List.mem_cons_of_mem _ hw)⟩
  have hr := B.returns
  have hlk := B.notSynchronized
  have hx := C0.1
  have hb := C0.2.1
  have hS : va_S (bA b) s.heap s.heap [] := va_S.rf
  have hl := lv_entry ([.ref (b + adC 0 0), .int a1, .int a2, .int a3, .ref (b + 721)]) (n := 6) (Nat.le_of_ble_eq_true rfl)
  rw [lg_entry_eq]
  generalize (lg_sl ([.ref (b + adC 0 0), .int a1, .int a2, .int a3, .ref (b + 721)]) ++ List.replicate (6 - (lg_sl ([.ref (b + adC 0 0), .int a1, .int a2, .int a3, .ref (b + 721)])).length) Slot.unset).toArray = ls at hl ⊢
  have hl : lv_has ls 6 [(0, .ref (b + adC 0 0)), (1, .int a1), (2, .int a2), (3, .int a3), (4, .ref (b + 721))] := hl
  show W p l e ({ frames := 9, cells := 3, slots := 18, locals := 160 }) s m _ below meth c s.heap [] 0 0 (MQ below (PwL D cy b tx Sm k) _ s 3 18 (bA b)) _
  unfold FW_give at h
  refine lv_aload hx hb dL_give_0 (lv_at hl 4 rfl) ?_
  refine lv_iconst (v := 0) hx hb dL_give_2 (by decide) ?_
  refine lv_aload_n hx hb dL_give_3 rfl (lv_at hl 0 rfl) ?_
  refine lv_iload_n hx hb dL_give_4 rfl (lv_at hl 1 rfl) ?_
  refine lv_iload_n hx hb dL_give_5 rfl (lv_at hl 2 rfl) ?_
  refine lv_iload_n hx hb dL_give_6 rfl (lv_at hl 3 rfl) ?_
  refine qLX (As := [.int a1, .int a2, .int a3]) (rest := [.int 0, .ref (b + 721)]) C0 (c_X11_give l hl0 h) (cwV 3 C0.2.2.2.2 (tbV mL_5_182 ⟨mL_5_183, mL_5_184, mL_1_1, mL_5_185⟩) rfl rfl rfl (by decide +kernel) ⟨Nat.le_of_ble_eq_true rfl, Nat.le_of_ble_eq_true rfl⟩) hR hT hS rfl hl.1 rfl (Nat.le_of_ble_eq_true rfl) dL_give_7 ⟨Nat.le_of_ble_eq_true rfl, Nat.le_of_ble_eq_true rfl⟩ (fun E ce q9 S1 H locs h hR hS hce hcv hcl => ?_) (fun r S1 H locs h hR hS => ?_)
  · by_cases e0 : E = "java/lang/IndexOutOfBoundsException"
    · subst e0
      have h := h
      have h := h.1 rfl
      refine vx_catch C0.2.2.2.1 [] ⟨0, 12, 15, 21⟩ [⟨0, 12, 19, 26⟩] htab (fun z hz => absurd hz List.not_mem_nil) (by decide) (by decide) (C0.2.2.2.2 _ mL_4_128) ((hT.2 _ mL_4_139).use rfl) hce hcv hcl ?_
      refine lv_astore (lv' := [(5, .ref q9), (0, .ref (b + adC 0 0)), (1, .int a1), (2, .int a2), (3, .int a3), (4, .ref (b + 721))]) hx hb dL_give_15 hl (by decide) rfl (fun ls hl => ?_)
      refine lv_iconst (v := 1) hx hb dL_give_17 (by decide) ?_
      refine W.widen (k := 3) (n := 18) (Nat.le_of_ble_eq_true rfl) (Nat.le_of_ble_eq_true rfl) ?_
      exact rtL C0 hr hlk hR hS h dL_give_18
    by_cases e1 : E = "java/lang/IllegalStateException"
    · subst e1
      have h := h
      have h := (h.2 e0).1 rfl
      refine vx_catch C0.2.2.2.1 [⟨0, 12, 15, 21⟩] ⟨0, 12, 19, 26⟩ [] htab (fun z hz => Or.inr (by
        rcases (show z = ⟨0, 12, 15, 21⟩ by simpa using hz) with rfl
        · exact ⟨by decide, "java/lang/IndexOutOfBoundsException", C0.2.2.2.2 _ mL_4_128, hN ("java/lang/IllegalStateException", "java/lang/IndexOutOfBoundsException") (by decide)⟩
        )) (by decide) (by decide) (C0.2.2.2.2 _ mL_4_197) ((hT.2 _ mL_4_208).use rfl) hce hcv hcl ?_
      refine lv_astore (lv' := [(5, .ref q9), (0, .ref (b + adC 0 0)), (1, .int a1), (2, .int a2), (3, .int a3), (4, .ref (b + 721))]) hx hb dL_give_19 hl (by decide) rfl (fun ls hl => ?_)
      refine lv_iconst (v := 2) hx hb dL_give_21 (by decide) ?_
      refine W.widen (k := 3) (n := 18) (Nat.le_of_ble_eq_true rfl) (Nat.le_of_ble_eq_true rfl) ?_
      exact rtL C0 hr hlk hR hS h dL_give_22
    exact ((h.2 e0).2 e1).elim
  · refine lv_i2l (v := r.toInt64) hx hb dL_give_10 rfl ?_
    refine lw_put C0 hR hS dL_give_11 (fun H locs hR hS => ?_)
    refine lv_goto (tgt := 23) hx hb dL_give_12 (by decide) ?_
    refine lv_iconst (v := 0) hx hb dL_give_23 (by decide) ?_
    refine W.widen (k := 3) (n := 18) (Nat.le_of_ble_eq_true rfl) (Nat.le_of_ble_eq_true rfl) ?_
    exact rtL C0 hr hlk hR hS h dL_give_24
def FW_reap (a1 : Int32) (Sc : sSt) (o : Int64) (k : Int32 → sSt → Int64 → Prop) : Prop := F_X11_reap a1 Sc (fun r S1 => k 0 S1 r.toInt64) (fun E S1 => (E = "java/lang/IndexOutOfBoundsException" → k 1 S1 o) ∧ (¬ E = "java/lang/IndexOutOfBoundsException" → False))
set_option maxHeartbeats 4000000 in
set_option maxRecDepth 100000 in
theorem cw_reap (l : Launch) (hl0 : l.stackTraces = false) {D : va_G} {cy : Nat → ClassId} {b : Nat} {tx : TX} {a1 : Int32} {Sc Sm : sSt} {o : Int64} {k : Int32 → sSt → Int64 → Prop} (h : FW_reap a1 Sc o k) : Met l yL_reap (Cond.codeWith yL_reap cL_reap 4 (some .int) [(0, 9, 12, 21)] :: TB) ({ frames := 8, cells := 1, slots := 6, locals := 132 }) (va_Pc [.ref (b + adC 0 0), .int a1, .ref (b + 721)] (fun U => RelL D cy b tx Sc Sm o U U.heap ∧ TxR tx U ∧ TxN U)) (PwL D cy b tx Sm k) 1 6 (bA b) := by
  refine met_ofWH (cc := cL_reap) (maxL := 4) (ret := (some .int)) (by decide) rfl ?_
  intro p e s m args below meth c s₁ B hml hv
  obtain ⟨rfl, hR, hT, hN⟩ := hv
  have htab : c.exceptionTable.toList = tableOf [(0, 9, 12, 21)] := vx_table (x := yL_reap) B (atoms_spec B.pre _ List.mem_cons_self)
  have C0 : CallFix p m c cL_reap 4 s _ TB RL := ⟨B.exec, B.bytes, hml, findClass_of_methodNamed B.named, fun w hw => atoms_spec B.pre w (List.mem_cons_of_mem _ hw)⟩
  have hr := B.returns
  have hlk := B.notSynchronized
  have hx := C0.1
  have hb := C0.2.1
  have hS : va_S (bA b) s.heap s.heap [] := va_S.rf
  have hl := lv_entry ([.ref (b + adC 0 0), .int a1, .ref (b + 721)]) (n := 4) (Nat.le_of_ble_eq_true rfl)
  rw [lg_entry_eq]
  generalize (lg_sl ([.ref (b + adC 0 0), .int a1, .ref (b + 721)]) ++ List.replicate (4 - (lg_sl ([.ref (b + adC 0 0), .int a1, .ref (b + 721)])).length) Slot.unset).toArray = ls at hl ⊢
  have hl : lv_has ls 4 [(0, .ref (b + adC 0 0)), (1, .int a1), (2, .ref (b + 721))] := hl
  show W p l e ({ frames := 8, cells := 1, slots := 6, locals := 132 }) s m _ below meth c s.heap [] 0 0 (MQ below (PwL D cy b tx Sm k) _ s 1 6 (bA b)) _
  unfold FW_reap at h
  refine lv_aload_n hx hb dL_reap_0 rfl (lv_at hl 2 rfl) ?_
  refine lv_iconst (v := 0) hx hb dL_reap_1 (by decide) ?_
  refine lv_aload_n hx hb dL_reap_2 rfl (lv_at hl 0 rfl) ?_
  refine lv_iload_n hx hb dL_reap_3 rfl (lv_at hl 1 rfl) ?_
  refine qLX (As := [.int a1]) (rest := [.int 0, .ref (b + 721)]) C0 (c_X11_reap l hl0 h) (cwV 1 C0.2.2.2.2 (tbV mL_5_189 ⟨mL_5_190, mL_5_191, mL_1_1, mL_5_192⟩) rfl rfl rfl (by decide +kernel) ⟨Nat.le_of_ble_eq_true rfl, Nat.le_of_ble_eq_true rfl⟩) hR hT hS rfl hl.1 rfl (Nat.le_of_ble_eq_true rfl) dL_reap_4 ⟨Nat.le_of_ble_eq_true rfl, Nat.le_of_ble_eq_true rfl⟩ (fun E ce q9 S1 H locs h hR hS hce hcv hcl => ?_) (fun r S1 H locs h hR hS => ?_)
  · by_cases e0 : E = "java/lang/IndexOutOfBoundsException"
    · subst e0
      have h := h
      have h := h.1 rfl
      refine vx_catch C0.2.2.2.1 [] ⟨0, 9, 12, 21⟩ [] htab (fun z hz => absurd hz List.not_mem_nil) (by decide) (by decide) (C0.2.2.2.2 _ mL_4_128) ((hT.2 _ mL_4_139).use rfl) hce hcv hcl ?_
      refine lv_astore_n (lv' := [(3, .ref q9), (0, .ref (b + adC 0 0)), (1, .int a1), (2, .ref (b + 721))]) hx hb dL_reap_12 rfl hl (by decide) rfl (fun ls hl => ?_)
      refine lv_iconst (v := 1) hx hb dL_reap_13 (by decide) ?_
      refine W.widen (k := 1) (n := 6) (Nat.le_of_ble_eq_true rfl) (Nat.le_of_ble_eq_true rfl) ?_
      exact rtL C0 hr hlk hR hS h dL_reap_14
    exact (h.2 e0).elim
  · refine lv_i2l (v := r.toInt64) hx hb dL_reap_7 rfl ?_
    refine lw_put C0 hR hS dL_reap_8 (fun H locs hR hS => ?_)
    refine lv_goto (tgt := 15) hx hb dL_reap_9 (by decide) ?_
    refine lv_iconst (v := 0) hx hb dL_reap_15 (by decide) ?_
    refine W.widen (k := 1) (n := 6) (Nat.le_of_ble_eq_true rfl) (Nat.le_of_ble_eq_true rfl) ?_
    exact rtL C0 hr hlk hR hS h dL_reap_16
def FW_retry (a1 a2 : Int32) (Sc : sSt) (o : Int64) (k : Int32 → sSt → Int64 → Prop) : Prop := F_X11_retry a1 a2 Sc (fun r S1 => k 0 S1 r.toInt64) (fun E S1 => (E = "java/lang/IndexOutOfBoundsException" → k 1 S1 o) ∧ (¬ E = "java/lang/IndexOutOfBoundsException" → (E = "java/lang/IllegalStateException" → k 2 S1 o) ∧ (¬ E = "java/lang/IllegalStateException" → False)))
set_option maxHeartbeats 4000000 in
set_option maxRecDepth 100000 in
theorem cw_retry (l : Launch) (hl0 : l.stackTraces = false) {D : va_G} {cy : Nat → ClassId} {b : Nat} {tx : TX} {a1 a2 : Int32} {Sc Sm : sSt} {o : Int64} {k : Int32 → sSt → Int64 → Prop} (h : FW_retry a1 a2 Sc o k) : Met l yL_retry (Cond.codeWith yL_retry cL_retry 5 (some .int) [(0, 10, 13, 21), (0, 10, 17, 26)] :: TB) ({ frames := 8, cells := 3, slots := 18, locals := 137 }) (va_Pc [.ref (b + adC 0 0), .int a1, .int a2, .ref (b + 721)] (fun U => RelL D cy b tx Sc Sm o U U.heap ∧ TxR tx U ∧ TxN U)) (PwL D cy b tx Sm k) 3 18 (bA b) := by
  refine met_ofWH (cc := cL_retry) (maxL := 5) (ret := (some .int)) (by decide) rfl ?_
  intro p e s m args below meth c s₁ B hml hv
  obtain ⟨rfl, hR, hT, hN⟩ := hv
  have htab : c.exceptionTable.toList = tableOf [(0, 10, 13, 21), (0, 10, 17, 26)] := vx_table (x := yL_retry) B (atoms_spec B.pre _ List.mem_cons_self)
  have C0 : CallFix p m c cL_retry 5 s _ TB RL := ⟨B.exec, B.bytes, hml, findClass_of_methodNamed B.named, fun w hw => atoms_spec B.pre w (List.mem_cons_of_mem _ hw)⟩
  have hr := B.returns
  have hlk := B.notSynchronized
  have hx := C0.1
  have hb := C0.2.1
  have hS : va_S (bA b) s.heap s.heap [] := va_S.rf
  have hl := lv_entry ([.ref (b + adC 0 0), .int a1, .int a2, .ref (b + 721)]) (n := 5) (Nat.le_of_ble_eq_true rfl)
  rw [lg_entry_eq]
  generalize (lg_sl ([.ref (b + adC 0 0), .int a1, .int a2, .ref (b + 721)]) ++ List.replicate (5 - (lg_sl ([.ref (b + adC 0 0), .int a1, .int a2, .ref (b + 721)])).length) Slot.unset).toArray = ls at hl ⊢
  have hl : lv_has ls 5 [(0, .ref (b + adC 0 0)), (1, .int a1), (2, .int a2), (3, .ref (b + 721))] := hl
  show W p l e ({ frames := 8, cells := 3, slots := 18, locals := 137 }) s m _ below meth c s.heap [] 0 0 (MQ below (PwL D cy b tx Sm k) _ s 3 18 (bA b)) _
  unfold FW_retry at h
  refine lv_aload_n hx hb dL_retry_0 rfl (lv_at hl 3 rfl) ?_
  refine lv_iconst (v := 0) hx hb dL_retry_1 (by decide) ?_
  refine lv_aload_n hx hb dL_retry_2 rfl (lv_at hl 0 rfl) ?_
  refine lv_iload_n hx hb dL_retry_3 rfl (lv_at hl 1 rfl) ?_
  refine lv_iload_n hx hb dL_retry_4 rfl (lv_at hl 2 rfl) ?_
  refine qLX (As := [.int a1, .int a2]) (rest := [.int 0, .ref (b + 721)]) C0 (c_X11_retry l hl0 h) (cwV 2 C0.2.2.2.2 (tbV mL_5_208 ⟨mL_5_209, mL_5_210, mL_1_1, mL_5_211⟩) rfl rfl rfl (by decide +kernel) ⟨Nat.le_of_ble_eq_true rfl, Nat.le_of_ble_eq_true rfl⟩) hR hT hS rfl hl.1 rfl (Nat.le_of_ble_eq_true rfl) dL_retry_5 ⟨Nat.le_of_ble_eq_true rfl, Nat.le_of_ble_eq_true rfl⟩ (fun E ce q9 S1 H locs h hR hS hce hcv hcl => ?_) (fun r S1 H locs h hR hS => ?_)
  · by_cases e0 : E = "java/lang/IndexOutOfBoundsException"
    · subst e0
      have h := h
      have h := h.1 rfl
      refine vx_catch C0.2.2.2.1 [] ⟨0, 10, 13, 21⟩ [⟨0, 10, 17, 26⟩] htab (fun z hz => absurd hz List.not_mem_nil) (by decide) (by decide) (C0.2.2.2.2 _ mL_4_128) ((hT.2 _ mL_4_139).use rfl) hce hcv hcl ?_
      refine lv_astore (lv' := [(4, .ref q9), (0, .ref (b + adC 0 0)), (1, .int a1), (2, .int a2), (3, .ref (b + 721))]) hx hb dL_retry_13 hl (by decide) rfl (fun ls hl => ?_)
      refine lv_iconst (v := 1) hx hb dL_retry_15 (by decide) ?_
      refine W.widen (k := 3) (n := 18) (Nat.le_of_ble_eq_true rfl) (Nat.le_of_ble_eq_true rfl) ?_
      exact rtL C0 hr hlk hR hS h dL_retry_16
    by_cases e1 : E = "java/lang/IllegalStateException"
    · subst e1
      have h := h
      have h := (h.2 e0).1 rfl
      refine vx_catch C0.2.2.2.1 [⟨0, 10, 13, 21⟩] ⟨0, 10, 17, 26⟩ [] htab (fun z hz => Or.inr (by
        rcases (show z = ⟨0, 10, 13, 21⟩ by simpa using hz) with rfl
        · exact ⟨by decide, "java/lang/IndexOutOfBoundsException", C0.2.2.2.2 _ mL_4_128, hN ("java/lang/IllegalStateException", "java/lang/IndexOutOfBoundsException") (by decide)⟩
        )) (by decide) (by decide) (C0.2.2.2.2 _ mL_4_197) ((hT.2 _ mL_4_208).use rfl) hce hcv hcl ?_
      refine lv_astore (lv' := [(4, .ref q9), (0, .ref (b + adC 0 0)), (1, .int a1), (2, .int a2), (3, .ref (b + 721))]) hx hb dL_retry_17 hl (by decide) rfl (fun ls hl => ?_)
      refine lv_iconst (v := 2) hx hb dL_retry_19 (by decide) ?_
      refine W.widen (k := 3) (n := 18) (Nat.le_of_ble_eq_true rfl) (Nat.le_of_ble_eq_true rfl) ?_
      exact rtL C0 hr hlk hR hS h dL_retry_20
    exact ((h.2 e0).2 e1).elim
  · refine lv_i2l (v := r.toInt64) hx hb dL_retry_8 rfl ?_
    refine lw_put C0 hR hS dL_retry_9 (fun H locs hR hS => ?_)
    refine lv_goto (tgt := 21) hx hb dL_retry_10 (by decide) ?_
    refine lv_iconst (v := 0) hx hb dL_retry_21 (by decide) ?_
    refine W.widen (k := 3) (n := 18) (Nat.le_of_ble_eq_true rfl) (Nat.le_of_ble_eq_true rfl) ?_
    exact rtL C0 hr hlk hR hS h dL_retry_22
def FW_bring (a1 a2 a3 a4 : Int32) (Sc : sSt) (o : Int64) (k : Int32 → sSt → Int64 → Prop) : Prop := F_X11_bring a1 a2 a3 a4 Sc (fun r S1 => k 0 S1 r.toInt64) (fun E S1 => (E = "java/lang/IndexOutOfBoundsException" → k 1 S1 o) ∧ (¬ E = "java/lang/IndexOutOfBoundsException" → (E = "java/lang/IllegalArgumentException" → k 2 S1 o) ∧ (¬ E = "java/lang/IllegalArgumentException" → (E = "java/lang/UnsupportedOperationException" → k 3 S1 o) ∧ (¬ E = "java/lang/UnsupportedOperationException" → False))))
set_option maxHeartbeats 4000000 in
set_option maxRecDepth 100000 in
theorem cw_bring (l : Launch) (hl0 : l.stackTraces = false) {D : va_G} {cy : Nat → ClassId} {b : Nat} {tx : TX} {a1 a2 a3 a4 : Int32} {Sc Sm : sSt} {o : Int64} {k : Int32 → sSt → Int64 → Prop} (h : FW_bring a1 a2 a3 a4 Sc o k) : Met l yL_bring (Cond.codeWith yL_bring cL_bring 7 (some .int) [(0, 14, 17, 21), (0, 14, 21, 13), (0, 14, 25, 15)] :: TB) ({ frames := 8, cells := 4, slots := 24, locals := 135 }) (va_Pc [.ref (b + adC 0 0), .int a1, .int a2, .int a3, .int a4, .ref (b + 721)] (fun U => RelL D cy b tx Sc Sm o U U.heap ∧ TxR tx U ∧ TxN U)) (PwL D cy b tx Sm k) 4 24 (bA b) := by
  refine met_ofWH (cc := cL_bring) (maxL := 7) (ret := (some .int)) (by decide) rfl ?_
  intro p e s m args below meth c s₁ B hml hv
  obtain ⟨rfl, hR, hT, hN⟩ := hv
  have htab : c.exceptionTable.toList = tableOf [(0, 14, 17, 21), (0, 14, 21, 13), (0, 14, 25, 15)] := vx_table (x := yL_bring) B (atoms_spec B.pre _ List.mem_cons_self)
  have C0 : CallFix p m c cL_bring 7 s _ TB RL := ⟨B.exec, B.bytes, hml, findClass_of_methodNamed B.named, fun w hw => atoms_spec B.pre w (List.mem_cons_of_mem _ hw)⟩
  have hr := B.returns
  have hlk := B.notSynchronized
  have hx := C0.1
  have hb := C0.2.1
  have hS : va_S (bA b) s.heap s.heap [] := va_S.rf
  have hl := lv_entry ([.ref (b + adC 0 0), .int a1, .int a2, .int a3, .int a4, .ref (b + 721)]) (n := 7) (Nat.le_of_ble_eq_true rfl)
  rw [lg_entry_eq]
  generalize (lg_sl ([.ref (b + adC 0 0), .int a1, .int a2, .int a3, .int a4, .ref (b + 721)]) ++ List.replicate (7 - (lg_sl ([.ref (b + adC 0 0), .int a1, .int a2, .int a3, .int a4, .ref (b + 721)])).length) Slot.unset).toArray = ls at hl ⊢
  have hl : lv_has ls 7 [(0, .ref (b + adC 0 0)), (1, .int a1), (2, .int a2), (3, .int a3), (4, .int a4), (5, .ref (b + 721))] := hl
  show W p l e ({ frames := 8, cells := 4, slots := 24, locals := 135 }) s m _ below meth c s.heap [] 0 0 (MQ below (PwL D cy b tx Sm k) _ s 4 24 (bA b)) _
  unfold FW_bring at h
  refine lv_aload hx hb dL_bring_0 (lv_at hl 5 rfl) ?_
  refine lv_iconst (v := 0) hx hb dL_bring_2 (by decide) ?_
  refine lv_aload_n hx hb dL_bring_3 rfl (lv_at hl 0 rfl) ?_
  refine lv_iload_n hx hb dL_bring_4 rfl (lv_at hl 1 rfl) ?_
  refine lv_iload_n hx hb dL_bring_5 rfl (lv_at hl 2 rfl) ?_
  refine lv_iload_n hx hb dL_bring_6 rfl (lv_at hl 3 rfl) ?_
  refine lv_iload hx hb dL_bring_7 (lv_at hl 4 rfl) ?_
  refine qLX (As := [.int a1, .int a2, .int a3, .int a4]) (rest := [.int 0, .ref (b + 721)]) C0 (c_X11_bring l hl0 h) (cwV 4 C0.2.2.2.2 (tbV mL_5_218 ⟨mL_5_219, mL_5_220, mL_1_1, mL_5_221⟩) rfl rfl rfl (by decide +kernel) ⟨Nat.le_of_ble_eq_true rfl, Nat.le_of_ble_eq_true rfl⟩) hR hT hS rfl hl.1 rfl (Nat.le_of_ble_eq_true rfl) dL_bring_9 ⟨Nat.le_of_ble_eq_true rfl, Nat.le_of_ble_eq_true rfl⟩ (fun E ce q9 S1 H locs h hR hS hce hcv hcl => ?_) (fun r S1 H locs h hR hS => ?_)
  · by_cases e0 : E = "java/lang/IndexOutOfBoundsException"
    · subst e0
      have h := h
      have h := h.1 rfl
      refine vx_catch C0.2.2.2.1 [] ⟨0, 14, 17, 21⟩ [⟨0, 14, 21, 13⟩, ⟨0, 14, 25, 15⟩] htab (fun z hz => absurd hz List.not_mem_nil) (by decide) (by decide) (C0.2.2.2.2 _ mL_4_128) ((hT.2 _ mL_4_139).use rfl) hce hcv hcl ?_
      refine lv_astore (lv' := [(6, .ref q9), (0, .ref (b + adC 0 0)), (1, .int a1), (2, .int a2), (3, .int a3), (4, .int a4), (5, .ref (b + 721))]) hx hb dL_bring_17 hl (by decide) rfl (fun ls hl => ?_)
      refine lv_iconst (v := 1) hx hb dL_bring_19 (by decide) ?_
      refine W.widen (k := 4) (n := 24) (Nat.le_of_ble_eq_true rfl) (Nat.le_of_ble_eq_true rfl) ?_
      exact rtL C0 hr hlk hR hS h dL_bring_20
    by_cases e1 : E = "java/lang/IllegalArgumentException"
    · subst e1
      have h := h
      have h := (h.2 e0).1 rfl
      refine vx_catch C0.2.2.2.1 [⟨0, 14, 17, 21⟩] ⟨0, 14, 21, 13⟩ [⟨0, 14, 25, 15⟩] htab (fun z hz => Or.inr (by
        rcases (show z = ⟨0, 14, 17, 21⟩ by simpa using hz) with rfl
        · exact ⟨by decide, "java/lang/IndexOutOfBoundsException", C0.2.2.2.2 _ mL_4_128, hN ("java/lang/IllegalArgumentException", "java/lang/IndexOutOfBoundsException") (by decide)⟩
        )) (by decide) (by decide) (C0.2.2.2.2 _ mL_3_112) ((hT.2 _ mL_4_47).use rfl) hce hcv hcl ?_
      refine lv_astore (lv' := [(6, .ref q9), (0, .ref (b + adC 0 0)), (1, .int a1), (2, .int a2), (3, .int a3), (4, .int a4), (5, .ref (b + 721))]) hx hb dL_bring_21 hl (by decide) rfl (fun ls hl => ?_)
      refine lv_iconst (v := 2) hx hb dL_bring_23 (by decide) ?_
      refine W.widen (k := 4) (n := 24) (Nat.le_of_ble_eq_true rfl) (Nat.le_of_ble_eq_true rfl) ?_
      exact rtL C0 hr hlk hR hS h dL_bring_24
    by_cases e2 : E = "java/lang/UnsupportedOperationException"
    · subst e2
      have h := h
      have h := ((h.2 e0).2 e1).1 rfl
      refine vx_catch C0.2.2.2.1 [⟨0, 14, 17, 21⟩, ⟨0, 14, 21, 13⟩] ⟨0, 14, 25, 15⟩ [] htab (fun z hz => Or.inr (by
        rcases (show z = ⟨0, 14, 17, 21⟩ ∨ z = ⟨0, 14, 21, 13⟩ by simpa using hz) with rfl | rfl
        · exact ⟨by decide, "java/lang/IndexOutOfBoundsException", C0.2.2.2.2 _ mL_4_128, hN ("java/lang/UnsupportedOperationException", "java/lang/IndexOutOfBoundsException") (by decide)⟩
        · exact ⟨by decide, "java/lang/IllegalArgumentException", C0.2.2.2.2 _ mL_3_112, hN ("java/lang/UnsupportedOperationException", "java/lang/IllegalArgumentException") (by decide)⟩
        )) (by decide) (by decide) (C0.2.2.2.2 _ mL_3_113) ((hT.2 _ mL_4_112).use rfl) hce hcv hcl ?_
      refine lv_astore (lv' := [(6, .ref q9), (0, .ref (b + adC 0 0)), (1, .int a1), (2, .int a2), (3, .int a3), (4, .int a4), (5, .ref (b + 721))]) hx hb dL_bring_25 hl (by decide) rfl (fun ls hl => ?_)
      refine lv_iconst (v := 3) hx hb dL_bring_27 (by decide) ?_
      refine W.widen (k := 4) (n := 24) (Nat.le_of_ble_eq_true rfl) (Nat.le_of_ble_eq_true rfl) ?_
      exact rtL C0 hr hlk hR hS h dL_bring_28
    exact (((h.2 e0).2 e1).2 e2).elim
  · refine lv_i2l (v := r.toInt64) hx hb dL_bring_12 rfl ?_
    refine lw_put C0 hR hS dL_bring_13 (fun H locs hR hS => ?_)
    refine lv_goto (tgt := 29) hx hb dL_bring_14 (by decide) ?_
    refine lv_iconst (v := 0) hx hb dL_bring_29 (by decide) ?_
    refine W.widen (k := 4) (n := 24) (Nat.le_of_ble_eq_true rfl) (Nat.le_of_ble_eq_true rfl) ?_
    exact rtL C0 hr hlk hR hS h dL_bring_30
def FW_ticks (a1 : Int32) (Sc : sSt) (o : Int64) (k : Int32 → sSt → Int64 → Prop) : Prop := F_X11_ticks a1 Sc (fun r S1 => k 0 S1 r.toInt64) (fun E S1 => (E = "java/lang/IllegalArgumentException" → k 1 S1 o) ∧ (¬ E = "java/lang/IllegalArgumentException" → False))
set_option maxHeartbeats 4000000 in
set_option maxRecDepth 100000 in
theorem cw_ticks (l : Launch) (hl0 : l.stackTraces = false) {D : va_G} {cy : Nat → ClassId} {b : Nat} {tx : TX} {a1 : Int32} {Sc Sm : sSt} {o : Int64} {k : Int32 → sSt → Int64 → Prop} (h : FW_ticks a1 Sc o k) : Met l yL_ticks (Cond.codeWith yL_ticks cL_ticks 4 (some .int) [(0, 9, 12, 13)] :: TB) ({ frames := 7, cells := 1, slots := 6, locals := 137 }) (va_Pc [.ref (b + adC 0 0), .int a1, .ref (b + 721)] (fun U => RelL D cy b tx Sc Sm o U U.heap ∧ TxR tx U ∧ TxN U)) (PwL D cy b tx Sm k) 1 6 (bA b) := by
  refine met_ofWH (cc := cL_ticks) (maxL := 4) (ret := (some .int)) (by decide) rfl ?_
  intro p e s m args below meth c s₁ B hml hv
  obtain ⟨rfl, hR, hT, hN⟩ := hv
  have htab : c.exceptionTable.toList = tableOf [(0, 9, 12, 13)] := vx_table (x := yL_ticks) B (atoms_spec B.pre _ List.mem_cons_self)
  have C0 : CallFix p m c cL_ticks 4 s _ TB RL := ⟨B.exec, B.bytes, hml, findClass_of_methodNamed B.named, fun w hw => atoms_spec B.pre w (List.mem_cons_of_mem _ hw)⟩
  have hr := B.returns
  have hlk := B.notSynchronized
  have hx := C0.1
  have hb := C0.2.1
  have hS : va_S (bA b) s.heap s.heap [] := va_S.rf
  have hl := lv_entry ([.ref (b + adC 0 0), .int a1, .ref (b + 721)]) (n := 4) (Nat.le_of_ble_eq_true rfl)
  rw [lg_entry_eq]
  generalize (lg_sl ([.ref (b + adC 0 0), .int a1, .ref (b + 721)]) ++ List.replicate (4 - (lg_sl ([.ref (b + adC 0 0), .int a1, .ref (b + 721)])).length) Slot.unset).toArray = ls at hl ⊢
  have hl : lv_has ls 4 [(0, .ref (b + adC 0 0)), (1, .int a1), (2, .ref (b + 721))] := hl
  show W p l e ({ frames := 7, cells := 1, slots := 6, locals := 137 }) s m _ below meth c s.heap [] 0 0 (MQ below (PwL D cy b tx Sm k) _ s 1 6 (bA b)) _
  unfold FW_ticks at h
  refine lv_aload_n hx hb dL_ticks_0 rfl (lv_at hl 2 rfl) ?_
  refine lv_iconst (v := 0) hx hb dL_ticks_1 (by decide) ?_
  refine lv_aload_n hx hb dL_ticks_2 rfl (lv_at hl 0 rfl) ?_
  refine lv_iload_n hx hb dL_ticks_3 rfl (lv_at hl 1 rfl) ?_
  refine qLX (As := [.int a1]) (rest := [.int 0, .ref (b + 721)]) C0 (c_X11_ticks l hl0 h) (cwV 1 C0.2.2.2.2 (tbV mL_5_235 ⟨mL_5_236, mL_5_237, mL_1_1, mL_5_238⟩) rfl rfl rfl (by decide +kernel) ⟨Nat.le_of_ble_eq_true rfl, Nat.le_of_ble_eq_true rfl⟩) hR hT hS rfl hl.1 rfl (Nat.le_of_ble_eq_true rfl) dL_ticks_4 ⟨Nat.le_of_ble_eq_true rfl, Nat.le_of_ble_eq_true rfl⟩ (fun E ce q9 S1 H locs h hR hS hce hcv hcl => ?_) (fun r S1 H locs h hR hS => ?_)
  · by_cases e0 : E = "java/lang/IllegalArgumentException"
    · subst e0
      have h := h
      have h := h.1 rfl
      refine vx_catch C0.2.2.2.1 [] ⟨0, 9, 12, 13⟩ [] htab (fun z hz => absurd hz List.not_mem_nil) (by decide) (by decide) (C0.2.2.2.2 _ mL_3_112) ((hT.2 _ mL_4_47).use rfl) hce hcv hcl ?_
      refine lv_astore_n (lv' := [(3, .ref q9), (0, .ref (b + adC 0 0)), (1, .int a1), (2, .ref (b + 721))]) hx hb dL_ticks_12 rfl hl (by decide) rfl (fun ls hl => ?_)
      refine lv_iconst (v := 1) hx hb dL_ticks_13 (by decide) ?_
      refine W.widen (k := 1) (n := 6) (Nat.le_of_ble_eq_true rfl) (Nat.le_of_ble_eq_true rfl) ?_
      exact rtL C0 hr hlk hR hS h dL_ticks_14
    exact (h.2 e0).elim
  · refine lv_i2l (v := r.toInt64) hx hb dL_ticks_7 rfl ?_
    refine lw_put C0 hR hS dL_ticks_8 (fun H locs hR hS => ?_)
    refine lv_goto (tgt := 15) hx hb dL_ticks_9 (by decide) ?_
    refine lv_iconst (v := 0) hx hb dL_ticks_15 (by decide) ?_
    refine W.widen (k := 1) (n := 6) (Nat.le_of_ble_eq_true rfl) (Nat.le_of_ble_eq_true rfl) ?_
    exact rtL C0 hr hlk hR hS h dL_ticks_16
def FW_jump (a1 : Int32) (Sc : sSt) (o : Int64) (k : Int32 → sSt → Int64 → Prop) : Prop := F_X11_jump a1 Sc (fun r S1 => k 0 S1 r.toInt64) (fun E S1 => (E = "java/lang/IllegalArgumentException" → k 1 S1 o) ∧ (¬ E = "java/lang/IllegalArgumentException" → False))
set_option maxHeartbeats 4000000 in
set_option maxRecDepth 100000 in
theorem cw_jump (l : Launch) (hl0 : l.stackTraces = false) {D : va_G} {cy : Nat → ClassId} {b : Nat} {tx : TX} {a1 : Int32} {Sc Sm : sSt} {o : Int64} {k : Int32 → sSt → Int64 → Prop} (h : FW_jump a1 Sc o k) : Met l yL_jump (Cond.codeWith yL_jump cL_jump 4 (some .int) [(0, 9, 12, 13)] :: TB) ({ frames := 7, cells := 1, slots := 6, locals := 136 }) (va_Pc [.ref (b + adC 0 0), .int a1, .ref (b + 721)] (fun U => RelL D cy b tx Sc Sm o U U.heap ∧ TxR tx U ∧ TxN U)) (PwL D cy b tx Sm k) 1 6 (bA b) := by
  refine met_ofWH (cc := cL_jump) (maxL := 4) (ret := (some .int)) (by decide) rfl ?_
  intro p e s m args below meth c s₁ B hml hv
  obtain ⟨rfl, hR, hT, hN⟩ := hv
  have htab : c.exceptionTable.toList = tableOf [(0, 9, 12, 13)] := vx_table (x := yL_jump) B (atoms_spec B.pre _ List.mem_cons_self)
  have C0 : CallFix p m c cL_jump 4 s _ TB RL := ⟨B.exec, B.bytes, hml, findClass_of_methodNamed B.named, fun w hw => atoms_spec B.pre w (List.mem_cons_of_mem _ hw)⟩
  have hr := B.returns
  have hlk := B.notSynchronized
  have hx := C0.1
  have hb := C0.2.1
  have hS : va_S (bA b) s.heap s.heap [] := va_S.rf
  have hl := lv_entry ([.ref (b + adC 0 0), .int a1, .ref (b + 721)]) (n := 4) (Nat.le_of_ble_eq_true rfl)
  rw [lg_entry_eq]
  generalize (lg_sl ([.ref (b + adC 0 0), .int a1, .ref (b + 721)]) ++ List.replicate (4 - (lg_sl ([.ref (b + adC 0 0), .int a1, .ref (b + 721)])).length) Slot.unset).toArray = ls at hl ⊢
  have hl : lv_has ls 4 [(0, .ref (b + adC 0 0)), (1, .int a1), (2, .ref (b + 721))] := hl
  show W p l e ({ frames := 7, cells := 1, slots := 6, locals := 136 }) s m _ below meth c s.heap [] 0 0 (MQ below (PwL D cy b tx Sm k) _ s 1 6 (bA b)) _
  unfold FW_jump at h
  refine lv_aload_n hx hb dL_jump_0 rfl (lv_at hl 2 rfl) ?_
  refine lv_iconst (v := 0) hx hb dL_jump_1 (by decide) ?_
  refine lv_aload_n hx hb dL_jump_2 rfl (lv_at hl 0 rfl) ?_
  refine lv_iload_n hx hb dL_jump_3 rfl (lv_at hl 1 rfl) ?_
  refine qLX (As := [.int a1]) (rest := [.int 0, .ref (b + 721)]) C0 (c_X11_jump l hl0 h) (cwV 1 C0.2.2.2.2 (tbV mL_6_25 ⟨mL_6_26, mL_6_27, mL_1_1, mL_6_28⟩) rfl rfl rfl (by decide +kernel) ⟨Nat.le_of_ble_eq_true rfl, Nat.le_of_ble_eq_true rfl⟩) hR hT hS rfl hl.1 rfl (Nat.le_of_ble_eq_true rfl) dL_jump_4 ⟨Nat.le_of_ble_eq_true rfl, Nat.le_of_ble_eq_true rfl⟩ (fun E ce q9 S1 H locs h hR hS hce hcv hcl => ?_) (fun r S1 H locs h hR hS => ?_)
  · by_cases e0 : E = "java/lang/IllegalArgumentException"
    · subst e0
      have h := h
      have h := h.1 rfl
      refine vx_catch C0.2.2.2.1 [] ⟨0, 9, 12, 13⟩ [] htab (fun z hz => absurd hz List.not_mem_nil) (by decide) (by decide) (C0.2.2.2.2 _ mL_3_112) ((hT.2 _ mL_4_47).use rfl) hce hcv hcl ?_
      refine lv_astore_n (lv' := [(3, .ref q9), (0, .ref (b + adC 0 0)), (1, .int a1), (2, .ref (b + 721))]) hx hb dL_jump_12 rfl hl (by decide) rfl (fun ls hl => ?_)
      refine lv_iconst (v := 1) hx hb dL_jump_13 (by decide) ?_
      refine W.widen (k := 1) (n := 6) (Nat.le_of_ble_eq_true rfl) (Nat.le_of_ble_eq_true rfl) ?_
      exact rtL C0 hr hlk hR hS h dL_jump_14
    exact (h.2 e0).elim
  · refine lv_i2l (v := r.toInt64) hx hb dL_jump_7 rfl ?_
    refine lw_put C0 hR hS dL_jump_8 (fun H locs hR hS => ?_)
    refine lv_goto (tgt := 15) hx hb dL_jump_9 (by decide) ?_
    refine lv_iconst (v := 0) hx hb dL_jump_15 (by decide) ?_
    refine W.widen (k := 1) (n := 6) (Nat.le_of_ble_eq_true rfl) (Nat.le_of_ble_eq_true rfl) ?_
    exact rtL C0 hr hlk hR hS h dL_jump_16
def FW_job (a1 a2 a3 : Int32) (Sc : sSt) (o : Int64) (k : Int32 → sSt → Int64 → Prop) : Prop := F_X11_job a1 a2 a3 Sc (fun r S1 => k 0 S1 r.toInt64) (fun E S1 => (E = "java/lang/IndexOutOfBoundsException" → k 1 S1 o) ∧ (¬ E = "java/lang/IndexOutOfBoundsException" → (E = "java/util/NoSuchElementException" → k 2 S1 o) ∧ (¬ E = "java/util/NoSuchElementException" → False)))
set_option maxHeartbeats 4000000 in
set_option maxRecDepth 100000 in
theorem cw_job (l : Launch) (hl0 : l.stackTraces = false) {D : va_G} {cy : Nat → ClassId} {b : Nat} {tx : TX} {a1 a2 a3 : Int32} {Sc Sm : sSt} {o : Int64} {k : Int32 → sSt → Int64 → Prop} (h : FW_job a1 a2 a3 Sc o k) : Met l yL_job (Cond.codeWith yL_job cL_job 6 (some .int) [(0, 12, 15, 21), (0, 12, 19, 76)] :: TB) ({ frames := 9, cells := 3, slots := 18, locals := 156 }) (va_Pc [.ref (b + adC 0 0), .int a1, .int a2, .int a3, .ref (b + 721)] (fun U => RelL D cy b tx Sc Sm o U U.heap ∧ TxR tx U ∧ TxN U)) (PwL D cy b tx Sm k) 3 18 (bA b) := by
  refine met_ofWH (cc := cL_job) (maxL := 6) (ret := (some .int)) (by decide) rfl ?_
  intro p e s m args below meth c s₁ B hml hv
  obtain ⟨rfl, hR, hT, hN⟩ := hv
  have htab : c.exceptionTable.toList = tableOf [(0, 12, 15, 21), (0, 12, 19, 76)] := vx_table (x := yL_job) B (atoms_spec B.pre _ List.mem_cons_self)
  have C0 : CallFix p m c cL_job 6 s _ TB RL := ⟨B.exec, B.bytes, hml, findClass_of_methodNamed B.named, fun w hw => atoms_spec B.pre w (List.mem_cons_of_mem _ hw)⟩
  have hr := B.returns
  have hlk := B.notSynchronized
  have hx := C0.1
  have hb := C0.2.1
  have hS : va_S (bA b) s.heap s.heap [] := va_S.rf
  have hl := lv_entry ([.ref (b + adC 0 0), .int a1, .int a2, .int a3, .ref (b + 721)]) (n := 6) (Nat.le_of_ble_eq_true rfl)
  rw [lg_entry_eq]
  generalize (lg_sl ([.ref (b + adC 0 0), .int a1, .int a2, .int a3, .ref (b + 721)]) ++ List.replicate (6 - (lg_sl ([.ref (b + adC 0 0), .int a1, .int a2, .int a3, .ref (b + 721)])).length) Slot.unset).toArray = ls at hl ⊢
  have hl : lv_has ls 6 [(0, .ref (b + adC 0 0)), (1, .int a1), (2, .int a2), (3, .int a3), (4, .ref (b + 721))] := hl
  show W p l e ({ frames := 9, cells := 3, slots := 18, locals := 156 }) s m _ below meth c s.heap [] 0 0 (MQ below (PwL D cy b tx Sm k) _ s 3 18 (bA b)) _
  unfold FW_job at h
  refine lv_aload hx hb dL_job_0 (lv_at hl 4 rfl) ?_
  refine lv_iconst (v := 0) hx hb dL_job_2 (by decide) ?_
  refine lv_aload_n hx hb dL_job_3 rfl (lv_at hl 0 rfl) ?_
  refine lv_iload_n hx hb dL_job_4 rfl (lv_at hl 1 rfl) ?_
  refine lv_iload_n hx hb dL_job_5 rfl (lv_at hl 2 rfl) ?_
  refine lv_iload_n hx hb dL_job_6 rfl (lv_at hl 3 rfl) ?_
  refine qLX (As := [.int a1, .int a2, .int a3]) (rest := [.int 0, .ref (b + 721)]) C0 (c_X11_job l hl0 h) (cwV 3 C0.2.2.2.2 (tbV mL_6_38 ⟨mL_6_39, mL_6_40, mL_1_1, mL_6_41⟩) rfl rfl rfl (by decide +kernel) ⟨Nat.le_of_ble_eq_true rfl, Nat.le_of_ble_eq_true rfl⟩) hR hT hS rfl hl.1 rfl (Nat.le_of_ble_eq_true rfl) dL_job_7 ⟨Nat.le_of_ble_eq_true rfl, Nat.le_of_ble_eq_true rfl⟩ (fun E ce q9 S1 H locs h hR hS hce hcv hcl => ?_) (fun r S1 H locs h hR hS => ?_)
  · by_cases e0 : E = "java/lang/IndexOutOfBoundsException"
    · subst e0
      have h := h
      have h := h.1 rfl
      refine vx_catch C0.2.2.2.1 [] ⟨0, 12, 15, 21⟩ [⟨0, 12, 19, 76⟩] htab (fun z hz => absurd hz List.not_mem_nil) (by decide) (by decide) (C0.2.2.2.2 _ mL_4_128) ((hT.2 _ mL_4_139).use rfl) hce hcv hcl ?_
      refine lv_astore (lv' := [(5, .ref q9), (0, .ref (b + adC 0 0)), (1, .int a1), (2, .int a2), (3, .int a3), (4, .ref (b + 721))]) hx hb dL_job_15 hl (by decide) rfl (fun ls hl => ?_)
      refine lv_iconst (v := 1) hx hb dL_job_17 (by decide) ?_
      refine W.widen (k := 3) (n := 18) (Nat.le_of_ble_eq_true rfl) (Nat.le_of_ble_eq_true rfl) ?_
      exact rtL C0 hr hlk hR hS h dL_job_18
    by_cases e1 : E = "java/util/NoSuchElementException"
    · subst e1
      have h := h
      have h := (h.2 e0).1 rfl
      refine vx_catch C0.2.2.2.1 [⟨0, 12, 15, 21⟩] ⟨0, 12, 19, 76⟩ [] htab (fun z hz => Or.inr (by
        rcases (show z = ⟨0, 12, 15, 21⟩ by simpa using hz) with rfl
        · exact ⟨by decide, "java/lang/IndexOutOfBoundsException", C0.2.2.2.2 _ mL_4_128, hN ("java/util/NoSuchElementException", "java/lang/IndexOutOfBoundsException") (by decide)⟩
        )) (by decide) (by decide) (C0.2.2.2.2 _ mL_6_37) ((hT.2 _ mL_6_48).use rfl) hce hcv hcl ?_
      refine lv_astore (lv' := [(5, .ref q9), (0, .ref (b + adC 0 0)), (1, .int a1), (2, .int a2), (3, .int a3), (4, .ref (b + 721))]) hx hb dL_job_19 hl (by decide) rfl (fun ls hl => ?_)
      refine lv_iconst (v := 2) hx hb dL_job_21 (by decide) ?_
      refine W.widen (k := 3) (n := 18) (Nat.le_of_ble_eq_true rfl) (Nat.le_of_ble_eq_true rfl) ?_
      exact rtL C0 hr hlk hR hS h dL_job_22
    exact ((h.2 e0).2 e1).elim
  · refine lv_i2l (v := r.toInt64) hx hb dL_job_10 rfl ?_
    refine lw_put C0 hR hS dL_job_11 (fun H locs hR hS => ?_)
    refine lv_goto (tgt := 23) hx hb dL_job_12 (by decide) ?_
    refine lv_iconst (v := 0) hx hb dL_job_23 (by decide) ?_
    refine W.widen (k := 3) (n := 18) (Nat.le_of_ble_eq_true rfl) (Nat.le_of_ble_eq_true rfl) ?_
    exact rtL C0 hr hlk hR hS h dL_job_24
def FW_cause (a1 a2 a3 : Int32) (Sc : sSt) (o : Int64) (k : Int32 → sSt → Int64 → Prop) : Prop := F_X11_cause a1 a2 a3 Sc (fun r S1 => k 0 S1 r.toInt64) (fun E S1 => (E = "java/lang/IndexOutOfBoundsException" → k 1 S1 o) ∧ (¬ E = "java/lang/IndexOutOfBoundsException" → False))
set_option maxHeartbeats 4000000 in
set_option maxRecDepth 100000 in
theorem cw_cause (l : Launch) (hl0 : l.stackTraces = false) {D : va_G} {cy : Nat → ClassId} {b : Nat} {tx : TX} {a1 a2 a3 : Int32} {Sc Sm : sSt} {o : Int64} {k : Int32 → sSt → Int64 → Prop} (h : FW_cause a1 a2 a3 Sc o k) : Met l yL_cause (Cond.codeWith yL_cause cL_cause 6 (some .int) [(0, 12, 15, 21)] :: TB) ({ frames := 9, cells := 2, slots := 12, locals := 154 }) (va_Pc [.ref (b + adC 0 0), .int a1, .int a2, .int a3, .ref (b + 721)] (fun U => RelL D cy b tx Sc Sm o U U.heap ∧ TxR tx U ∧ TxN U)) (PwL D cy b tx Sm k) 2 12 (bA b) := by
  refine met_ofWH (cc := cL_cause) (maxL := 6) (ret := (some .int)) (by decide) rfl ?_
  intro p e s m args below meth c s₁ B hml hv
  obtain ⟨rfl, hR, hT, hN⟩ := hv
  have htab : c.exceptionTable.toList = tableOf [(0, 12, 15, 21)] := vx_table (x := yL_cause) B (atoms_spec B.pre _ List.mem_cons_self)
  have C0 : CallFix p m c cL_cause 6 s _ TB RL := ⟨B.exec, B.bytes, hml, findClass_of_methodNamed B.named, fun w hw => atoms_spec B.pre w (List.mem_cons_of_mem _ hw)⟩
  have hr := B.returns
  have hlk := B.notSynchronized
  have hx := C0.1
  have hb := C0.2.1
  have hS : va_S (bA b) s.heap s.heap [] := va_S.rf
  have hl := lv_entry ([.ref (b + adC 0 0), .int a1, .int a2, .int a3, .ref (b + 721)]) (n := 6) (Nat.le_of_ble_eq_true rfl)
  rw [lg_entry_eq]
  generalize (lg_sl ([.ref (b + adC 0 0), .int a1, .int a2, .int a3, .ref (b + 721)]) ++ List.replicate (6 - (lg_sl ([.ref (b + adC 0 0), .int a1, .int a2, .int a3, .ref (b + 721)])).length) Slot.unset).toArray = ls at hl ⊢
  have hl : lv_has ls 6 [(0, .ref (b + adC 0 0)), (1, .int a1), (2, .int a2), (3, .int a3), (4, .ref (b + 721))] := hl
  show W p l e ({ frames := 9, cells := 2, slots := 12, locals := 154 }) s m _ below meth c s.heap [] 0 0 (MQ below (PwL D cy b tx Sm k) _ s 2 12 (bA b)) _
  unfold FW_cause at h
  refine lv_aload hx hb dL_cause_0 (lv_at hl 4 rfl) ?_
  refine lv_iconst (v := 0) hx hb dL_cause_2 (by decide) ?_
  refine lv_aload_n hx hb dL_cause_3 rfl (lv_at hl 0 rfl) ?_
  refine lv_iload_n hx hb dL_cause_4 rfl (lv_at hl 1 rfl) ?_
  refine lv_iload_n hx hb dL_cause_5 rfl (lv_at hl 2 rfl) ?_
  refine lv_iload_n hx hb dL_cause_6 rfl (lv_at hl 3 rfl) ?_
  refine qLX (As := [.int a1, .int a2, .int a3]) (rest := [.int 0, .ref (b + 721)]) C0 (c_X11_cause l hl0 h) (cwV 3 C0.2.2.2.2 (tbV mL_6_64 ⟨mL_6_65, mL_6_66, mL_1_1, mL_6_67⟩) rfl rfl rfl (by decide +kernel) ⟨Nat.le_of_ble_eq_true rfl, Nat.le_of_ble_eq_true rfl⟩) hR hT hS rfl hl.1 rfl (Nat.le_of_ble_eq_true rfl) dL_cause_7 ⟨Nat.le_of_ble_eq_true rfl, Nat.le_of_ble_eq_true rfl⟩ (fun E ce q9 S1 H locs h hR hS hce hcv hcl => ?_) (fun r S1 H locs h hR hS => ?_)
  · by_cases e0 : E = "java/lang/IndexOutOfBoundsException"
    · subst e0
      have h := h
      have h := h.1 rfl
      refine vx_catch C0.2.2.2.1 [] ⟨0, 12, 15, 21⟩ [] htab (fun z hz => absurd hz List.not_mem_nil) (by decide) (by decide) (C0.2.2.2.2 _ mL_4_128) ((hT.2 _ mL_4_139).use rfl) hce hcv hcl ?_
      refine lv_astore (lv' := [(5, .ref q9), (0, .ref (b + adC 0 0)), (1, .int a1), (2, .int a2), (3, .int a3), (4, .ref (b + 721))]) hx hb dL_cause_15 hl (by decide) rfl (fun ls hl => ?_)
      refine lv_iconst (v := 1) hx hb dL_cause_17 (by decide) ?_
      refine W.widen (k := 2) (n := 12) (Nat.le_of_ble_eq_true rfl) (Nat.le_of_ble_eq_true rfl) ?_
      exact rtL C0 hr hlk hR hS h dL_cause_18
    exact (h.2 e0).elim
  · refine lv_i2l (v := r.toInt64) hx hb dL_cause_10 rfl ?_
    refine lw_put C0 hR hS dL_cause_11 (fun H locs hR hS => ?_)
    refine lv_goto (tgt := 19) hx hb dL_cause_12 (by decide) ?_
    refine lv_iconst (v := 0) hx hb dL_cause_19 (by decide) ?_
    refine W.widen (k := 2) (n := 12) (Nat.le_of_ble_eq_true rfl) (Nat.le_of_ble_eq_true rfl) ?_
    exact rtL C0 hr hlk hR hS h dL_cause_20
def FW_locked (a1 : Int32) (Sc : sSt) (o : Int64) (k : Int32 → sSt → Int64 → Prop) : Prop := F_X11_locked a1 Sc (fun r S1 => k 0 S1 r.toInt64) (fun E S1 => (E = "java/lang/IndexOutOfBoundsException" → k 1 S1 o) ∧ (¬ E = "java/lang/IndexOutOfBoundsException" → False))
set_option maxHeartbeats 4000000 in
set_option maxRecDepth 100000 in
theorem cw_locked (l : Launch) (hl0 : l.stackTraces = false) {D : va_G} {cy : Nat → ClassId} {b : Nat} {tx : TX} {a1 : Int32} {Sc Sm : sSt} {o : Int64} {k : Int32 → sSt → Int64 → Prop} (h : FW_locked a1 Sc o k) : Met l yL_locked (Cond.codeWith yL_locked cL_locked 4 (some .int) [(0, 9, 12, 21)] :: TB) ({ frames := 8, cells := 1, slots := 6, locals := 133 }) (va_Pc [.ref (b + adC 0 0), .int a1, .ref (b + 721)] (fun U => RelL D cy b tx Sc Sm o U U.heap ∧ TxR tx U ∧ TxN U)) (PwL D cy b tx Sm k) 1 6 (bA b) := by
  refine met_ofWH (cc := cL_locked) (maxL := 4) (ret := (some .int)) (by decide) rfl ?_
  intro p e s m args below meth c s₁ B hml hv
  obtain ⟨rfl, hR, hT, hN⟩ := hv
  have htab : c.exceptionTable.toList = tableOf [(0, 9, 12, 21)] := vx_table (x := yL_locked) B (atoms_spec B.pre _ List.mem_cons_self)
  have C0 : CallFix p m c cL_locked 4 s _ TB RL := ⟨B.exec, B.bytes, hml, findClass_of_methodNamed B.named, fun w hw => atoms_spec B.pre w (List.mem_cons_of_mem _ hw)⟩
  have hr := B.returns
  have hlk := B.notSynchronized
  have hx := C0.1
  have hb := C0.2.1
  have hS : va_S (bA b) s.heap s.heap [] := va_S.rf
  have hl := lv_entry ([.ref (b + adC 0 0), .int a1, .ref (b + 721)]) (n := 4) (Nat.le_of_ble_eq_true rfl)
  rw [lg_entry_eq]
  generalize (lg_sl ([.ref (b + adC 0 0), .int a1, .ref (b + 721)]) ++ List.replicate (4 - (lg_sl ([.ref (b + adC 0 0), .int a1, .ref (b + 721)])).length) Slot.unset).toArray = ls at hl ⊢
  have hl : lv_has ls 4 [(0, .ref (b + adC 0 0)), (1, .int a1), (2, .ref (b + 721))] := hl
  show W p l e ({ frames := 8, cells := 1, slots := 6, locals := 133 }) s m _ below meth c s.heap [] 0 0 (MQ below (PwL D cy b tx Sm k) _ s 1 6 (bA b)) _
  unfold FW_locked at h
  refine lv_aload_n hx hb dL_locked_0 rfl (lv_at hl 2 rfl) ?_
  refine lv_iconst (v := 0) hx hb dL_locked_1 (by decide) ?_
  refine lv_aload_n hx hb dL_locked_2 rfl (lv_at hl 0 rfl) ?_
  refine lv_iload_n hx hb dL_locked_3 rfl (lv_at hl 1 rfl) ?_
  refine qLX (As := [.int a1]) (rest := [.int 0, .ref (b + 721)]) C0 (c_X11_locked l hl0 h) (cwV 1 C0.2.2.2.2 (tbV mL_6_75 ⟨mL_6_76, mL_6_77, mL_1_1, mL_6_78⟩) rfl rfl rfl (by decide +kernel) ⟨Nat.le_of_ble_eq_true rfl, Nat.le_of_ble_eq_true rfl⟩) hR hT hS rfl hl.1 rfl (Nat.le_of_ble_eq_true rfl) dL_locked_4 ⟨Nat.le_of_ble_eq_true rfl, Nat.le_of_ble_eq_true rfl⟩ (fun E ce q9 S1 H locs h hR hS hce hcv hcl => ?_) (fun r S1 H locs h hR hS => ?_)
  · by_cases e0 : E = "java/lang/IndexOutOfBoundsException"
    · subst e0
      have h := h
      have h := h.1 rfl
      refine vx_catch C0.2.2.2.1 [] ⟨0, 9, 12, 21⟩ [] htab (fun z hz => absurd hz List.not_mem_nil) (by decide) (by decide) (C0.2.2.2.2 _ mL_4_128) ((hT.2 _ mL_4_139).use rfl) hce hcv hcl ?_
      refine lv_astore_n (lv' := [(3, .ref q9), (0, .ref (b + adC 0 0)), (1, .int a1), (2, .ref (b + 721))]) hx hb dL_locked_12 rfl hl (by decide) rfl (fun ls hl => ?_)
      refine lv_iconst (v := 1) hx hb dL_locked_13 (by decide) ?_
      refine W.widen (k := 1) (n := 6) (Nat.le_of_ble_eq_true rfl) (Nat.le_of_ble_eq_true rfl) ?_
      exact rtL C0 hr hlk hR hS h dL_locked_14
    exact (h.2 e0).elim
  · refine lv_i2l (v := r.toInt64) hx hb dL_locked_7 rfl ?_
    refine lw_put C0 hR hS dL_locked_8 (fun H locs hR hS => ?_)
    refine lv_goto (tgt := 15) hx hb dL_locked_9 (by decide) ?_
    refine lv_iconst (v := 0) hx hb dL_locked_15 (by decide) ?_
    refine W.widen (k := 1) (n := 6) (Nat.le_of_ble_eq_true rfl) (Nat.le_of_ble_eq_true rfl) ?_
    exact rtL C0 hr hlk hR hS h dL_locked_16
def FW_session (a1 a2 : Int32) (Sc : sSt) (o : Int64) (k : Int32 → sSt → Int64 → Prop) : Prop := F_X11_session a1 a2 Sc (fun r S1 => k 0 S1 r.toInt64) (fun E S1 => (E = "java/lang/IndexOutOfBoundsException" → k 1 S1 o) ∧ (¬ E = "java/lang/IndexOutOfBoundsException" → (E = "java/util/NoSuchElementException" → k 2 S1 o) ∧ (¬ E = "java/util/NoSuchElementException" → False)))
set_option maxHeartbeats 4000000 in
set_option maxRecDepth 100000 in
theorem cw_session (l : Launch) (hl0 : l.stackTraces = false) {D : va_G} {cy : Nat → ClassId} {b : Nat} {tx : TX} {a1 a2 : Int32} {Sc Sm : sSt} {o : Int64} {k : Int32 → sSt → Int64 → Prop} (h : FW_session a1 a2 Sc o k) : Met l yL_session (Cond.codeWith yL_session cL_session 5 (some .int) [(0, 10, 13, 21), (0, 10, 17, 76)] :: TB) ({ frames := 8, cells := 2, slots := 12, locals := 133 }) (va_Pc [.ref (b + adC 0 0), .int a1, .int a2, .ref (b + 721)] (fun U => RelL D cy b tx Sc Sm o U U.heap ∧ TxR tx U ∧ TxN U)) (PwL D cy b tx Sm k) 2 12 (bA b) := by
  refine met_ofWH (cc := cL_session) (maxL := 5) (ret := (some .int)) (by decide) rfl ?_
  intro p e s m args below meth c s₁ B hml hv
  obtain ⟨rfl, hR, hT, hN⟩ := hv
  have htab : c.exceptionTable.toList = tableOf [(0, 10, 13, 21), (0, 10, 17, 76)] := vx_table (x := yL_session) B (atoms_spec B.pre _ List.mem_cons_self)
  have C0 : CallFix p m c cL_session 5 s _ TB RL := ⟨B.exec, B.bytes, hml, findClass_of_methodNamed B.named, fun w hw => atoms_spec B.pre w (List.mem_cons_of_mem _ hw)⟩
  have hr := B.returns
  have hlk := B.notSynchronized
  have hx := C0.1
  have hb := C0.2.1
  have hS : va_S (bA b) s.heap s.heap [] := va_S.rf
  have hl := lv_entry ([.ref (b + adC 0 0), .int a1, .int a2, .ref (b + 721)]) (n := 5) (Nat.le_of_ble_eq_true rfl)
  rw [lg_entry_eq]
  generalize (lg_sl ([.ref (b + adC 0 0), .int a1, .int a2, .ref (b + 721)]) ++ List.replicate (5 - (lg_sl ([.ref (b + adC 0 0), .int a1, .int a2, .ref (b + 721)])).length) Slot.unset).toArray = ls at hl ⊢
  have hl : lv_has ls 5 [(0, .ref (b + adC 0 0)), (1, .int a1), (2, .int a2), (3, .ref (b + 721))] := hl
  show W p l e ({ frames := 8, cells := 2, slots := 12, locals := 133 }) s m _ below meth c s.heap [] 0 0 (MQ below (PwL D cy b tx Sm k) _ s 2 12 (bA b)) _
  unfold FW_session at h
  refine lv_aload_n hx hb dL_session_0 rfl (lv_at hl 3 rfl) ?_
  refine lv_iconst (v := 0) hx hb dL_session_1 (by decide) ?_
  refine lv_aload_n hx hb dL_session_2 rfl (lv_at hl 0 rfl) ?_
  refine lv_iload_n hx hb dL_session_3 rfl (lv_at hl 1 rfl) ?_
  refine lv_iload_n hx hb dL_session_4 rfl (lv_at hl 2 rfl) ?_
  refine qLX (As := [.int a1, .int a2]) (rest := [.int 0, .ref (b + 721)]) C0 (c_X11_session l hl0 h) (cwV 2 C0.2.2.2.2 (tbV mL_6_82 ⟨mL_6_83, mL_6_84, mL_1_1, mL_6_85⟩) rfl rfl rfl (by decide +kernel) ⟨Nat.le_of_ble_eq_true rfl, Nat.le_of_ble_eq_true rfl⟩) hR hT hS rfl hl.1 rfl (Nat.le_of_ble_eq_true rfl) dL_session_5 ⟨Nat.le_of_ble_eq_true rfl, Nat.le_of_ble_eq_true rfl⟩ (fun E ce q9 S1 H locs h hR hS hce hcv hcl => ?_) (fun r S1 H locs h hR hS => ?_)
  · by_cases e0 : E = "java/lang/IndexOutOfBoundsException"
    · subst e0
      have h := h
      have h := h.1 rfl
      refine vx_catch C0.2.2.2.1 [] ⟨0, 10, 13, 21⟩ [⟨0, 10, 17, 76⟩] htab (fun z hz => absurd hz List.not_mem_nil) (by decide) (by decide) (C0.2.2.2.2 _ mL_4_128) ((hT.2 _ mL_4_139).use rfl) hce hcv hcl ?_
      refine lv_astore (lv' := [(4, .ref q9), (0, .ref (b + adC 0 0)), (1, .int a1), (2, .int a2), (3, .ref (b + 721))]) hx hb dL_session_13 hl (by decide) rfl (fun ls hl => ?_)
      refine lv_iconst (v := 1) hx hb dL_session_15 (by decide) ?_
      refine W.widen (k := 2) (n := 12) (Nat.le_of_ble_eq_true rfl) (Nat.le_of_ble_eq_true rfl) ?_
      exact rtL C0 hr hlk hR hS h dL_session_16
    by_cases e1 : E = "java/util/NoSuchElementException"
    · subst e1
      have h := h
      have h := (h.2 e0).1 rfl
      refine vx_catch C0.2.2.2.1 [⟨0, 10, 13, 21⟩] ⟨0, 10, 17, 76⟩ [] htab (fun z hz => Or.inr (by
        rcases (show z = ⟨0, 10, 13, 21⟩ by simpa using hz) with rfl
        · exact ⟨by decide, "java/lang/IndexOutOfBoundsException", C0.2.2.2.2 _ mL_4_128, hN ("java/util/NoSuchElementException", "java/lang/IndexOutOfBoundsException") (by decide)⟩
        )) (by decide) (by decide) (C0.2.2.2.2 _ mL_6_37) ((hT.2 _ mL_6_48).use rfl) hce hcv hcl ?_
      refine lv_astore (lv' := [(4, .ref q9), (0, .ref (b + adC 0 0)), (1, .int a1), (2, .int a2), (3, .ref (b + 721))]) hx hb dL_session_17 hl (by decide) rfl (fun ls hl => ?_)
      refine lv_iconst (v := 2) hx hb dL_session_19 (by decide) ?_
      refine W.widen (k := 2) (n := 12) (Nat.le_of_ble_eq_true rfl) (Nat.le_of_ble_eq_true rfl) ?_
      exact rtL C0 hr hlk hR hS h dL_session_20
    exact ((h.2 e0).2 e1).elim
  · refine lv_i2l (v := r.toInt64) hx hb dL_session_8 rfl ?_
    refine lw_put C0 hR hS dL_session_9 (fun H locs hR hS => ?_)
    refine lv_goto (tgt := 21) hx hb dL_session_10 (by decide) ?_
    refine lv_iconst (v := 0) hx hb dL_session_21 (by decide) ?_
    refine W.widen (k := 2) (n := 12) (Nat.le_of_ble_eq_true rfl) (Nat.le_of_ble_eq_true rfl) ?_
    exact rtL C0 hr hlk hR hS h dL_session_22
def FW_plan (a1 a2 : Int32) (Sc : sSt) (o : Int64) (k : Int32 → sSt → Int64 → Prop) : Prop := F_X11_plan a1 a2 Sc (fun r S1 => k 0 S1 r.toInt64) (fun E S1 => (E = "java/lang/IndexOutOfBoundsException" → k 1 S1 o) ∧ (¬ E = "java/lang/IndexOutOfBoundsException" → (E = "java/util/NoSuchElementException" → k 2 S1 o) ∧ (¬ E = "java/util/NoSuchElementException" → False)))
set_option maxHeartbeats 4000000 in
set_option maxRecDepth 100000 in
theorem cw_plan (l : Launch) (hl0 : l.stackTraces = false) {D : va_G} {cy : Nat → ClassId} {b : Nat} {tx : TX} {a1 a2 : Int32} {Sc Sm : sSt} {o : Int64} {k : Int32 → sSt → Int64 → Prop} (h : FW_plan a1 a2 Sc o k) : Met l yL_plan (Cond.codeWith yL_plan cL_plan 5 (some .int) [(0, 10, 13, 21), (0, 10, 17, 76)] :: TB) ({ frames := 7, cells := 2, slots := 12, locals := 112 }) (va_Pc [.ref (b + adC 0 0), .int a1, .int a2, .ref (b + 721)] (fun U => RelL D cy b tx Sc Sm o U U.heap ∧ TxR tx U ∧ TxN U)) (PwL D cy b tx Sm k) 2 12 (bA b) := by
  refine met_ofWH (cc := cL_plan) (maxL := 5) (ret := (some .int)) (by decide) rfl ?_
  intro p e s m args below meth c s₁ B hml hv
  obtain ⟨rfl, hR, hT, hN⟩ := hv
  have htab : c.exceptionTable.toList = tableOf [(0, 10, 13, 21), (0, 10, 17, 76)] := vx_table (x := yL_plan) B (atoms_spec B.pre _ List.mem_cons_self)
  have C0 : CallFix p m c cL_plan 5 s _ TB RL := ⟨B.exec, B.bytes, hml, findClass_of_methodNamed B.named, fun w hw => atoms_spec B.pre w (List.mem_cons_of_mem _ hw)⟩
  have hr := B.returns
  have hlk := B.notSynchronized
  have hx := C0.1
  have hb := C0.2.1
  have hS : va_S (bA b) s.heap s.heap [] := va_S.rf
  have hl := lv_entry ([.ref (b + adC 0 0), .int a1, .int a2, .ref (b + 721)]) (n := 5) (Nat.le_of_ble_eq_true rfl)
  rw [lg_entry_eq]
  generalize (lg_sl ([.ref (b + adC 0 0), .int a1, .int a2, .ref (b + 721)]) ++ List.replicate (5 - (lg_sl ([.ref (b + adC 0 0), .int a1, .int a2, .ref (b + 721)])).length) Slot.unset).toArray = ls at hl ⊢
  have hl : lv_has ls 5 [(0, .ref (b + adC 0 0)), (1, .int a1), (2, .int a2), (3, .ref (b + 721))] := hl
  show W p l e ({ frames := 7, cells := 2, slots := 12, locals := 112 }) s m _ below meth c s.heap [] 0 0 (MQ below (PwL D cy b tx Sm k) _ s 2 12 (bA b)) _
  unfold FW_plan at h
  refine lv_aload_n hx hb dL_plan_0 rfl (lv_at hl 3 rfl) ?_
  refine lv_iconst (v := 0) hx hb dL_plan_1 (by decide) ?_
  refine lv_aload_n hx hb dL_plan_2 rfl (lv_at hl 0 rfl) ?_
  refine lv_iload_n hx hb dL_plan_3 rfl (lv_at hl 1 rfl) ?_
  refine lv_iload_n hx hb dL_plan_4 rfl (lv_at hl 2 rfl) ?_
  refine qLX (As := [.int a1, .int a2]) (rest := [.int 0, .ref (b + 721)]) C0 (c_X11_plan l hl0 h) (cwV 2 C0.2.2.2.2 (tbV mL_6_101 ⟨mL_6_102, mL_6_103, mL_1_1, mL_6_104⟩) rfl rfl rfl (by decide +kernel) ⟨Nat.le_of_ble_eq_true rfl, Nat.le_of_ble_eq_true rfl⟩) hR hT hS rfl hl.1 rfl (Nat.le_of_ble_eq_true rfl) dL_plan_5 ⟨Nat.le_of_ble_eq_true rfl, Nat.le_of_ble_eq_true rfl⟩ (fun E ce q9 S1 H locs h hR hS hce hcv hcl => ?_) (fun r S1 H locs h hR hS => ?_)
  · by_cases e0 : E = "java/lang/IndexOutOfBoundsException"
    · subst e0
      have h := h
      have h := h.1 rfl
      refine vx_catch C0.2.2.2.1 [] ⟨0, 10, 13, 21⟩ [⟨0, 10, 17, 76⟩] htab (fun z hz => absurd hz List.not_mem_nil) (by decide) (by decide) (C0.2.2.2.2 _ mL_4_128) ((hT.2 _ mL_4_139).use rfl) hce hcv hcl ?_
      refine lv_astore (lv' := [(4, .ref q9), (0, .ref (b + adC 0 0)), (1, .int a1), (2, .int a2), (3, .ref (b + 721))]) hx hb dL_plan_13 hl (by decide) rfl (fun ls hl => ?_)
      refine lv_iconst (v := 1) hx hb dL_plan_15 (by decide) ?_
      refine W.widen (k := 2) (n := 12) (Nat.le_of_ble_eq_true rfl) (Nat.le_of_ble_eq_true rfl) ?_
      exact rtL C0 hr hlk hR hS h dL_plan_16
    by_cases e1 : E = "java/util/NoSuchElementException"
    · subst e1
      have h := h
      have h := (h.2 e0).1 rfl
      refine vx_catch C0.2.2.2.1 [⟨0, 10, 13, 21⟩] ⟨0, 10, 17, 76⟩ [] htab (fun z hz => Or.inr (by
        rcases (show z = ⟨0, 10, 13, 21⟩ by simpa using hz) with rfl
        · exact ⟨by decide, "java/lang/IndexOutOfBoundsException", C0.2.2.2.2 _ mL_4_128, hN ("java/util/NoSuchElementException", "java/lang/IndexOutOfBoundsException") (by decide)⟩
        )) (by decide) (by decide) (C0.2.2.2.2 _ mL_6_37) ((hT.2 _ mL_6_48).use rfl) hce hcv hcl ?_
      refine lv_astore (lv' := [(4, .ref q9), (0, .ref (b + adC 0 0)), (1, .int a1), (2, .int a2), (3, .ref (b + 721))]) hx hb dL_plan_17 hl (by decide) rfl (fun ls hl => ?_)
      refine lv_iconst (v := 2) hx hb dL_plan_19 (by decide) ?_
      refine W.widen (k := 2) (n := 12) (Nat.le_of_ble_eq_true rfl) (Nat.le_of_ble_eq_true rfl) ?_
      exact rtL C0 hr hlk hR hS h dL_plan_20
    exact ((h.2 e0).2 e1).elim
  · refine lv_i2l (v := r.toInt64) hx hb dL_plan_8 rfl ?_
    refine lw_put C0 hR hS dL_plan_9 (fun H locs hR hS => ?_)
    refine lv_goto (tgt := 21) hx hb dL_plan_10 (by decide) ?_
    refine lv_iconst (v := 0) hx hb dL_plan_21 (by decide) ?_
    refine W.widen (k := 2) (n := 12) (Nat.le_of_ble_eq_true rfl) (Nat.le_of_ble_eq_true rfl) ?_
    exact rtL C0 hr hlk hR hS h dL_plan_22
def FW_may (a1 a2 : Int32) (Sc : sSt) (o : Int64) (k : Int32 → sSt → Int64 → Prop) : Prop := F_X11_may a1 a2 Sc (fun r S1 => (¬ r = 0 → k 0 S1 1) ∧ (r = 0 → k 0 S1 0)) (fun E S1 => (E = "java/lang/IndexOutOfBoundsException" → k 1 S1 o) ∧ (¬ E = "java/lang/IndexOutOfBoundsException" → False))
set_option maxHeartbeats 4000000 in
set_option maxRecDepth 100000 in
theorem cw_may (l : Launch) (hl0 : l.stackTraces = false) {D : va_G} {cy : Nat → ClassId} {b : Nat} {tx : TX} {a1 a2 : Int32} {Sc Sm : sSt} {o : Int64} {k : Int32 → sSt → Int64 → Prop} (h : FW_may a1 a2 Sc o k) : Met l yL_may (Cond.codeWith yL_may cL_may 5 (some .int) [(0, 17, 20, 21)] :: TB) ({ frames := 8, cells := 2, slots := 12, locals := 134 }) (va_Pc [.ref (b + adC 0 0), .int a1, .int a2, .ref (b + 721)] (fun U => RelL D cy b tx Sc Sm o U U.heap ∧ TxR tx U ∧ TxN U)) (PwL D cy b tx Sm k) 2 12 (bA b) := by
  refine met_ofWH (cc := cL_may) (maxL := 5) (ret := (some .int)) (by decide) rfl ?_
  intro p e s m args below meth c s₁ B hml hv
  obtain ⟨rfl, hR, hT, hN⟩ := hv
  have htab : c.exceptionTable.toList = tableOf [(0, 17, 20, 21)] := vx_table (x := yL_may) B (atoms_spec B.pre _ List.mem_cons_self)
  have C0 : CallFix p m c cL_may 5 s _ TB RL := ⟨B.exec, B.bytes, hml, findClass_of_methodNamed B.named, fun w hw => atoms_spec B.pre w (List.mem_cons_of_mem _ hw)⟩
  have hr := B.returns
  have hlk := B.notSynchronized
  have hx := C0.1
  have hb := C0.2.1
  have hS : va_S (bA b) s.heap s.heap [] := va_S.rf
  have hl := lv_entry ([.ref (b + adC 0 0), .int a1, .int a2, .ref (b + 721)]) (n := 5) (Nat.le_of_ble_eq_true rfl)
  rw [lg_entry_eq]
  generalize (lg_sl ([.ref (b + adC 0 0), .int a1, .int a2, .ref (b + 721)]) ++ List.replicate (5 - (lg_sl ([.ref (b + adC 0 0), .int a1, .int a2, .ref (b + 721)])).length) Slot.unset).toArray = ls at hl ⊢
  have hl : lv_has ls 5 [(0, .ref (b + adC 0 0)), (1, .int a1), (2, .int a2), (3, .ref (b + 721))] := hl
  show W p l e ({ frames := 8, cells := 2, slots := 12, locals := 134 }) s m _ below meth c s.heap [] 0 0 (MQ below (PwL D cy b tx Sm k) _ s 2 12 (bA b)) _
  unfold FW_may at h
  refine lv_aload_n hx hb dL_may_0 rfl (lv_at hl 3 rfl) ?_
  refine lv_iconst (v := 0) hx hb dL_may_1 (by decide) ?_
  refine lv_aload_n hx hb dL_may_2 rfl (lv_at hl 0 rfl) ?_
  refine lv_iload_n hx hb dL_may_3 rfl (lv_at hl 1 rfl) ?_
  refine lv_iload_n hx hb dL_may_4 rfl (lv_at hl 2 rfl) ?_
  refine qLX (As := [.int a1, .int a2]) (rest := [.int 0, .ref (b + 721)]) C0 (c_X11_may l hl0 h) (cwV 2 C0.2.2.2.2 (tbV mL_6_109 ⟨mL_6_110, mL_6_111, mL_1_1, mL_6_112⟩) rfl rfl rfl (by decide +kernel) ⟨Nat.le_of_ble_eq_true rfl, Nat.le_of_ble_eq_true rfl⟩) hR hT hS rfl hl.1 rfl (Nat.le_of_ble_eq_true rfl) dL_may_5 ⟨Nat.le_of_ble_eq_true rfl, Nat.le_of_ble_eq_true rfl⟩ (fun E ce q9 S1 H locs h hR hS hce hcv hcl => ?_) (fun r S1 H locs h hR hS => ?_)
  · by_cases e0 : E = "java/lang/IndexOutOfBoundsException"
    · subst e0
      have h := h
      have h := h.1 rfl
      refine vx_catch C0.2.2.2.1 [] ⟨0, 17, 20, 21⟩ [] htab (fun z hz => absurd hz List.not_mem_nil) (by decide) (by decide) (C0.2.2.2.2 _ mL_4_128) ((hT.2 _ mL_4_139).use rfl) hce hcv hcl ?_
      refine lv_astore (lv' := [(4, .ref q9), (0, .ref (b + adC 0 0)), (1, .int a1), (2, .int a2), (3, .ref (b + 721))]) hx hb dL_may_20 hl (by decide) rfl (fun ls hl => ?_)
      refine lv_iconst (v := 1) hx hb dL_may_22 (by decide) ?_
      refine W.widen (k := 2) (n := 12) (Nat.le_of_ble_eq_true rfl) (Nat.le_of_ble_eq_true rfl) ?_
      exact rtL C0 hr hlk hR hS h dL_may_23
    exact (h.2 e0).elim
  · refine lv_if_eq (tgt := 15) hx hb dL_may_8 (by decide) (fun c1 => ?_) (fun c1 => ?_)
    · have h := h.2 c1
      refine lv_lconst (v := 0) hx hb dL_may_15 rfl ?_
      refine lw_put C0 hR hS dL_may_16 (fun H locs hR hS => ?_)
      refine lv_goto (tgt := 24) hx hb dL_may_17 (by decide) ?_
      refine lv_iconst (v := 0) hx hb dL_may_24 (by decide) ?_
      refine W.widen (k := 2) (n := 12) (Nat.le_of_ble_eq_true rfl) (Nat.le_of_ble_eq_true rfl) ?_
      exact rtL C0 hr hlk hR hS h dL_may_25
    · have h := h.1 c1
      refine lv_lconst (v := 1) hx hb dL_may_11 rfl ?_
      refine lv_goto (tgt := 16) hx hb dL_may_12 (by decide) ?_
      refine lw_put C0 hR hS dL_may_16 (fun H locs hR hS => ?_)
      refine lv_goto (tgt := 24) hx hb dL_may_17 (by decide) ?_
      refine lv_iconst (v := 0) hx hb dL_may_24 (by decide) ?_
      refine W.widen (k := 2) (n := 12) (Nat.le_of_ble_eq_true rfl) (Nat.le_of_ble_eq_true rfl) ?_
      exact rtL C0 hr hlk hR hS h dL_may_25
def FW_next (a1 a2 : Int32) (Sc : sSt) (o : Int64) (k : Int32 → sSt → Int64 → Prop) : Prop := F_X11_next a1 a2 Sc (fun r S1 => k 0 S1 r.toInt64) (fun E S1 => (E = "java/lang/IndexOutOfBoundsException" → k 1 S1 o) ∧ (¬ E = "java/lang/IndexOutOfBoundsException" → False))
set_option maxHeartbeats 4000000 in
set_option maxRecDepth 100000 in
theorem cw_next (l : Launch) (hl0 : l.stackTraces = false) {D : va_G} {cy : Nat → ClassId} {b : Nat} {tx : TX} {a1 a2 : Int32} {Sc Sm : sSt} {o : Int64} {k : Int32 → sSt → Int64 → Prop} (h : FW_next a1 a2 Sc o k) : Met l yL_next (Cond.codeWith yL_next cL_next 5 (some .int) [(0, 10, 13, 21)] :: TB) ({ frames := 8, cells := 1, slots := 6, locals := 146 }) (va_Pc [.ref (b + adC 0 0), .int a1, .int a2, .ref (b + 721)] (fun U => RelL D cy b tx Sc Sm o U U.heap ∧ TxR tx U ∧ TxN U)) (PwL D cy b tx Sm k) 1 6 (bA b) := by
  refine met_ofWH (cc := cL_next) (maxL := 5) (ret := (some .int)) (by decide) rfl ?_
  intro p e s m args below meth c s₁ B hml hv
  obtain ⟨rfl, hR, hT, hN⟩ := hv
  have htab : c.exceptionTable.toList = tableOf [(0, 10, 13, 21)] := vx_table (x := yL_next) B (atoms_spec B.pre _ List.mem_cons_self)
  have C0 : CallFix p m c cL_next 5 s _ TB RL := ⟨B.exec, B.bytes, hml, findClass_of_methodNamed B.named, fun w hw => atoms_spec B.pre w (List.mem_cons_of_mem _ hw)⟩
  have hr := B.returns
  have hlk := B.notSynchronized
  have hx := C0.1
  have hb := C0.2.1
  have hS : va_S (bA b) s.heap s.heap [] := va_S.rf
  have hl := lv_entry ([.ref (b + adC 0 0), .int a1, .int a2, .ref (b + 721)]) (n := 5) (Nat.le_of_ble_eq_true rfl)
  rw [lg_entry_eq]
  generalize (lg_sl ([.ref (b + adC 0 0), .int a1, .int a2, .ref (b + 721)]) ++ List.replicate (5 - (lg_sl ([.ref (b + adC 0 0), .int a1, .int a2, .ref (b + 721)])).length) Slot.unset).toArray = ls at hl ⊢
  have hl : lv_has ls 5 [(0, .ref (b + adC 0 0)), (1, .int a1), (2, .int a2), (3, .ref (b + 721))] := hl
  show W p l e ({ frames := 8, cells := 1, slots := 6, locals := 146 }) s m _ below meth c s.heap [] 0 0 (MQ below (PwL D cy b tx Sm k) _ s 1 6 (bA b)) _
  unfold FW_next at h
  refine lv_aload_n hx hb dL_next_0 rfl (lv_at hl 3 rfl) ?_
  refine lv_iconst (v := 0) hx hb dL_next_1 (by decide) ?_
  refine lv_aload_n hx hb dL_next_2 rfl (lv_at hl 0 rfl) ?_
  refine lv_iload_n hx hb dL_next_3 rfl (lv_at hl 1 rfl) ?_
  refine lv_iload_n hx hb dL_next_4 rfl (lv_at hl 2 rfl) ?_
  refine qLX (As := [.int a1, .int a2]) (rest := [.int 0, .ref (b + 721)]) C0 (c_X11_next l hl0 h) (cwV 2 C0.2.2.2.2 (tbV mL_6_117 ⟨mL_6_118, mL_6_119, mL_1_1, mL_6_120⟩) rfl rfl rfl (by decide +kernel) ⟨Nat.le_of_ble_eq_true rfl, Nat.le_of_ble_eq_true rfl⟩) hR hT hS rfl hl.1 rfl (Nat.le_of_ble_eq_true rfl) dL_next_5 ⟨Nat.le_of_ble_eq_true rfl, Nat.le_of_ble_eq_true rfl⟩ (fun E ce q9 S1 H locs h hR hS hce hcv hcl => ?_) (fun r S1 H locs h hR hS => ?_)
  · by_cases e0 : E = "java/lang/IndexOutOfBoundsException"
    · subst e0
      have h := h
      have h := h.1 rfl
      refine vx_catch C0.2.2.2.1 [] ⟨0, 10, 13, 21⟩ [] htab (fun z hz => absurd hz List.not_mem_nil) (by decide) (by decide) (C0.2.2.2.2 _ mL_4_128) ((hT.2 _ mL_4_139).use rfl) hce hcv hcl ?_
      refine lv_astore (lv' := [(4, .ref q9), (0, .ref (b + adC 0 0)), (1, .int a1), (2, .int a2), (3, .ref (b + 721))]) hx hb dL_next_13 hl (by decide) rfl (fun ls hl => ?_)
      refine lv_iconst (v := 1) hx hb dL_next_15 (by decide) ?_
      refine W.widen (k := 1) (n := 6) (Nat.le_of_ble_eq_true rfl) (Nat.le_of_ble_eq_true rfl) ?_
      exact rtL C0 hr hlk hR hS h dL_next_16
    exact (h.2 e0).elim
  · refine lv_i2l (v := r.toInt64) hx hb dL_next_8 rfl ?_
    refine lw_put C0 hR hS dL_next_9 (fun H locs hR hS => ?_)
    refine lv_goto (tgt := 17) hx hb dL_next_10 (by decide) ?_
    refine lv_iconst (v := 0) hx hb dL_next_17 (by decide) ?_
    refine W.widen (k := 1) (n := 6) (Nat.le_of_ble_eq_true rfl) (Nat.le_of_ble_eq_true rfl) ?_
    exact rtL C0 hr hlk hR hS h dL_next_18
def FW_bar (a1 a2 : Int32) (Sc : sSt) (o : Int64) (k : Int32 → sSt → Int64 → Prop) : Prop := F_X11_bar a1 a2 Sc (fun r S1 => k 0 S1 r.toInt64) (fun E S1 => (E = "java/lang/IndexOutOfBoundsException" → k 1 S1 o) ∧ (¬ E = "java/lang/IndexOutOfBoundsException" → False))
set_option maxHeartbeats 4000000 in
set_option maxRecDepth 100000 in
theorem cw_bar (l : Launch) (hl0 : l.stackTraces = false) {D : va_G} {cy : Nat → ClassId} {b : Nat} {tx : TX} {a1 a2 : Int32} {Sc Sm : sSt} {o : Int64} {k : Int32 → sSt → Int64 → Prop} (h : FW_bar a1 a2 Sc o k) : Met l yL_bar (Cond.codeWith yL_bar cL_bar 5 (some .int) [(0, 10, 13, 21)] :: TB) ({ frames := 8, cells := 2, slots := 12, locals := 147 }) (va_Pc [.ref (b + adC 0 0), .int a1, .int a2, .ref (b + 721)] (fun U => RelL D cy b tx Sc Sm o U U.heap ∧ TxR tx U ∧ TxN U)) (PwL D cy b tx Sm k) 2 12 (bA b) := by
  refine met_ofWH (cc := cL_bar) (maxL := 5) (ret := (some .int)) (by decide) rfl ?_
  intro p e s m args below meth c s₁ B hml hv
  obtain ⟨rfl, hR, hT, hN⟩ := hv
  have htab : c.exceptionTable.toList = tableOf [(0, 10, 13, 21)] := vx_table (x := yL_bar) B (atoms_spec B.pre _ List.mem_cons_self)
  have C0 : CallFix p m c cL_bar 5 s _ TB RL := ⟨B.exec, B.bytes, hml, findClass_of_methodNamed B.named, fun w hw => atoms_spec B.pre w (List.mem_cons_of_mem _ hw)⟩
  have hr := B.returns
  have hlk := B.notSynchronized
  have hx := C0.1
  have hb := C0.2.1
  have hS : va_S (bA b) s.heap s.heap [] := va_S.rf
  have hl := lv_entry ([.ref (b + adC 0 0), .int a1, .int a2, .ref (b + 721)]) (n := 5) (Nat.le_of_ble_eq_true rfl)
  rw [lg_entry_eq]
  generalize (lg_sl ([.ref (b + adC 0 0), .int a1, .int a2, .ref (b + 721)]) ++ List.replicate (5 - (lg_sl ([.ref (b + adC 0 0), .int a1, .int a2, .ref (b + 721)])).length) Slot.unset).toArray = ls at hl ⊢
  have hl : lv_has ls 5 [(0, .ref (b + adC 0 0)), (1, .int a1), (2, .int a2), (3, .ref (b + 721))] := hl
  show W p l e ({ frames := 8, cells := 2, slots := 12, locals := 147 }) s m _ below meth c s.heap [] 0 0 (MQ below (PwL D cy b tx Sm k) _ s 2 12 (bA b)) _
  unfold FW_bar at h
  refine lv_aload_n hx hb dL_bar_0 rfl (lv_at hl 3 rfl) ?_
  refine lv_iconst (v := 0) hx hb dL_bar_1 (by decide) ?_
  refine lv_aload_n hx hb dL_bar_2 rfl (lv_at hl 0 rfl) ?_
  refine lv_iload_n hx hb dL_bar_3 rfl (lv_at hl 1 rfl) ?_
  refine lv_iload_n hx hb dL_bar_4 rfl (lv_at hl 2 rfl) ?_
  refine qLX (As := [.int a1, .int a2]) (rest := [.int 0, .ref (b + 721)]) C0 (c_X11_bar l hl0 h) (cwV 2 C0.2.2.2.2 (tbV mL_6_128 ⟨mL_6_129, mL_6_130, mL_1_1, mL_6_131⟩) rfl rfl rfl (by decide +kernel) ⟨Nat.le_of_ble_eq_true rfl, Nat.le_of_ble_eq_true rfl⟩) hR hT hS rfl hl.1 rfl (Nat.le_of_ble_eq_true rfl) dL_bar_5 ⟨Nat.le_of_ble_eq_true rfl, Nat.le_of_ble_eq_true rfl⟩ (fun E ce q9 S1 H locs h hR hS hce hcv hcl => ?_) (fun r S1 H locs h hR hS => ?_)
  · by_cases e0 : E = "java/lang/IndexOutOfBoundsException"
    · subst e0
      have h := h
      have h := h.1 rfl
      refine vx_catch C0.2.2.2.1 [] ⟨0, 10, 13, 21⟩ [] htab (fun z hz => absurd hz List.not_mem_nil) (by decide) (by decide) (C0.2.2.2.2 _ mL_4_128) ((hT.2 _ mL_4_139).use rfl) hce hcv hcl ?_
      refine lv_astore (lv' := [(4, .ref q9), (0, .ref (b + adC 0 0)), (1, .int a1), (2, .int a2), (3, .ref (b + 721))]) hx hb dL_bar_13 hl (by decide) rfl (fun ls hl => ?_)
      refine lv_iconst (v := 1) hx hb dL_bar_15 (by decide) ?_
      refine W.widen (k := 2) (n := 12) (Nat.le_of_ble_eq_true rfl) (Nat.le_of_ble_eq_true rfl) ?_
      exact rtL C0 hr hlk hR hS h dL_bar_16
    exact (h.2 e0).elim
  · refine lv_i2l (v := r.toInt64) hx hb dL_bar_8 rfl ?_
    refine lw_put C0 hR hS dL_bar_9 (fun H locs hR hS => ?_)
    refine lv_goto (tgt := 17) hx hb dL_bar_10 (by decide) ?_
    refine lv_iconst (v := 0) hx hb dL_bar_17 (by decide) ?_
    refine W.widen (k := 2) (n := 12) (Nat.le_of_ble_eq_true rfl) (Nat.le_of_ble_eq_true rfl) ?_
    exact rtL C0 hr hlk hR hS h dL_bar_18
def FW_race (a1 a2 : Int32) (Sc : sSt) (o : Int64) (k : Int32 → sSt → Int64 → Prop) : Prop := F_X11_race a1 a2 Sc (fun r S1 => k 0 S1 r.toInt64) (fun E S1 => (E = "java/lang/IndexOutOfBoundsException" → k 1 S1 o) ∧ (¬ E = "java/lang/IndexOutOfBoundsException" → (E = "java/lang/IllegalArgumentException" → k 2 S1 o) ∧ (¬ E = "java/lang/IllegalArgumentException" → False)))
set_option maxHeartbeats 4000000 in
set_option maxRecDepth 100000 in
theorem cw_race (l : Launch) (hl0 : l.stackTraces = false) {D : va_G} {cy : Nat → ClassId} {b : Nat} {tx : TX} {a1 a2 : Int32} {Sc Sm : sSt} {o : Int64} {k : Int32 → sSt → Int64 → Prop} (h : FW_race a1 a2 Sc o k) : Met l yL_race (Cond.codeWith yL_race cL_race 5 (some .int) [(0, 10, 13, 21), (0, 10, 17, 13)] :: TB) ({ frames := 8, cells := 3, slots := 18, locals := 168 }) (va_Pc [.ref (b + adC 0 0), .int a1, .int a2, .ref (b + 721)] (fun U => RelL D cy b tx Sc Sm o U U.heap ∧ TxR tx U ∧ TxN U)) (PwL D cy b tx Sm k) 3 18 (bA b) := by
  refine met_ofWH (cc := cL_race) (maxL := 5) (ret := (some .int)) (by decide) rfl ?_
  intro p e s m args below meth c s₁ B hml hv
  obtain ⟨rfl, hR, hT, hN⟩ := hv
  have htab : c.exceptionTable.toList = tableOf [(0, 10, 13, 21), (0, 10, 17, 13)] := vx_table (x := yL_race) B (atoms_spec B.pre _ List.mem_cons_self)
  have C0 : CallFix p m c cL_race 5 s _ TB RL := ⟨B.exec, B.bytes, hml, findClass_of_methodNamed B.named, fun w hw => atoms_spec B.pre w (List.mem_cons_of_mem _ hw)⟩
  have hr := B.returns
  have hlk := B.notSynchronized
  have hx := C0.1
  have hb := C0.2.1
  have hS : va_S (bA b) s.heap s.heap [] := va_S.rf
  have hl := lv_entry ([.ref (b + adC 0 0), .int a1, .int a2, .ref (b + 721)]) (n := 5) (Nat.le_of_ble_eq_true rfl)
  rw [lg_entry_eq]
  generalize (lg_sl ([.ref (b + adC 0 0), .int a1, .int a2, .ref (b + 721)]) ++ List.replicate (5 - (lg_sl ([.ref (b + adC 0 0), .int a1, .int a2, .ref (b + 721)])).length) Slot.unset).toArray = ls at hl ⊢
  have hl : lv_has ls 5 [(0, .ref (b + adC 0 0)), (1, .int a1), (2, .int a2), (3, .ref (b + 721))] := hl
  show W p l e ({ frames := 8, cells := 3, slots := 18, locals := 168 }) s m _ below meth c s.heap [] 0 0 (MQ below (PwL D cy b tx Sm k) _ s 3 18 (bA b)) _
  unfold FW_race at h
  refine lv_aload_n hx hb dL_race_0 rfl (lv_at hl 3 rfl) ?_
  refine lv_iconst (v := 0) hx hb dL_race_1 (by decide) ?_
  refine lv_aload_n hx hb dL_race_2 rfl (lv_at hl 0 rfl) ?_
  refine lv_iload_n hx hb dL_race_3 rfl (lv_at hl 1 rfl) ?_
  refine lv_iload_n hx hb dL_race_4 rfl (lv_at hl 2 rfl) ?_
  refine qLX (As := [.int a1, .int a2]) (rest := [.int 0, .ref (b + 721)]) C0 (c_X11_race l hl0 h) (cwV 2 C0.2.2.2.2 (tbV mL_6_142 ⟨mL_6_143, mL_6_144, mL_1_1, mL_6_145⟩) rfl rfl rfl (by decide +kernel) ⟨Nat.le_of_ble_eq_true rfl, Nat.le_of_ble_eq_true rfl⟩) hR hT hS rfl hl.1 rfl (Nat.le_of_ble_eq_true rfl) dL_race_5 ⟨Nat.le_of_ble_eq_true rfl, Nat.le_of_ble_eq_true rfl⟩ (fun E ce q9 S1 H locs h hR hS hce hcv hcl => ?_) (fun r S1 H locs h hR hS => ?_)
  · by_cases e0 : E = "java/lang/IndexOutOfBoundsException"
    · subst e0
      have h := h
      have h := h.1 rfl
      refine vx_catch C0.2.2.2.1 [] ⟨0, 10, 13, 21⟩ [⟨0, 10, 17, 13⟩] htab (fun z hz => absurd hz List.not_mem_nil) (by decide) (by decide) (C0.2.2.2.2 _ mL_4_128) ((hT.2 _ mL_4_139).use rfl) hce hcv hcl ?_
      refine lv_astore (lv' := [(4, .ref q9), (0, .ref (b + adC 0 0)), (1, .int a1), (2, .int a2), (3, .ref (b + 721))]) hx hb dL_race_13 hl (by decide) rfl (fun ls hl => ?_)
      refine lv_iconst (v := 1) hx hb dL_race_15 (by decide) ?_
      refine W.widen (k := 3) (n := 18) (Nat.le_of_ble_eq_true rfl) (Nat.le_of_ble_eq_true rfl) ?_
      exact rtL C0 hr hlk hR hS h dL_race_16
    by_cases e1 : E = "java/lang/IllegalArgumentException"
    · subst e1
      have h := h
      have h := (h.2 e0).1 rfl
      refine vx_catch C0.2.2.2.1 [⟨0, 10, 13, 21⟩] ⟨0, 10, 17, 13⟩ [] htab (fun z hz => Or.inr (by
        rcases (show z = ⟨0, 10, 13, 21⟩ by simpa using hz) with rfl
        · exact ⟨by decide, "java/lang/IndexOutOfBoundsException", C0.2.2.2.2 _ mL_4_128, hN ("java/lang/IllegalArgumentException", "java/lang/IndexOutOfBoundsException") (by decide)⟩
        )) (by decide) (by decide) (C0.2.2.2.2 _ mL_3_112) ((hT.2 _ mL_4_47).use rfl) hce hcv hcl ?_
      refine lv_astore (lv' := [(4, .ref q9), (0, .ref (b + adC 0 0)), (1, .int a1), (2, .int a2), (3, .ref (b + 721))]) hx hb dL_race_17 hl (by decide) rfl (fun ls hl => ?_)
      refine lv_iconst (v := 2) hx hb dL_race_19 (by decide) ?_
      refine W.widen (k := 3) (n := 18) (Nat.le_of_ble_eq_true rfl) (Nat.le_of_ble_eq_true rfl) ?_
      exact rtL C0 hr hlk hR hS h dL_race_20
    exact ((h.2 e0).2 e1).elim
  · refine lv_i2l (v := r.toInt64) hx hb dL_race_8 rfl ?_
    refine lw_put C0 hR hS dL_race_9 (fun H locs hR hS => ?_)
    refine lv_goto (tgt := 21) hx hb dL_race_10 (by decide) ?_
    refine lv_iconst (v := 0) hx hb dL_race_21 (by decide) ?_
    refine W.widen (k := 3) (n := 18) (Nat.le_of_ble_eq_true rfl) (Nat.le_of_ble_eq_true rfl) ?_
    exact rtL C0 hr hlk hR hS h dL_race_22
def FW_passed (a1 a2 : Int32) (Sc : sSt) (o : Int64) (k : Int32 → sSt → Int64 → Prop) : Prop := F_X11_passed a1 a2 Sc (fun r S1 => k 0 S1 r.toInt64) (fun E S1 => (E = "java/lang/IndexOutOfBoundsException" → k 1 S1 o) ∧ (¬ E = "java/lang/IndexOutOfBoundsException" → False))
set_option maxHeartbeats 4000000 in
set_option maxRecDepth 100000 in
theorem cw_passed (l : Launch) (hl0 : l.stackTraces = false) {D : va_G} {cy : Nat → ClassId} {b : Nat} {tx : TX} {a1 a2 : Int32} {Sc Sm : sSt} {o : Int64} {k : Int32 → sSt → Int64 → Prop} (h : FW_passed a1 a2 Sc o k) : Met l yL_passed (Cond.codeWith yL_passed cL_passed 5 (some .int) [(0, 10, 13, 21)] :: TB) ({ frames := 8, cells := 2, slots := 12, locals := 146 }) (va_Pc [.ref (b + adC 0 0), .int a1, .int a2, .ref (b + 721)] (fun U => RelL D cy b tx Sc Sm o U U.heap ∧ TxR tx U ∧ TxN U)) (PwL D cy b tx Sm k) 2 12 (bA b) := by
  refine met_ofWH (cc := cL_passed) (maxL := 5) (ret := (some .int)) (by decide) rfl ?_
  intro p e s m args below meth c s₁ B hml hv
  obtain ⟨rfl, hR, hT, hN⟩ := hv
  have htab : c.exceptionTable.toList = tableOf [(0, 10, 13, 21)] := vx_table (x := yL_passed) B (atoms_spec B.pre _ List.mem_cons_self)
  have C0 : CallFix p m c cL_passed 5 s _ TB RL := ⟨B.exec, B.bytes, hml, findClass_of_methodNamed B.named, fun w hw => atoms_spec B.pre w (List.mem_cons_of_mem _ hw)⟩
  have hr := B.returns
  have hlk := B.notSynchronized
  have hx := C0.1
  have hb := C0.2.1
  have hS : va_S (bA b) s.heap s.heap [] := va_S.rf
  have hl := lv_entry ([.ref (b + adC 0 0), .int a1, .int a2, .ref (b + 721)]) (n := 5) (Nat.le_of_ble_eq_true rfl)
  rw [lg_entry_eq]
  generalize (lg_sl ([.ref (b + adC 0 0), .int a1, .int a2, .ref (b + 721)]) ++ List.replicate (5 - (lg_sl ([.ref (b + adC 0 0), .int a1, .int a2, .ref (b + 721)])).length) Slot.unset).toArray = ls at hl ⊢
  have hl : lv_has ls 5 [(0, .ref (b + adC 0 0)), (1, .int a1), (2, .int a2), (3, .ref (b + 721))] := hl
  show W p l e ({ frames := 8, cells := 2, slots := 12, locals := 146 }) s m _ below meth c s.heap [] 0 0 (MQ below (PwL D cy b tx Sm k) _ s 2 12 (bA b)) _
  unfold FW_passed at h
  refine lv_aload_n hx hb dL_passed_0 rfl (lv_at hl 3 rfl) ?_
  refine lv_iconst (v := 0) hx hb dL_passed_1 (by decide) ?_
  refine lv_aload_n hx hb dL_passed_2 rfl (lv_at hl 0 rfl) ?_
  refine lv_iload_n hx hb dL_passed_3 rfl (lv_at hl 1 rfl) ?_
  refine lv_iload_n hx hb dL_passed_4 rfl (lv_at hl 2 rfl) ?_
  refine qLX (As := [.int a1, .int a2]) (rest := [.int 0, .ref (b + 721)]) C0 (c_X11_passed l hl0 h) (cwV 2 C0.2.2.2.2 (tbV mL_6_167 ⟨mL_6_168, mL_6_169, mL_1_1, mL_6_170⟩) rfl rfl rfl (by decide +kernel) ⟨Nat.le_of_ble_eq_true rfl, Nat.le_of_ble_eq_true rfl⟩) hR hT hS rfl hl.1 rfl (Nat.le_of_ble_eq_true rfl) dL_passed_5 ⟨Nat.le_of_ble_eq_true rfl, Nat.le_of_ble_eq_true rfl⟩ (fun E ce q9 S1 H locs h hR hS hce hcv hcl => ?_) (fun r S1 H locs h hR hS => ?_)
  · by_cases e0 : E = "java/lang/IndexOutOfBoundsException"
    · subst e0
      have h := h
      have h := h.1 rfl
      refine vx_catch C0.2.2.2.1 [] ⟨0, 10, 13, 21⟩ [] htab (fun z hz => absurd hz List.not_mem_nil) (by decide) (by decide) (C0.2.2.2.2 _ mL_4_128) ((hT.2 _ mL_4_139).use rfl) hce hcv hcl ?_
      refine lv_astore (lv' := [(4, .ref q9), (0, .ref (b + adC 0 0)), (1, .int a1), (2, .int a2), (3, .ref (b + 721))]) hx hb dL_passed_13 hl (by decide) rfl (fun ls hl => ?_)
      refine lv_iconst (v := 1) hx hb dL_passed_15 (by decide) ?_
      refine W.widen (k := 2) (n := 12) (Nat.le_of_ble_eq_true rfl) (Nat.le_of_ble_eq_true rfl) ?_
      exact rtL C0 hr hlk hR hS h dL_passed_16
    exact (h.2 e0).elim
  · refine lv_i2l (v := r.toInt64) hx hb dL_passed_8 rfl ?_
    refine lw_put C0 hR hS dL_passed_9 (fun H locs hR hS => ?_)
    refine lv_goto (tgt := 17) hx hb dL_passed_10 (by decide) ?_
    refine lv_iconst (v := 0) hx hb dL_passed_17 (by decide) ?_
    refine W.widen (k := 2) (n := 12) (Nat.le_of_ble_eq_true rfl) (Nat.le_of_ble_eq_true rfl) ?_
    exact rtL C0 hr hlk hR hS h dL_passed_18
def FW_again (a1 a2 a3 : Int32) (Sc : sSt) (o : Int64) (k : Int32 → sSt → Int64 → Prop) : Prop := F_X11_again a1 a2 a3 Sc (fun r S1 => k 0 S1 r.toInt64) (fun E S1 => (E = "java/lang/IndexOutOfBoundsException" → k 1 S1 o) ∧ (¬ E = "java/lang/IndexOutOfBoundsException" → False))
set_option maxHeartbeats 4000000 in
set_option maxRecDepth 100000 in
theorem cw_again (l : Launch) (hl0 : l.stackTraces = false) {D : va_G} {cy : Nat → ClassId} {b : Nat} {tx : TX} {a1 a2 a3 : Int32} {Sc Sm : sSt} {o : Int64} {k : Int32 → sSt → Int64 → Prop} (h : FW_again a1 a2 a3 Sc o k) : Met l yL_again (Cond.codeWith yL_again cL_again 6 (some .int) [(0, 12, 15, 21)] :: TB) ({ frames := 9, cells := 2, slots := 12, locals := 155 }) (va_Pc [.ref (b + adC 0 0), .int a1, .int a2, .int a3, .ref (b + 721)] (fun U => RelL D cy b tx Sc Sm o U U.heap ∧ TxR tx U ∧ TxN U)) (PwL D cy b tx Sm k) 2 12 (bA b) := by
  refine met_ofWH (cc := cL_again) (maxL := 6) (ret := (some .int)) (by decide) rfl ?_
  intro p e s m args below meth c s₁ B hml hv
  obtain ⟨rfl, hR, hT, hN⟩ := hv
  have htab : c.exceptionTable.toList = tableOf [(0, 12, 15, 21)] := vx_table (x := yL_again) B (atoms_spec B.pre _ List.mem_cons_self)
  have C0 : CallFix p m c cL_again 6 s _ TB RL := ⟨B.exec, B.bytes, hml, findClass_of_methodNamed B.named, fun w hw => atoms_spec B.pre w (List.mem_cons_of_mem _ hw)⟩
  have hr := B.returns
  have hlk := B.notSynchronized
  have hx := C0.1
  have hb := C0.2.1
  have hS : va_S (bA b) s.heap s.heap [] := va_S.rf
  have hl := lv_entry ([.ref (b + adC 0 0), .int a1, .int a2, .int a3, .ref (b + 721)]) (n := 6) (Nat.le_of_ble_eq_true rfl)
  rw [lg_entry_eq]
  generalize (lg_sl ([.ref (b + adC 0 0), .int a1, .int a2, .int a3, .ref (b + 721)]) ++ List.replicate (6 - (lg_sl ([.ref (b + adC 0 0), .int a1, .int a2, .int a3, .ref (b + 721)])).length) Slot.unset).toArray = ls at hl ⊢
  have hl : lv_has ls 6 [(0, .ref (b + adC 0 0)), (1, .int a1), (2, .int a2), (3, .int a3), (4, .ref (b + 721))] := hl
  show W p l e ({ frames := 9, cells := 2, slots := 12, locals := 155 }) s m _ below meth c s.heap [] 0 0 (MQ below (PwL D cy b tx Sm k) _ s 2 12 (bA b)) _
  unfold FW_again at h
  refine lv_aload hx hb dL_again_0 (lv_at hl 4 rfl) ?_
  refine lv_iconst (v := 0) hx hb dL_again_2 (by decide) ?_
  refine lv_aload_n hx hb dL_again_3 rfl (lv_at hl 0 rfl) ?_
  refine lv_iload_n hx hb dL_again_4 rfl (lv_at hl 1 rfl) ?_
  refine lv_iload_n hx hb dL_again_5 rfl (lv_at hl 2 rfl) ?_
  refine lv_iload_n hx hb dL_again_6 rfl (lv_at hl 3 rfl) ?_
  refine qLX (As := [.int a1, .int a2, .int a3]) (rest := [.int 0, .ref (b + 721)]) C0 (c_X11_again l hl0 h) (cwV 3 C0.2.2.2.2 (tbV mL_6_177 ⟨mL_6_178, mL_6_179, mL_1_1, mL_6_180⟩) rfl rfl rfl (by decide +kernel) ⟨Nat.le_of_ble_eq_true rfl, Nat.le_of_ble_eq_true rfl⟩) hR hT hS rfl hl.1 rfl (Nat.le_of_ble_eq_true rfl) dL_again_7 ⟨Nat.le_of_ble_eq_true rfl, Nat.le_of_ble_eq_true rfl⟩ (fun E ce q9 S1 H locs h hR hS hce hcv hcl => ?_) (fun r S1 H locs h hR hS => ?_)
  · by_cases e0 : E = "java/lang/IndexOutOfBoundsException"
    · subst e0
      have h := h
      have h := h.1 rfl
      refine vx_catch C0.2.2.2.1 [] ⟨0, 12, 15, 21⟩ [] htab (fun z hz => absurd hz List.not_mem_nil) (by decide) (by decide) (C0.2.2.2.2 _ mL_4_128) ((hT.2 _ mL_4_139).use rfl) hce hcv hcl ?_
      refine lv_astore (lv' := [(5, .ref q9), (0, .ref (b + adC 0 0)), (1, .int a1), (2, .int a2), (3, .int a3), (4, .ref (b + 721))]) hx hb dL_again_15 hl (by decide) rfl (fun ls hl => ?_)
      refine lv_iconst (v := 1) hx hb dL_again_17 (by decide) ?_
      refine W.widen (k := 2) (n := 12) (Nat.le_of_ble_eq_true rfl) (Nat.le_of_ble_eq_true rfl) ?_
      exact rtL C0 hr hlk hR hS h dL_again_18
    exact (h.2 e0).elim
  · refine lv_i2l (v := r.toInt64) hx hb dL_again_10 rfl ?_
    refine lw_put C0 hR hS dL_again_11 (fun H locs hR hS => ?_)
    refine lv_goto (tgt := 19) hx hb dL_again_12 (by decide) ?_
    refine lv_iconst (v := 0) hx hb dL_again_19 (by decide) ?_
    refine W.widen (k := 2) (n := 12) (Nat.le_of_ble_eq_true rfl) (Nat.le_of_ble_eq_true rfl) ?_
    exact rtL C0 hr hlk hR hS h dL_again_20
def FW_would (a1 a2 : Int32) (Sc : sSt) (o : Int64) (k : Int32 → sSt → Int64 → Prop) : Prop := F_X11_would a1 a2 Sc (fun r S1 => k 0 S1 r.toInt64) (fun E S1 => (E = "java/lang/IllegalArgumentException" → k 1 S1 o) ∧ (¬ E = "java/lang/IllegalArgumentException" → False))
set_option maxHeartbeats 4000000 in
set_option maxRecDepth 100000 in
theorem cw_would (l : Launch) (hl0 : l.stackTraces = false) {D : va_G} {cy : Nat → ClassId} {b : Nat} {tx : TX} {a1 a2 : Int32} {Sc Sm : sSt} {o : Int64} {k : Int32 → sSt → Int64 → Prop} (h : FW_would a1 a2 Sc o k) : Met l yL_would (Cond.codeWith yL_would cL_would 5 (some .int) [(0, 10, 13, 13)] :: TB) ({ frames := 7, cells := 1, slots := 6, locals := 138 }) (va_Pc [.ref (b + adC 0 0), .int a1, .int a2, .ref (b + 721)] (fun U => RelL D cy b tx Sc Sm o U U.heap ∧ TxR tx U ∧ TxN U)) (PwL D cy b tx Sm k) 1 6 (bA b) := by
  refine met_ofWH (cc := cL_would) (maxL := 5) (ret := (some .int)) (by decide) rfl ?_
  intro p e s m args below meth c s₁ B hml hv
  obtain ⟨rfl, hR, hT, hN⟩ := hv
  have htab : c.exceptionTable.toList = tableOf [(0, 10, 13, 13)] := vx_table (x := yL_would) B (atoms_spec B.pre _ List.mem_cons_self)
  have C0 : CallFix p m c cL_would 5 s _ TB RL := ⟨B.exec, B.bytes, hml, findClass_of_methodNamed B.named, fun w hw => atoms_spec B.pre w (List.mem_cons_of_mem _ hw)⟩
  have hr := B.returns
  have hlk := B.notSynchronized
  have hx := C0.1
  have hb := C0.2.1
  have hS : va_S (bA b) s.heap s.heap [] := va_S.rf
  have hl := lv_entry ([.ref (b + adC 0 0), .int a1, .int a2, .ref (b + 721)]) (n := 5) (Nat.le_of_ble_eq_true rfl)
  rw [lg_entry_eq]
  generalize (lg_sl ([.ref (b + adC 0 0), .int a1, .int a2, .ref (b + 721)]) ++ List.replicate (5 - (lg_sl ([.ref (b + adC 0 0), .int a1, .int a2, .ref (b + 721)])).length) Slot.unset).toArray = ls at hl ⊢
  have hl : lv_has ls 5 [(0, .ref (b + adC 0 0)), (1, .int a1), (2, .int a2), (3, .ref (b + 721))] := hl
  show W p l e ({ frames := 7, cells := 1, slots := 6, locals := 138 }) s m _ below meth c s.heap [] 0 0 (MQ below (PwL D cy b tx Sm k) _ s 1 6 (bA b)) _
  unfold FW_would at h
  refine lv_aload_n hx hb dL_would_0 rfl (lv_at hl 3 rfl) ?_
  refine lv_iconst (v := 0) hx hb dL_would_1 (by decide) ?_
  refine lv_aload_n hx hb dL_would_2 rfl (lv_at hl 0 rfl) ?_
  refine lv_iload_n hx hb dL_would_3 rfl (lv_at hl 1 rfl) ?_
  refine lv_iload_n hx hb dL_would_4 rfl (lv_at hl 2 rfl) ?_
  refine qLX (As := [.int a1, .int a2]) (rest := [.int 0, .ref (b + 721)]) C0 (c_X11_would l hl0 h) (cwV 2 C0.2.2.2.2 (tbV mL_6_188 ⟨mL_6_189, mL_6_190, mL_1_1, mL_6_191⟩) rfl rfl rfl (by decide +kernel) ⟨Nat.le_of_ble_eq_true rfl, Nat.le_of_ble_eq_true rfl⟩) hR hT hS rfl hl.1 rfl (Nat.le_of_ble_eq_true rfl) dL_would_5 ⟨Nat.le_of_ble_eq_true rfl, Nat.le_of_ble_eq_true rfl⟩ (fun E ce q9 S1 H locs h hR hS hce hcv hcl => ?_) (fun r S1 H locs h hR hS => ?_)
  · by_cases e0 : E = "java/lang/IllegalArgumentException"
    · subst e0
      have h := h
      have h := h.1 rfl
      refine vx_catch C0.2.2.2.1 [] ⟨0, 10, 13, 13⟩ [] htab (fun z hz => absurd hz List.not_mem_nil) (by decide) (by decide) (C0.2.2.2.2 _ mL_3_112) ((hT.2 _ mL_4_47).use rfl) hce hcv hcl ?_
      refine lv_astore (lv' := [(4, .ref q9), (0, .ref (b + adC 0 0)), (1, .int a1), (2, .int a2), (3, .ref (b + 721))]) hx hb dL_would_13 hl (by decide) rfl (fun ls hl => ?_)
      refine lv_iconst (v := 1) hx hb dL_would_15 (by decide) ?_
      refine W.widen (k := 1) (n := 6) (Nat.le_of_ble_eq_true rfl) (Nat.le_of_ble_eq_true rfl) ?_
      exact rtL C0 hr hlk hR hS h dL_would_16
    exact (h.2 e0).elim
  · refine lv_i2l (v := r.toInt64) hx hb dL_would_8 rfl ?_
    refine lw_put C0 hR hS dL_would_9 (fun H locs hR hS => ?_)
    refine lv_goto (tgt := 17) hx hb dL_would_10 (by decide) ?_
    refine lv_iconst (v := 0) hx hb dL_would_17 (by decide) ?_
    refine W.widen (k := 1) (n := 6) (Nat.le_of_ble_eq_true rfl) (Nat.le_of_ble_eq_true rfl) ?_
    exact rtL C0 hr hlk hR hS h dL_would_18
def FW_work (a1 a2 : Int32) (Sc : sSt) (o : Int64) (k : Int32 → sSt → Int64 → Prop) : Prop := F_X11_work a1 a2 Sc (fun r S1 => k 0 S1 r.toInt64) (fun E S1 => (E = "java/lang/IllegalArgumentException" → k 1 S1 o) ∧ (¬ E = "java/lang/IllegalArgumentException" → (E = "java/lang/IndexOutOfBoundsException" → k 2 S1 o) ∧ (¬ E = "java/lang/IndexOutOfBoundsException" → False)))
set_option maxHeartbeats 4000000 in
set_option maxRecDepth 100000 in
theorem cw_work (l : Launch) (hl0 : l.stackTraces = false) {D : va_G} {cy : Nat → ClassId} {b : Nat} {tx : TX} {a1 a2 : Int32} {Sc Sm : sSt} {o : Int64} {k : Int32 → sSt → Int64 → Prop} (h : FW_work a1 a2 Sc o k) : Met l yL_work (Cond.codeWith yL_work cL_work 5 (some .int) [(0, 10, 13, 13), (0, 10, 17, 21)] :: TB) ({ frames := 8, cells := 2, slots := 12, locals := 134 }) (va_Pc [.ref (b + adC 0 0), .int a1, .int a2, .ref (b + 721)] (fun U => RelL D cy b tx Sc Sm o U U.heap ∧ TxR tx U ∧ TxN U)) (PwL D cy b tx Sm k) 2 12 (bA b) := by
  refine met_ofWH (cc := cL_work) (maxL := 5) (ret := (some .int)) (by decide) rfl ?_
  intro p e s m args below meth c s₁ B hml hv
  obtain ⟨rfl, hR, hT, hN⟩ := hv
  have htab : c.exceptionTable.toList = tableOf [(0, 10, 13, 13), (0, 10, 17, 21)] := vx_table (x := yL_work) B (atoms_spec B.pre _ List.mem_cons_self)
  have C0 : CallFix p m c cL_work 5 s _ TB RL := ⟨B.exec, B.bytes, hml, findClass_of_methodNamed B.named, fun w hw => atoms_spec B.pre w (List.mem_cons_of_mem _ hw)⟩
  have hr := B.returns
  have hlk := B.notSynchronized
  have hx := C0.1
  have hb := C0.2.1
  have hS : va_S (bA b) s.heap s.heap [] := va_S.rf
  have hl := lv_entry ([.ref (b + adC 0 0), .int a1, .int a2, .ref (b + 721)]) (n := 5) (Nat.le_of_ble_eq_true rfl)
  rw [lg_entry_eq]
  generalize (lg_sl ([.ref (b + adC 0 0), .int a1, .int a2, .ref (b + 721)]) ++ List.replicate (5 - (lg_sl ([.ref (b + adC 0 0), .int a1, .int a2, .ref (b + 721)])).length) Slot.unset).toArray = ls at hl ⊢
  have hl : lv_has ls 5 [(0, .ref (b + adC 0 0)), (1, .int a1), (2, .int a2), (3, .ref (b + 721))] := hl
  show W p l e ({ frames := 8, cells := 2, slots := 12, locals := 134 }) s m _ below meth c s.heap [] 0 0 (MQ below (PwL D cy b tx Sm k) _ s 2 12 (bA b)) _
  unfold FW_work at h
  refine lv_aload_n hx hb dL_work_0 rfl (lv_at hl 3 rfl) ?_
  refine lv_iconst (v := 0) hx hb dL_work_1 (by decide) ?_
  refine lv_aload_n hx hb dL_work_2 rfl (lv_at hl 0 rfl) ?_
  refine lv_iload_n hx hb dL_work_3 rfl (lv_at hl 1 rfl) ?_
  refine lv_iload_n hx hb dL_work_4 rfl (lv_at hl 2 rfl) ?_
  refine qLX (As := [.int a1, .int a2]) (rest := [.int 0, .ref (b + 721)]) C0 (c_X11_work l hl0 h) (cwV 2 C0.2.2.2.2 (tbV mL_6_195 ⟨mL_6_196, mL_6_197, mL_1_1, mL_6_198⟩) rfl rfl rfl (by decide +kernel) ⟨Nat.le_of_ble_eq_true rfl, Nat.le_of_ble_eq_true rfl⟩) hR hT hS rfl hl.1 rfl (Nat.le_of_ble_eq_true rfl) dL_work_5 ⟨Nat.le_of_ble_eq_true rfl, Nat.le_of_ble_eq_true rfl⟩ (fun E ce q9 S1 H locs h hR hS hce hcv hcl => ?_) (fun r S1 H locs h hR hS => ?_)
  · by_cases e0 : E = "java/lang/IllegalArgumentException"
    · subst e0
      have h := h
      have h := h.1 rfl
      refine vx_catch C0.2.2.2.1 [] ⟨0, 10, 13, 13⟩ [⟨0, 10, 17, 21⟩] htab (fun z hz => absurd hz List.not_mem_nil) (by decide) (by decide) (C0.2.2.2.2 _ mL_3_112) ((hT.2 _ mL_4_47).use rfl) hce hcv hcl ?_
      refine lv_astore (lv' := [(4, .ref q9), (0, .ref (b + adC 0 0)), (1, .int a1), (2, .int a2), (3, .ref (b + 721))]) hx hb dL_work_13 hl (by decide) rfl (fun ls hl => ?_)
      refine lv_iconst (v := 1) hx hb dL_work_15 (by decide) ?_
      refine W.widen (k := 2) (n := 12) (Nat.le_of_ble_eq_true rfl) (Nat.le_of_ble_eq_true rfl) ?_
      exact rtL C0 hr hlk hR hS h dL_work_16
    by_cases e1 : E = "java/lang/IndexOutOfBoundsException"
    · subst e1
      have h := h
      have h := (h.2 e0).1 rfl
      refine vx_catch C0.2.2.2.1 [⟨0, 10, 13, 13⟩] ⟨0, 10, 17, 21⟩ [] htab (fun z hz => Or.inr (by
        rcases (show z = ⟨0, 10, 13, 13⟩ by simpa using hz) with rfl
        · exact ⟨by decide, "java/lang/IllegalArgumentException", C0.2.2.2.2 _ mL_3_112, hN ("java/lang/IndexOutOfBoundsException", "java/lang/IllegalArgumentException") (by decide)⟩
        )) (by decide) (by decide) (C0.2.2.2.2 _ mL_4_128) ((hT.2 _ mL_4_139).use rfl) hce hcv hcl ?_
      refine lv_astore (lv' := [(4, .ref q9), (0, .ref (b + adC 0 0)), (1, .int a1), (2, .int a2), (3, .ref (b + 721))]) hx hb dL_work_17 hl (by decide) rfl (fun ls hl => ?_)
      refine lv_iconst (v := 2) hx hb dL_work_19 (by decide) ?_
      refine W.widen (k := 2) (n := 12) (Nat.le_of_ble_eq_true rfl) (Nat.le_of_ble_eq_true rfl) ?_
      exact rtL C0 hr hlk hR hS h dL_work_20
    exact ((h.2 e0).2 e1).elim
  · refine lv_i2l (v := r.toInt64) hx hb dL_work_8 rfl ?_
    refine lw_put C0 hR hS dL_work_9 (fun H locs hR hS => ?_)
    refine lv_goto (tgt := 21) hx hb dL_work_10 (by decide) ?_
    refine lv_iconst (v := 0) hx hb dL_work_21 (by decide) ?_
    refine W.widen (k := 2) (n := 12) (Nat.le_of_ble_eq_true rfl) (Nat.le_of_ble_eq_true rfl) ?_
    exact rtL C0 hr hlk hR hS h dL_work_22
def FW_was (a1 a2 : Int32) (Sc : sSt) (o : Int64) (k : Int32 → sSt → Int64 → Prop) : Prop := F_X11_was a1 a2 Sc (fun r S1 => k 0 S1 r.toInt64) (fun E S1 => (E = "java/lang/IndexOutOfBoundsException" → k 1 S1 o) ∧ (¬ E = "java/lang/IndexOutOfBoundsException" → False))
set_option maxHeartbeats 4000000 in
set_option maxRecDepth 100000 in
theorem cw_was (l : Launch) (hl0 : l.stackTraces = false) {D : va_G} {cy : Nat → ClassId} {b : Nat} {tx : TX} {a1 a2 : Int32} {Sc Sm : sSt} {o : Int64} {k : Int32 → sSt → Int64 → Prop} (h : FW_was a1 a2 Sc o k) : Met l yL_was (Cond.codeWith yL_was cL_was 5 (some .int) [(0, 10, 13, 21)] :: TB) ({ frames := 8, cells := 1, slots := 6, locals := 134 }) (va_Pc [.ref (b + adC 0 0), .int a1, .int a2, .ref (b + 721)] (fun U => RelL D cy b tx Sc Sm o U U.heap ∧ TxR tx U ∧ TxN U)) (PwL D cy b tx Sm k) 1 6 (bA b) := by
  refine met_ofWH (cc := cL_was) (maxL := 5) (ret := (some .int)) (by decide) rfl ?_
  intro p e s m args below meth c s₁ B hml hv
  obtain ⟨rfl, hR, hT, hN⟩ := hv
  have htab : c.exceptionTable.toList = tableOf [(0, 10, 13, 21)] := vx_table (x := yL_was) B (atoms_spec B.pre _ List.mem_cons_self)
  have C0 : CallFix p m c cL_was 5 s _ TB RL := ⟨B.exec, B.bytes, hml, findClass_of_methodNamed B.named, fun w hw => atoms_spec B.pre w (List.mem_cons_of_mem _ hw)⟩
  have hr := B.returns
  have hlk := B.notSynchronized
  have hx := C0.1
  have hb := C0.2.1
  have hS : va_S (bA b) s.heap s.heap [] := va_S.rf
  have hl := lv_entry ([.ref (b + adC 0 0), .int a1, .int a2, .ref (b + 721)]) (n := 5) (Nat.le_of_ble_eq_true rfl)
  rw [lg_entry_eq]
  generalize (lg_sl ([.ref (b + adC 0 0), .int a1, .int a2, .ref (b + 721)]) ++ List.replicate (5 - (lg_sl ([.ref (b + adC 0 0), .int a1, .int a2, .ref (b + 721)])).length) Slot.unset).toArray = ls at hl ⊢
  have hl : lv_has ls 5 [(0, .ref (b + adC 0 0)), (1, .int a1), (2, .int a2), (3, .ref (b + 721))] := hl
  show W p l e ({ frames := 8, cells := 1, slots := 6, locals := 134 }) s m _ below meth c s.heap [] 0 0 (MQ below (PwL D cy b tx Sm k) _ s 1 6 (bA b)) _
  unfold FW_was at h
  refine lv_aload_n hx hb dL_was_0 rfl (lv_at hl 3 rfl) ?_
  refine lv_iconst (v := 0) hx hb dL_was_1 (by decide) ?_
  refine lv_aload_n hx hb dL_was_2 rfl (lv_at hl 0 rfl) ?_
  refine lv_iload_n hx hb dL_was_3 rfl (lv_at hl 1 rfl) ?_
  refine lv_iload_n hx hb dL_was_4 rfl (lv_at hl 2 rfl) ?_
  refine qLX (As := [.int a1, .int a2]) (rest := [.int 0, .ref (b + 721)]) C0 (c_X11_was l hl0 h) (cwV 2 C0.2.2.2.2 (tbV mL_6_222 ⟨mL_6_223, mL_6_224, mL_1_1, mL_6_225⟩) rfl rfl rfl (by decide +kernel) ⟨Nat.le_of_ble_eq_true rfl, Nat.le_of_ble_eq_true rfl⟩) hR hT hS rfl hl.1 rfl (Nat.le_of_ble_eq_true rfl) dL_was_5 ⟨Nat.le_of_ble_eq_true rfl, Nat.le_of_ble_eq_true rfl⟩ (fun E ce q9 S1 H locs h hR hS hce hcv hcl => ?_) (fun r S1 H locs h hR hS => ?_)
  · by_cases e0 : E = "java/lang/IndexOutOfBoundsException"
    · subst e0
      have h := h
      have h := h.1 rfl
      refine vx_catch C0.2.2.2.1 [] ⟨0, 10, 13, 21⟩ [] htab (fun z hz => absurd hz List.not_mem_nil) (by decide) (by decide) (C0.2.2.2.2 _ mL_4_128) ((hT.2 _ mL_4_139).use rfl) hce hcv hcl ?_
      refine lv_astore (lv' := [(4, .ref q9), (0, .ref (b + adC 0 0)), (1, .int a1), (2, .int a2), (3, .ref (b + 721))]) hx hb dL_was_13 hl (by decide) rfl (fun ls hl => ?_)
      refine lv_iconst (v := 1) hx hb dL_was_15 (by decide) ?_
      refine W.widen (k := 1) (n := 6) (Nat.le_of_ble_eq_true rfl) (Nat.le_of_ble_eq_true rfl) ?_
      exact rtL C0 hr hlk hR hS h dL_was_16
    exact (h.2 e0).elim
  · refine lv_i2l (v := r.toInt64) hx hb dL_was_8 rfl ?_
    refine lw_put C0 hR hS dL_was_9 (fun H locs hR hS => ?_)
    refine lv_goto (tgt := 17) hx hb dL_was_10 (by decide) ?_
    refine lv_iconst (v := 0) hx hb dL_was_17 (by decide) ?_
    refine W.widen (k := 1) (n := 6) (Nat.le_of_ble_eq_true rfl) (Nat.le_of_ble_eq_true rfl) ?_
    exact rtL C0 hr hlk hR hS h dL_was_18
def FW_overtaken (a1 : Int32) (Sc : sSt) (o : Int64) (k : Int32 → sSt → Int64 → Prop) : Prop := F_X11_overtaken a1 Sc (fun r S1 => k 0 S1 r.toInt64) (fun E S1 => (E = "java/lang/IndexOutOfBoundsException" → k 1 S1 o) ∧ (¬ E = "java/lang/IndexOutOfBoundsException" → False))
set_option maxHeartbeats 4000000 in
set_option maxRecDepth 100000 in
theorem cw_overtaken (l : Launch) (hl0 : l.stackTraces = false) {D : va_G} {cy : Nat → ClassId} {b : Nat} {tx : TX} {a1 : Int32} {Sc Sm : sSt} {o : Int64} {k : Int32 → sSt → Int64 → Prop} (h : FW_overtaken a1 Sc o k) : Met l yL_overtaken (Cond.codeWith yL_overtaken cL_overtaken 4 (some .int) [(0, 9, 12, 21)] :: TB) ({ frames := 8, cells := 1, slots := 6, locals := 136 }) (va_Pc [.ref (b + adC 0 0), .int a1, .ref (b + 721)] (fun U => RelL D cy b tx Sc Sm o U U.heap ∧ TxR tx U ∧ TxN U)) (PwL D cy b tx Sm k) 1 6 (bA b) := by
  refine met_ofWH (cc := cL_overtaken) (maxL := 4) (ret := (some .int)) (by decide) rfl ?_
  intro p e s m args below meth c s₁ B hml hv
  obtain ⟨rfl, hR, hT, hN⟩ := hv
  have htab : c.exceptionTable.toList = tableOf [(0, 9, 12, 21)] := vx_table (x := yL_overtaken) B (atoms_spec B.pre _ List.mem_cons_self)
  have C0 : CallFix p m c cL_overtaken 4 s _ TB RL := ⟨B.exec, B.bytes, hml, findClass_of_methodNamed B.named, fun w hw => atoms_spec B.pre w (List.mem_cons_of_mem _ hw)⟩
  have hr := B.returns
  have hlk := B.notSynchronized
  have hx := C0.1
  have hb := C0.2.1
  have hS : va_S (bA b) s.heap s.heap [] := va_S.rf
  have hl := lv_entry ([.ref (b + adC 0 0), .int a1, .ref (b + 721)]) (n := 4) (Nat.le_of_ble_eq_true rfl)
  rw [lg_entry_eq]
  generalize (lg_sl ([.ref (b + adC 0 0), .int a1, .ref (b + 721)]) ++ List.replicate (4 - (lg_sl ([.ref (b + adC 0 0), .int a1, .ref (b + 721)])).length) Slot.unset).toArray = ls at hl ⊢
  have hl : lv_has ls 4 [(0, .ref (b + adC 0 0)), (1, .int a1), (2, .ref (b + 721))] := hl
  show W p l e ({ frames := 8, cells := 1, slots := 6, locals := 136 }) s m _ below meth c s.heap [] 0 0 (MQ below (PwL D cy b tx Sm k) _ s 1 6 (bA b)) _
  unfold FW_overtaken at h
  refine lv_aload_n hx hb dL_overtaken_0 rfl (lv_at hl 2 rfl) ?_
  refine lv_iconst (v := 0) hx hb dL_overtaken_1 (by decide) ?_
  refine lv_aload_n hx hb dL_overtaken_2 rfl (lv_at hl 0 rfl) ?_
  refine lv_iload_n hx hb dL_overtaken_3 rfl (lv_at hl 1 rfl) ?_
  refine qLX (As := [.int a1]) (rest := [.int 0, .ref (b + 721)]) C0 (c_X11_overtaken l hl0 h) (cwV 1 C0.2.2.2.2 (tbV mL_6_233 ⟨mL_6_234, mL_6_235, mL_1_1, mL_6_236⟩) rfl rfl rfl (by decide +kernel) ⟨Nat.le_of_ble_eq_true rfl, Nat.le_of_ble_eq_true rfl⟩) hR hT hS rfl hl.1 rfl (Nat.le_of_ble_eq_true rfl) dL_overtaken_4 ⟨Nat.le_of_ble_eq_true rfl, Nat.le_of_ble_eq_true rfl⟩ (fun E ce q9 S1 H locs h hR hS hce hcv hcl => ?_) (fun r S1 H locs h hR hS => ?_)
  · by_cases e0 : E = "java/lang/IndexOutOfBoundsException"
    · subst e0
      have h := h
      have h := h.1 rfl
      refine vx_catch C0.2.2.2.1 [] ⟨0, 9, 12, 21⟩ [] htab (fun z hz => absurd hz List.not_mem_nil) (by decide) (by decide) (C0.2.2.2.2 _ mL_4_128) ((hT.2 _ mL_4_139).use rfl) hce hcv hcl ?_
      refine lv_astore_n (lv' := [(3, .ref q9), (0, .ref (b + adC 0 0)), (1, .int a1), (2, .ref (b + 721))]) hx hb dL_overtaken_12 rfl hl (by decide) rfl (fun ls hl => ?_)
      refine lv_iconst (v := 1) hx hb dL_overtaken_13 (by decide) ?_
      refine W.widen (k := 1) (n := 6) (Nat.le_of_ble_eq_true rfl) (Nat.le_of_ble_eq_true rfl) ?_
      exact rtL C0 hr hlk hR hS h dL_overtaken_14
    exact (h.2 e0).elim
  · refine lv_i2l (v := r.toInt64) hx hb dL_overtaken_7 rfl ?_
    refine lw_put C0 hR hS dL_overtaken_8 (fun H locs hR hS => ?_)
    refine lv_goto (tgt := 15) hx hb dL_overtaken_9 (by decide) ?_
    refine lv_iconst (v := 0) hx hb dL_overtaken_15 (by decide) ?_
    refine W.widen (k := 1) (n := 6) (Nat.le_of_ble_eq_true rfl) (Nat.le_of_ble_eq_true rfl) ?_
    exact rtL C0 hr hlk hR hS h dL_overtaken_16
def FW_alike (a1 a2 : Int32) (Sc : sSt) (o : Int64) (k : Int32 → sSt → Int64 → Prop) : Prop := F_X11_alike a1 a2 Sc (fun r S1 => k 0 S1 r.toInt64) (fun E S1 => (E = "java/lang/IndexOutOfBoundsException" → k 1 S1 o) ∧ (¬ E = "java/lang/IndexOutOfBoundsException" → (E = "java/lang/IllegalArgumentException" → k 2 S1 o) ∧ (¬ E = "java/lang/IllegalArgumentException" → False)))
set_option maxHeartbeats 4000000 in
set_option maxRecDepth 100000 in
theorem cw_alike (l : Launch) (hl0 : l.stackTraces = false) {D : va_G} {cy : Nat → ClassId} {b : Nat} {tx : TX} {a1 a2 : Int32} {Sc Sm : sSt} {o : Int64} {k : Int32 → sSt → Int64 → Prop} (h : FW_alike a1 a2 Sc o k) : Met l yL_alike (Cond.codeWith yL_alike cL_alike 5 (some .int) [(0, 10, 13, 21), (0, 10, 17, 13)] :: TB) ({ frames := 8, cells := 3, slots := 18, locals := 136 }) (va_Pc [.ref (b + adC 0 0), .int a1, .int a2, .ref (b + 721)] (fun U => RelL D cy b tx Sc Sm o U U.heap ∧ TxR tx U ∧ TxN U)) (PwL D cy b tx Sm k) 3 18 (bA b) := by
  refine met_ofWH (cc := cL_alike) (maxL := 5) (ret := (some .int)) (by decide) rfl ?_
  intro p e s m args below meth c s₁ B hml hv
  obtain ⟨rfl, hR, hT, hN⟩ := hv
  have htab : c.exceptionTable.toList = tableOf [(0, 10, 13, 21), (0, 10, 17, 13)] := vx_table (x := yL_alike) B (atoms_spec B.pre _ List.mem_cons_self)
  have C0 : CallFix p m c cL_alike 5 s _ TB RL := ⟨B.exec, B.bytes, hml, findClass_of_methodNamed B.named, fun w hw => atoms_spec B.pre w (List.mem_cons_of_mem _ hw)⟩
  have hr := B.returns
  have hlk := B.notSynchronized
  have hx := C0.1
  have hb := C0.2.1
  have hS : va_S (bA b) s.heap s.heap [] := va_S.rf
  have hl := lv_entry ([.ref (b + adC 0 0), .int a1, .int a2, .ref (b + 721)]) (n := 5) (Nat.le_of_ble_eq_true rfl)
  rw [lg_entry_eq]
  generalize (lg_sl ([.ref (b + adC 0 0), .int a1, .int a2, .ref (b + 721)]) ++ List.replicate (5 - (lg_sl ([.ref (b + adC 0 0), .int a1, .int a2, .ref (b + 721)])).length) Slot.unset).toArray = ls at hl ⊢
  have hl : lv_has ls 5 [(0, .ref (b + adC 0 0)), (1, .int a1), (2, .int a2), (3, .ref (b + 721))] := hl
  show W p l e ({ frames := 8, cells := 3, slots := 18, locals := 136 }) s m _ below meth c s.heap [] 0 0 (MQ below (PwL D cy b tx Sm k) _ s 3 18 (bA b)) _
  unfold FW_alike at h
  refine lv_aload_n hx hb dL_alike_0 rfl (lv_at hl 3 rfl) ?_
  refine lv_iconst (v := 0) hx hb dL_alike_1 (by decide) ?_
  refine lv_aload_n hx hb dL_alike_2 rfl (lv_at hl 0 rfl) ?_
  refine lv_iload_n hx hb dL_alike_3 rfl (lv_at hl 1 rfl) ?_
  refine lv_iload_n hx hb dL_alike_4 rfl (lv_at hl 2 rfl) ?_
  refine qLX (As := [.int a1, .int a2]) (rest := [.int 0, .ref (b + 721)]) C0 (c_X11_alike l hl0 h) (cwV 2 C0.2.2.2.2 (tbV mL_7_20 ⟨mL_7_21, mL_7_22, mL_1_1, mL_7_23⟩) rfl rfl rfl (by decide +kernel) ⟨Nat.le_of_ble_eq_true rfl, Nat.le_of_ble_eq_true rfl⟩) hR hT hS rfl hl.1 rfl (Nat.le_of_ble_eq_true rfl) dL_alike_5 ⟨Nat.le_of_ble_eq_true rfl, Nat.le_of_ble_eq_true rfl⟩ (fun E ce q9 S1 H locs h hR hS hce hcv hcl => ?_) (fun r S1 H locs h hR hS => ?_)
  · by_cases e0 : E = "java/lang/IndexOutOfBoundsException"
    · subst e0
      have h := h
      have h := h.1 rfl
      refine vx_catch C0.2.2.2.1 [] ⟨0, 10, 13, 21⟩ [⟨0, 10, 17, 13⟩] htab (fun z hz => absurd hz List.not_mem_nil) (by decide) (by decide) (C0.2.2.2.2 _ mL_4_128) ((hT.2 _ mL_4_139).use rfl) hce hcv hcl ?_
      refine lv_astore (lv' := [(4, .ref q9), (0, .ref (b + adC 0 0)), (1, .int a1), (2, .int a2), (3, .ref (b + 721))]) hx hb dL_alike_13 hl (by decide) rfl (fun ls hl => ?_)
      refine lv_iconst (v := 1) hx hb dL_alike_15 (by decide) ?_
      refine W.widen (k := 3) (n := 18) (Nat.le_of_ble_eq_true rfl) (Nat.le_of_ble_eq_true rfl) ?_
      exact rtL C0 hr hlk hR hS h dL_alike_16
    by_cases e1 : E = "java/lang/IllegalArgumentException"
    · subst e1
      have h := h
      have h := (h.2 e0).1 rfl
      refine vx_catch C0.2.2.2.1 [⟨0, 10, 13, 21⟩] ⟨0, 10, 17, 13⟩ [] htab (fun z hz => Or.inr (by
        rcases (show z = ⟨0, 10, 13, 21⟩ by simpa using hz) with rfl
        · exact ⟨by decide, "java/lang/IndexOutOfBoundsException", C0.2.2.2.2 _ mL_4_128, hN ("java/lang/IllegalArgumentException", "java/lang/IndexOutOfBoundsException") (by decide)⟩
        )) (by decide) (by decide) (C0.2.2.2.2 _ mL_3_112) ((hT.2 _ mL_4_47).use rfl) hce hcv hcl ?_
      refine lv_astore (lv' := [(4, .ref q9), (0, .ref (b + adC 0 0)), (1, .int a1), (2, .int a2), (3, .ref (b + 721))]) hx hb dL_alike_17 hl (by decide) rfl (fun ls hl => ?_)
      refine lv_iconst (v := 2) hx hb dL_alike_19 (by decide) ?_
      refine W.widen (k := 3) (n := 18) (Nat.le_of_ble_eq_true rfl) (Nat.le_of_ble_eq_true rfl) ?_
      exact rtL C0 hr hlk hR hS h dL_alike_20
    exact ((h.2 e0).2 e1).elim
  · refine lv_i2l (v := r.toInt64) hx hb dL_alike_8 rfl ?_
    refine lw_put C0 hR hS dL_alike_9 (fun H locs hR hS => ?_)
    refine lv_goto (tgt := 21) hx hb dL_alike_10 (by decide) ?_
    refine lv_iconst (v := 0) hx hb dL_alike_21 (by decide) ?_
    refine W.widen (k := 3) (n := 18) (Nat.le_of_ble_eq_true rfl) (Nat.le_of_ble_eq_true rfl) ?_
    exact rtL C0 hr hlk hR hS h dL_alike_22
def FW_root (a1 : Int32) (Sc : sSt) (o : Int64) (k : Int32 → sSt → Int64 → Prop) : Prop := F_X11_root a1 Sc (fun r S1 => k 0 S1 r.toInt64) (fun E S1 => (E = "java/lang/IllegalArgumentException" → k 1 S1 o) ∧ (¬ E = "java/lang/IllegalArgumentException" → False))
set_option maxHeartbeats 4000000 in
set_option maxRecDepth 100000 in
theorem cw_root (l : Launch) (hl0 : l.stackTraces = false) {D : va_G} {cy : Nat → ClassId} {b : Nat} {tx : TX} {a1 : Int32} {Sc Sm : sSt} {o : Int64} {k : Int32 → sSt → Int64 → Prop} (h : FW_root a1 Sc o k) : Met l yL_root (Cond.codeWith yL_root cL_root 4 (some .int) [(0, 9, 12, 13)] :: TB) ({ frames := 7, cells := 1, slots := 6, locals := 110 }) (va_Pc [.ref (b + adC 0 0), .int a1, .ref (b + 721)] (fun U => RelL D cy b tx Sc Sm o U U.heap ∧ TxR tx U ∧ TxN U)) (PwL D cy b tx Sm k) 1 6 (bA b) := by
  refine met_ofWH (cc := cL_root) (maxL := 4) (ret := (some .int)) (by decide) rfl ?_
  intro p e s m args below meth c s₁ B hml hv
  obtain ⟨rfl, hR, hT, hN⟩ := hv
  have htab : c.exceptionTable.toList = tableOf [(0, 9, 12, 13)] := vx_table (x := yL_root) B (atoms_spec B.pre _ List.mem_cons_self)
  have C0 : CallFix p m c cL_root 4 s _ TB RL := ⟨B.exec, B.bytes, hml, findClass_of_methodNamed B.named, fun w hw => atoms_spec B.pre w (List.mem_cons_of_mem _ hw)⟩
  have hr := B.returns
  have hlk := B.notSynchronized
  have hx := C0.1
  have hb := C0.2.1
  have hS : va_S (bA b) s.heap s.heap [] := va_S.rf
  have hl := lv_entry ([.ref (b + adC 0 0), .int a1, .ref (b + 721)]) (n := 4) (Nat.le_of_ble_eq_true rfl)
  rw [lg_entry_eq]
  generalize (lg_sl ([.ref (b + adC 0 0), .int a1, .ref (b + 721)]) ++ List.replicate (4 - (lg_sl ([.ref (b + adC 0 0), .int a1, .ref (b + 721)])).length) Slot.unset).toArray = ls at hl ⊢
  have hl : lv_has ls 4 [(0, .ref (b + adC 0 0)), (1, .int a1), (2, .ref (b + 721))] := hl
  show W p l e ({ frames := 7, cells := 1, slots := 6, locals := 110 }) s m _ below meth c s.heap [] 0 0 (MQ below (PwL D cy b tx Sm k) _ s 1 6 (bA b)) _
  unfold FW_root at h
  refine lv_aload_n hx hb dL_root_0 rfl (lv_at hl 2 rfl) ?_
  refine lv_iconst (v := 0) hx hb dL_root_1 (by decide) ?_
  refine lv_aload_n hx hb dL_root_2 rfl (lv_at hl 0 rfl) ?_
  refine lv_iload_n hx hb dL_root_3 rfl (lv_at hl 1 rfl) ?_
  refine qLX (As := [.int a1]) (rest := [.int 0, .ref (b + 721)]) C0 (c_X11_root l hl0 h) (cwV 1 C0.2.2.2.2 (tbV mL_7_32 ⟨mL_7_33, mL_7_34, mL_1_1, mL_7_35⟩) rfl rfl rfl (by decide +kernel) ⟨Nat.le_of_ble_eq_true rfl, Nat.le_of_ble_eq_true rfl⟩) hR hT hS rfl hl.1 rfl (Nat.le_of_ble_eq_true rfl) dL_root_4 ⟨Nat.le_of_ble_eq_true rfl, Nat.le_of_ble_eq_true rfl⟩ (fun E ce q9 S1 H locs h hR hS hce hcv hcl => ?_) (fun r S1 H locs h hR hS => ?_)
  · by_cases e0 : E = "java/lang/IllegalArgumentException"
    · subst e0
      have h := h
      have h := h.1 rfl
      refine vx_catch C0.2.2.2.1 [] ⟨0, 9, 12, 13⟩ [] htab (fun z hz => absurd hz List.not_mem_nil) (by decide) (by decide) (C0.2.2.2.2 _ mL_3_112) ((hT.2 _ mL_4_47).use rfl) hce hcv hcl ?_
      refine lv_astore_n (lv' := [(3, .ref q9), (0, .ref (b + adC 0 0)), (1, .int a1), (2, .ref (b + 721))]) hx hb dL_root_12 rfl hl (by decide) rfl (fun ls hl => ?_)
      refine lv_iconst (v := 1) hx hb dL_root_13 (by decide) ?_
      refine W.widen (k := 1) (n := 6) (Nat.le_of_ble_eq_true rfl) (Nat.le_of_ble_eq_true rfl) ?_
      exact rtL C0 hr hlk hR hS h dL_root_14
    exact (h.2 e0).elim
  · refine lv_i2l (v := r.toInt64) hx hb dL_root_7 rfl ?_
    refine lw_put C0 hR hS dL_root_8 (fun H locs hR hS => ?_)
    refine lv_goto (tgt := 15) hx hb dL_root_9 (by decide) ?_
    refine lv_iconst (v := 0) hx hb dL_root_15 (by decide) ?_
    refine W.widen (k := 1) (n := 6) (Nat.le_of_ble_eq_true rfl) (Nat.le_of_ble_eq_true rfl) ?_
    exact rtL C0 hr hlk hR hS h dL_root_16
def FW_find (a1 a2 : Int32) (Sc : sSt) (o : Int64) (k : Int32 → sSt → Int64 → Prop) : Prop := F_X11_find a1 a2 Sc (fun r S1 => k 0 S1 r.toInt64) (fun E S1 => (E = "java/util/NoSuchElementException" → k 1 S1 o) ∧ (¬ E = "java/util/NoSuchElementException" → False))
set_option maxHeartbeats 4000000 in
set_option maxRecDepth 100000 in
theorem cw_find (l : Launch) (hl0 : l.stackTraces = false) {D : va_G} {cy : Nat → ClassId} {b : Nat} {tx : TX} {a1 a2 : Int32} {Sc Sm : sSt} {o : Int64} {k : Int32 → sSt → Int64 → Prop} (h : FW_find a1 a2 Sc o k) : Met l yL_find (Cond.codeWith yL_find cL_find 5 (some .int) [(0, 10, 13, 76)] :: TB) ({ frames := 7, cells := 1, slots := 6, locals := 111 }) (va_Pc [.ref (b + adC 0 0), .int a1, .int a2, .ref (b + 721)] (fun U => RelL D cy b tx Sc Sm o U U.heap ∧ TxR tx U ∧ TxN U)) (PwL D cy b tx Sm k) 1 6 (bA b) := by
  refine met_ofWH (cc := cL_find) (maxL := 5) (ret := (some .int)) (by decide) rfl ?_
  intro p e s m args below meth c s₁ B hml hv
  obtain ⟨rfl, hR, hT, hN⟩ := hv
  have htab : c.exceptionTable.toList = tableOf [(0, 10, 13, 76)] := vx_table (x := yL_find) B (atoms_spec B.pre _ List.mem_cons_self)
  have C0 : CallFix p m c cL_find 5 s _ TB RL := ⟨B.exec, B.bytes, hml, findClass_of_methodNamed B.named, fun w hw => atoms_spec B.pre w (List.mem_cons_of_mem _ hw)⟩
  have hr := B.returns
  have hlk := B.notSynchronized
  have hx := C0.1
  have hb := C0.2.1
  have hS : va_S (bA b) s.heap s.heap [] := va_S.rf
  have hl := lv_entry ([.ref (b + adC 0 0), .int a1, .int a2, .ref (b + 721)]) (n := 5) (Nat.le_of_ble_eq_true rfl)
  rw [lg_entry_eq]
  generalize (lg_sl ([.ref (b + adC 0 0), .int a1, .int a2, .ref (b + 721)]) ++ List.replicate (5 - (lg_sl ([.ref (b + adC 0 0), .int a1, .int a2, .ref (b + 721)])).length) Slot.unset).toArray = ls at hl ⊢
  have hl : lv_has ls 5 [(0, .ref (b + adC 0 0)), (1, .int a1), (2, .int a2), (3, .ref (b + 721))] := hl
  show W p l e ({ frames := 7, cells := 1, slots := 6, locals := 111 }) s m _ below meth c s.heap [] 0 0 (MQ below (PwL D cy b tx Sm k) _ s 1 6 (bA b)) _
  unfold FW_find at h
  refine lv_aload_n hx hb dL_find_0 rfl (lv_at hl 3 rfl) ?_
  refine lv_iconst (v := 0) hx hb dL_find_1 (by decide) ?_
  refine lv_aload_n hx hb dL_find_2 rfl (lv_at hl 0 rfl) ?_
  refine lv_iload_n hx hb dL_find_3 rfl (lv_at hl 1 rfl) ?_
  refine lv_iload_n hx hb dL_find_4 rfl (lv_at hl 2 rfl) ?_
  refine qLX (As := [.int a1, .int a2]) (rest := [.int 0, .ref (b + 721)]) C0 (c_X11_find l hl0 h) (cwV 2 C0.2.2.2.2 (tbV mL_7_44 ⟨mL_7_45, mL_7_46, mL_1_1, mL_7_47⟩) rfl rfl rfl (by decide +kernel) ⟨Nat.le_of_ble_eq_true rfl, Nat.le_of_ble_eq_true rfl⟩) hR hT hS rfl hl.1 rfl (Nat.le_of_ble_eq_true rfl) dL_find_5 ⟨Nat.le_of_ble_eq_true rfl, Nat.le_of_ble_eq_true rfl⟩ (fun E ce q9 S1 H locs h hR hS hce hcv hcl => ?_) (fun r S1 H locs h hR hS => ?_)
  · by_cases e0 : E = "java/util/NoSuchElementException"
    · subst e0
      have h := h
      have h := h.1 rfl
      refine vx_catch C0.2.2.2.1 [] ⟨0, 10, 13, 76⟩ [] htab (fun z hz => absurd hz List.not_mem_nil) (by decide) (by decide) (C0.2.2.2.2 _ mL_6_37) ((hT.2 _ mL_6_48).use rfl) hce hcv hcl ?_
      refine lv_astore (lv' := [(4, .ref q9), (0, .ref (b + adC 0 0)), (1, .int a1), (2, .int a2), (3, .ref (b + 721))]) hx hb dL_find_13 hl (by decide) rfl (fun ls hl => ?_)
      refine lv_iconst (v := 1) hx hb dL_find_15 (by decide) ?_
      refine W.widen (k := 1) (n := 6) (Nat.le_of_ble_eq_true rfl) (Nat.le_of_ble_eq_true rfl) ?_
      exact rtL C0 hr hlk hR hS h dL_find_16
    exact (h.2 e0).elim
  · refine lv_i2l (v := r.toInt64) hx hb dL_find_8 rfl ?_
    refine lw_put C0 hR hS dL_find_9 (fun H locs hR hS => ?_)
    refine lv_goto (tgt := 17) hx hb dL_find_10 (by decide) ?_
    refine lv_iconst (v := 0) hx hb dL_find_17 (by decide) ?_
    refine W.widen (k := 1) (n := 6) (Nat.le_of_ble_eq_true rfl) (Nat.le_of_ble_eq_true rfl) ?_
    exact rtL C0 hr hlk hR hS h dL_find_18
def FW_log (a1 a2 : Int32) (Sc : sSt) (o : Int64) (k : Int32 → sSt → Int64 → Prop) : Prop := F_X11_log a1 a2 Sc (fun r S1 => k 0 S1 r.toInt64) (fun E S1 => (E = "java/util/NoSuchElementException" → k 1 S1 o) ∧ (¬ E = "java/util/NoSuchElementException" → False))
set_option maxHeartbeats 4000000 in
set_option maxRecDepth 100000 in
theorem cw_log (l : Launch) (hl0 : l.stackTraces = false) {D : va_G} {cy : Nat → ClassId} {b : Nat} {tx : TX} {a1 a2 : Int32} {Sc Sm : sSt} {o : Int64} {k : Int32 → sSt → Int64 → Prop} (h : FW_log a1 a2 Sc o k) : Met l yL_log (Cond.codeWith yL_log cL_log 5 (some .int) [(0, 10, 13, 76)] :: TB) ({ frames := 7, cells := 1, slots := 6, locals := 111 }) (va_Pc [.ref (b + adC 0 0), .int a1, .int a2, .ref (b + 721)] (fun U => RelL D cy b tx Sc Sm o U U.heap ∧ TxR tx U ∧ TxN U)) (PwL D cy b tx Sm k) 1 6 (bA b) := by
  refine met_ofWH (cc := cL_log) (maxL := 5) (ret := (some .int)) (by decide) rfl ?_
  intro p e s m args below meth c s₁ B hml hv
  obtain ⟨rfl, hR, hT, hN⟩ := hv
  have htab : c.exceptionTable.toList = tableOf [(0, 10, 13, 76)] := vx_table (x := yL_log) B (atoms_spec B.pre _ List.mem_cons_self)
  have C0 : CallFix p m c cL_log 5 s _ TB RL := ⟨B.exec, B.bytes, hml, findClass_of_methodNamed B.named, fun w hw => atoms_spec B.pre w (List.mem_cons_of_mem _ hw)⟩
  have hr := B.returns
  have hlk := B.notSynchronized
  have hx := C0.1
  have hb := C0.2.1
  have hS : va_S (bA b) s.heap s.heap [] := va_S.rf
  have hl := lv_entry ([.ref (b + adC 0 0), .int a1, .int a2, .ref (b + 721)]) (n := 5) (Nat.le_of_ble_eq_true rfl)
  rw [lg_entry_eq]
  generalize (lg_sl ([.ref (b + adC 0 0), .int a1, .int a2, .ref (b + 721)]) ++ List.replicate (5 - (lg_sl ([.ref (b + adC 0 0), .int a1, .int a2, .ref (b + 721)])).length) Slot.unset).toArray = ls at hl ⊢
  have hl : lv_has ls 5 [(0, .ref (b + adC 0 0)), (1, .int a1), (2, .int a2), (3, .ref (b + 721))] := hl
  show W p l e ({ frames := 7, cells := 1, slots := 6, locals := 111 }) s m _ below meth c s.heap [] 0 0 (MQ below (PwL D cy b tx Sm k) _ s 1 6 (bA b)) _
  unfold FW_log at h
  refine lv_aload_n hx hb dL_log_0 rfl (lv_at hl 3 rfl) ?_
  refine lv_iconst (v := 0) hx hb dL_log_1 (by decide) ?_
  refine lv_aload_n hx hb dL_log_2 rfl (lv_at hl 0 rfl) ?_
  refine lv_iload_n hx hb dL_log_3 rfl (lv_at hl 1 rfl) ?_
  refine lv_iload_n hx hb dL_log_4 rfl (lv_at hl 2 rfl) ?_
  refine qLX (As := [.int a1, .int a2]) (rest := [.int 0, .ref (b + 721)]) C0 (c_X11_log l hl0 h) (cwV 2 C0.2.2.2.2 (tbV mL_7_59 ⟨mL_7_60, mL_7_61, mL_1_1, mL_7_62⟩) rfl rfl rfl (by decide +kernel) ⟨Nat.le_of_ble_eq_true rfl, Nat.le_of_ble_eq_true rfl⟩) hR hT hS rfl hl.1 rfl (Nat.le_of_ble_eq_true rfl) dL_log_5 ⟨Nat.le_of_ble_eq_true rfl, Nat.le_of_ble_eq_true rfl⟩ (fun E ce q9 S1 H locs h hR hS hce hcv hcl => ?_) (fun r S1 H locs h hR hS => ?_)
  · by_cases e0 : E = "java/util/NoSuchElementException"
    · subst e0
      have h := h
      have h := h.1 rfl
      refine vx_catch C0.2.2.2.1 [] ⟨0, 10, 13, 76⟩ [] htab (fun z hz => absurd hz List.not_mem_nil) (by decide) (by decide) (C0.2.2.2.2 _ mL_6_37) ((hT.2 _ mL_6_48).use rfl) hce hcv hcl ?_
      refine lv_astore (lv' := [(4, .ref q9), (0, .ref (b + adC 0 0)), (1, .int a1), (2, .int a2), (3, .ref (b + 721))]) hx hb dL_log_13 hl (by decide) rfl (fun ls hl => ?_)
      refine lv_iconst (v := 1) hx hb dL_log_15 (by decide) ?_
      refine W.widen (k := 1) (n := 6) (Nat.le_of_ble_eq_true rfl) (Nat.le_of_ble_eq_true rfl) ?_
      exact rtL C0 hr hlk hR hS h dL_log_16
    exact (h.2 e0).elim
  · refine lv_i2l (v := r.toInt64) hx hb dL_log_8 rfl ?_
    refine lw_put C0 hR hS dL_log_9 (fun H locs hR hS => ?_)
    refine lv_goto (tgt := 17) hx hb dL_log_10 (by decide) ?_
    refine lv_iconst (v := 0) hx hb dL_log_17 (by decide) ?_
    refine W.widen (k := 1) (n := 6) (Nat.le_of_ble_eq_true rfl) (Nat.le_of_ble_eq_true rfl) ?_
    exact rtL C0 hr hlk hR hS h dL_log_18
