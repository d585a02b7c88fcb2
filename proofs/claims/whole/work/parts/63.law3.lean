theorem mK_2_234 : Cond.methodLink RL 138 yX11_feed ∈ TB := tbT_2 _ (List.mem_of_getElem? (i := 234) rfl) rfl
theorem mK_2_235 : Cond.instanceMethod yX11_feed ∈ TB := tbT_2 _ (List.mem_of_getElem? (i := 235) rfl) rfl
theorem mK_2_236 : Cond.selects RX11 yX11_feed yX11_feed ∈ TB := tbT_2 _ (List.mem_of_getElem? (i := 236) rfl) rfl
theorem mK_1_1 : Cond.initialized RX11 ∈ TB := tbT_1 _ (List.mem_of_getElem? (i := 1) rfl) rfl
theorem mK_2_237 : Cond.code yX11_feed cX11_feed 6 (some .int) ∈ TB := tbT_2 _ (List.mem_of_getElem? (i := 237) rfl) rfl
theorem mK_7_143 : Cond.methodLink RL 142 yX12_feed ∈ TB := tbT_7 _ (List.mem_of_getElem? (i := 143) rfl) rfl
theorem mK_7_144 : Cond.instanceMethod yX12_feed ∈ TB := tbT_7 _ (List.mem_of_getElem? (i := 144) rfl) rfl
theorem mK_7_145 : Cond.selects RX12 yX12_feed yX12_feed ∈ TB := tbT_7 _ (List.mem_of_getElem? (i := 145) rfl) rfl
theorem mK_1_11 : Cond.initialized RX12 ∈ TB := tbT_1 _ (List.mem_of_getElem? (i := 11) rfl) rfl
theorem mK_7_146 : Cond.code yX12_feed cX12_feed 7 (some .int) ∈ TB := tbT_7 _ (List.mem_of_getElem? (i := 146) rfl) rfl
theorem mK_3_6 : Cond.methodLink RL 143 yX11_end ∈ TB := tbT_3 _ (List.mem_of_getElem? (i := 6) rfl) rfl
theorem mK_3_7 : Cond.instanceMethod yX11_end ∈ TB := tbT_3 _ (List.mem_of_getElem? (i := 7) rfl) rfl
theorem mK_3_8 : Cond.selects RX11 yX11_end yX11_end ∈ TB := tbT_3 _ (List.mem_of_getElem? (i := 8) rfl) rfl
theorem mK_3_9 : Cond.code yX11_end cX11_end 2 (some .boolean) ∈ TB := tbT_3 _ (List.mem_of_getElem? (i := 9) rfl) rfl
theorem mK_7_147 : Cond.methodLink RL 147 yX12_end ∈ TB := tbT_7 _ (List.mem_of_getElem? (i := 147) rfl) rfl
theorem mK_7_148 : Cond.instanceMethod yX12_end ∈ TB := tbT_7 _ (List.mem_of_getElem? (i := 148) rfl) rfl
theorem mK_7_149 : Cond.selects RX12 yX12_end yX12_end ∈ TB := tbT_7 _ (List.mem_of_getElem? (i := 149) rfl) rfl
theorem mK_7_150 : Cond.code yX12_end cX12_end 2 (some .boolean) ∈ TB := tbT_7 _ (List.mem_of_getElem? (i := 150) rfl) rfl
theorem mK_3_109 : Cond.methodLink RL 148 yL_table ∈ TB := tbT_3 _ (List.mem_of_getElem? (i := 109) rfl) rfl
theorem mK_3_110 : Cond.static yL_table ∈ TB := tbT_3 _ (List.mem_of_getElem? (i := 110) rfl) rfl
theorem mK_1_0 : Cond.initialized RL ∈ TB := tbT_1 _ (List.mem_of_getElem? (i := 0) rfl) rfl
theorem mK_3_111 : Cond.codeWith yL_table cL_table 3 (some .int) [(0, 8, 11, 13), (0, 8, 14, 15)] ∈ TB := tbT_3 _ (List.mem_of_getElem? (i := 111) rfl) rfl
theorem mK_7_159 : Cond.methodLink RL 153 yX12_table ∈ TB := tbT_7 _ (List.mem_of_getElem? (i := 159) rfl) rfl
theorem mK_7_160 : Cond.instanceMethod yX12_table ∈ TB := tbT_7 _ (List.mem_of_getElem? (i := 160) rfl) rfl
theorem mK_7_161 : Cond.selects RX12 yX12_table yX12_table ∈ TB := tbT_7 _ (List.mem_of_getElem? (i := 161) rfl) rfl
theorem mK_7_162 : Cond.code yX12_table cX12_table 3 (some .int) ∈ TB := tbT_7 _ (List.mem_of_getElem? (i := 162) rfl) rfl
theorem mK_7_64 : Cond.methodLink RL 154 yX12_thrown ∈ TB := tbT_7 _ (List.mem_of_getElem? (i := 64) rfl) rfl
theorem mK_7_65 : Cond.instanceMethod yX12_thrown ∈ TB := tbT_7 _ (List.mem_of_getElem? (i := 65) rfl) rfl
theorem mK_7_66 : Cond.selects RX12 yX12_thrown yX12_thrown ∈ TB := tbT_7 _ (List.mem_of_getElem? (i := 66) rfl) rfl
theorem mK_7_67 : Cond.code yX12_thrown cX12_thrown 1 (some .int) ∈ TB := tbT_7 _ (List.mem_of_getElem? (i := 67) rfl) rfl
theorem mK_4_125 : Cond.methodLink RL 157 yL_query ∈ TB := tbT_4 _ (List.mem_of_getElem? (i := 125) rfl) rfl
theorem mK_4_126 : Cond.static yL_query ∈ TB := tbT_4 _ (List.mem_of_getElem? (i := 126) rfl) rfl
theorem mK_4_127 : Cond.codeWith yL_query cL_query 4 (some .int) [(0, 9, 12, 21), (0, 9, 15, 13)] ∈ TB := tbT_4 _ (List.mem_of_getElem? (i := 127) rfl) rfl
theorem mK_8_29 : Cond.methodLink RL 160 yX12_query ∈ TB := tbT_8 _ (List.mem_of_getElem? (i := 29) rfl) rfl
theorem mK_8_30 : Cond.instanceMethod yX12_query ∈ TB := tbT_8 _ (List.mem_of_getElem? (i := 30) rfl) rfl
theorem mK_8_31 : Cond.selects RX12 yX12_query yX12_query ∈ TB := tbT_8 _ (List.mem_of_getElem? (i := 31) rfl) rfl
theorem mK_8_32 : Cond.code yX12_query cX12_query 4 (some .int) ∈ TB := tbT_8 _ (List.mem_of_getElem? (i := 32) rfl) rfl
theorem mK_3_10 : Cond.methodLink RL 161 yX11_fault ∈ TB := tbT_3 _ (List.mem_of_getElem? (i := 10) rfl) rfl
theorem mK_3_11 : Cond.instanceMethod yX11_fault ∈ TB := tbT_3 _ (List.mem_of_getElem? (i := 11) rfl) rfl
theorem mK_3_12 : Cond.selects RX11 yX11_fault yX11_fault ∈ TB := tbT_3 _ (List.mem_of_getElem? (i := 12) rfl) rfl
theorem mK_3_13 : Cond.code yX11_fault cX11_fault 1 (some .int) ∈ TB := tbT_3 _ (List.mem_of_getElem? (i := 13) rfl) rfl
theorem mK_7_151 : Cond.methodLink RL 164 yX12_fault ∈ TB := tbT_7 _ (List.mem_of_getElem? (i := 151) rfl) rfl
theorem mK_7_152 : Cond.instanceMethod yX12_fault ∈ TB := tbT_7 _ (List.mem_of_getElem? (i := 152) rfl) rfl
theorem mK_7_153 : Cond.selects RX12 yX12_fault yX12_fault ∈ TB := tbT_7 _ (List.mem_of_getElem? (i := 153) rfl) rfl
theorem mK_7_154 : Cond.code yX12_fault cX12_fault 1 (some .int) ∈ TB := tbT_7 _ (List.mem_of_getElem? (i := 154) rfl) rfl
theorem mK_3_14 : Cond.methodLink RL 165 yX11_why ∈ TB := tbT_3 _ (List.mem_of_getElem? (i := 14) rfl) rfl
theorem mK_3_15 : Cond.instanceMethod yX11_why ∈ TB := tbT_3 _ (List.mem_of_getElem? (i := 15) rfl) rfl
theorem mK_3_16 : Cond.selects RX11 yX11_why yX11_why ∈ TB := tbT_3 _ (List.mem_of_getElem? (i := 16) rfl) rfl
theorem mK_3_17 : Cond.code yX11_why cX11_why 1 (some .int) ∈ TB := tbT_3 _ (List.mem_of_getElem? (i := 17) rfl) rfl
theorem mK_7_155 : Cond.methodLink RL 168 yX12_why ∈ TB := tbT_7 _ (List.mem_of_getElem? (i := 155) rfl) rfl
theorem mK_7_156 : Cond.instanceMethod yX12_why ∈ TB := tbT_7 _ (List.mem_of_getElem? (i := 156) rfl) rfl
theorem mK_7_157 : Cond.selects RX12 yX12_why yX12_why ∈ TB := tbT_7 _ (List.mem_of_getElem? (i := 157) rfl) rfl
theorem mK_7_158 : Cond.code yX12_why cX12_why 1 (some .int) ∈ TB := tbT_7 _ (List.mem_of_getElem? (i := 158) rfl) rfl
theorem mK_4_194 : Cond.methodLink RL 169 yL_begin ∈ TB := tbT_4 _ (List.mem_of_getElem? (i := 194) rfl) rfl
theorem mK_4_195 : Cond.static yL_begin ∈ TB := tbT_4 _ (List.mem_of_getElem? (i := 195) rfl) rfl
theorem mK_4_196 : Cond.codeWith yL_begin cL_begin 4 (some .int) [(0, 9, 12, 21), (0, 9, 15, 26)] ∈ TB := tbT_4 _ (List.mem_of_getElem? (i := 196) rfl) rfl
theorem mK_8_83 : Cond.methodLink RL 171 yX12_begin ∈ TB := tbT_8 _ (List.mem_of_getElem? (i := 83) rfl) rfl
theorem mK_8_84 : Cond.instanceMethod yX12_begin ∈ TB := tbT_8 _ (List.mem_of_getElem? (i := 84) rfl) rfl
theorem mK_8_85 : Cond.selects RX12 yX12_begin yX12_begin ∈ TB := tbT_8 _ (List.mem_of_getElem? (i := 85) rfl) rfl
theorem mK_8_86 : Cond.code yX12_begin cX12_begin 2 (some .int) ∈ TB := tbT_8 _ (List.mem_of_getElem? (i := 86) rfl) rfl
theorem mK_4_221 : Cond.methodLink RL 172 yL_save ∈ TB := tbT_4 _ (List.mem_of_getElem? (i := 221) rfl) rfl
theorem mK_4_222 : Cond.static yL_save ∈ TB := tbT_4 _ (List.mem_of_getElem? (i := 222) rfl) rfl
theorem mK_4_223 : Cond.codeWith yL_save cL_save 4 (some .int) [(0, 9, 12, 21), (0, 9, 15, 26)] ∈ TB := tbT_4 _ (List.mem_of_getElem? (i := 223) rfl) rfl
theorem mK_8_99 : Cond.methodLink RL 174 yX12_save ∈ TB := tbT_8 _ (List.mem_of_getElem? (i := 99) rfl) rfl
theorem mK_8_100 : Cond.instanceMethod yX12_save ∈ TB := tbT_8 _ (List.mem_of_getElem? (i := 100) rfl) rfl
theorem mK_8_101 : Cond.selects RX12 yX12_save yX12_save ∈ TB := tbT_8 _ (List.mem_of_getElem? (i := 101) rfl) rfl
theorem mK_8_102 : Cond.code yX12_save cX12_save 4 (some .int) ∈ TB := tbT_8 _ (List.mem_of_getElem? (i := 102) rfl) rfl
theorem mK_5_0 : Cond.methodLink RL 175 yL_undo ∈ TB := tbT_5 _ (List.mem_of_getElem? (i := 0) rfl) rfl
theorem mK_5_1 : Cond.static yL_undo ∈ TB := tbT_5 _ (List.mem_of_getElem? (i := 1) rfl) rfl
theorem mK_5_2 : Cond.codeWith yL_undo cL_undo 5 (some .int) [(0, 10, 13, 21), (0, 10, 17, 26), (0, 10, 21, 13)] ∈ TB := tbT_5 _ (List.mem_of_getElem? (i := 2) rfl) rfl
theorem mK_8_114 : Cond.methodLink RL 178 yX12_undo ∈ TB := tbT_8 _ (List.mem_of_getElem? (i := 114) rfl) rfl
theorem mK_8_115 : Cond.instanceMethod yX12_undo ∈ TB := tbT_8 _ (List.mem_of_getElem? (i := 115) rfl) rfl
theorem mK_8_116 : Cond.selects RX12 yX12_undo yX12_undo ∈ TB := tbT_8 _ (List.mem_of_getElem? (i := 116) rfl) rfl
theorem mK_8_117 : Cond.code yX12_undo cX12_undo 5 (some .int) ∈ TB := tbT_8 _ (List.mem_of_getElem? (i := 117) rfl) rfl
theorem mK_5_24 : Cond.methodLink RL 179 yL_commit ∈ TB := tbT_5 _ (List.mem_of_getElem? (i := 24) rfl) rfl
theorem mK_5_25 : Cond.static yL_commit ∈ TB := tbT_5 _ (List.mem_of_getElem? (i := 25) rfl) rfl
theorem mK_5_26 : Cond.codeWith yL_commit cL_commit 4 (some .int) [(0, 9, 12, 21), (0, 9, 15, 26)] ∈ TB := tbT_5 _ (List.mem_of_getElem? (i := 26) rfl) rfl
theorem mK_8_126 : Cond.methodLink RL 181 yX12_commit ∈ TB := tbT_8 _ (List.mem_of_getElem? (i := 126) rfl) rfl
theorem mK_8_127 : Cond.instanceMethod yX12_commit ∈ TB := tbT_8 _ (List.mem_of_getElem? (i := 127) rfl) rfl
theorem mK_8_128 : Cond.selects RX12 yX12_commit yX12_commit ∈ TB := tbT_8 _ (List.mem_of_getElem? (i := 128) rfl) rfl
theorem mK_8_129 : Cond.code yX12_commit cX12_commit 2 (some .int) ∈ TB := tbT_8 _ (List.mem_of_getElem? (i := 129) rfl) rfl
theorem mK_5_44 : Cond.methodLink RL 182 yL_roll ∈ TB := tbT_5 _ (List.mem_of_getElem? (i := 44) rfl) rfl
theorem mK_5_45 : Cond.static yL_roll ∈ TB := tbT_5 _ (List.mem_of_getElem? (i := 45) rfl) rfl
theorem mK_5_46 : Cond.codeWith yL_roll cL_roll 4 (some .int) [(0, 9, 12, 21), (0, 9, 15, 26)] ∈ TB := tbT_5 _ (List.mem_of_getElem? (i := 46) rfl) rfl
theorem mK_8_143 : Cond.methodLink RL 184 yX12_roll ∈ TB := tbT_8 _ (List.mem_of_getElem? (i := 143) rfl) rfl
theorem mK_8_144 : Cond.instanceMethod yX12_roll ∈ TB := tbT_8 _ (List.mem_of_getElem? (i := 144) rfl) rfl
theorem mK_8_145 : Cond.selects RX12 yX12_roll yX12_roll ∈ TB := tbT_8 _ (List.mem_of_getElem? (i := 145) rfl) rfl
theorem mK_8_146 : Cond.code yX12_roll cX12_roll 4 (some .int) ∈ TB := tbT_8 _ (List.mem_of_getElem? (i := 146) rfl) rfl
theorem mK_5_55 : Cond.methodLink RL 185 yL_claim ∈ TB := tbT_5 _ (List.mem_of_getElem? (i := 55) rfl) rfl
theorem mK_5_56 : Cond.static yL_claim ∈ TB := tbT_5 _ (List.mem_of_getElem? (i := 56) rfl) rfl
theorem mK_5_57 : Cond.codeWith yL_claim cL_claim 4 (some .int) [(0, 9, 12, 21)] ∈ TB := tbT_5 _ (List.mem_of_getElem? (i := 57) rfl) rfl
theorem mK_8_151 : Cond.methodLink RL 187 yX12_claim ∈ TB := tbT_8 _ (List.mem_of_getElem? (i := 151) rfl) rfl
theorem mK_8_152 : Cond.instanceMethod yX12_claim ∈ TB := tbT_8 _ (List.mem_of_getElem? (i := 152) rfl) rfl
theorem mK_8_153 : Cond.selects RX12 yX12_claim yX12_claim ∈ TB := tbT_8 _ (List.mem_of_getElem? (i := 153) rfl) rfl
theorem mK_8_154 : Cond.code yX12_claim cX12_claim 3 (some .int) ∈ TB := tbT_8 _ (List.mem_of_getElem? (i := 154) rfl) rfl
theorem mK_5_123 : Cond.methodLink RL 188 yL_renew ∈ TB := tbT_5 _ (List.mem_of_getElem? (i := 123) rfl) rfl
theorem mK_5_124 : Cond.static yL_renew ∈ TB := tbT_5 _ (List.mem_of_getElem? (i := 124) rfl) rfl
theorem mK_5_125 : Cond.codeWith yL_renew cL_renew 6 (some .int) [(0, 12, 15, 21), (0, 12, 19, 26)] ∈ TB := tbT_5 _ (List.mem_of_getElem? (i := 125) rfl) rfl
theorem mK_8_215 : Cond.methodLink RL 191 yX12_renew ∈ TB := tbT_8 _ (List.mem_of_getElem? (i := 215) rfl) rfl
theorem mK_8_216 : Cond.instanceMethod yX12_renew ∈ TB := tbT_8 _ (List.mem_of_getElem? (i := 216) rfl) rfl
theorem mK_8_217 : Cond.selects RX12 yX12_renew yX12_renew ∈ TB := tbT_8 _ (List.mem_of_getElem? (i := 217) rfl) rfl
theorem mK_8_218 : Cond.code yX12_renew cX12_renew 7 (some .int) ∈ TB := tbT_8 _ (List.mem_of_getElem? (i := 218) rfl) rfl
theorem mK_5_150 : Cond.methodLink RL 192 yL_finish ∈ TB := tbT_5 _ (List.mem_of_getElem? (i := 150) rfl) rfl
theorem mK_5_151 : Cond.static yL_finish ∈ TB := tbT_5 _ (List.mem_of_getElem? (i := 151) rfl) rfl
theorem mK_5_152 : Cond.codeWith yL_finish cL_finish 6 (some .int) [(0, 12, 15, 21), (0, 12, 19, 26)] ∈ TB := tbT_5 _ (List.mem_of_getElem? (i := 152) rfl) rfl
theorem mK_8_235 : Cond.methodLink RL 194 yX12_finish ∈ TB := tbT_8 _ (List.mem_of_getElem? (i := 235) rfl) rfl
theorem mK_8_236 : Cond.instanceMethod yX12_finish ∈ TB := tbT_8 _ (List.mem_of_getElem? (i := 236) rfl) rfl
theorem mK_8_237 : Cond.selects RX12 yX12_finish yX12_finish ∈ TB := tbT_8 _ (List.mem_of_getElem? (i := 237) rfl) rfl
theorem mK_8_238 : Cond.code yX12_finish cX12_finish 7 (some .int) ∈ TB := tbT_8 _ (List.mem_of_getElem? (i := 238) rfl) rfl
theorem mK_5_157 : Cond.methodLink RL 195 yL_fail ∈ TB := tbT_5 _ (List.mem_of_getElem? (i := 157) rfl) rfl
theorem mK_5_158 : Cond.static yL_fail ∈ TB := tbT_5 _ (List.mem_of_getElem? (i := 158) rfl) rfl
theorem mK_5_159 : Cond.codeWith yL_fail cL_fail 7 (some .int) [(0, 14, 17, 21), (0, 14, 21, 13), (0, 14, 25, 26)] ∈ TB := tbT_5 _ (List.mem_of_getElem? (i := 159) rfl) rfl
theorem mK_8_239 : Cond.methodLink RL 198 yX12_fail ∈ TB := tbT_8 _ (List.mem_of_getElem? (i := 239) rfl) rfl
theorem mK_9_0 : Cond.instanceMethod yX12_fail ∈ TB := tbT_9 _ (List.mem_of_getElem? (i := 0) rfl) rfl
theorem mK_9_1 : Cond.selects RX12 yX12_fail yX12_fail ∈ TB := tbT_9 _ (List.mem_of_getElem? (i := 1) rfl) rfl
theorem mK_9_2 : Cond.code yX12_fail cX12_fail 8 (some .int) ∈ TB := tbT_9 _ (List.mem_of_getElem? (i := 2) rfl) rfl
theorem mK_5_179 : Cond.methodLink RL 199 yL_give ∈ TB := tbT_5 _ (List.mem_of_getElem? (i := 179) rfl) rfl
theorem mK_5_180 : Cond.static yL_give ∈ TB := tbT_5 _ (List.mem_of_getElem? (i := 180) rfl) rfl
theorem mK_5_181 : Cond.codeWith yL_give cL_give 6 (some .int) [(0, 12, 15, 21), (0, 12, 19, 26)] ∈ TB := tbT_5 _ (List.mem_of_getElem? (i := 181) rfl) rfl
theorem mK_9_12 : Cond.methodLink RL 201 yX12_give ∈ TB := tbT_9 _ (List.mem_of_getElem? (i := 12) rfl) rfl
theorem mK_9_13 : Cond.instanceMethod yX12_give ∈ TB := tbT_9 _ (List.mem_of_getElem? (i := 13) rfl) rfl
theorem mK_9_14 : Cond.selects RX12 yX12_give yX12_give ∈ TB := tbT_9 _ (List.mem_of_getElem? (i := 14) rfl) rfl
theorem mK_9_15 : Cond.code yX12_give cX12_give 7 (some .int) ∈ TB := tbT_9 _ (List.mem_of_getElem? (i := 15) rfl) rfl
theorem mK_5_186 : Cond.methodLink RL 202 yL_reap ∈ TB := tbT_5 _ (List.mem_of_getElem? (i := 186) rfl) rfl
theorem mK_5_187 : Cond.static yL_reap ∈ TB := tbT_5 _ (List.mem_of_getElem? (i := 187) rfl) rfl
theorem mK_5_188 : Cond.codeWith yL_reap cL_reap 4 (some .int) [(0, 9, 12, 21)] ∈ TB := tbT_5 _ (List.mem_of_getElem? (i := 188) rfl) rfl
theorem mK_9_16 : Cond.methodLink RL 204 yX12_reap ∈ TB := tbT_9 _ (List.mem_of_getElem? (i := 16) rfl) rfl
theorem mK_9_17 : Cond.instanceMethod yX12_reap ∈ TB := tbT_9 _ (List.mem_of_getElem? (i := 17) rfl) rfl
theorem mK_9_18 : Cond.selects RX12 yX12_reap yX12_reap ∈ TB := tbT_9 _ (List.mem_of_getElem? (i := 18) rfl) rfl
theorem mK_9_19 : Cond.code yX12_reap cX12_reap 5 (some .int) ∈ TB := tbT_9 _ (List.mem_of_getElem? (i := 19) rfl) rfl
theorem mK_5_205 : Cond.methodLink RL 205 yL_retry ∈ TB := tbT_5 _ (List.mem_of_getElem? (i := 205) rfl) rfl
theorem mK_5_206 : Cond.static yL_retry ∈ TB := tbT_5 _ (List.mem_of_getElem? (i := 206) rfl) rfl
theorem mK_5_207 : Cond.codeWith yL_retry cL_retry 5 (some .int) [(0, 10, 13, 21), (0, 10, 17, 26)] ∈ TB := tbT_5 _ (List.mem_of_getElem? (i := 207) rfl) rfl
theorem mK_9_20 : Cond.methodLink RL 207 yX12_retry ∈ TB := tbT_9 _ (List.mem_of_getElem? (i := 20) rfl) rfl
theorem mK_9_21 : Cond.instanceMethod yX12_retry ∈ TB := tbT_9 _ (List.mem_of_getElem? (i := 21) rfl) rfl
theorem mK_9_22 : Cond.selects RX12 yX12_retry yX12_retry ∈ TB := tbT_9 _ (List.mem_of_getElem? (i := 22) rfl) rfl
theorem mK_9_23 : Cond.code yX12_retry cX12_retry 7 (some .int) ∈ TB := tbT_9 _ (List.mem_of_getElem? (i := 23) rfl) rfl
theorem mK_5_215 : Cond.methodLink RL 208 yL_bring ∈ TB := tbT_5 _ (List.mem_of_getElem? (i := 215) rfl) rfl
theorem mK_5_216 : Cond.static yL_bring ∈ TB := tbT_5 _ (List.mem_of_getElem? (i := 216) rfl) rfl
theorem mK_5_217 : Cond.codeWith yL_bring cL_bring 7 (some .int) [(0, 14, 17, 21), (0, 14, 21, 13), (0, 14, 25, 15)] ∈ TB := tbT_5 _ (List.mem_of_getElem? (i := 217) rfl) rfl
theorem mK_9_24 : Cond.methodLink RL 210 yX12_bring ∈ TB := tbT_9 _ (List.mem_of_getElem? (i := 24) rfl) rfl
theorem mK_9_25 : Cond.instanceMethod yX12_bring ∈ TB := tbT_9 _ (List.mem_of_getElem? (i := 25) rfl) rfl
theorem mK_9_26 : Cond.selects RX12 yX12_bring yX12_bring ∈ TB := tbT_9 _ (List.mem_of_getElem? (i := 26) rfl) rfl
theorem mK_9_27 : Cond.code yX12_bring cX12_bring 7 (some .int) ∈ TB := tbT_9 _ (List.mem_of_getElem? (i := 27) rfl) rfl
theorem mK_3_18 : Cond.methodLink RL 211 yX11_sweep ∈ TB := tbT_3 _ (List.mem_of_getElem? (i := 18) rfl) rfl
theorem mK_3_19 : Cond.instanceMethod yX11_sweep ∈ TB := tbT_3 _ (List.mem_of_getElem? (i := 19) rfl) rfl
theorem mK_3_20 : Cond.selects RX11 yX11_sweep yX11_sweep ∈ TB := tbT_3 _ (List.mem_of_getElem? (i := 20) rfl) rfl
theorem mK_3_21 : Cond.code yX11_sweep cX11_sweep 1 (some .int) ∈ TB := tbT_3 _ (List.mem_of_getElem? (i := 21) rfl) rfl
theorem mK_9_28 : Cond.methodLink RL 214 yX12_sweep ∈ TB := tbT_9 _ (List.mem_of_getElem? (i := 28) rfl) rfl
theorem mK_9_29 : Cond.instanceMethod yX12_sweep ∈ TB := tbT_9 _ (List.mem_of_getElem? (i := 29) rfl) rfl
theorem mK_9_30 : Cond.selects RX12 yX12_sweep yX12_sweep ∈ TB := tbT_9 _ (List.mem_of_getElem? (i := 30) rfl) rfl
theorem mK_9_31 : Cond.code yX12_sweep cX12_sweep 3 (some .int) ∈ TB := tbT_9 _ (List.mem_of_getElem? (i := 31) rfl) rfl
theorem mK_5_232 : Cond.methodLink RL 215 yL_ticks ∈ TB := tbT_5 _ (List.mem_of_getElem? (i := 232) rfl) rfl
theorem mK_5_233 : Cond.static yL_ticks ∈ TB := tbT_5 _ (List.mem_of_getElem? (i := 233) rfl) rfl
theorem mK_5_234 : Cond.codeWith yL_ticks cL_ticks 4 (some .int) [(0, 9, 12, 13)] ∈ TB := tbT_5 _ (List.mem_of_getElem? (i := 234) rfl) rfl
theorem mK_9_32 : Cond.methodLink RL 217 yX12_ticks ∈ TB := tbT_9 _ (List.mem_of_getElem? (i := 32) rfl) rfl
theorem mK_9_33 : Cond.instanceMethod yX12_ticks ∈ TB := tbT_9 _ (List.mem_of_getElem? (i := 33) rfl) rfl
theorem mK_9_34 : Cond.selects RX12 yX12_ticks yX12_ticks ∈ TB := tbT_9 _ (List.mem_of_getElem? (i := 34) rfl) rfl
theorem mK_9_35 : Cond.code yX12_ticks cX12_ticks 2 (some .int) ∈ TB := tbT_9 _ (List.mem_of_getElem? (i := 35) rfl) rfl
theorem mK_6_22 : Cond.methodLink RL 218 yL_jump ∈ TB := tbT_6 _ (List.mem_of_getElem? (i := 22) rfl) rfl
theorem mK_6_23 : Cond.static yL_jump ∈ TB := tbT_6 _ (List.mem_of_getElem? (i := 23) rfl) rfl
theorem mK_6_24 : Cond.codeWith yL_jump cL_jump 4 (some .int) [(0, 9, 12, 13)] ∈ TB := tbT_6 _ (List.mem_of_getElem? (i := 24) rfl) rfl
theorem mK_9_57 : Cond.methodLink RL 220 yX12_jump ∈ TB := tbT_9 _ (List.mem_of_getElem? (i := 57) rfl) rfl
theorem mK_9_58 : Cond.instanceMethod yX12_jump ∈ TB := tbT_9 _ (List.mem_of_getElem? (i := 58) rfl) rfl
theorem mK_9_59 : Cond.selects RX12 yX12_jump yX12_jump ∈ TB := tbT_9 _ (List.mem_of_getElem? (i := 59) rfl) rfl
theorem mK_9_60 : Cond.code yX12_jump cX12_jump 2 (some .int) ∈ TB := tbT_9 _ (List.mem_of_getElem? (i := 60) rfl) rfl
theorem mK_6_34 : Cond.methodLink RL 221 yL_job ∈ TB := tbT_6 _ (List.mem_of_getElem? (i := 34) rfl) rfl
theorem mK_6_35 : Cond.static yL_job ∈ TB := tbT_6 _ (List.mem_of_getElem? (i := 35) rfl) rfl
theorem mK_6_36 : Cond.codeWith yL_job cL_job 6 (some .int) [(0, 12, 15, 21), (0, 12, 19, 76)] ∈ TB := tbT_6 _ (List.mem_of_getElem? (i := 36) rfl) rfl
theorem mK_9_77 : Cond.methodLink RL 223 yX12_job ∈ TB := tbT_9 _ (List.mem_of_getElem? (i := 77) rfl) rfl
theorem mK_9_78 : Cond.instanceMethod yX12_job ∈ TB := tbT_9 _ (List.mem_of_getElem? (i := 78) rfl) rfl
theorem mK_9_79 : Cond.selects RX12 yX12_job yX12_job ∈ TB := tbT_9 _ (List.mem_of_getElem? (i := 79) rfl) rfl
theorem mK_9_80 : Cond.code yX12_job cX12_job 5 (some .int) ∈ TB := tbT_9 _ (List.mem_of_getElem? (i := 80) rfl) rfl
theorem mK_6_61 : Cond.methodLink RL 224 yL_cause ∈ TB := tbT_6 _ (List.mem_of_getElem? (i := 61) rfl) rfl
theorem mK_6_62 : Cond.static yL_cause ∈ TB := tbT_6 _ (List.mem_of_getElem? (i := 62) rfl) rfl
theorem mK_6_63 : Cond.codeWith yL_cause cL_cause 6 (some .int) [(0, 12, 15, 21)] ∈ TB := tbT_6 _ (List.mem_of_getElem? (i := 63) rfl) rfl
theorem mK_9_81 : Cond.methodLink RL 226 yX12_cause ∈ TB := tbT_9 _ (List.mem_of_getElem? (i := 81) rfl) rfl
theorem mK_9_82 : Cond.instanceMethod yX12_cause ∈ TB := tbT_9 _ (List.mem_of_getElem? (i := 82) rfl) rfl
theorem mK_9_83 : Cond.selects RX12 yX12_cause yX12_cause ∈ TB := tbT_9 _ (List.mem_of_getElem? (i := 83) rfl) rfl
theorem mK_9_84 : Cond.code yX12_cause cX12_cause 6 (some .int) ∈ TB := tbT_9 _ (List.mem_of_getElem? (i := 84) rfl) rfl
theorem mK_6_72 : Cond.methodLink RL 227 yL_locked ∈ TB := tbT_6 _ (List.mem_of_getElem? (i := 72) rfl) rfl
theorem mK_6_73 : Cond.static yL_locked ∈ TB := tbT_6 _ (List.mem_of_getElem? (i := 73) rfl) rfl
theorem mK_6_74 : Cond.codeWith yL_locked cL_locked 4 (some .int) [(0, 9, 12, 21)] ∈ TB := tbT_6 _ (List.mem_of_getElem? (i := 74) rfl) rfl
theorem mK_9_85 : Cond.methodLink RL 229 yX12_locked ∈ TB := tbT_9 _ (List.mem_of_getElem? (i := 85) rfl) rfl
theorem mK_9_86 : Cond.instanceMethod yX12_locked ∈ TB := tbT_9 _ (List.mem_of_getElem? (i := 86) rfl) rfl
theorem mK_9_87 : Cond.selects RX12 yX12_locked yX12_locked ∈ TB := tbT_9 _ (List.mem_of_getElem? (i := 87) rfl) rfl
theorem mK_9_88 : Cond.code yX12_locked cX12_locked 3 (some .int) ∈ TB := tbT_9 _ (List.mem_of_getElem? (i := 88) rfl) rfl
theorem mK_6_79 : Cond.methodLink RL 230 yL_session ∈ TB := tbT_6 _ (List.mem_of_getElem? (i := 79) rfl) rfl
theorem mK_6_80 : Cond.static yL_session ∈ TB := tbT_6 _ (List.mem_of_getElem? (i := 80) rfl) rfl
theorem mK_6_81 : Cond.codeWith yL_session cL_session 5 (some .int) [(0, 10, 13, 21), (0, 10, 17, 76)] ∈ TB := tbT_6 _ (List.mem_of_getElem? (i := 81) rfl) rfl
theorem mK_9_89 : Cond.methodLink RL 232 yX12_session ∈ TB := tbT_9 _ (List.mem_of_getElem? (i := 89) rfl) rfl
theorem mK_9_90 : Cond.instanceMethod yX12_session ∈ TB := tbT_9 _ (List.mem_of_getElem? (i := 90) rfl) rfl
theorem mK_9_91 : Cond.selects RX12 yX12_session yX12_session ∈ TB := tbT_9 _ (List.mem_of_getElem? (i := 91) rfl) rfl
theorem mK_9_92 : Cond.code yX12_session cX12_session 3 (some .int) ∈ TB := tbT_9 _ (List.mem_of_getElem? (i := 92) rfl) rfl
theorem mK_6_98 : Cond.methodLink RL 233 yL_plan ∈ TB := tbT_6 _ (List.mem_of_getElem? (i := 98) rfl) rfl
theorem mK_6_99 : Cond.static yL_plan ∈ TB := tbT_6 _ (List.mem_of_getElem? (i := 99) rfl) rfl
theorem mK_6_100 : Cond.codeWith yL_plan cL_plan 5 (some .int) [(0, 10, 13, 21), (0, 10, 17, 76)] ∈ TB := tbT_6 _ (List.mem_of_getElem? (i := 100) rfl) rfl
theorem mK_9_97 : Cond.methodLink RL 235 yX12_plan ∈ TB := tbT_9 _ (List.mem_of_getElem? (i := 97) rfl) rfl
theorem mK_9_98 : Cond.instanceMethod yX12_plan ∈ TB := tbT_9 _ (List.mem_of_getElem? (i := 98) rfl) rfl
theorem mK_9_99 : Cond.selects RX12 yX12_plan yX12_plan ∈ TB := tbT_9 _ (List.mem_of_getElem? (i := 99) rfl) rfl
theorem mK_9_100 : Cond.code yX12_plan cX12_plan 3 (some .int) ∈ TB := tbT_9 _ (List.mem_of_getElem? (i := 100) rfl) rfl
theorem mK_6_106 : Cond.methodLink RL 236 yL_may ∈ TB := tbT_6 _ (List.mem_of_getElem? (i := 106) rfl) rfl
theorem mK_6_107 : Cond.static yL_may ∈ TB := tbT_6 _ (List.mem_of_getElem? (i := 107) rfl) rfl
theorem mK_6_108 : Cond.codeWith yL_may cL_may 5 (some .int) [(0, 17, 20, 21)] ∈ TB := tbT_6 _ (List.mem_of_getElem? (i := 108) rfl) rfl
theorem mK_9_101 : Cond.methodLink RL 238 yX12_may ∈ TB := tbT_9 _ (List.mem_of_getElem? (i := 101) rfl) rfl
theorem mK_9_102 : Cond.instanceMethod yX12_may ∈ TB := tbT_9 _ (List.mem_of_getElem? (i := 102) rfl) rfl
theorem mK_9_103 : Cond.selects RX12 yX12_may yX12_may ∈ TB := tbT_9 _ (List.mem_of_getElem? (i := 103) rfl) rfl
theorem mK_9_104 : Cond.code yX12_may cX12_may 4 (some .boolean) ∈ TB := tbT_9 _ (List.mem_of_getElem? (i := 104) rfl) rfl
theorem mK_6_114 : Cond.methodLink RL 239 yL_next ∈ TB := tbT_6 _ (List.mem_of_getElem? (i := 114) rfl) rfl
theorem mK_6_115 : Cond.static yL_next ∈ TB := tbT_6 _ (List.mem_of_getElem? (i := 115) rfl) rfl
theorem mK_6_116 : Cond.codeWith yL_next cL_next 5 (some .int) [(0, 10, 13, 21)] ∈ TB := tbT_6 _ (List.mem_of_getElem? (i := 116) rfl) rfl
theorem mK_9_105 : Cond.methodLink RL 241 yX12_next ∈ TB := tbT_9 _ (List.mem_of_getElem? (i := 105) rfl) rfl
theorem mK_9_106 : Cond.instanceMethod yX12_next ∈ TB := tbT_9 _ (List.mem_of_getElem? (i := 106) rfl) rfl
theorem mK_9_107 : Cond.selects RX12 yX12_next yX12_next ∈ TB := tbT_9 _ (List.mem_of_getElem? (i := 107) rfl) rfl
theorem mK_9_108 : Cond.code yX12_next cX12_next 4 (some .int) ∈ TB := tbT_9 _ (List.mem_of_getElem? (i := 108) rfl) rfl
theorem mK_6_125 : Cond.methodLink RL 242 yL_bar ∈ TB := tbT_6 _ (List.mem_of_getElem? (i := 125) rfl) rfl
theorem mK_6_126 : Cond.static yL_bar ∈ TB := tbT_6 _ (List.mem_of_getElem? (i := 126) rfl) rfl
theorem mK_6_127 : Cond.codeWith yL_bar cL_bar 5 (some .int) [(0, 10, 13, 21)] ∈ TB := tbT_6 _ (List.mem_of_getElem? (i := 127) rfl) rfl
theorem mK_9_113 : Cond.methodLink RL 244 yX12_bar ∈ TB := tbT_9 _ (List.mem_of_getElem? (i := 113) rfl) rfl
theorem mK_9_114 : Cond.instanceMethod yX12_bar ∈ TB := tbT_9 _ (List.mem_of_getElem? (i := 114) rfl) rfl
theorem mK_9_115 : Cond.selects RX12 yX12_bar yX12_bar ∈ TB := tbT_9 _ (List.mem_of_getElem? (i := 115) rfl) rfl
theorem mK_9_116 : Cond.code yX12_bar cX12_bar 6 (some .int) ∈ TB := tbT_9 _ (List.mem_of_getElem? (i := 116) rfl) rfl
theorem mK_6_139 : Cond.methodLink RL 245 yL_race ∈ TB := tbT_6 _ (List.mem_of_getElem? (i := 139) rfl) rfl
theorem mK_6_140 : Cond.static yL_race ∈ TB := tbT_6 _ (List.mem_of_getElem? (i := 140) rfl) rfl
theorem mK_6_141 : Cond.codeWith yL_race cL_race 5 (some .int) [(0, 10, 13, 21), (0, 10, 17, 13)] ∈ TB := tbT_6 _ (List.mem_of_getElem? (i := 141) rfl) rfl
theorem mK_9_117 : Cond.methodLink RL 247 yX12_race ∈ TB := tbT_9 _ (List.mem_of_getElem? (i := 117) rfl) rfl
theorem mK_9_118 : Cond.instanceMethod yX12_race ∈ TB := tbT_9 _ (List.mem_of_getElem? (i := 118) rfl) rfl
theorem mK_9_119 : Cond.selects RX12 yX12_race yX12_race ∈ TB := tbT_9 _ (List.mem_of_getElem? (i := 119) rfl) rfl
theorem mK_9_120 : Cond.code yX12_race cX12_race 3 (some .int) ∈ TB := tbT_9 _ (List.mem_of_getElem? (i := 120) rfl) rfl
theorem mK_6_164 : Cond.methodLink RL 248 yL_passed ∈ TB := tbT_6 _ (List.mem_of_getElem? (i := 164) rfl) rfl
theorem mK_6_165 : Cond.static yL_passed ∈ TB := tbT_6 _ (List.mem_of_getElem? (i := 165) rfl) rfl
theorem mK_6_166 : Cond.codeWith yL_passed cL_passed 5 (some .int) [(0, 10, 13, 21)] ∈ TB := tbT_6 _ (List.mem_of_getElem? (i := 166) rfl) rfl
theorem mK_9_129 : Cond.methodLink RL 250 yX12_passed ∈ TB := tbT_9 _ (List.mem_of_getElem? (i := 129) rfl) rfl
theorem mK_9_130 : Cond.instanceMethod yX12_passed ∈ TB := tbT_9 _ (List.mem_of_getElem? (i := 130) rfl) rfl
theorem mK_9_131 : Cond.selects RX12 yX12_passed yX12_passed ∈ TB := tbT_9 _ (List.mem_of_getElem? (i := 131) rfl) rfl
theorem mK_9_132 : Cond.code yX12_passed cX12_passed 5 (some .int) ∈ TB := tbT_9 _ (List.mem_of_getElem? (i := 132) rfl) rfl
theorem mK_6_174 : Cond.methodLink RL 251 yL_again ∈ TB := tbT_6 _ (List.mem_of_getElem? (i := 174) rfl) rfl
theorem mK_6_175 : Cond.static yL_again ∈ TB := tbT_6 _ (List.mem_of_getElem? (i := 175) rfl) rfl
theorem mK_6_176 : Cond.codeWith yL_again cL_again 6 (some .int) [(0, 12, 15, 21)] ∈ TB := tbT_6 _ (List.mem_of_getElem? (i := 176) rfl) rfl
theorem mK_9_137 : Cond.methodLink RL 253 yX12_again ∈ TB := tbT_9 _ (List.mem_of_getElem? (i := 137) rfl) rfl
theorem mK_9_138 : Cond.instanceMethod yX12_again ∈ TB := tbT_9 _ (List.mem_of_getElem? (i := 138) rfl) rfl
theorem mK_9_139 : Cond.selects RX12 yX12_again yX12_again ∈ TB := tbT_9 _ (List.mem_of_getElem? (i := 139) rfl) rfl
theorem mK_9_140 : Cond.code yX12_again cX12_again 9 (some .int) ∈ TB := tbT_9 _ (List.mem_of_getElem? (i := 140) rfl) rfl
theorem mK_6_185 : Cond.methodLink RL 254 yL_would ∈ TB := tbT_6 _ (List.mem_of_getElem? (i := 185) rfl) rfl
theorem mK_6_186 : Cond.static yL_would ∈ TB := tbT_6 _ (List.mem_of_getElem? (i := 186) rfl) rfl
theorem mK_6_187 : Cond.codeWith yL_would cL_would 5 (some .int) [(0, 10, 13, 13)] ∈ TB := tbT_6 _ (List.mem_of_getElem? (i := 187) rfl) rfl
theorem mK_9_65 : Cond.methodLink RL 257 yX12_would ∈ TB := tbT_9 _ (List.mem_of_getElem? (i := 65) rfl) rfl
theorem mK_9_66 : Cond.instanceMethod yX12_would ∈ TB := tbT_9 _ (List.mem_of_getElem? (i := 66) rfl) rfl
theorem mK_9_67 : Cond.selects RX12 yX12_would yX12_would ∈ TB := tbT_9 _ (List.mem_of_getElem? (i := 67) rfl) rfl
theorem mK_9_68 : Cond.code yX12_would cX12_would 4 (some .int) ∈ TB := tbT_9 _ (List.mem_of_getElem? (i := 68) rfl) rfl
theorem mK_6_192 : Cond.methodLink RL 258 yL_work ∈ TB := tbT_6 _ (List.mem_of_getElem? (i := 192) rfl) rfl
theorem mK_6_193 : Cond.static yL_work ∈ TB := tbT_6 _ (List.mem_of_getElem? (i := 193) rfl) rfl
theorem mK_6_194 : Cond.codeWith yL_work cL_work 5 (some .int) [(0, 10, 13, 13), (0, 10, 17, 21)] ∈ TB := tbT_6 _ (List.mem_of_getElem? (i := 194) rfl) rfl
theorem mK_9_141 : Cond.methodLink RL 260 yX12_work ∈ TB := tbT_9 _ (List.mem_of_getElem? (i := 141) rfl) rfl
theorem mK_9_142 : Cond.instanceMethod yX12_work ∈ TB := tbT_9 _ (List.mem_of_getElem? (i := 142) rfl) rfl
theorem mK_9_143 : Cond.selects RX12 yX12_work yX12_work ∈ TB := tbT_9 _ (List.mem_of_getElem? (i := 143) rfl) rfl
theorem mK_9_144 : Cond.code yX12_work cX12_work 5 (some .int) ∈ TB := tbT_9 _ (List.mem_of_getElem? (i := 144) rfl) rfl
theorem mK_6_219 : Cond.methodLink RL 261 yL_was ∈ TB := tbT_6 _ (List.mem_of_getElem? (i := 219) rfl) rfl
theorem mK_6_220 : Cond.static yL_was ∈ TB := tbT_6 _ (List.mem_of_getElem? (i := 220) rfl) rfl
theorem mK_6_221 : Cond.codeWith yL_was cL_was 5 (some .int) [(0, 10, 13, 21)] ∈ TB := tbT_6 _ (List.mem_of_getElem? (i := 221) rfl) rfl
theorem mK_9_173 : Cond.methodLink RL 263 yX12_was ∈ TB := tbT_9 _ (List.mem_of_getElem? (i := 173) rfl) rfl
theorem mK_9_174 : Cond.instanceMethod yX12_was ∈ TB := tbT_9 _ (List.mem_of_getElem? (i := 174) rfl) rfl
theorem mK_9_175 : Cond.selects RX12 yX12_was yX12_was ∈ TB := tbT_9 _ (List.mem_of_getElem? (i := 175) rfl) rfl
theorem mK_9_176 : Cond.code yX12_was cX12_was 4 (some .int) ∈ TB := tbT_9 _ (List.mem_of_getElem? (i := 176) rfl) rfl
theorem mK_3_30 : Cond.methodLink RL 264 yX11_longest ∈ TB := tbT_3 _ (List.mem_of_getElem? (i := 30) rfl) rfl
theorem mK_3_31 : Cond.instanceMethod yX11_longest ∈ TB := tbT_3 _ (List.mem_of_getElem? (i := 31) rfl) rfl
theorem mK_3_32 : Cond.selects RX11 yX11_longest yX11_longest ∈ TB := tbT_3 _ (List.mem_of_getElem? (i := 32) rfl) rfl
theorem mK_3_33 : Cond.code yX11_longest cX11_longest 1 (some .int) ∈ TB := tbT_3 _ (List.mem_of_getElem? (i := 33) rfl) rfl
theorem mK_9_181 : Cond.methodLink RL 267 yX12_longest ∈ TB := tbT_9 _ (List.mem_of_getElem? (i := 181) rfl) rfl
theorem mK_9_182 : Cond.instanceMethod yX12_longest ∈ TB := tbT_9 _ (List.mem_of_getElem? (i := 182) rfl) rfl
theorem mK_9_183 : Cond.selects RX12 yX12_longest yX12_longest ∈ TB := tbT_9 _ (List.mem_of_getElem? (i := 183) rfl) rfl
theorem mK_9_184 : Cond.code yX12_longest cX12_longest 4 (some .int) ∈ TB := tbT_9 _ (List.mem_of_getElem? (i := 184) rfl) rfl
theorem mK_6_230 : Cond.methodLink RL 268 yL_overtaken ∈ TB := tbT_6 _ (List.mem_of_getElem? (i := 230) rfl) rfl
theorem mK_6_231 : Cond.static yL_overtaken ∈ TB := tbT_6 _ (List.mem_of_getElem? (i := 231) rfl) rfl
theorem mK_6_232 : Cond.codeWith yL_overtaken cL_overtaken 4 (some .int) [(0, 9, 12, 21)] ∈ TB := tbT_6 _ (List.mem_of_getElem? (i := 232) rfl) rfl
theorem mK_9_189 : Cond.methodLink RL 270 yX12_overtaken ∈ TB := tbT_9 _ (List.mem_of_getElem? (i := 189) rfl) rfl
theorem mK_9_190 : Cond.instanceMethod yX12_overtaken ∈ TB := tbT_9 _ (List.mem_of_getElem? (i := 190) rfl) rfl
theorem mK_9_191 : Cond.selects RX12 yX12_overtaken yX12_overtaken ∈ TB := tbT_9 _ (List.mem_of_getElem? (i := 191) rfl) rfl
theorem mK_9_192 : Cond.code yX12_overtaken cX12_overtaken 6 (some .int) ∈ TB := tbT_9 _ (List.mem_of_getElem? (i := 192) rfl) rfl
theorem mK_7_17 : Cond.methodLink RL 271 yL_alike ∈ TB := tbT_7 _ (List.mem_of_getElem? (i := 17) rfl) rfl
theorem mK_7_18 : Cond.static yL_alike ∈ TB := tbT_7 _ (List.mem_of_getElem? (i := 18) rfl) rfl
theorem mK_7_19 : Cond.codeWith yL_alike cL_alike 5 (some .int) [(0, 10, 13, 21), (0, 10, 17, 13)] ∈ TB := tbT_7 _ (List.mem_of_getElem? (i := 19) rfl) rfl
theorem mK_9_201 : Cond.methodLink RL 273 yX12_alike ∈ TB := tbT_9 _ (List.mem_of_getElem? (i := 201) rfl) rfl
theorem mK_9_202 : Cond.instanceMethod yX12_alike ∈ TB := tbT_9 _ (List.mem_of_getElem? (i := 202) rfl) rfl
theorem mK_9_203 : Cond.selects RX12 yX12_alike yX12_alike ∈ TB := tbT_9 _ (List.mem_of_getElem? (i := 203) rfl) rfl
theorem mK_9_204 : Cond.code yX12_alike cX12_alike 8 (some .int) ∈ TB := tbT_9 _ (List.mem_of_getElem? (i := 204) rfl) rfl
theorem mK_7_29 : Cond.methodLink RL 274 yL_root ∈ TB := tbT_7 _ (List.mem_of_getElem? (i := 29) rfl) rfl
theorem mK_7_30 : Cond.static yL_root ∈ TB := tbT_7 _ (List.mem_of_getElem? (i := 30) rfl) rfl
theorem mK_7_31 : Cond.codeWith yL_root cL_root 4 (some .int) [(0, 9, 12, 13)] ∈ TB := tbT_7 _ (List.mem_of_getElem? (i := 31) rfl) rfl
theorem mK_9_205 : Cond.methodLink RL 276 yX12_root ∈ TB := tbT_9 _ (List.mem_of_getElem? (i := 205) rfl) rfl
theorem mK_9_206 : Cond.instanceMethod yX12_root ∈ TB := tbT_9 _ (List.mem_of_getElem? (i := 206) rfl) rfl
theorem mK_9_207 : Cond.selects RX12 yX12_root yX12_root ∈ TB := tbT_9 _ (List.mem_of_getElem? (i := 207) rfl) rfl
theorem mK_9_208 : Cond.code yX12_root cX12_root 5 (some .int) ∈ TB := tbT_9 _ (List.mem_of_getElem? (i := 208) rfl) rfl
theorem mK_7_41 : Cond.methodLink RL 277 yL_find ∈ TB := tbT_7 _ (List.mem_of_getElem? (i := 41) rfl) rfl
theorem mK_7_42 : Cond.static yL_find ∈ TB := tbT_7 _ (List.mem_of_getElem? (i := 42) rfl) rfl
theorem mK_7_43 : Cond.codeWith yL_find cL_find 5 (some .int) [(0, 10, 13, 76)] ∈ TB := tbT_7 _ (List.mem_of_getElem? (i := 43) rfl) rfl
theorem mK_9_209 : Cond.methodLink RL 279 yX12_find ∈ TB := tbT_9 _ (List.mem_of_getElem? (i := 209) rfl) rfl
theorem mK_9_210 : Cond.instanceMethod yX12_find ∈ TB := tbT_9 _ (List.mem_of_getElem? (i := 210) rfl) rfl
theorem mK_9_211 : Cond.selects RX12 yX12_find yX12_find ∈ TB := tbT_9 _ (List.mem_of_getElem? (i := 211) rfl) rfl
theorem mK_9_212 : Cond.code yX12_find cX12_find 5 (some .int) ∈ TB := tbT_9 _ (List.mem_of_getElem? (i := 212) rfl) rfl
theorem mK_7_56 : Cond.methodLink RL 280 yL_log ∈ TB := tbT_7 _ (List.mem_of_getElem? (i := 56) rfl) rfl
theorem mK_7_57 : Cond.static yL_log ∈ TB := tbT_7 _ (List.mem_of_getElem? (i := 57) rfl) rfl
theorem mK_7_58 : Cond.codeWith yL_log cL_log 5 (some .int) [(0, 10, 13, 76)] ∈ TB := tbT_7 _ (List.mem_of_getElem? (i := 58) rfl) rfl
theorem mK_9_197 : Cond.methodLink RL 282 yX12_log ∈ TB := tbT_9 _ (List.mem_of_getElem? (i := 197) rfl) rfl
theorem mK_9_198 : Cond.instanceMethod yX12_log ∈ TB := tbT_9 _ (List.mem_of_getElem? (i := 198) rfl) rfl
theorem mK_9_199 : Cond.selects RX12 yX12_log yX12_log ∈ TB := tbT_9 _ (List.mem_of_getElem? (i := 199) rfl) rfl
theorem mK_9_200 : Cond.code yX12_log cX12_log 3 (some .int) ∈ TB := tbT_9 _ (List.mem_of_getElem? (i := 200) rfl) rfl
theorem mK_3_49 : Cond.methodLink RL 283 yX11_image ∈ TB := tbT_3 _ (List.mem_of_getElem? (i := 49) rfl) rfl
theorem mK_3_50 : Cond.instanceMethod yX11_image ∈ TB := tbT_3 _ (List.mem_of_getElem? (i := 50) rfl) rfl
theorem mK_3_51 : Cond.selects RX11 yX11_image yX11_image ∈ TB := tbT_3 _ (List.mem_of_getElem? (i := 51) rfl) rfl
theorem mK_3_52 : Cond.code yX11_image cX11_image 1 none ∈ TB := tbT_3 _ (List.mem_of_getElem? (i := 52) rfl) rfl
theorem mK_7_135 : Cond.methodLink RL 286 yX12_image ∈ TB := tbT_7 _ (List.mem_of_getElem? (i := 135) rfl) rfl
theorem mK_7_136 : Cond.instanceMethod yX12_image ∈ TB := tbT_7 _ (List.mem_of_getElem? (i := 136) rfl) rfl
theorem mK_7_137 : Cond.selects RX12 yX12_image yX12_image ∈ TB := tbT_7 _ (List.mem_of_getElem? (i := 137) rfl) rfl
theorem mK_7_138 : Cond.code yX12_image cX12_image 2 none ∈ TB := tbT_7 _ (List.mem_of_getElem? (i := 138) rfl) rfl
theorem mK_3_89 : Cond.methodLink RL 287 yX11_back ∈ TB := tbT_3 _ (List.mem_of_getElem? (i := 89) rfl) rfl
theorem mK_3_90 : Cond.instanceMethod yX11_back ∈ TB := tbT_3 _ (List.mem_of_getElem? (i := 90) rfl) rfl
theorem mK_3_91 : Cond.selects RX11 yX11_back yX11_back ∈ TB := tbT_3 _ (List.mem_of_getElem? (i := 91) rfl) rfl
theorem mK_3_92 : Cond.code yX11_back cX11_back 1 (some .boolean) ∈ TB := tbT_3 _ (List.mem_of_getElem? (i := 92) rfl) rfl
theorem mK_7_139 : Cond.methodLink RL 291 yX12_back ∈ TB := tbT_7 _ (List.mem_of_getElem? (i := 139) rfl) rfl
theorem mK_7_140 : Cond.instanceMethod yX12_back ∈ TB := tbT_7 _ (List.mem_of_getElem? (i := 140) rfl) rfl
theorem mK_7_141 : Cond.selects RX12 yX12_back yX12_back ∈ TB := tbT_7 _ (List.mem_of_getElem? (i := 141) rfl) rfl
theorem mK_7_142 : Cond.code yX12_back cX12_back 2 (some .boolean) ∈ TB := tbT_7 _ (List.mem_of_getElem? (i := 142) rfl) rfl
theorem mK_3_93 : Cond.methodLink RL 292 yX11_count ∈ TB := tbT_3 _ (List.mem_of_getElem? (i := 93) rfl) rfl
theorem mK_3_94 : Cond.instanceMethod yX11_count ∈ TB := tbT_3 _ (List.mem_of_getElem? (i := 94) rfl) rfl
theorem mK_3_95 : Cond.selects RX11 yX11_count yX11_count ∈ TB := tbT_3 _ (List.mem_of_getElem? (i := 95) rfl) rfl
theorem mK_3_96 : Cond.code yX11_count cX11_count 2 (some .int) ∈ TB := tbT_3 _ (List.mem_of_getElem? (i := 96) rfl) rfl
theorem mK_9_217 : Cond.methodLink RL 295 yX12_count ∈ TB := tbT_9 _ (List.mem_of_getElem? (i := 217) rfl) rfl
theorem mK_9_218 : Cond.instanceMethod yX12_count ∈ TB := tbT_9 _ (List.mem_of_getElem? (i := 218) rfl) rfl
theorem mK_9_219 : Cond.selects RX12 yX12_count yX12_count ∈ TB := tbT_9 _ (List.mem_of_getElem? (i := 219) rfl) rfl
theorem mK_9_220 : Cond.code yX12_count cX12_count 4 (some .int) ∈ TB := tbT_9 _ (List.mem_of_getElem? (i := 220) rfl) rfl
theorem tbSW {own : String} {idx mL : Nat} {y : MethodName} {bs : ByteArray} {r : Option FieldType} {hh : List (Nat × Nat × Nat × Nat)} (h1 : Cond.methodLink own idx y ∈ TB) (h2 : Cond.static y ∈ TB ∧ Cond.initialized y.cls ∈ TB ∧ Cond.codeWith y bs mL r hh ∈ TB) : GoodIn TB (va_wsS own idx y (Cond.codeWith y bs mL r hh :: TB)) := by
  refine tbG fun w hw => ?_
  unfold va_wsS at hw
  rcases List.mem_append.mp hw with h | h
  · rcases List.mem_cons.mp h with rfl | h
    · exact h1
    rcases List.mem_cons.mp h with rfl | h
    · exact h2.1
    rcases List.mem_cons.mp h with rfl | h
    · exact h2.2.1
    · exact absurd h List.not_mem_nil
  · exact tbC h2.2.2 w h
def CS_0 (a1 a2 a3 a4 a5 : Int32) (Sc Sm : sSt) (o : Int64) (K : sSt → sSt → Int64 → Prop) : Prop := F_X11_feed a1 a2 a3 a4 a5 Sc (fun r1 S2 => F_X12_feed a1 a2 a3 a4 a5 Sm (fun r3 S4 => ((r1 = r3 → K S2 S4 o) ∧ (¬ r1 = r3 → False))))
set_option maxHeartbeats 4000000 in
set_option maxRecDepth 100000 in
theorem LW_0 {p : Program} {l : Launch} {e : Env} {s : State} {m : MethodId} {args : Array Value} {below : List Frame} {meth : Method} {c : Code} {Q : State → Prop} {D : va_G} {cy : Nat → ClassId} {b b0 L : Nat} {tx : TX} {xs : Nat → Int32} (hl0 : l.stackTraces = false) (C0 : CallFix p m c cL_law 7 s args TB RL) (hT : TxR tx s) (hN : TxN s) (hX : va_X b0 L xs s s.heap) (hbl : b0 < s.heap.size) (hb1 : b = s.heap.size) (hL3 : L ≤ 3072) (t : Nat) (ht : 6 * t + 6 ≤ L) {Sc Sm : sSt} {o : Int64} {K : sSt → sSt → Int64 → Prop} {H : Heap} {locs : List Loc} {ls : Array Slot} {cells slots : Nat} (hc1 : cells + 6 ≤ room_1.cells) (hc2 : slots + 36 ≤ room_1.slots) (h : CS_0 (xs (6 * t + 1)) (xs (6 * t + 2)) (xs (6 * t + 3)) (xs (6 * t + 4)) (xs (6 * t + 5)) Sc Sm o K) (hR : RelL D cy b tx Sc Sm o s H) (hS : va_S (bA b) s.heap H locs) (hl : lv_has ls 7 [(0, .ref b0), (1, .ref (b + adC 0 0)), (2, .ref (b + 709 + adM 0 0)), (3, .ref (b + 721)), (4, .int (nI (6 * t)))])
    (kk : ∀ (S1 S2 : sSt) (o1 : Int64) (H1 : Heap) (locs1 : List Loc) (ls1 : Array Slot), K S1 S2 o1 → RelL D cy b tx S1 S2 o1 s H1 → va_S (bA b) s.heap H1 locs1 → lv_has ls1 7 [(0, .ref b0), (1, .ref (b + adC 0 0)), (2, .ref (b + 709 + adM 0 0)), (3, .ref (b + 721)), (4, .int (nI (6 * t)))] → W p l e room_1 s m args below meth c H1 locs1 (cells + 6) (slots + 36) Q (F0 m 2858 ls1 [])) : W p l e room_1 s m args below meth c H locs cells slots Q (F0 m 236 ls []) := by
  have hx := C0.1
  have hb := C0.2.1
  unfold CS_0 at h
  refine lv_aload_n hx hb dL_law_236 rfl (lv_at hl 1 rfl) ?_
  refine lv_aload_n hx hb dL_law_237 rfl (lv_at hl 0 rfl) ?_
  refine lv_iload hx hb dL_law_238 (lv_at hl 4 rfl) ?_
  refine lv_iconst (v := 1) hx hb dL_law_240 (by decide) ?_
  refine lv_iadd hx hb dL_law_241 ?_
  refine lw_sld (v := xs (6 * t + 1)) C0 hX hbl hb1 hS (nI_add (6 * t) 1) (show 6 * t + 1 < L by omega) hL3 rfl dL_law_242 ?_
  refine lv_aload_n hx hb dL_law_243 rfl (lv_at hl 0 rfl) ?_
  refine lv_iload hx hb dL_law_244 (lv_at hl 4 rfl) ?_
  refine lv_iconst (v := 2) hx hb dL_law_246 (by decide) ?_
  refine lv_iadd hx hb dL_law_247 ?_
  refine lw_sld (v := xs (6 * t + 2)) C0 hX hbl hb1 hS (nI_add (6 * t) 2) (show 6 * t + 2 < L by omega) hL3 rfl dL_law_248 ?_
  refine lv_aload_n hx hb dL_law_249 rfl (lv_at hl 0 rfl) ?_
  refine lv_iload hx hb dL_law_250 (lv_at hl 4 rfl) ?_
  refine lv_iconst (v := 3) hx hb dL_law_252 (by decide) ?_
  refine lv_iadd hx hb dL_law_253 ?_
  refine lw_sld (v := xs (6 * t + 3)) C0 hX hbl hb1 hS (nI_add (6 * t) 3) (show 6 * t + 3 < L by omega) hL3 rfl dL_law_254 ?_
  refine lv_aload_n hx hb dL_law_255 rfl (lv_at hl 0 rfl) ?_
  refine lv_iload hx hb dL_law_256 (lv_at hl 4 rfl) ?_
  refine lv_iconst (v := 4) hx hb dL_law_258 (by decide) ?_
  refine lv_iadd hx hb dL_law_259 ?_
  refine lw_sld (v := xs (6 * t + 4)) C0 hX hbl hb1 hS (nI_add (6 * t) 4) (show 6 * t + 4 < L by omega) hL3 rfl dL_law_260 ?_
  refine lv_aload_n hx hb dL_law_261 rfl (lv_at hl 0 rfl) ?_
  refine lv_iload hx hb dL_law_262 (lv_at hl 4 rfl) ?_
  refine lv_iconst (v := 5) hx hb dL_law_264 (by decide) ?_
  refine lv_iadd hx hb dL_law_265 ?_
  refine lw_sld (v := xs (6 * t + 5)) C0 hX hbl hb1 hS (nI_add (6 * t) 5) (show 6 * t + 5 < L by omega) hL3 rfl dL_law_266 ?_
  refine qLC_i (As := [.int (xs (6 * t + 1)), .int (xs (6 * t + 2)), .int (xs (6 * t + 3)), .int (xs (6 * t + 4)), .int (xs (6 * t + 5))]) (rest := []) C0 (c_X11_feed l h) (cwV 5 C0.2.2.2.2 (tbV mK_2_234 ⟨mK_2_235, mK_2_236, mK_1_1, mK_2_237⟩) rfl rfl rfl (by decide +kernel) ⟨Nat.le_of_ble_eq_true rfl, Nat.le_of_ble_eq_true rfl⟩) hR hT hS rfl hl.1 rfl (Nat.le_of_ble_eq_true rfl) dL_law_267 ⟨by omega, by omega⟩ (fun r1 S2 H locs h hR hS => ?_)
  refine lv_aload_n hx hb dL_law_270 rfl (lv_at hl 2 rfl) ?_
  refine lv_aload_n hx hb dL_law_271 rfl (lv_at hl 0 rfl) ?_
  refine lv_iload hx hb dL_law_272 (lv_at hl 4 rfl) ?_
  refine lv_iconst (v := 1) hx hb dL_law_274 (by decide) ?_
  refine lv_iadd hx hb dL_law_275 ?_
  refine lw_sld (v := xs (6 * t + 1)) C0 hX hbl hb1 hS (nI_add (6 * t) 1) (show 6 * t + 1 < L by omega) hL3 rfl dL_law_276 ?_
  refine lv_aload_n hx hb dL_law_277 rfl (lv_at hl 0 rfl) ?_
  refine lv_iload hx hb dL_law_278 (lv_at hl 4 rfl) ?_
  refine lv_iconst (v := 2) hx hb dL_law_280 (by decide) ?_
  refine lv_iadd hx hb dL_law_281 ?_
  refine lw_sld (v := xs (6 * t + 2)) C0 hX hbl hb1 hS (nI_add (6 * t) 2) (show 6 * t + 2 < L by omega) hL3 rfl dL_law_282 ?_
  refine lv_aload_n hx hb dL_law_283 rfl (lv_at hl 0 rfl) ?_
  refine lv_iload hx hb dL_law_284 (lv_at hl 4 rfl) ?_
  refine lv_iconst (v := 3) hx hb dL_law_286 (by decide) ?_
  refine lv_iadd hx hb dL_law_287 ?_
  refine lw_sld (v := xs (6 * t + 3)) C0 hX hbl hb1 hS (nI_add (6 * t) 3) (show 6 * t + 3 < L by omega) hL3 rfl dL_law_288 ?_
  refine lv_aload_n hx hb dL_law_289 rfl (lv_at hl 0 rfl) ?_
  refine lv_iload hx hb dL_law_290 (lv_at hl 4 rfl) ?_
  refine lv_iconst (v := 4) hx hb dL_law_292 (by decide) ?_
  refine lv_iadd hx hb dL_law_293 ?_
  refine lw_sld (v := xs (6 * t + 4)) C0 hX hbl hb1 hS (nI_add (6 * t) 4) (show 6 * t + 4 < L by omega) hL3 rfl dL_law_294 ?_
  refine lv_aload_n hx hb dL_law_295 rfl (lv_at hl 0 rfl) ?_
  refine lv_iload hx hb dL_law_296 (lv_at hl 4 rfl) ?_
  refine lv_iconst (v := 5) hx hb dL_law_298 (by decide) ?_
  refine lv_iadd hx hb dL_law_299 ?_
  refine lw_sld (v := xs (6 * t + 5)) C0 hX hbl hb1 hS (nI_add (6 * t) 5) (show 6 * t + 5 < L by omega) hL3 rfl dL_law_300 ?_
  refine qLM_i (As := [.int (xs (6 * t + 1)), .int (xs (6 * t + 2)), .int (xs (6 * t + 3)), .int (xs (6 * t + 4)), .int (xs (6 * t + 5))]) (rest := [.int r1]) C0 (c_X12_feed l h) (cwV 5 C0.2.2.2.2 (tbV mK_7_143 ⟨mK_7_144, mK_7_145, mK_1_11, mK_7_146⟩) rfl rfl rfl (by decide +kernel) ⟨Nat.le_of_ble_eq_true rfl, Nat.le_of_ble_eq_true rfl⟩) hR hT hS rfl hl.1 rfl (Nat.le_of_ble_eq_true rfl) dL_law_301 ⟨by omega, by omega⟩ (fun r3 S4 H locs h hR hS => ?_)
  refine lv_icmp_eq (tgt := 2858) hx hb dL_law_304 (by decide) (fun c5 => ?_) (fun c5 => ?_)
  · have h := h.1 c5
    exact W.widen (k := cells + 6) (n := slots + 36) (by omega) (by omega) (kk S2 S4 o H locs _ h hR hS (lv_sub hl [0, 1, 2, 3, 4] rfl))
  · have h := h.2 c5
    exact h.elim
def CS_1 (a1 a2 a3 a4 a5 : Int32) (Sc Sm : sSt) (o : Int64) (K : sSt → sSt → Int64 → Prop) : Prop := F_X11_end a1 Sc (fun r1 S2 => F_X12_end a1 Sm (fun r3 S4 => ((r1 = r3 → K S2 S4 o) ∧ (¬ r1 = r3 → False))))
set_option maxHeartbeats 4000000 in
set_option maxRecDepth 100000 in
theorem LW_1 {p : Program} {l : Launch} {e : Env} {s : State} {m : MethodId} {args : Array Value} {below : List Frame} {meth : Method} {c : Code} {Q : State → Prop} {D : va_G} {cy : Nat → ClassId} {b b0 L : Nat} {tx : TX} {xs : Nat → Int32} (hl0 : l.stackTraces = false) (C0 : CallFix p m c cL_law 7 s args TB RL) (hT : TxR tx s) (hN : TxN s) (hX : va_X b0 L xs s s.heap) (hbl : b0 < s.heap.size) (hb1 : b = s.heap.size) (hL3 : L ≤ 3072) (t : Nat) (ht : 6 * t + 6 ≤ L) {Sc Sm : sSt} {o : Int64} {K : sSt → sSt → Int64 → Prop} {H : Heap} {locs : List Loc} {ls : Array Slot} {cells slots : Nat} (hc1 : cells + 6 ≤ room_1.cells) (hc2 : slots + 36 ≤ room_1.slots) (h : CS_1 (xs (6 * t + 1)) (xs (6 * t + 2)) (xs (6 * t + 3)) (xs (6 * t + 4)) (xs (6 * t + 5)) Sc Sm o K) (hR : RelL D cy b tx Sc Sm o s H) (hS : va_S (bA b) s.heap H locs) (hl : lv_has ls 7 [(0, .ref b0), (1, .ref (b + adC 0 0)), (2, .ref (b + 709 + adM 0 0)), (3, .ref (b + 721)), (4, .int (nI (6 * t)))])
    (kk : ∀ (S1 S2 : sSt) (o1 : Int64) (H1 : Heap) (locs1 : List Loc) (ls1 : Array Slot), K S1 S2 o1 → RelL D cy b tx S1 S2 o1 s H1 → va_S (bA b) s.heap H1 locs1 → lv_has ls1 7 [(0, .ref b0), (1, .ref (b + adC 0 0)), (2, .ref (b + 709 + adM 0 0)), (3, .ref (b + 721)), (4, .int (nI (6 * t)))] → W p l e room_1 s m args below meth c H1 locs1 (cells + 6) (slots + 36) Q (F0 m 2858 ls1 [])) : W p l e room_1 s m args below meth c H locs cells slots Q (F0 m 309 ls []) := by
  have hx := C0.1
  have hb := C0.2.1
  unfold CS_1 at h
  refine lv_aload_n hx hb dL_law_309 rfl (lv_at hl 1 rfl) ?_
  refine lv_aload_n hx hb dL_law_310 rfl (lv_at hl 0 rfl) ?_
  refine lv_iload hx hb dL_law_311 (lv_at hl 4 rfl) ?_
  refine lv_iconst (v := 1) hx hb dL_law_313 (by decide) ?_
  refine lv_iadd hx hb dL_law_314 ?_
  refine lw_sld (v := xs (6 * t + 1)) C0 hX hbl hb1 hS (nI_add (6 * t) 1) (show 6 * t + 1 < L by omega) hL3 rfl dL_law_315 ?_
  refine qLC_i (As := [.int (xs (6 * t + 1))]) (rest := []) C0 (c_X11_end l h) (cwV 1 C0.2.2.2.2 (tbV mK_3_6 ⟨mK_3_7, mK_3_8, mK_1_1, mK_3_9⟩) rfl rfl rfl (by decide +kernel) ⟨Nat.le_of_ble_eq_true rfl, Nat.le_of_ble_eq_true rfl⟩) hR hT hS rfl hl.1 rfl (Nat.le_of_ble_eq_true rfl) dL_law_316 ⟨by omega, by omega⟩ (fun r1 S2 H locs h hR hS => ?_)
  refine lv_aload_n hx hb dL_law_319 rfl (lv_at hl 2 rfl) ?_
  refine lv_aload_n hx hb dL_law_320 rfl (lv_at hl 0 rfl) ?_
  refine lv_iload hx hb dL_law_321 (lv_at hl 4 rfl) ?_
  refine lv_iconst (v := 1) hx hb dL_law_323 (by decide) ?_
  refine lv_iadd hx hb dL_law_324 ?_
  refine lw_sld (v := xs (6 * t + 1)) C0 hX hbl hb1 hS (nI_add (6 * t) 1) (show 6 * t + 1 < L by omega) hL3 rfl dL_law_325 ?_
  refine qLM_i (As := [.int (xs (6 * t + 1))]) (rest := [.int r1]) C0 (c_X12_end l h) (cwV 1 C0.2.2.2.2 (tbV mK_7_147 ⟨mK_7_148, mK_7_149, mK_1_11, mK_7_150⟩) rfl rfl rfl (by decide +kernel) ⟨Nat.le_of_ble_eq_true rfl, Nat.le_of_ble_eq_true rfl⟩) hR hT hS rfl hl.1 rfl (Nat.le_of_ble_eq_true rfl) dL_law_326 ⟨by omega, by omega⟩ (fun r3 S4 H locs h hR hS => ?_)
  refine lv_icmp_eq (tgt := 2858) hx hb dL_law_329 (by decide) (fun c5 => ?_) (fun c5 => ?_)
  · have h := h.1 c5
    exact W.widen (k := cells + 6) (n := slots + 36) (by omega) (by omega) (kk S2 S4 o H locs _ h hR hS (lv_sub hl [0, 1, 2, 3, 4] rfl))
  · have h := h.2 c5
    exact h.elim
def CS_2 (a1 a2 a3 a4 a5 : Int32) (Sc Sm : sSt) (o : Int64) (K : sSt → sSt → Int64 → Prop) : Prop := FW_table Sc o (fun r1 S2 o3 => F_X12_table Sm (fun r4 S5 => F_X12_thrown S5 (fun r6 S7 => ((r6 = r1 → ((¬ r1 = 0 → K S2 S7 o3) ∧ (r1 = 0 → ((o3 = r4.toInt64 → K S2 S7 o3) ∧ (¬ o3 = r4.toInt64 → False))))) ∧ (¬ r6 = r1 → False)))))
set_option maxHeartbeats 4000000 in
set_option maxRecDepth 100000 in
theorem LW_2 {p : Program} {l : Launch} {e : Env} {s : State} {m : MethodId} {args : Array Value} {below : List Frame} {meth : Method} {c : Code} {Q : State → Prop} {D : va_G} {cy : Nat → ClassId} {b b0 L : Nat} {tx : TX} {xs : Nat → Int32} (hl0 : l.stackTraces = false) (C0 : CallFix p m c cL_law 7 s args TB RL) (hT : TxR tx s) (hN : TxN s) (hX : va_X b0 L xs s s.heap) (hbl : b0 < s.heap.size) (hb1 : b = s.heap.size) (hL3 : L ≤ 3072) (t : Nat) (ht : 6 * t + 6 ≤ L) {Sc Sm : sSt} {o : Int64} {K : sSt → sSt → Int64 → Prop} {H : Heap} {locs : List Loc} {ls : Array Slot} {cells slots : Nat} (hc1 : cells + 6 ≤ room_1.cells) (hc2 : slots + 36 ≤ room_1.slots) (h : CS_2 (xs (6 * t + 1)) (xs (6 * t + 2)) (xs (6 * t + 3)) (xs (6 * t + 4)) (xs (6 * t + 5)) Sc Sm o K) (hR : RelL D cy b tx Sc Sm o s H) (hS : va_S (bA b) s.heap H locs) (hl : lv_has ls 7 [(0, .ref b0), (1, .ref (b + adC 0 0)), (2, .ref (b + 709 + adM 0 0)), (3, .ref (b + 721)), (4, .int (nI (6 * t)))])
    (kk : ∀ (S1 S2 : sSt) (o1 : Int64) (H1 : Heap) (locs1 : List Loc) (ls1 : Array Slot), K S1 S2 o1 → RelL D cy b tx S1 S2 o1 s H1 → va_S (bA b) s.heap H1 locs1 → lv_has ls1 7 [(0, .ref b0), (1, .ref (b + adC 0 0)), (2, .ref (b + 709 + adM 0 0)), (3, .ref (b + 721)), (4, .int (nI (6 * t)))] → W p l e room_1 s m args below meth c H1 locs1 (cells + 6) (slots + 36) Q (F0 m 2858 ls1 [])) : W p l e room_1 s m args below meth c H locs cells slots Q (F0 m 334 ls []) := by
  have hx := C0.1
  have hb := C0.2.1
  unfold CS_2 at h
  refine lv_aload_n hx hb dL_law_334 rfl (lv_at hl 1 rfl) ?_
  refine lv_aload_n hx hb dL_law_335 rfl (lv_at hl 3 rfl) ?_
  refine qLW (As := [.ref (b + adC 0 0), .ref (b + 721)]) (rest := []) C0 (cw_table l hl0 h) (vx_cwSW 2 C0.2.2.2.2 (tbSW mK_3_109 ⟨mK_3_110, mK_1_0, mK_3_111⟩) rfl rfl rfl (by decide +kernel) ⟨Nat.le_of_ble_eq_true rfl, Nat.le_of_ble_eq_true rfl⟩) hR hT hN hS rfl hl.1 rfl (Nat.le_of_ble_eq_true rfl) dL_law_336 ⟨by omega, by omega⟩ (fun r1 S2 o3 H locs h hR hS => ?_)
  refine lv_istore (lv' := [(5, .int r1), (0, .ref b0), (1, .ref (b + adC 0 0)), (2, .ref (b + 709 + adM 0 0)), (3, .ref (b + 721)), (4, .int (nI (6 * t)))]) hx hb dL_law_339 hl (by decide) rfl (fun ls hl => ?_)
  refine lv_aload_n hx hb dL_law_341 rfl (lv_at hl 3 rfl) ?_
  refine qLM_i (As := []) (rest := []) C0 (c_X12_table l h) (cwV 0 C0.2.2.2.2 (tbV mK_7_159 ⟨mK_7_160, mK_7_161, mK_1_11, mK_7_162⟩) rfl rfl rfl (by decide +kernel) ⟨Nat.le_of_ble_eq_true rfl, Nat.le_of_ble_eq_true rfl⟩) hR hT hS rfl hl.1 rfl (Nat.le_of_ble_eq_true rfl) dL_law_342 ⟨by omega, by omega⟩ (fun r4 S5 H locs h hR hS => ?_)
  refine lv_istore (lv' := [(6, .int r4), (5, .int r1), (0, .ref b0), (1, .ref (b + adC 0 0)), (2, .ref (b + 709 + adM 0 0)), (3, .ref (b + 721)), (4, .int (nI (6 * t)))]) hx hb dL_law_345 hl (by decide) rfl (fun ls hl => ?_)
  refine lv_aload_n hx hb dL_law_347 rfl (lv_at hl 4 rfl) ?_
  refine qLM_i (As := []) (rest := []) C0 (c_X12_thrown l h) (cwV 0 C0.2.2.2.2 (tbV mK_7_64 ⟨mK_7_65, mK_7_66, mK_1_11, mK_7_67⟩) rfl rfl rfl (by decide +kernel) ⟨Nat.le_of_ble_eq_true rfl, Nat.le_of_ble_eq_true rfl⟩) hR hT hS rfl hl.1 rfl (Nat.le_of_ble_eq_true rfl) dL_law_348 ⟨by omega, by omega⟩ (fun r6 S7 H locs h hR hS => ?_)
  refine lv_iload hx hb dL_law_351 (lv_at hl 1 rfl) ?_
  refine lv_icmp_eq (tgt := 358) hx hb dL_law_353 (by decide) (fun c8 => ?_) (fun c8 => ?_)
  · have h := h.1 c8
    refine lv_iload hx hb dL_law_358 (lv_at hl 1 rfl) ?_
    refine lv_if_ne (tgt := 375) hx hb dL_law_360 (by decide) (fun c9 => ?_) (fun c9 => ?_)
    · have h := h.1 c9
      refine lv_goto (tgt := 2858) hx hb dL_law_375 (by decide) ?_
      exact W.widen (k := cells + 6) (n := slots + 36) (by omega) (by omega) (kk S2 S7 o3 H locs _ h hR hS (lv_sub hl [2, 3, 4, 5, 6] rfl))
    · have h := h.2 c9
      refine lv_aload_n hx hb dL_law_363 rfl (lv_at hl 5 rfl) ?_
      refine lv_iconst (v := 0) hx hb dL_law_364 (by decide) ?_
      refine lw_out C0 hR dL_law_365 ?_
      refine lv_iload hx hb dL_law_366 (lv_at hl 0 rfl) ?_
      refine lv_i2l (v := r4.toInt64) hx hb dL_law_368 rfl ?_
      refine W.lcmp hx hb dL_law_369 ?_
      refine lv_if_eq (tgt := 375) hx hb dL_law_370 (by decide) (fun c10 => ?_) (fun c10 => ?_)
      · have h := h.1 ((lg_cmp_eq _ _).mp c10)
        refine lv_goto (tgt := 2858) hx hb dL_law_375 (by decide) ?_
        exact W.widen (k := cells + 6) (n := slots + 36) (by omega) (by omega) (kk S2 S7 o3 H locs _ h hR hS (lv_sub hl [2, 3, 4, 5, 6] rfl))
      · have h := h.2 (fun q9 => c10 ((lg_cmp_eq _ _).mpr q9))
        exact h.elim
  · have h := h.2 c8
    exact h.elim
def CS_3 (a1 a2 a3 a4 a5 : Int32) (Sc Sm : sSt) (o : Int64) (K : sSt → sSt → Int64 → Prop) : Prop := FW_query a1 Sc o (fun r1 S2 o3 => F_X12_query a1 Sm (fun r4 S5 => F_X12_thrown S5 (fun r6 S7 => ((r6 = r1 → ((¬ r1 = 0 → K S2 S7 o3) ∧ (r1 = 0 → ((o3 = r4.toInt64 → K S2 S7 o3) ∧ (¬ o3 = r4.toInt64 → False))))) ∧ (¬ r6 = r1 → False)))))
set_option maxHeartbeats 4000000 in
set_option maxRecDepth 100000 in
theorem LW_3 {p : Program} {l : Launch} {e : Env} {s : State} {m : MethodId} {args : Array Value} {below : List Frame} {meth : Method} {c : Code} {Q : State → Prop} {D : va_G} {cy : Nat → ClassId} {b b0 L : Nat} {tx : TX} {xs : Nat → Int32} (hl0 : l.stackTraces = false) (C0 : CallFix p m c cL_law 7 s args TB RL) (hT : TxR tx s) (hN : TxN s) (hX : va_X b0 L xs s s.heap) (hbl : b0 < s.heap.size) (hb1 : b = s.heap.size) (hL3 : L ≤ 3072) (t : Nat) (ht : 6 * t + 6 ≤ L) {Sc Sm : sSt} {o : Int64} {K : sSt → sSt → Int64 → Prop} {H : Heap} {locs : List Loc} {ls : Array Slot} {cells slots : Nat} (hc1 : cells + 6 ≤ room_1.cells) (hc2 : slots + 36 ≤ room_1.slots) (h : CS_3 (xs (6 * t + 1)) (xs (6 * t + 2)) (xs (6 * t + 3)) (xs (6 * t + 4)) (xs (6 * t + 5)) Sc Sm o K) (hR : RelL D cy b tx Sc Sm o s H) (hS : va_S (bA b) s.heap H locs) (hl : lv_has ls 7 [(0, .ref b0), (1, .ref (b + adC 0 0)), (2, .ref (b + 709 + adM 0 0)), (3, .ref (b + 721)), (4, .int (nI (6 * t)))])
    (kk : ∀ (S1 S2 : sSt) (o1 : Int64) (H1 : Heap) (locs1 : List Loc) (ls1 : Array Slot), K S1 S2 o1 → RelL D cy b tx S1 S2 o1 s H1 → va_S (bA b) s.heap H1 locs1 → lv_has ls1 7 [(0, .ref b0), (1, .ref (b + adC 0 0)), (2, .ref (b + 709 + adM 0 0)), (3, .ref (b + 721)), (4, .int (nI (6 * t)))] → W p l e room_1 s m args below meth c H1 locs1 (cells + 6) (slots + 36) Q (F0 m 2858 ls1 [])) : W p l e room_1 s m args below meth c H locs cells slots Q (F0 m 378 ls []) := by
  have hx := C0.1
  have hb := C0.2.1
  unfold CS_3 at h
  refine lv_aload_n hx hb dL_law_378 rfl (lv_at hl 1 rfl) ?_
  refine lv_aload_n hx hb dL_law_379 rfl (lv_at hl 0 rfl) ?_
  refine lv_iload hx hb dL_law_380 (lv_at hl 4 rfl) ?_
  refine lv_iconst (v := 1) hx hb dL_law_382 (by decide) ?_
  refine lv_iadd hx hb dL_law_383 ?_
  refine lw_sld (v := xs (6 * t + 1)) C0 hX hbl hb1 hS (nI_add (6 * t) 1) (show 6 * t + 1 < L by omega) hL3 rfl dL_law_384 ?_
  refine lv_aload_n hx hb dL_law_385 rfl (lv_at hl 3 rfl) ?_
  refine qLW (As := [.ref (b + adC 0 0), .int (xs (6 * t + 1)), .ref (b + 721)]) (rest := []) C0 (cw_query l hl0 h) (vx_cwSW 3 C0.2.2.2.2 (tbSW mK_4_125 ⟨mK_4_126, mK_1_0, mK_4_127⟩) rfl rfl rfl (by decide +kernel) ⟨Nat.le_of_ble_eq_true rfl, Nat.le_of_ble_eq_true rfl⟩) hR hT hN hS rfl hl.1 rfl (Nat.le_of_ble_eq_true rfl) dL_law_386 ⟨by omega, by omega⟩ (fun r1 S2 o3 H locs h hR hS => ?_)
  refine lv_istore (lv' := [(5, .int r1), (0, .ref b0), (1, .ref (b + adC 0 0)), (2, .ref (b + 709 + adM 0 0)), (3, .ref (b + 721)), (4, .int (nI (6 * t)))]) hx hb dL_law_389 hl (by decide) rfl (fun ls hl => ?_)
  refine lv_aload_n hx hb dL_law_391 rfl (lv_at hl 3 rfl) ?_
  refine lv_aload_n hx hb dL_law_392 rfl (lv_at hl 1 rfl) ?_
  refine lv_iload hx hb dL_law_393 (lv_at hl 5 rfl) ?_
  refine lv_iconst (v := 1) hx hb dL_law_395 (by decide) ?_
  refine lv_iadd hx hb dL_law_396 ?_
  refine lw_sld (v := xs (6 * t + 1)) C0 hX hbl hb1 hS (nI_add (6 * t) 1) (show 6 * t + 1 < L by omega) hL3 rfl dL_law_397 ?_
  refine qLM_i (As := [.int (xs (6 * t + 1))]) (rest := []) C0 (c_X12_query l h) (cwV 1 C0.2.2.2.2 (tbV mK_8_29 ⟨mK_8_30, mK_8_31, mK_1_11, mK_8_32⟩) rfl rfl rfl (by decide +kernel) ⟨Nat.le_of_ble_eq_true rfl, Nat.le_of_ble_eq_true rfl⟩) hR hT hS rfl hl.1 rfl (Nat.le_of_ble_eq_true rfl) dL_law_398 ⟨by omega, by omega⟩ (fun r4 S5 H locs h hR hS => ?_)
  refine lv_istore (lv' := [(6, .int r4), (5, .int r1), (0, .ref b0), (1, .ref (b + adC 0 0)), (2, .ref (b + 709 + adM 0 0)), (3, .ref (b + 721)), (4, .int (nI (6 * t)))]) hx hb dL_law_401 hl (by decide) rfl (fun ls hl => ?_)
  refine lv_aload_n hx hb dL_law_403 rfl (lv_at hl 4 rfl) ?_
  refine qLM_i (As := []) (rest := []) C0 (c_X12_thrown l h) (cwV 0 C0.2.2.2.2 (tbV mK_7_64 ⟨mK_7_65, mK_7_66, mK_1_11, mK_7_67⟩) rfl rfl rfl (by decide +kernel) ⟨Nat.le_of_ble_eq_true rfl, Nat.le_of_ble_eq_true rfl⟩) hR hT hS rfl hl.1 rfl (Nat.le_of_ble_eq_true rfl) dL_law_404 ⟨by omega, by omega⟩ (fun r6 S7 H locs h hR hS => ?_)
  refine lv_iload hx hb dL_law_407 (lv_at hl 1 rfl) ?_
  refine lv_icmp_eq (tgt := 414) hx hb dL_law_409 (by decide) (fun c8 => ?_) (fun c8 => ?_)
  · have h := h.1 c8
    refine lv_iload hx hb dL_law_414 (lv_at hl 1 rfl) ?_
    refine lv_if_ne (tgt := 431) hx hb dL_law_416 (by decide) (fun c9 => ?_) (fun c9 => ?_)
    · have h := h.1 c9
      refine lv_goto (tgt := 2858) hx hb dL_law_431 (by decide) ?_
      exact W.widen (k := cells + 6) (n := slots + 36) (by omega) (by omega) (kk S2 S7 o3 H locs _ h hR hS (lv_sub hl [2, 3, 4, 5, 6] rfl))
    · have h := h.2 c9
      refine lv_aload_n hx hb dL_law_419 rfl (lv_at hl 5 rfl) ?_
      refine lv_iconst (v := 0) hx hb dL_law_420 (by decide) ?_
      refine lw_out C0 hR dL_law_421 ?_
      refine lv_iload hx hb dL_law_422 (lv_at hl 0 rfl) ?_
      refine lv_i2l (v := r4.toInt64) hx hb dL_law_424 rfl ?_
      refine W.lcmp hx hb dL_law_425 ?_
      refine lv_if_eq (tgt := 431) hx hb dL_law_426 (by decide) (fun c10 => ?_) (fun c10 => ?_)
      · have h := h.1 ((lg_cmp_eq _ _).mp c10)
        refine lv_goto (tgt := 2858) hx hb dL_law_431 (by decide) ?_
        exact W.widen (k := cells + 6) (n := slots + 36) (by omega) (by omega) (kk S2 S7 o3 H locs _ h hR hS (lv_sub hl [2, 3, 4, 5, 6] rfl))
      · have h := h.2 (fun q9 => c10 ((lg_cmp_eq _ _).mpr q9))
        exact h.elim
  · have h := h.2 c8
    exact h.elim
def CS_4 (a1 a2 a3 a4 a5 : Int32) (Sc Sm : sSt) (o : Int64) (K : sSt → sSt → Int64 → Prop) : Prop := F_X11_fault Sc (fun r1 S2 => F_X12_fault Sm (fun r3 S4 => ((r1 = r3 → K S2 S4 o) ∧ (¬ r1 = r3 → False))))
set_option maxHeartbeats 4000000 in
set_option maxRecDepth 100000 in
theorem LW_4 {p : Program} {l : Launch} {e : Env} {s : State} {m : MethodId} {args : Array Value} {below : List Frame} {meth : Method} {c : Code} {Q : State → Prop} {D : va_G} {cy : Nat → ClassId} {b b0 L : Nat} {tx : TX} {xs : Nat → Int32} (hl0 : l.stackTraces = false) (C0 : CallFix p m c cL_law 7 s args TB RL) (hT : TxR tx s) (hN : TxN s) (hX : va_X b0 L xs s s.heap) (hbl : b0 < s.heap.size) (hb1 : b = s.heap.size) (hL3 : L ≤ 3072) (t : Nat) (ht : 6 * t + 6 ≤ L) {Sc Sm : sSt} {o : Int64} {K : sSt → sSt → Int64 → Prop} {H : Heap} {locs : List Loc} {ls : Array Slot} {cells slots : Nat} (hc1 : cells + 6 ≤ room_1.cells) (hc2 : slots + 36 ≤ room_1.slots) (h : CS_4 (xs (6 * t + 1)) (xs (6 * t + 2)) (xs (6 * t + 3)) (xs (6 * t + 4)) (xs (6 * t + 5)) Sc Sm o K) (hR : RelL D cy b tx Sc Sm o s H) (hS : va_S (bA b) s.heap H locs) (hl : lv_has ls 7 [(0, .ref b0), (1, .ref (b + adC 0 0)), (2, .ref (b + 709 + adM 0 0)), (3, .ref (b + 721)), (4, .int (nI (6 * t)))])
    (kk : ∀ (S1 S2 : sSt) (o1 : Int64) (H1 : Heap) (locs1 : List Loc) (ls1 : Array Slot), K S1 S2 o1 → RelL D cy b tx S1 S2 o1 s H1 → va_S (bA b) s.heap H1 locs1 → lv_has ls1 7 [(0, .ref b0), (1, .ref (b + adC 0 0)), (2, .ref (b + 709 + adM 0 0)), (3, .ref (b + 721)), (4, .int (nI (6 * t)))] → W p l e room_1 s m args below meth c H1 locs1 (cells + 6) (slots + 36) Q (F0 m 2858 ls1 [])) : W p l e room_1 s m args below meth c H locs cells slots Q (F0 m 434 ls []) := by
  have hx := C0.1
  have hb := C0.2.1
  unfold CS_4 at h
  refine lv_aload_n hx hb dL_law_434 rfl (lv_at hl 1 rfl) ?_
  refine qLC_i (As := []) (rest := []) C0 (c_X11_fault l h) (cwV 0 C0.2.2.2.2 (tbV mK_3_10 ⟨mK_3_11, mK_3_12, mK_1_1, mK_3_13⟩) rfl rfl rfl (by decide +kernel) ⟨Nat.le_of_ble_eq_true rfl, Nat.le_of_ble_eq_true rfl⟩) hR hT hS rfl hl.1 rfl (Nat.le_of_ble_eq_true rfl) dL_law_435 ⟨by omega, by omega⟩ (fun r1 S2 H locs h hR hS => ?_)
  refine lv_aload_n hx hb dL_law_438 rfl (lv_at hl 2 rfl) ?_
  refine qLM_i (As := []) (rest := [.int r1]) C0 (c_X12_fault l h) (cwV 0 C0.2.2.2.2 (tbV mK_7_151 ⟨mK_7_152, mK_7_153, mK_1_11, mK_7_154⟩) rfl rfl rfl (by decide +kernel) ⟨Nat.le_of_ble_eq_true rfl, Nat.le_of_ble_eq_true rfl⟩) hR hT hS rfl hl.1 rfl (Nat.le_of_ble_eq_true rfl) dL_law_439 ⟨by omega, by omega⟩ (fun r3 S4 H locs h hR hS => ?_)
  refine lv_icmp_eq (tgt := 2858) hx hb dL_law_442 (by decide) (fun c5 => ?_) (fun c5 => ?_)
  · have h := h.1 c5
    exact W.widen (k := cells + 6) (n := slots + 36) (by omega) (by omega) (kk S2 S4 o H locs _ h hR hS (lv_sub hl [0, 1, 2, 3, 4] rfl))
  · have h := h.2 c5
    exact h.elim
def CS_5 (a1 a2 a3 a4 a5 : Int32) (Sc Sm : sSt) (o : Int64) (K : sSt → sSt → Int64 → Prop) : Prop := F_X11_why Sc (fun r1 S2 => F_X12_why Sm (fun r3 S4 => ((r1 = r3 → K S2 S4 o) ∧ (¬ r1 = r3 → False))))
set_option maxHeartbeats 4000000 in
set_option maxRecDepth 100000 in
theorem LW_5 {p : Program} {l : Launch} {e : Env} {s : State} {m : MethodId} {args : Array Value} {below : List Frame} {meth : Method} {c : Code} {Q : State → Prop} {D : va_G} {cy : Nat → ClassId} {b b0 L : Nat} {tx : TX} {xs : Nat → Int32} (hl0 : l.stackTraces = false) (C0 : CallFix p m c cL_law 7 s args TB RL) (hT : TxR tx s) (hN : TxN s) (hX : va_X b0 L xs s s.heap) (hbl : b0 < s.heap.size) (hb1 : b = s.heap.size) (hL3 : L ≤ 3072) (t : Nat) (ht : 6 * t + 6 ≤ L) {Sc Sm : sSt} {o : Int64} {K : sSt → sSt → Int64 → Prop} {H : Heap} {locs : List Loc} {ls : Array Slot} {cells slots : Nat} (hc1 : cells + 6 ≤ room_1.cells) (hc2 : slots + 36 ≤ room_1.slots) (h : CS_5 (xs (6 * t + 1)) (xs (6 * t + 2)) (xs (6 * t + 3)) (xs (6 * t + 4)) (xs (6 * t + 5)) Sc Sm o K) (hR : RelL D cy b tx Sc Sm o s H) (hS : va_S (bA b) s.heap H locs) (hl : lv_has ls 7 [(0, .ref b0), (1, .ref (b + adC 0 0)), (2, .ref (b + 709 + adM 0 0)), (3, .ref (b + 721)), (4, .int (nI (6 * t)))])
    (kk : ∀ (S1 S2 : sSt) (o1 : Int64) (H1 : Heap) (locs1 : List Loc) (ls1 : Array Slot), K S1 S2 o1 → RelL D cy b tx S1 S2 o1 s H1 → va_S (bA b) s.heap H1 locs1 → lv_has ls1 7 [(0, .ref b0), (1, .ref (b + adC 0 0)), (2, .ref (b + 709 + adM 0 0)), (3, .ref (b + 721)), (4, .int (nI (6 * t)))] → W p l e room_1 s m args below meth c H1 locs1 (cells + 6) (slots + 36) Q (F0 m 2858 ls1 [])) : W p l e room_1 s m args below meth c H locs cells slots Q (F0 m 447 ls []) := by
  have hx := C0.1
  have hb := C0.2.1
  unfold CS_5 at h
  refine lv_aload_n hx hb dL_law_447 rfl (lv_at hl 1 rfl) ?_
  refine qLC_i (As := []) (rest := []) C0 (c_X11_why l h) (cwV 0 C0.2.2.2.2 (tbV mK_3_14 ⟨mK_3_15, mK_3_16, mK_1_1, mK_3_17⟩) rfl rfl rfl (by decide +kernel) ⟨Nat.le_of_ble_eq_true rfl, Nat.le_of_ble_eq_true rfl⟩) hR hT hS rfl hl.1 rfl (Nat.le_of_ble_eq_true rfl) dL_law_448 ⟨by omega, by omega⟩ (fun r1 S2 H locs h hR hS => ?_)
  refine lv_aload_n hx hb dL_law_451 rfl (lv_at hl 2 rfl) ?_
  refine qLM_i (As := []) (rest := [.int r1]) C0 (c_X12_why l h) (cwV 0 C0.2.2.2.2 (tbV mK_7_155 ⟨mK_7_156, mK_7_157, mK_1_11, mK_7_158⟩) rfl rfl rfl (by decide +kernel) ⟨Nat.le_of_ble_eq_true rfl, Nat.le_of_ble_eq_true rfl⟩) hR hT hS rfl hl.1 rfl (Nat.le_of_ble_eq_true rfl) dL_law_452 ⟨by omega, by omega⟩ (fun r3 S4 H locs h hR hS => ?_)
  refine lv_icmp_eq (tgt := 2858) hx hb dL_law_455 (by decide) (fun c5 => ?_) (fun c5 => ?_)
  · have h := h.1 c5
    exact W.widen (k := cells + 6) (n := slots + 36) (by omega) (by omega) (kk S2 S4 o H locs _ h hR hS (lv_sub hl [0, 1, 2, 3, 4] rfl))
  · have h := h.2 c5
    exact h.elim
def CS_6 (a1 a2 a3 a4 a5 : Int32) (Sc Sm : sSt) (o : Int64) (K : sSt → sSt → Int64 → Prop) : Prop := FW_begin a1 Sc o (fun r1 S2 o3 => F_X12_begin a1 Sm (fun r4 S5 => F_X12_thrown S5 (fun r6 S7 => ((r6 = r1 → ((¬ r1 = 0 → K S2 S7 o3) ∧ (r1 = 0 → ((o3 = r4.toInt64 → K S2 S7 o3) ∧ (¬ o3 = r4.toInt64 → False))))) ∧ (¬ r6 = r1 → False)))))
set_option maxHeartbeats 4000000 in
set_option maxRecDepth 100000 in
theorem LW_6 {p : Program} {l : Launch} {e : Env} {s : State} {m : MethodId} {args : Array Value} {below : List Frame} {meth : Method} {c : Code} {Q : State → Prop} {D : va_G} {cy : Nat → ClassId} {b b0 L : Nat} {tx : TX} {xs : Nat → Int32} (hl0 : l.stackTraces = false) (C0 : CallFix p m c cL_law 7 s args TB RL) (hT : TxR tx s) (hN : TxN s) (hX : va_X b0 L xs s s.heap) (hbl : b0 < s.heap.size) (hb1 : b = s.heap.size) (hL3 : L ≤ 3072) (t : Nat) (ht : 6 * t + 6 ≤ L) {Sc Sm : sSt} {o : Int64} {K : sSt → sSt → Int64 → Prop} {H : Heap} {locs : List Loc} {ls : Array Slot} {cells slots : Nat} (hc1 : cells + 6 ≤ room_1.cells) (hc2 : slots + 36 ≤ room_1.slots) (h : CS_6 (xs (6 * t + 1)) (xs (6 * t + 2)) (xs (6 * t + 3)) (xs (6 * t + 4)) (xs (6 * t + 5)) Sc Sm o K) (hR : RelL D cy b tx Sc Sm o s H) (hS : va_S (bA b) s.heap H locs) (hl : lv_has ls 7 [(0, .ref b0), (1, .ref (b + adC 0 0)), (2, .ref (b + 709 + adM 0 0)), (3, .ref (b + 721)), (4, .int (nI (6 * t)))])
    (kk : ∀ (S1 S2 : sSt) (o1 : Int64) (H1 : Heap) (locs1 : List Loc) (ls1 : Array Slot), K S1 S2 o1 → RelL D cy b tx S1 S2 o1 s H1 → va_S (bA b) s.heap H1 locs1 → lv_has ls1 7 [(0, .ref b0), (1, .ref (b + adC 0 0)), (2, .ref (b + 709 + adM 0 0)), (3, .ref (b + 721)), (4, .int (nI (6 * t)))] → W p l e room_1 s m args below meth c H1 locs1 (cells + 6) (slots + 36) Q (F0 m 2858 ls1 [])) : W p l e room_1 s m args below meth c H locs cells slots Q (F0 m 460 ls []) := by
  have hx := C0.1
  have hb := C0.2.1
  unfold CS_6 at h
  refine lv_aload_n hx hb dL_law_460 rfl (lv_at hl 1 rfl) ?_
  refine lv_aload_n hx hb dL_law_461 rfl (lv_at hl 0 rfl) ?_
  refine lv_iload hx hb dL_law_462 (lv_at hl 4 rfl) ?_
  refine lv_iconst (v := 1) hx hb dL_law_464 (by decide) ?_
  refine lv_iadd hx hb dL_law_465 ?_
  refine lw_sld (v := xs (6 * t + 1)) C0 hX hbl hb1 hS (nI_add (6 * t) 1) (show 6 * t + 1 < L by omega) hL3 rfl dL_law_466 ?_
  refine lv_aload_n hx hb dL_law_467 rfl (lv_at hl 3 rfl) ?_
  refine qLW (As := [.ref (b + adC 0 0), .int (xs (6 * t + 1)), .ref (b + 721)]) (rest := []) C0 (cw_begin l hl0 h) (vx_cwSW 3 C0.2.2.2.2 (tbSW mK_4_194 ⟨mK_4_195, mK_1_0, mK_4_196⟩) rfl rfl rfl (by decide +kernel) ⟨Nat.le_of_ble_eq_true rfl, Nat.le_of_ble_eq_true rfl⟩) hR hT hN hS rfl hl.1 rfl (Nat.le_of_ble_eq_true rfl) dL_law_468 ⟨by omega, by omega⟩ (fun r1 S2 o3 H locs h hR hS => ?_)
  refine lv_istore (lv' := [(5, .int r1), (0, .ref b0), (1, .ref (b + adC 0 0)), (2, .ref (b + 709 + adM 0 0)), (3, .ref (b + 721)), (4, .int (nI (6 * t)))]) hx hb dL_law_471 hl (by decide) rfl (fun ls hl => ?_)
  refine lv_aload_n hx hb dL_law_473 rfl (lv_at hl 3 rfl) ?_
  refine lv_aload_n hx hb dL_law_474 rfl (lv_at hl 1 rfl) ?_
  refine lv_iload hx hb dL_law_475 (lv_at hl 5 rfl) ?_
  refine lv_iconst (v := 1) hx hb dL_law_477 (by decide) ?_
  refine lv_iadd hx hb dL_law_478 ?_
  refine lw_sld (v := xs (6 * t + 1)) C0 hX hbl hb1 hS (nI_add (6 * t) 1) (show 6 * t + 1 < L by omega) hL3 rfl dL_law_479 ?_
  refine qLM_i (As := [.int (xs (6 * t + 1))]) (rest := []) C0 (c_X12_begin l h) (cwV 1 C0.2.2.2.2 (tbV mK_8_83 ⟨mK_8_84, mK_8_85, mK_1_11, mK_8_86⟩) rfl rfl rfl (by decide +kernel) ⟨Nat.le_of_ble_eq_true rfl, Nat.le_of_ble_eq_true rfl⟩) hR hT hS rfl hl.1 rfl (Nat.le_of_ble_eq_true rfl) dL_law_480 ⟨by omega, by omega⟩ (fun r4 S5 H locs h hR hS => ?_)
  refine lv_istore (lv' := [(6, .int r4), (5, .int r1), (0, .ref b0), (1, .ref (b + adC 0 0)), (2, .ref (b + 709 + adM 0 0)), (3, .ref (b + 721)), (4, .int (nI (6 * t)))]) hx hb dL_law_483 hl (by decide) rfl (fun ls hl => ?_)
  refine lv_aload_n hx hb dL_law_485 rfl (lv_at hl 4 rfl) ?_
  refine qLM_i (As := []) (rest := []) C0 (c_X12_thrown l h) (cwV 0 C0.2.2.2.2 (tbV mK_7_64 ⟨mK_7_65, mK_7_66, mK_1_11, mK_7_67⟩) rfl rfl rfl (by decide +kernel) ⟨Nat.le_of_ble_eq_true rfl, Nat.le_of_ble_eq_true rfl⟩) hR hT hS rfl hl.1 rfl (Nat.le_of_ble_eq_true rfl) dL_law_486 ⟨by omega, by omega⟩ (fun r6 S7 H locs h hR hS => ?_)
  refine lv_iload hx hb dL_law_489 (lv_at hl 1 rfl) ?_
  refine lv_icmp_eq (tgt := 496) hx hb dL_law_491 (by decide) (fun c8 => ?_) (fun c8 => ?_)
  · have h := h.1 c8
    refine lv_iload hx hb dL_law_496 (lv_at hl 1 rfl) ?_
    refine lv_if_ne (tgt := 513) hx hb dL_law_498 (by decide) (fun c9 => ?_) (fun c9 => ?_)
    · have h := h.1 c9
      refine lv_goto (tgt := 2858) hx hb dL_law_513 (by decide) ?_
      exact W.widen (k := cells + 6) (n := slots + 36) (by omega) (by omega) (kk S2 S7 o3 H locs _ h hR hS (lv_sub hl [2, 3, 4, 5, 6] rfl))
    · have h := h.2 c9
      refine lv_aload_n hx hb dL_law_501 rfl (lv_at hl 5 rfl) ?_
      refine lv_iconst (v := 0) hx hb dL_law_502 (by decide) ?_
      refine lw_out C0 hR dL_law_503 ?_
      refine lv_iload hx hb dL_law_504 (lv_at hl 0 rfl) ?_
      refine lv_i2l (v := r4.toInt64) hx hb dL_law_506 rfl ?_
      refine W.lcmp hx hb dL_law_507 ?_
      refine lv_if_eq (tgt := 513) hx hb dL_law_508 (by decide) (fun c10 => ?_) (fun c10 => ?_)
      · have h := h.1 ((lg_cmp_eq _ _).mp c10)
        refine lv_goto (tgt := 2858) hx hb dL_law_513 (by decide) ?_
        exact W.widen (k := cells + 6) (n := slots + 36) (by omega) (by omega) (kk S2 S7 o3 H locs _ h hR hS (lv_sub hl [2, 3, 4, 5, 6] rfl))
      · have h := h.2 (fun q9 => c10 ((lg_cmp_eq _ _).mpr q9))
        exact h.elim
  · have h := h.2 c8
    exact h.elim
def CS_7 (a1 a2 a3 a4 a5 : Int32) (Sc Sm : sSt) (o : Int64) (K : sSt → sSt → Int64 → Prop) : Prop := FW_save a1 Sc o (fun r1 S2 o3 => F_X12_save a1 Sm (fun r4 S5 => F_X12_thrown S5 (fun r6 S7 => ((r6 = r1 → ((¬ r1 = 0 → K S2 S7 o3) ∧ (r1 = 0 → ((o3 = r4.toInt64 → K S2 S7 o3) ∧ (¬ o3 = r4.toInt64 → False))))) ∧ (¬ r6 = r1 → False)))))
set_option maxHeartbeats 4000000 in
set_option maxRecDepth 100000 in
theorem LW_7 {p : Program} {l : Launch} {e : Env} {s : State} {m : MethodId} {args : Array Value} {below : List Frame} {meth : Method} {c : Code} {Q : State → Prop} {D : va_G} {cy : Nat → ClassId} {b b0 L : Nat} {tx : TX} {xs : Nat → Int32} (hl0 : l.stackTraces = false) (C0 : CallFix p m c cL_law 7 s args TB RL) (hT : TxR tx s) (hN : TxN s) (hX : va_X b0 L xs s s.heap) (hbl : b0 < s.heap.size) (hb1 : b = s.heap.size) (hL3 : L ≤ 3072) (t : Nat) (ht : 6 * t + 6 ≤ L) {Sc Sm : sSt} {o : Int64} {K : sSt → sSt → Int64 → Prop} {H : Heap} {locs : List Loc} {ls : Array Slot} {cells slots : Nat} (hc1 : cells + 6 ≤ room_1.cells) (hc2 : slots + 36 ≤ room_1.slots) (h : CS_7 (xs (6 * t + 1)) (xs (6 * t + 2)) (xs (6 * t + 3)) (xs (6 * t + 4)) (xs (6 * t + 5)) Sc Sm o K) (hR : RelL D cy b tx Sc Sm o s H) (hS : va_S (bA b) s.heap H locs) (hl : lv_has ls 7 [(0, .ref b0), (1, .ref (b + adC 0 0)), (2, .ref (b + 709 + adM 0 0)), (3, .ref (b + 721)), (4, .int (nI (6 * t)))])
    (kk : ∀ (S1 S2 : sSt) (o1 : Int64) (H1 : Heap) (locs1 : List Loc) (ls1 : Array Slot), K S1 S2 o1 → RelL D cy b tx S1 S2 o1 s H1 → va_S (bA b) s.heap H1 locs1 → lv_has ls1 7 [(0, .ref b0), (1, .ref (b + adC 0 0)), (2, .ref (b + 709 + adM 0 0)), (3, .ref (b + 721)), (4, .int (nI (6 * t)))] → W p l e room_1 s m args below meth c H1 locs1 (cells + 6) (slots + 36) Q (F0 m 2858 ls1 [])) : W p l e room_1 s m args below meth c H locs cells slots Q (F0 m 516 ls []) := by
  have hx := C0.1
  have hb := C0.2.1
  unfold CS_7 at h
  refine lv_aload_n hx hb dL_law_516 rfl (lv_at hl 1 rfl) ?_
  refine lv_aload_n hx hb dL_law_517 rfl (lv_at hl 0 rfl) ?_
  refine lv_iload hx hb dL_law_518 (lv_at hl 4 rfl) ?_
  refine lv_iconst (v := 1) hx hb dL_law_520 (by decide) ?_
  refine lv_iadd hx hb dL_law_521 ?_
  refine lw_sld (v := xs (6 * t + 1)) C0 hX hbl hb1 hS (nI_add (6 * t) 1) (show 6 * t + 1 < L by omega) hL3 rfl dL_law_522 ?_
  refine lv_aload_n hx hb dL_law_523 rfl (lv_at hl 3 rfl) ?_
  refine qLW (As := [.ref (b + adC 0 0), .int (xs (6 * t + 1)), .ref (b + 721)]) (rest := []) C0 (cw_save l hl0 h) (vx_cwSW 3 C0.2.2.2.2 (tbSW mK_4_221 ⟨mK_4_222, mK_1_0, mK_4_223⟩) rfl rfl rfl (by decide +kernel) ⟨Nat.le_of_ble_eq_true rfl, Nat.le_of_ble_eq_true rfl⟩) hR hT hN hS rfl hl.1 rfl (Nat.le_of_ble_eq_true rfl) dL_law_524 ⟨by omega, by omega⟩ (fun r1 S2 o3 H locs h hR hS => ?_)
  refine lv_istore (lv' := [(5, .int r1), (0, .ref b0), (1, .ref (b + adC 0 0)), (2, .ref (b + 709 + adM 0 0)), (3, .ref (b + 721)), (4, .int (nI (6 * t)))]) hx hb dL_law_527 hl (by decide) rfl (fun ls hl => ?_)
  refine lv_aload_n hx hb dL_law_529 rfl (lv_at hl 3 rfl) ?_
  refine lv_aload_n hx hb dL_law_530 rfl (lv_at hl 1 rfl) ?_
  refine lv_iload hx hb dL_law_531 (lv_at hl 5 rfl) ?_
  refine lv_iconst (v := 1) hx hb dL_law_533 (by decide) ?_
  refine lv_iadd hx hb dL_law_534 ?_
  refine lw_sld (v := xs (6 * t + 1)) C0 hX hbl hb1 hS (nI_add (6 * t) 1) (show 6 * t + 1 < L by omega) hL3 rfl dL_law_535 ?_
  refine qLM_i (As := [.int (xs (6 * t + 1))]) (rest := []) C0 (c_X12_save l h) (cwV 1 C0.2.2.2.2 (tbV mK_8_99 ⟨mK_8_100, mK_8_101, mK_1_11, mK_8_102⟩) rfl rfl rfl (by decide +kernel) ⟨Nat.le_of_ble_eq_true rfl, Nat.le_of_ble_eq_true rfl⟩) hR hT hS rfl hl.1 rfl (Nat.le_of_ble_eq_true rfl) dL_law_536 ⟨by omega, by omega⟩ (fun r4 S5 H locs h hR hS => ?_)
  refine lv_istore (lv' := [(6, .int r4), (5, .int r1), (0, .ref b0), (1, .ref (b + adC 0 0)), (2, .ref (b + 709 + adM 0 0)), (3, .ref (b + 721)), (4, .int (nI (6 * t)))]) hx hb dL_law_539 hl (by decide) rfl (fun ls hl => ?_)
  refine lv_aload_n hx hb dL_law_541 rfl (lv_at hl 4 rfl) ?_
  refine qLM_i (As := []) (rest := []) C0 (c_X12_thrown l h) (cwV 0 C0.2.2.2.2 (tbV mK_7_64 ⟨mK_7_65, mK_7_66, mK_1_11, mK_7_67⟩) rfl rfl rfl (by decide +kernel) ⟨Nat.le_of_ble_eq_true rfl, Nat.le_of_ble_eq_true rfl⟩) hR hT hS rfl hl.1 rfl (Nat.le_of_ble_eq_true rfl) dL_law_542 ⟨by omega, by omega⟩ (fun r6 S7 H locs h hR hS => ?_)
  refine lv_iload hx hb dL_law_545 (lv_at hl 1 rfl) ?_
  refine lv_icmp_eq (tgt := 552) hx hb dL_law_547 (by decide) (fun c8 => ?_) (fun c8 => ?_)
  · have h := h.1 c8
    refine lv_iload hx hb dL_law_552 (lv_at hl 1 rfl) ?_
    refine lv_if_ne (tgt := 569) hx hb dL_law_554 (by decide) (fun c9 => ?_) (fun c9 => ?_)
    · have h := h.1 c9
      refine lv_goto (tgt := 2858) hx hb dL_law_569 (by decide) ?_
      exact W.widen (k := cells + 6) (n := slots + 36) (by omega) (by omega) (kk S2 S7 o3 H locs _ h hR hS (lv_sub hl [2, 3, 4, 5, 6] rfl))
    · have h := h.2 c9
      refine lv_aload_n hx hb dL_law_557 rfl (lv_at hl 5 rfl) ?_
      refine lv_iconst (v := 0) hx hb dL_law_558 (by decide) ?_
      refine lw_out C0 hR dL_law_559 ?_
      refine lv_iload hx hb dL_law_560 (lv_at hl 0 rfl) ?_
      refine lv_i2l (v := r4.toInt64) hx hb dL_law_562 rfl ?_
      refine W.lcmp hx hb dL_law_563 ?_
      refine lv_if_eq (tgt := 569) hx hb dL_law_564 (by decide) (fun c10 => ?_) (fun c10 => ?_)
      · have h := h.1 ((lg_cmp_eq _ _).mp c10)
        refine lv_goto (tgt := 2858) hx hb dL_law_569 (by decide) ?_
        exact W.widen (k := cells + 6) (n := slots + 36) (by omega) (by omega) (kk S2 S7 o3 H locs _ h hR hS (lv_sub hl [2, 3, 4, 5, 6] rfl))
      · have h := h.2 (fun q9 => c10 ((lg_cmp_eq _ _).mpr q9))
        exact h.elim
  · have h := h.2 c8
    exact h.elim
def CS_8 (a1 a2 a3 a4 a5 : Int32) (Sc Sm : sSt) (o : Int64) (K : sSt → sSt → Int64 → Prop) : Prop := FW_undo a1 a2 Sc o (fun r1 S2 o3 => F_X12_undo a1 a2 Sm (fun r4 S5 => F_X12_thrown S5 (fun r6 S7 => ((r6 = r1 → ((¬ r1 = 0 → K S2 S7 o3) ∧ (r1 = 0 → ((o3 = r4.toInt64 → K S2 S7 o3) ∧ (¬ o3 = r4.toInt64 → False))))) ∧ (¬ r6 = r1 → False)))))
set_option maxHeartbeats 4000000 in
set_option maxRecDepth 100000 in
theorem LW_8 {p : Program} {l : Launch} {e : Env} {s : State} {m : MethodId} {args : Array Value} {below : List Frame} {meth : Method} {c : Code} {Q : State → Prop} {D : va_G} {cy : Nat → ClassId} {b b0 L : Nat} {tx : TX} {xs : Nat → Int32} (hl0 : l.stackTraces = false) (C0 : CallFix p m c cL_law 7 s args TB RL) (hT : TxR tx s) (hN : TxN s) (hX : va_X b0 L xs s s.heap) (hbl : b0 < s.heap.size) (hb1 : b = s.heap.size) (hL3 : L ≤ 3072) (t : Nat) (ht : 6 * t + 6 ≤ L) {Sc Sm : sSt} {o : Int64} {K : sSt → sSt → Int64 → Prop} {H : Heap} {locs : List Loc} {ls : Array Slot} {cells slots : Nat} (hc1 : cells + 6 ≤ room_1.cells) (hc2 : slots + 36 ≤ room_1.slots) (h : CS_8 (xs (6 * t + 1)) (xs (6 * t + 2)) (xs (6 * t + 3)) (xs (6 * t + 4)) (xs (6 * t + 5)) Sc Sm o K) (hR : RelL D cy b tx Sc Sm o s H) (hS : va_S (bA b) s.heap H locs) (hl : lv_has ls 7 [(0, .ref b0), (1, .ref (b + adC 0 0)), (2, .ref (b + 709 + adM 0 0)), (3, .ref (b + 721)), (4, .int (nI (6 * t)))])
    (kk : ∀ (S1 S2 : sSt) (o1 : Int64) (H1 : Heap) (locs1 : List Loc) (ls1 : Array Slot), K S1 S2 o1 → RelL D cy b tx S1 S2 o1 s H1 → va_S (bA b) s.heap H1 locs1 → lv_has ls1 7 [(0, .ref b0), (1, .ref (b + adC 0 0)), (2, .ref (b + 709 + adM 0 0)), (3, .ref (b + 721)), (4, .int (nI (6 * t)))] → W p l e room_1 s m args below meth c H1 locs1 (cells + 6) (slots + 36) Q (F0 m 2858 ls1 [])) : W p l e room_1 s m args below meth c H locs cells slots Q (F0 m 572 ls []) := by
  have hx := C0.1
  have hb := C0.2.1
  unfold CS_8 at h
  refine lv_aload_n hx hb dL_law_572 rfl (lv_at hl 1 rfl) ?_
  refine lv_aload_n hx hb dL_law_573 rfl (lv_at hl 0 rfl) ?_
  refine lv_iload hx hb dL_law_574 (lv_at hl 4 rfl) ?_
  refine lv_iconst (v := 1) hx hb dL_law_576 (by decide) ?_
  refine lv_iadd hx hb dL_law_577 ?_
  refine lw_sld (v := xs (6 * t + 1)) C0 hX hbl hb1 hS (nI_add (6 * t) 1) (show 6 * t + 1 < L by omega) hL3 rfl dL_law_578 ?_
  refine lv_aload_n hx hb dL_law_579 rfl (lv_at hl 0 rfl) ?_
  refine lv_iload hx hb dL_law_580 (lv_at hl 4 rfl) ?_
  refine lv_iconst (v := 2) hx hb dL_law_582 (by decide) ?_
  refine lv_iadd hx hb dL_law_583 ?_
  refine lw_sld (v := xs (6 * t + 2)) C0 hX hbl hb1 hS (nI_add (6 * t) 2) (show 6 * t + 2 < L by omega) hL3 rfl dL_law_584 ?_
  refine lv_aload_n hx hb dL_law_585 rfl (lv_at hl 3 rfl) ?_
  refine qLW (As := [.ref (b + adC 0 0), .int (xs (6 * t + 1)), .int (xs (6 * t + 2)), .ref (b + 721)]) (rest := []) C0 (cw_undo l hl0 h) (vx_cwSW 4 C0.2.2.2.2 (tbSW mK_5_0 ⟨mK_5_1, mK_1_0, mK_5_2⟩) rfl rfl rfl (by decide +kernel) ⟨Nat.le_of_ble_eq_true rfl, Nat.le_of_ble_eq_true rfl⟩) hR hT hN hS rfl hl.1 rfl (Nat.le_of_ble_eq_true rfl) dL_law_586 ⟨by omega, by omega⟩ (fun r1 S2 o3 H locs h hR hS => ?_)
  refine lv_istore (lv' := [(5, .int r1), (0, .ref b0), (1, .ref (b + adC 0 0)), (2, .ref (b + 709 + adM 0 0)), (3, .ref (b + 721)), (4, .int (nI (6 * t)))]) hx hb dL_law_589 hl (by decide) rfl (fun ls hl => ?_)
  refine lv_aload_n hx hb dL_law_591 rfl (lv_at hl 3 rfl) ?_
  refine lv_aload_n hx hb dL_law_592 rfl (lv_at hl 1 rfl) ?_
  refine lv_iload hx hb dL_law_593 (lv_at hl 5 rfl) ?_
  refine lv_iconst (v := 1) hx hb dL_law_595 (by decide) ?_
  refine lv_iadd hx hb dL_law_596 ?_
  refine lw_sld (v := xs (6 * t + 1)) C0 hX hbl hb1 hS (nI_add (6 * t) 1) (show 6 * t + 1 < L by omega) hL3 rfl dL_law_597 ?_
  refine lv_aload_n hx hb dL_law_598 rfl (lv_at hl 1 rfl) ?_
  refine lv_iload hx hb dL_law_599 (lv_at hl 5 rfl) ?_
  refine lv_iconst (v := 2) hx hb dL_law_601 (by decide) ?_
  refine lv_iadd hx hb dL_law_602 ?_
  refine lw_sld (v := xs (6 * t + 2)) C0 hX hbl hb1 hS (nI_add (6 * t) 2) (show 6 * t + 2 < L by omega) hL3 rfl dL_law_603 ?_
  refine qLM_i (As := [.int (xs (6 * t + 1)), .int (xs (6 * t + 2))]) (rest := []) C0 (c_X12_undo l h) (cwV 2 C0.2.2.2.2 (tbV mK_8_114 ⟨mK_8_115, mK_8_116, mK_1_11, mK_8_117⟩) rfl rfl rfl (by decide +kernel) ⟨Nat.le_of_ble_eq_true rfl, Nat.le_of_ble_eq_true rfl⟩) hR hT hS rfl hl.1 rfl (Nat.le_of_ble_eq_true rfl) dL_law_604 ⟨by omega, by omega⟩ (fun r4 S5 H locs h hR hS => ?_)
  refine lv_istore (lv' := [(6, .int r4), (5, .int r1), (0, .ref b0), (1, .ref (b + adC 0 0)), (2, .ref (b + 709 + adM 0 0)), (3, .ref (b + 721)), (4, .int (nI (6 * t)))]) hx hb dL_law_607 hl (by decide) rfl (fun ls hl => ?_)
  refine lv_aload_n hx hb dL_law_609 rfl (lv_at hl 4 rfl) ?_
  refine qLM_i (As := []) (rest := []) C0 (c_X12_thrown l h) (cwV 0 C0.2.2.2.2 (tbV mK_7_64 ⟨mK_7_65, mK_7_66, mK_1_11, mK_7_67⟩) rfl rfl rfl (by decide +kernel) ⟨Nat.le_of_ble_eq_true rfl, Nat.le_of_ble_eq_true rfl⟩) hR hT hS rfl hl.1 rfl (Nat.le_of_ble_eq_true rfl) dL_law_610 ⟨by omega, by omega⟩ (fun r6 S7 H locs h hR hS => ?_)
  refine lv_iload hx hb dL_law_613 (lv_at hl 1 rfl) ?_
  refine lv_icmp_eq (tgt := 620) hx hb dL_law_615 (by decide) (fun c8 => ?_) (fun c8 => ?_)
  · have h := h.1 c8
    refine lv_iload hx hb dL_law_620 (lv_at hl 1 rfl) ?_
    refine lv_if_ne (tgt := 637) hx hb dL_law_622 (by decide) (fun c9 => ?_) (fun c9 => ?_)
    · have h := h.1 c9
      refine lv_goto (tgt := 2858) hx hb dL_law_637 (by decide) ?_
      exact W.widen (k := cells + 6) (n := slots + 36) (by omega) (by omega) (kk S2 S7 o3 H locs _ h hR hS (lv_sub hl [2, 3, 4, 5, 6] rfl))
    · have h := h.2 c9
      refine lv_aload_n hx hb dL_law_625 rfl (lv_at hl 5 rfl) ?_
      refine lv_iconst (v := 0) hx hb dL_law_626 (by decide) ?_
      refine lw_out C0 hR dL_law_627 ?_
      refine lv_iload hx hb dL_law_628 (lv_at hl 0 rfl) ?_
      refine lv_i2l (v := r4.toInt64) hx hb dL_law_630 rfl ?_
      refine W.lcmp hx hb dL_law_631 ?_
      refine lv_if_eq (tgt := 637) hx hb dL_law_632 (by decide) (fun c10 => ?_) (fun c10 => ?_)
      · have h := h.1 ((lg_cmp_eq _ _).mp c10)
        refine lv_goto (tgt := 2858) hx hb dL_law_637 (by decide) ?_
        exact W.widen (k := cells + 6) (n := slots + 36) (by omega) (by omega) (kk S2 S7 o3 H locs _ h hR hS (lv_sub hl [2, 3, 4, 5, 6] rfl))
      · have h := h.2 (fun q9 => c10 ((lg_cmp_eq _ _).mpr q9))
        exact h.elim
  · have h := h.2 c8
    exact h.elim
def CS_9 (a1 a2 a3 a4 a5 : Int32) (Sc Sm : sSt) (o : Int64) (K : sSt → sSt → Int64 → Prop) : Prop := FW_commit a1 Sc o (fun r1 S2 o3 => F_X12_commit a1 Sm (fun r4 S5 => F_X12_thrown S5 (fun r6 S7 => ((r6 = r1 → ((¬ r1 = 0 → K S2 S7 o3) ∧ (r1 = 0 → ((o3 = r4.toInt64 → K S2 S7 o3) ∧ (¬ o3 = r4.toInt64 → False))))) ∧ (¬ r6 = r1 → False)))))
set_option maxHeartbeats 4000000 in
set_option maxRecDepth 100000 in
theorem LW_9 {p : Program} {l : Launch} {e : Env} {s : State} {m : MethodId} {args : Array Value} {below : List Frame} {meth : Method} {c : Code} {Q : State → Prop} {D : va_G} {cy : Nat → ClassId} {b b0 L : Nat} {tx : TX} {xs : Nat → Int32} (hl0 : l.stackTraces = false) (C0 : CallFix p m c cL_law 7 s args TB RL) (hT : TxR tx s) (hN : TxN s) (hX : va_X b0 L xs s s.heap) (hbl : b0 < s.heap.size) (hb1 : b = s.heap.size) (hL3 : L ≤ 3072) (t : Nat) (ht : 6 * t + 6 ≤ L) {Sc Sm : sSt} {o : Int64} {K : sSt → sSt → Int64 → Prop} {H : Heap} {locs : List Loc} {ls : Array Slot} {cells slots : Nat} (hc1 : cells + 6 ≤ room_1.cells) (hc2 : slots + 36 ≤ room_1.slots) (h : CS_9 (xs (6 * t + 1)) (xs (6 * t + 2)) (xs (6 * t + 3)) (xs (6 * t + 4)) (xs (6 * t + 5)) Sc Sm o K) (hR : RelL D cy b tx Sc Sm o s H) (hS : va_S (bA b) s.heap H locs) (hl : lv_has ls 7 [(0, .ref b0), (1, .ref (b + adC 0 0)), (2, .ref (b + 709 + adM 0 0)), (3, .ref (b + 721)), (4, .int (nI (6 * t)))])
    (kk : ∀ (S1 S2 : sSt) (o1 : Int64) (H1 : Heap) (locs1 : List Loc) (ls1 : Array Slot), K S1 S2 o1 → RelL D cy b tx S1 S2 o1 s H1 → va_S (bA b) s.heap H1 locs1 → lv_has ls1 7 [(0, .ref b0), (1, .ref (b + adC 0 0)), (2, .ref (b + 709 + adM 0 0)), (3, .ref (b + 721)), (4, .int (nI (6 * t)))] → W p l e room_1 s m args below meth c H1 locs1 (cells + 6) (slots + 36) Q (F0 m 2858 ls1 [])) : W p l e room_1 s m args below meth c H locs cells slots Q (F0 m 640 ls []) := by
  have hx := C0.1
  have hb := C0.2.1
  unfold CS_9 at h
  refine lv_aload_n hx hb dL_law_640 rfl (lv_at hl 1 rfl) ?_
  refine lv_aload_n hx hb dL_law_641 rfl (lv_at hl 0 rfl) ?_
  refine lv_iload hx hb dL_law_642 (lv_at hl 4 rfl) ?_
  refine lv_iconst (v := 1) hx hb dL_law_644 (by decide) ?_
  refine lv_iadd hx hb dL_law_645 ?_
  refine lw_sld (v := xs (6 * t + 1)) C0 hX hbl hb1 hS (nI_add (6 * t) 1) (show 6 * t + 1 < L by omega) hL3 rfl dL_law_646 ?_
  refine lv_aload_n hx hb dL_law_647 rfl (lv_at hl 3 rfl) ?_
  refine qLW (As := [.ref (b + adC 0 0), .int (xs (6 * t + 1)), .ref (b + 721)]) (rest := []) C0 (cw_commit l hl0 h) (vx_cwSW 3 C0.2.2.2.2 (tbSW mK_5_24 ⟨mK_5_25, mK_1_0, mK_5_26⟩) rfl rfl rfl (by decide +kernel) ⟨Nat.le_of_ble_eq_true rfl, Nat.le_of_ble_eq_true rfl⟩) hR hT hN hS rfl hl.1 rfl (Nat.le_of_ble_eq_true rfl) dL_law_648 ⟨by omega, by omega⟩ (fun r1 S2 o3 H locs h hR hS => ?_)
  refine lv_istore (lv' := [(5, .int r1), (0, .ref b0), (1, .ref (b + adC 0 0)), (2, .ref (b + 709 + adM 0 0)), (3, .ref (b + 721)), (4, .int (nI (6 * t)))]) hx hb dL_law_651 hl (by decide) rfl (fun ls hl => ?_)
  refine lv_aload_n hx hb dL_law_653 rfl (lv_at hl 3 rfl) ?_
  refine lv_aload_n hx hb dL_law_654 rfl (lv_at hl 1 rfl) ?_
  refine lv_iload hx hb dL_law_655 (lv_at hl 5 rfl) ?_
  refine lv_iconst (v := 1) hx hb dL_law_657 (by decide) ?_
  refine lv_iadd hx hb dL_law_658 ?_
  refine lw_sld (v := xs (6 * t + 1)) C0 hX hbl hb1 hS (nI_add (6 * t) 1) (show 6 * t + 1 < L by omega) hL3 rfl dL_law_659 ?_
  refine qLM_i (As := [.int (xs (6 * t + 1))]) (rest := []) C0 (c_X12_commit l h) (cwV 1 C0.2.2.2.2 (tbV mK_8_126 ⟨mK_8_127, mK_8_128, mK_1_11, mK_8_129⟩) rfl rfl rfl (by decide +kernel) ⟨Nat.le_of_ble_eq_true rfl, Nat.le_of_ble_eq_true rfl⟩) hR hT hS rfl hl.1 rfl (Nat.le_of_ble_eq_true rfl) dL_law_660 ⟨by omega, by omega⟩ (fun r4 S5 H locs h hR hS => ?_)
  refine lv_istore (lv' := [(6, .int r4), (5, .int r1), (0, .ref b0), (1, .ref (b + adC 0 0)), (2, .ref (b + 709 + adM 0 0)), (3, .ref (b + 721)), (4, .int (nI (6 * t)))]) hx hb dL_law_663 hl (by decide) rfl (fun ls hl => ?_)
  refine lv_aload_n hx hb dL_law_665 rfl (lv_at hl 4 rfl) ?_
  refine qLM_i (As := []) (rest := []) C0 (c_X12_thrown l h) (cwV 0 C0.2.2.2.2 (tbV mK_7_64 ⟨mK_7_65, mK_7_66, mK_1_11, mK_7_67⟩) rfl rfl rfl (by decide +kernel) ⟨Nat.le_of_ble_eq_true rfl, Nat.le_of_ble_eq_true rfl⟩) hR hT hS rfl hl.1 rfl (Nat.le_of_ble_eq_true rfl) dL_law_666 ⟨by omega, by omega⟩ (fun r6 S7 H locs h hR hS => ?_)
  refine lv_iload hx hb dL_law_669 (lv_at hl 1 rfl) ?_
  refine lv_icmp_eq (tgt := 676) hx hb dL_law_671 (by decide) (fun c8 => ?_) (fun c8 => ?_)
  · have h := h.1 c8
    refine lv_iload hx hb dL_law_676 (lv_at hl 1 rfl) ?_
    refine lv_if_ne (tgt := 693) hx hb dL_law_678 (by decide) (fun c9 => ?_) (fun c9 => ?_)
    · have h := h.1 c9
      refine lv_goto (tgt := 2858) hx hb dL_law_693 (by decide) ?_
      exact W.widen (k := cells + 6) (n := slots + 36) (by omega) (by omega) (kk S2 S7 o3 H locs _ h hR hS (lv_sub hl [2, 3, 4, 5, 6] rfl))
    · have h := h.2 c9
      refine lv_aload_n hx hb dL_law_681 rfl (lv_at hl 5 rfl) ?_
      refine lv_iconst (v := 0) hx hb dL_law_682 (by decide) ?_
      refine lw_out C0 hR dL_law_683 ?_
      refine lv_iload hx hb dL_law_684 (lv_at hl 0 rfl) ?_
      refine lv_i2l (v := r4.toInt64) hx hb dL_law_686 rfl ?_
      refine W.lcmp hx hb dL_law_687 ?_
      refine lv_if_eq (tgt := 693) hx hb dL_law_688 (by decide) (fun c10 => ?_) (fun c10 => ?_)
      · have h := h.1 ((lg_cmp_eq _ _).mp c10)
        refine lv_goto (tgt := 2858) hx hb dL_law_693 (by decide) ?_
        exact W.widen (k := cells + 6) (n := slots + 36) (by omega) (by omega) (kk S2 S7 o3 H locs _ h hR hS (lv_sub hl [2, 3, 4, 5, 6] rfl))
      · have h := h.2 (fun q9 => c10 ((lg_cmp_eq _ _).mpr q9))
        exact h.elim
  · have h := h.2 c8
    exact h.elim
def CS_10 (a1 a2 a3 a4 a5 : Int32) (Sc Sm : sSt) (o : Int64) (K : sSt → sSt → Int64 → Prop) : Prop := FW_roll a1 Sc o (fun r1 S2 o3 => F_X12_roll a1 Sm (fun r4 S5 => F_X12_thrown S5 (fun r6 S7 => ((r6 = r1 → ((¬ r1 = 0 → K S2 S7 o3) ∧ (r1 = 0 → ((o3 = r4.toInt64 → K S2 S7 o3) ∧ (¬ o3 = r4.toInt64 → False))))) ∧ (¬ r6 = r1 → False)))))
set_option maxHeartbeats 4000000 in
set_option maxRecDepth 100000 in
theorem LW_10 {p : Program} {l : Launch} {e : Env} {s : State} {m : MethodId} {args : Array Value} {below : List Frame} {meth : Method} {c : Code} {Q : State → Prop} {D : va_G} {cy : Nat → ClassId} {b b0 L : Nat} {tx : TX} {xs : Nat → Int32} (hl0 : l.stackTraces = false) (C0 : CallFix p m c cL_law 7 s args TB RL) (hT : TxR tx s) (hN : TxN s) (hX : va_X b0 L xs s s.heap) (hbl : b0 < s.heap.size) (hb1 : b = s.heap.size) (hL3 : L ≤ 3072) (t : Nat) (ht : 6 * t + 6 ≤ L) {Sc Sm : sSt} {o : Int64} {K : sSt → sSt → Int64 → Prop} {H : Heap} {locs : List Loc} {ls : Array Slot} {cells slots : Nat} (hc1 : cells + 6 ≤ room_1.cells) (hc2 : slots + 36 ≤ room_1.slots) (h : CS_10 (xs (6 * t + 1)) (xs (6 * t + 2)) (xs (6 * t + 3)) (xs (6 * t + 4)) (xs (6 * t + 5)) Sc Sm o K) (hR : RelL D cy b tx Sc Sm o s H) (hS : va_S (bA b) s.heap H locs) (hl : lv_has ls 7 [(0, .ref b0), (1, .ref (b + adC 0 0)), (2, .ref (b + 709 + adM 0 0)), (3, .ref (b + 721)), (4, .int (nI (6 * t)))])
    (kk : ∀ (S1 S2 : sSt) (o1 : Int64) (H1 : Heap) (locs1 : List Loc) (ls1 : Array Slot), K S1 S2 o1 → RelL D cy b tx S1 S2 o1 s H1 → va_S (bA b) s.heap H1 locs1 → lv_has ls1 7 [(0, .ref b0), (1, .ref (b + adC 0 0)), (2, .ref (b + 709 + adM 0 0)), (3, .ref (b + 721)), (4, .int (nI (6 * t)))] → W p l e room_1 s m args below meth c H1 locs1 (cells + 6) (slots + 36) Q (F0 m 2858 ls1 [])) : W p l e room_1 s m args below meth c H locs cells slots Q (F0 m 696 ls []) := by
  have hx := C0.1
  have hb := C0.2.1
  unfold CS_10 at h
  refine lv_aload_n hx hb dL_law_696 rfl (lv_at hl 1 rfl) ?_
  refine lv_aload_n hx hb dL_law_697 rfl (lv_at hl 0 rfl) ?_
  refine lv_iload hx hb dL_law_698 (lv_at hl 4 rfl) ?_
  refine lv_iconst (v := 1) hx hb dL_law_700 (by decide) ?_
  refine lv_iadd hx hb dL_law_701 ?_
  refine lw_sld (v := xs (6 * t + 1)) C0 hX hbl hb1 hS (nI_add (6 * t) 1) (show 6 * t + 1 < L by omega) hL3 rfl dL_law_702 ?_
  refine lv_aload_n hx hb dL_law_703 rfl (lv_at hl 3 rfl) ?_
  refine qLW (As := [.ref (b + adC 0 0), .int (xs (6 * t + 1)), .ref (b + 721)]) (rest := []) C0 (cw_roll l hl0 h) (vx_cwSW 3 C0.2.2.2.2 (tbSW mK_5_44 ⟨mK_5_45, mK_1_0, mK_5_46⟩) rfl rfl rfl (by decide +kernel) ⟨Nat.le_of_ble_eq_true rfl, Nat.le_of_ble_eq_true rfl⟩) hR hT hN hS rfl hl.1 rfl (Nat.le_of_ble_eq_true rfl) dL_law_704 ⟨by omega, by omega⟩ (fun r1 S2 o3 H locs h hR hS => ?_)
  refine lv_istore (lv' := [(5, .int r1), (0, .ref b0), (1, .ref (b + adC 0 0)), (2, .ref (b + 709 + adM 0 0)), (3, .ref (b + 721)), (4, .int (nI (6 * t)))]) hx hb dL_law_707 hl (by decide) rfl (fun ls hl => ?_)
  refine lv_aload_n hx hb dL_law_709 rfl (lv_at hl 3 rfl) ?_
  refine lv_aload_n hx hb dL_law_710 rfl (lv_at hl 1 rfl) ?_
  refine lv_iload hx hb dL_law_711 (lv_at hl 5 rfl) ?_
  refine lv_iconst (v := 1) hx hb dL_law_713 (by decide) ?_
  refine lv_iadd hx hb dL_law_714 ?_
  refine lw_sld (v := xs (6 * t + 1)) C0 hX hbl hb1 hS (nI_add (6 * t) 1) (show 6 * t + 1 < L by omega) hL3 rfl dL_law_715 ?_
  refine qLM_i (As := [.int (xs (6 * t + 1))]) (rest := []) C0 (c_X12_roll l h) (cwV 1 C0.2.2.2.2 (tbV mK_8_143 ⟨mK_8_144, mK_8_145, mK_1_11, mK_8_146⟩) rfl rfl rfl (by decide +kernel) ⟨Nat.le_of_ble_eq_true rfl, Nat.le_of_ble_eq_true rfl⟩) hR hT hS rfl hl.1 rfl (Nat.le_of_ble_eq_true rfl) dL_law_716 ⟨by omega, by omega⟩ (fun r4 S5 H locs h hR hS => ?_)
  refine lv_istore (lv' := [(6, .int r4), (5, .int r1), (0, .ref b0), (1, .ref (b + adC 0 0)), (2, .ref (b + 709 + adM 0 0)), (3, .ref (b + 721)), (4, .int (nI (6 * t)))]) hx hb dL_law_719 hl (by decide) rfl (fun ls hl => ?_)
  refine lv_aload_n hx hb dL_law_721 rfl (lv_at hl 4 rfl) ?_
  refine qLM_i (As := []) (rest := []) C0 (c_X12_thrown l h) (cwV 0 C0.2.2.2.2 (tbV mK_7_64 ⟨mK_7_65, mK_7_66, mK_1_11, mK_7_67⟩) rfl rfl rfl (by decide +kernel) ⟨Nat.le_of_ble_eq_true rfl, Nat.le_of_ble_eq_true rfl⟩) hR hT hS rfl hl.1 rfl (Nat.le_of_ble_eq_true rfl) dL_law_722 ⟨by omega, by omega⟩ (fun r6 S7 H locs h hR hS => ?_)
  refine lv_iload hx hb dL_law_725 (lv_at hl 1 rfl) ?_
  refine lv_icmp_eq (tgt := 732) hx hb dL_law_727 (by decide) (fun c8 => ?_) (fun c8 => ?_)
  · have h := h.1 c8
    refine lv_iload hx hb dL_law_732 (lv_at hl 1 rfl) ?_
    refine lv_if_ne (tgt := 749) hx hb dL_law_734 (by decide) (fun c9 => ?_) (fun c9 => ?_)
    · have h := h.1 c9
      refine lv_goto (tgt := 2858) hx hb dL_law_749 (by decide) ?_
      exact W.widen (k := cells + 6) (n := slots + 36) (by omega) (by omega) (kk S2 S7 o3 H locs _ h hR hS (lv_sub hl [2, 3, 4, 5, 6] rfl))
    · have h := h.2 c9
      refine lv_aload_n hx hb dL_law_737 rfl (lv_at hl 5 rfl) ?_
      refine lv_iconst (v := 0) hx hb dL_law_738 (by decide) ?_
      refine lw_out C0 hR dL_law_739 ?_
      refine lv_iload hx hb dL_law_740 (lv_at hl 0 rfl) ?_
      refine lv_i2l (v := r4.toInt64) hx hb dL_law_742 rfl ?_
      refine W.lcmp hx hb dL_law_743 ?_
      refine lv_if_eq (tgt := 749) hx hb dL_law_744 (by decide) (fun c10 => ?_) (fun c10 => ?_)
      · have h := h.1 ((lg_cmp_eq _ _).mp c10)
        refine lv_goto (tgt := 2858) hx hb dL_law_749 (by decide) ?_
        exact W.widen (k := cells + 6) (n := slots + 36) (by omega) (by omega) (kk S2 S7 o3 H locs _ h hR hS (lv_sub hl [2, 3, 4, 5, 6] rfl))
      · have h := h.2 (fun q9 => c10 ((lg_cmp_eq _ _).mpr q9))
        exact h.elim
  · have h := h.2 c8
    exact h.elim
def CS_11 (a1 a2 a3 a4 a5 : Int32) (Sc Sm : sSt) (o : Int64) (K : sSt → sSt → Int64 → Prop) : Prop := FW_claim a1 Sc o (fun r1 S2 o3 => F_X12_claim a1 Sm (fun r4 S5 => F_X12_thrown S5 (fun r6 S7 => ((r6 = r1 → ((¬ r1 = 0 → K S2 S7 o3) ∧ (r1 = 0 → ((o3 = r4.toInt64 → K S2 S7 o3) ∧ (¬ o3 = r4.toInt64 → False))))) ∧ (¬ r6 = r1 → False)))))
set_option maxHeartbeats 4000000 in
set_option maxRecDepth 100000 in
theorem LW_11 {p : Program} {l : Launch} {e : Env} {s : State} {m : MethodId} {args : Array Value} {below : List Frame} {meth : Method} {c : Code} {Q : State → Prop} {D : va_G} {cy : Nat → ClassId} {b b0 L : Nat} {tx : TX} {xs : Nat → Int32} (hl0 : l.stackTraces = false) (C0 : CallFix p m c cL_law 7 s args TB RL) (hT : TxR tx s) (hN : TxN s) (hX : va_X b0 L xs s s.heap) (hbl : b0 < s.heap.size) (hb1 : b = s.heap.size) (hL3 : L ≤ 3072) (t : Nat) (ht : 6 * t + 6 ≤ L) {Sc Sm : sSt} {o : Int64} {K : sSt → sSt → Int64 → Prop} {H : Heap} {locs : List Loc} {ls : Array Slot} {cells slots : Nat} (hc1 : cells + 6 ≤ room_1.cells) (hc2 : slots + 36 ≤ room_1.slots) (h : CS_11 (xs (6 * t + 1)) (xs (6 * t + 2)) (xs (6 * t + 3)) (xs (6 * t + 4)) (xs (6 * t + 5)) Sc Sm o K) (hR : RelL D cy b tx Sc Sm o s H) (hS : va_S (bA b) s.heap H locs) (hl : lv_has ls 7 [(0, .ref b0), (1, .ref (b + adC 0 0)), (2, .ref (b + 709 + adM 0 0)), (3, .ref (b + 721)), (4, .int (nI (6 * t)))])
    (kk : ∀ (S1 S2 : sSt) (o1 : Int64) (H1 : Heap) (locs1 : List Loc) (ls1 : Array Slot), K S1 S2 o1 → RelL D cy b tx S1 S2 o1 s H1 → va_S (bA b) s.heap H1 locs1 → lv_has ls1 7 [(0, .ref b0), (1, .ref (b + adC 0 0)), (2, .ref (b + 709 + adM 0 0)), (3, .ref (b + 721)), (4, .int (nI (6 * t)))] → W p l e room_1 s m args below meth c H1 locs1 (cells + 6) (slots + 36) Q (F0 m 2858 ls1 [])) : W p l e room_1 s m args below meth c H locs cells slots Q (F0 m 752 ls []) := by
  have hx := C0.1
  have hb := C0.2.1
  unfold CS_11 at h
  refine lv_aload_n hx hb dL_law_752 rfl (lv_at hl 1 rfl) ?_
  refine lv_aload_n hx hb dL_law_753 rfl (lv_at hl 0 rfl) ?_
  refine lv_iload hx hb dL_law_754 (lv_at hl 4 rfl) ?_
  refine lv_iconst (v := 1) hx hb dL_law_756 (by decide) ?_
  refine lv_iadd hx hb dL_law_757 ?_
  refine lw_sld (v := xs (6 * t + 1)) C0 hX hbl hb1 hS (nI_add (6 * t) 1) (show 6 * t + 1 < L by omega) hL3 rfl dL_law_758 ?_
  refine lv_aload_n hx hb dL_law_759 rfl (lv_at hl 3 rfl) ?_
  refine qLW (As := [.ref (b + adC 0 0), .int (xs (6 * t + 1)), .ref (b + 721)]) (rest := []) C0 (cw_claim l hl0 h) (vx_cwSW 3 C0.2.2.2.2 (tbSW mK_5_55 ⟨mK_5_56, mK_1_0, mK_5_57⟩) rfl rfl rfl (by decide +kernel) ⟨Nat.le_of_ble_eq_true rfl, Nat.le_of_ble_eq_true rfl⟩) hR hT hN hS rfl hl.1 rfl (Nat.le_of_ble_eq_true rfl) dL_law_760 ⟨by omega, by omega⟩ (fun r1 S2 o3 H locs h hR hS => ?_)
  refine lv_istore (lv' := [(5, .int r1), (0, .ref b0), (1, .ref (b + adC 0 0)), (2, .ref (b + 709 + adM 0 0)), (3, .ref (b + 721)), (4, .int (nI (6 * t)))]) hx hb dL_law_763 hl (by decide) rfl (fun ls hl => ?_)
  refine lv_aload_n hx hb dL_law_765 rfl (lv_at hl 3 rfl) ?_
  refine lv_aload_n hx hb dL_law_766 rfl (lv_at hl 1 rfl) ?_
  refine lv_iload hx hb dL_law_767 (lv_at hl 5 rfl) ?_
  refine lv_iconst (v := 1) hx hb dL_law_769 (by decide) ?_
  refine lv_iadd hx hb dL_law_770 ?_
  refine lw_sld (v := xs (6 * t + 1)) C0 hX hbl hb1 hS (nI_add (6 * t) 1) (show 6 * t + 1 < L by omega) hL3 rfl dL_law_771 ?_
  refine qLM_i (As := [.int (xs (6 * t + 1))]) (rest := []) C0 (c_X12_claim l h) (cwV 1 C0.2.2.2.2 (tbV mK_8_151 ⟨mK_8_152, mK_8_153, mK_1_11, mK_8_154⟩) rfl rfl rfl (by decide +kernel) ⟨Nat.le_of_ble_eq_true rfl, Nat.le_of_ble_eq_true rfl⟩) hR hT hS rfl hl.1 rfl (Nat.le_of_ble_eq_true rfl) dL_law_772 ⟨by omega, by omega⟩ (fun r4 S5 H locs h hR hS => ?_)
  refine lv_istore (lv' := [(6, .int r4), (5, .int r1), (0, .ref b0), (1, .ref (b + adC 0 0)), (2, .ref (b + 709 + adM 0 0)), (3, .ref (b + 721)), (4, .int (nI (6 * t)))]) hx hb dL_law_775 hl (by decide) rfl (fun ls hl => ?_)
  refine lv_aload_n hx hb dL_law_777 rfl (lv_at hl 4 rfl) ?_
  refine qLM_i (As := []) (rest := []) C0 (c_X12_thrown l h) (cwV 0 C0.2.2.2.2 (tbV mK_7_64 ⟨mK_7_65, mK_7_66, mK_1_11, mK_7_67⟩) rfl rfl rfl (by decide +kernel) ⟨Nat.le_of_ble_eq_true rfl, Nat.le_of_ble_eq_true rfl⟩) hR hT hS rfl hl.1 rfl (Nat.le_of_ble_eq_true rfl) dL_law_778 ⟨by omega, by omega⟩ (fun r6 S7 H locs h hR hS => ?_)
  refine lv_iload hx hb dL_law_781 (lv_at hl 1 rfl) ?_
  refine lv_icmp_eq (tgt := 788) hx hb dL_law_783 (by decide) (fun c8 => ?_) (fun c8 => ?_)
  · have h := h.1 c8
    refine lv_iload hx hb dL_law_788 (lv_at hl 1 rfl) ?_
    refine lv_if_ne (tgt := 805) hx hb dL_law_790 (by decide) (fun c9 => ?_) (fun c9 => ?_)
    · have h := h.1 c9
      refine lv_goto (tgt := 2858) hx hb dL_law_805 (by decide) ?_
      exact W.widen (k := cells + 6) (n := slots + 36) (by omega) (by omega) (kk S2 S7 o3 H locs _ h hR hS (lv_sub hl [2, 3, 4, 5, 6] rfl))
    · have h := h.2 c9
      refine lv_aload_n hx hb dL_law_793 rfl (lv_at hl 5 rfl) ?_
      refine lv_iconst (v := 0) hx hb dL_law_794 (by decide) ?_
      refine lw_out C0 hR dL_law_795 ?_
      refine lv_iload hx hb dL_law_796 (lv_at hl 0 rfl) ?_
      refine lv_i2l (v := r4.toInt64) hx hb dL_law_798 rfl ?_
      refine W.lcmp hx hb dL_law_799 ?_
      refine lv_if_eq (tgt := 805) hx hb dL_law_800 (by decide) (fun c10 => ?_) (fun c10 => ?_)
      · have h := h.1 ((lg_cmp_eq _ _).mp c10)
        refine lv_goto (tgt := 2858) hx hb dL_law_805 (by decide) ?_
        exact W.widen (k := cells + 6) (n := slots + 36) (by omega) (by omega) (kk S2 S7 o3 H locs _ h hR hS (lv_sub hl [2, 3, 4, 5, 6] rfl))
      · have h := h.2 (fun q9 => c10 ((lg_cmp_eq _ _).mpr q9))
        exact h.elim
  · have h := h.2 c8
    exact h.elim
def CS_12 (a1 a2 a3 a4 a5 : Int32) (Sc Sm : sSt) (o : Int64) (K : sSt → sSt → Int64 → Prop) : Prop := FW_renew a1 a2 a3 Sc o (fun r1 S2 o3 => F_X12_renew a1 a2 a3 Sm (fun r4 S5 => F_X12_thrown S5 (fun r6 S7 => ((r6 = r1 → ((¬ r1 = 0 → K S2 S7 o3) ∧ (r1 = 0 → ((o3 = r4.toInt64 → K S2 S7 o3) ∧ (¬ o3 = r4.toInt64 → False))))) ∧ (¬ r6 = r1 → False)))))
set_option maxHeartbeats 4000000 in
set_option maxRecDepth 100000 in
theorem LW_12 {p : Program} {l : Launch} {e : Env} {s : State} {m : MethodId} {args : Array Value} {below : List Frame} {meth : Method} {c : Code} {Q : State → Prop} {D : va_G} {cy : Nat → ClassId} {b b0 L : Nat} {tx : TX} {xs : Nat → Int32} (hl0 : l.stackTraces = false) (C0 : CallFix p m c cL_law 7 s args TB RL) (hT : TxR tx s) (hN : TxN s) (hX : va_X b0 L xs s s.heap) (hbl : b0 < s.heap.size) (hb1 : b = s.heap.size) (hL3 : L ≤ 3072) (t : Nat) (ht : 6 * t + 6 ≤ L) {Sc Sm : sSt} {o : Int64} {K : sSt → sSt → Int64 → Prop} {H : Heap} {locs : List Loc} {ls : Array Slot} {cells slots : Nat} (hc1 : cells + 6 ≤ room_1.cells) (hc2 : slots + 36 ≤ room_1.slots) (h : CS_12 (xs (6 * t + 1)) (xs (6 * t + 2)) (xs (6 * t + 3)) (xs (6 * t + 4)) (xs (6 * t + 5)) Sc Sm o K) (hR : RelL D cy b tx Sc Sm o s H) (hS : va_S (bA b) s.heap H locs) (hl : lv_has ls 7 [(0, .ref b0), (1, .ref (b + adC 0 0)), (2, .ref (b + 709 + adM 0 0)), (3, .ref (b + 721)), (4, .int (nI (6 * t)))])
    (kk : ∀ (S1 S2 : sSt) (o1 : Int64) (H1 : Heap) (locs1 : List Loc) (ls1 : Array Slot), K S1 S2 o1 → RelL D cy b tx S1 S2 o1 s H1 → va_S (bA b) s.heap H1 locs1 → lv_has ls1 7 [(0, .ref b0), (1, .ref (b + adC 0 0)), (2, .ref (b + 709 + adM 0 0)), (3, .ref (b + 721)), (4, .int (nI (6 * t)))] → W p l e room_1 s m args below meth c H1 locs1 (cells + 6) (slots + 36) Q (F0 m 2858 ls1 [])) : W p l e room_1 s m args below meth c H locs cells slots Q (F0 m 808 ls []) := by
  have hx := C0.1
  have hb := C0.2.1
  unfold CS_12 at h
  refine lv_aload_n hx hb dL_law_808 rfl (lv_at hl 1 rfl) ?_
  refine lv_aload_n hx hb dL_law_809 rfl (lv_at hl 0 rfl) ?_
  refine lv_iload hx hb dL_law_810 (lv_at hl 4 rfl) ?_
  refine lv_iconst (v := 1) hx hb dL_law_812 (by decide) ?_
  refine lv_iadd hx hb dL_law_813 ?_
  refine lw_sld (v := xs (6 * t + 1)) C0 hX hbl hb1 hS (nI_add (6 * t) 1) (show 6 * t + 1 < L by omega) hL3 rfl dL_law_814 ?_
  refine lv_aload_n hx hb dL_law_815 rfl (lv_at hl 0 rfl) ?_
  refine lv_iload hx hb dL_law_816 (lv_at hl 4 rfl) ?_
  refine lv_iconst (v := 2) hx hb dL_law_818 (by decide) ?_
  refine lv_iadd hx hb dL_law_819 ?_
  refine lw_sld (v := xs (6 * t + 2)) C0 hX hbl hb1 hS (nI_add (6 * t) 2) (show 6 * t + 2 < L by omega) hL3 rfl dL_law_820 ?_
  refine lv_aload_n hx hb dL_law_821 rfl (lv_at hl 0 rfl) ?_
  refine lv_iload hx hb dL_law_822 (lv_at hl 4 rfl) ?_
  refine lv_iconst (v := 3) hx hb dL_law_824 (by decide) ?_
  refine lv_iadd hx hb dL_law_825 ?_
  refine lw_sld (v := xs (6 * t + 3)) C0 hX hbl hb1 hS (nI_add (6 * t) 3) (show 6 * t + 3 < L by omega) hL3 rfl dL_law_826 ?_
  refine lv_aload_n hx hb dL_law_827 rfl (lv_at hl 3 rfl) ?_
  refine qLW (As := [.ref (b + adC 0 0), .int (xs (6 * t + 1)), .int (xs (6 * t + 2)), .int (xs (6 * t + 3)), .ref (b + 721)]) (rest := []) C0 (cw_renew l hl0 h) (vx_cwSW 5 C0.2.2.2.2 (tbSW mK_5_123 ⟨mK_5_124, mK_1_0, mK_5_125⟩) rfl rfl rfl (by decide +kernel) ⟨Nat.le_of_ble_eq_true rfl, Nat.le_of_ble_eq_true rfl⟩) hR hT hN hS rfl hl.1 rfl (Nat.le_of_ble_eq_true rfl) dL_law_828 ⟨by omega, by omega⟩ (fun r1 S2 o3 H locs h hR hS => ?_)
  refine lv_istore (lv' := [(5, .int r1), (0, .ref b0), (1, .ref (b + adC 0 0)), (2, .ref (b + 709 + adM 0 0)), (3, .ref (b + 721)), (4, .int (nI (6 * t)))]) hx hb dL_law_831 hl (by decide) rfl (fun ls hl => ?_)
  refine lv_aload_n hx hb dL_law_833 rfl (lv_at hl 3 rfl) ?_
  refine lv_aload_n hx hb dL_law_834 rfl (lv_at hl 1 rfl) ?_
  refine lv_iload hx hb dL_law_835 (lv_at hl 5 rfl) ?_
  refine lv_iconst (v := 1) hx hb dL_law_837 (by decide) ?_
  refine lv_iadd hx hb dL_law_838 ?_
  refine lw_sld (v := xs (6 * t + 1)) C0 hX hbl hb1 hS (nI_add (6 * t) 1) (show 6 * t + 1 < L by omega) hL3 rfl dL_law_839 ?_
  refine lv_aload_n hx hb dL_law_840 rfl (lv_at hl 1 rfl) ?_
  refine lv_iload hx hb dL_law_841 (lv_at hl 5 rfl) ?_
  refine lv_iconst (v := 2) hx hb dL_law_843 (by decide) ?_
  refine lv_iadd hx hb dL_law_844 ?_
  refine lw_sld (v := xs (6 * t + 2)) C0 hX hbl hb1 hS (nI_add (6 * t) 2) (show 6 * t + 2 < L by omega) hL3 rfl dL_law_845 ?_
  refine lv_aload_n hx hb dL_law_846 rfl (lv_at hl 1 rfl) ?_
  refine lv_iload hx hb dL_law_847 (lv_at hl 5 rfl) ?_
  refine lv_iconst (v := 3) hx hb dL_law_849 (by decide) ?_
  refine lv_iadd hx hb dL_law_850 ?_
  refine lw_sld (v := xs (6 * t + 3)) C0 hX hbl hb1 hS (nI_add (6 * t) 3) (show 6 * t + 3 < L by omega) hL3 rfl dL_law_851 ?_
  refine qLM_i (As := [.int (xs (6 * t + 1)), .int (xs (6 * t + 2)), .int (xs (6 * t + 3))]) (rest := []) C0 (c_X12_renew l h) (cwV 3 C0.2.2.2.2 (tbV mK_8_215 ⟨mK_8_216, mK_8_217, mK_1_11, mK_8_218⟩) rfl rfl rfl (by decide +kernel) ⟨Nat.le_of_ble_eq_true rfl, Nat.le_of_ble_eq_true rfl⟩) hR hT hS rfl hl.1 rfl (Nat.le_of_ble_eq_true rfl) dL_law_852 ⟨by omega, by omega⟩ (fun r4 S5 H locs h hR hS => ?_)
  refine lv_istore (lv' := [(6, .int r4), (5, .int r1), (0, .ref b0), (1, .ref (b + adC 0 0)), (2, .ref (b + 709 + adM 0 0)), (3, .ref (b + 721)), (4, .int (nI (6 * t)))]) hx hb dL_law_855 hl (by decide) rfl (fun ls hl => ?_)
  refine lv_aload_n hx hb dL_law_857 rfl (lv_at hl 4 rfl) ?_
  refine qLM_i (As := []) (rest := []) C0 (c_X12_thrown l h) (cwV 0 C0.2.2.2.2 (tbV mK_7_64 ⟨mK_7_65, mK_7_66, mK_1_11, mK_7_67⟩) rfl rfl rfl (by decide +kernel) ⟨Nat.le_of_ble_eq_true rfl, Nat.le_of_ble_eq_true rfl⟩) hR hT hS rfl hl.1 rfl (Nat.le_of_ble_eq_true rfl) dL_law_858 ⟨by omega, by omega⟩ (fun r6 S7 H locs h hR hS => ?_)
  refine lv_iload hx hb dL_law_861 (lv_at hl 1 rfl) ?_
  refine lv_icmp_eq (tgt := 868) hx hb dL_law_863 (by decide) (fun c8 => ?_) (fun c8 => ?_)
  · have h := h.1 c8
    refine lv_iload hx hb dL_law_868 (lv_at hl 1 rfl) ?_
    refine lv_if_ne (tgt := 885) hx hb dL_law_870 (by decide) (fun c9 => ?_) (fun c9 => ?_)
    · have h := h.1 c9
      refine lv_goto (tgt := 2858) hx hb dL_law_885 (by decide) ?_
      exact W.widen (k := cells + 6) (n := slots + 36) (by omega) (by omega) (kk S2 S7 o3 H locs _ h hR hS (lv_sub hl [2, 3, 4, 5, 6] rfl))
    · have h := h.2 c9
      refine lv_aload_n hx hb dL_law_873 rfl (lv_at hl 5 rfl) ?_
      refine lv_iconst (v := 0) hx hb dL_law_874 (by decide) ?_
      refine lw_out C0 hR dL_law_875 ?_
      refine lv_iload hx hb dL_law_876 (lv_at hl 0 rfl) ?_
      refine lv_i2l (v := r4.toInt64) hx hb dL_law_878 rfl ?_
      refine W.lcmp hx hb dL_law_879 ?_
      refine lv_if_eq (tgt := 885) hx hb dL_law_880 (by decide) (fun c10 => ?_) (fun c10 => ?_)
      · have h := h.1 ((lg_cmp_eq _ _).mp c10)
        refine lv_goto (tgt := 2858) hx hb dL_law_885 (by decide) ?_
        exact W.widen (k := cells + 6) (n := slots + 36) (by omega) (by omega) (kk S2 S7 o3 H locs _ h hR hS (lv_sub hl [2, 3, 4, 5, 6] rfl))
      · have h := h.2 (fun q9 => c10 ((lg_cmp_eq _ _).mpr q9))
        exact h.elim
  · have h := h.2 c8
    exact h.elim
def CS_13 (a1 a2 a3 a4 a5 : Int32) (Sc Sm : sSt) (o : Int64) (K : sSt → sSt → Int64 → Prop) : Prop := FW_finish a1 a2 a3 Sc o (fun r1 S2 o3 => F_X12_finish a1 a2 a3 Sm (fun r4 S5 => F_X12_thrown S5 (fun r6 S7 => ((r6 = r1 → ((¬ r1 = 0 → K S2 S7 o3) ∧ (r1 = 0 → ((o3 = r4.toInt64 → K S2 S7 o3) ∧ (¬ o3 = r4.toInt64 → False))))) ∧ (¬ r6 = r1 → False)))))
set_option maxHeartbeats 4000000 in
set_option maxRecDepth 100000 in
theorem LW_13 {p : Program} {l : Launch} {e : Env} {s : State} {m : MethodId} {args : Array Value} {below : List Frame} {meth : Method} {c : Code} {Q : State → Prop} {D : va_G} {cy : Nat → ClassId} {b b0 L : Nat} {tx : TX} {xs : Nat → Int32} (hl0 : l.stackTraces = false) (C0 : CallFix p m c cL_law 7 s args TB RL) (hT : TxR tx s) (hN : TxN s) (hX : va_X b0 L xs s s.heap) (hbl : b0 < s.heap.size) (hb1 : b = s.heap.size) (hL3 : L ≤ 3072) (t : Nat) (ht : 6 * t + 6 ≤ L) {Sc Sm : sSt} {o : Int64} {K : sSt → sSt → Int64 → Prop} {H : Heap} {locs : List Loc} {ls : Array Slot} {cells slots : Nat} (hc1 : cells + 6 ≤ room_1.cells) (hc2 : slots + 36 ≤ room_1.slots) (h : CS_13 (xs (6 * t + 1)) (xs (6 * t + 2)) (xs (6 * t + 3)) (xs (6 * t + 4)) (xs (6 * t + 5)) Sc Sm o K) (hR : RelL D cy b tx Sc Sm o s H) (hS : va_S (bA b) s.heap H locs) (hl : lv_has ls 7 [(0, .ref b0), (1, .ref (b + adC 0 0)), (2, .ref (b + 709 + adM 0 0)), (3, .ref (b + 721)), (4, .int (nI (6 * t)))])
    (kk : ∀ (S1 S2 : sSt) (o1 : Int64) (H1 : Heap) (locs1 : List Loc) (ls1 : Array Slot), K S1 S2 o1 → RelL D cy b tx S1 S2 o1 s H1 → va_S (bA b) s.heap H1 locs1 → lv_has ls1 7 [(0, .ref b0), (1, .ref (b + adC 0 0)), (2, .ref (b + 709 + adM 0 0)), (3, .ref (b + 721)), (4, .int (nI (6 * t)))] → W p l e room_1 s m args below meth c H1 locs1 (cells + 6) (slots + 36) Q (F0 m 2858 ls1 [])) : W p l e room_1 s m args below meth c H locs cells slots Q (F0 m 888 ls []) := by
  have hx := C0.1
  have hb := C0.2.1
  unfold CS_13 at h
  refine lv_aload_n hx hb dL_law_888 rfl (lv_at hl 1 rfl) ?_
  refine lv_aload_n hx hb dL_law_889 rfl (lv_at hl 0 rfl) ?_
  refine lv_iload hx hb dL_law_890 (lv_at hl 4 rfl) ?_
  refine lv_iconst (v := 1) hx hb dL_law_892 (by decide) ?_
  refine lv_iadd hx hb dL_law_893 ?_
  refine lw_sld (v := xs (6 * t + 1)) C0 hX hbl hb1 hS (nI_add (6 * t) 1) (show 6 * t + 1 < L by omega) hL3 rfl dL_law_894 ?_
  refine lv_aload_n hx hb dL_law_895 rfl (lv_at hl 0 rfl) ?_
  refine lv_iload hx hb dL_law_896 (lv_at hl 4 rfl) ?_
  refine lv_iconst (v := 2) hx hb dL_law_898 (by decide) ?_
  refine lv_iadd hx hb dL_law_899 ?_
  refine lw_sld (v := xs (6 * t + 2)) C0 hX hbl hb1 hS (nI_add (6 * t) 2) (show 6 * t + 2 < L by omega) hL3 rfl dL_law_900 ?_
  refine lv_aload_n hx hb dL_law_901 rfl (lv_at hl 0 rfl) ?_
  refine lv_iload hx hb dL_law_902 (lv_at hl 4 rfl) ?_
  refine lv_iconst (v := 3) hx hb dL_law_904 (by decide) ?_
  refine lv_iadd hx hb dL_law_905 ?_
  refine lw_sld (v := xs (6 * t + 3)) C0 hX hbl hb1 hS (nI_add (6 * t) 3) (show 6 * t + 3 < L by omega) hL3 rfl dL_law_906 ?_
  refine lv_aload_n hx hb dL_law_907 rfl (lv_at hl 3 rfl) ?_
  refine qLW (As := [.ref (b + adC 0 0), .int (xs (6 * t + 1)), .int (xs (6 * t + 2)), .int (xs (6 * t + 3)), .ref (b + 721)]) (rest := []) C0 (cw_finish l hl0 h) (vx_cwSW 5 C0.2.2.2.2 (tbSW mK_5_150 ⟨mK_5_151, mK_1_0, mK_5_152⟩) rfl rfl rfl (by decide +kernel) ⟨Nat.le_of_ble_eq_true rfl, Nat.le_of_ble_eq_true rfl⟩) hR hT hN hS rfl hl.1 rfl (Nat.le_of_ble_eq_true rfl) dL_law_908 ⟨by omega, by omega⟩ (fun r1 S2 o3 H locs h hR hS => ?_)
  refine lv_istore (lv' := [(5, .int r1), (0, .ref b0), (1, .ref (b + adC 0 0)), (2, .ref (b + 709 + adM 0 0)), (3, .ref (b + 721)), (4, .int (nI (6 * t)))]) hx hb dL_law_911 hl (by decide) rfl (fun ls hl => ?_)
  refine lv_aload_n hx hb dL_law_913 rfl (lv_at hl 3 rfl) ?_
  refine lv_aload_n hx hb dL_law_914 rfl (lv_at hl 1 rfl) ?_
  refine lv_iload hx hb dL_law_915 (lv_at hl 5 rfl) ?_
  refine lv_iconst (v := 1) hx hb dL_law_917 (by decide) ?_
  refine lv_iadd hx hb dL_law_918 ?_
  refine lw_sld (v := xs (6 * t + 1)) C0 hX hbl hb1 hS (nI_add (6 * t) 1) (show 6 * t + 1 < L by omega) hL3 rfl dL_law_919 ?_
  refine lv_aload_n hx hb dL_law_920 rfl (lv_at hl 1 rfl) ?_
  refine lv_iload hx hb dL_law_921 (lv_at hl 5 rfl) ?_
  refine lv_iconst (v := 2) hx hb dL_law_923 (by decide) ?_
  refine lv_iadd hx hb dL_law_924 ?_
  refine lw_sld (v := xs (6 * t + 2)) C0 hX hbl hb1 hS (nI_add (6 * t) 2) (show 6 * t + 2 < L by omega) hL3 rfl dL_law_925 ?_
  refine lv_aload_n hx hb dL_law_926 rfl (lv_at hl 1 rfl) ?_
  refine lv_iload hx hb dL_law_927 (lv_at hl 5 rfl) ?_
  refine lv_iconst (v := 3) hx hb dL_law_929 (by decide) ?_
  refine lv_iadd hx hb dL_law_930 ?_
  refine lw_sld (v := xs (6 * t + 3)) C0 hX hbl hb1 hS (nI_add (6 * t) 3) (show 6 * t + 3 < L by omega) hL3 rfl dL_law_931 ?_
  refine qLM_i (As := [.int (xs (6 * t + 1)), .int (xs (6 * t + 2)), .int (xs (6 * t + 3))]) (rest := []) C0 (c_X12_finish l h) (cwV 3 C0.2.2.2.2 (tbV mK_8_235 ⟨mK_8_236, mK_8_237, mK_1_11, mK_8_238⟩) rfl rfl rfl (by decide +kernel) ⟨Nat.le_of_ble_eq_true rfl, Nat.le_of_ble_eq_true rfl⟩) hR hT hS rfl hl.1 rfl (Nat.le_of_ble_eq_true rfl) dL_law_932 ⟨by omega, by omega⟩ (fun r4 S5 H locs h hR hS => ?_)
  refine lv_istore (lv' := [(6, .int r4), (5, .int r1), (0, .ref b0), (1, .ref (b + adC 0 0)), (2, .ref (b + 709 + adM 0 0)), (3, .ref (b + 721)), (4, .int (nI (6 * t)))]) hx hb dL_law_935 hl (by decide) rfl (fun ls hl => ?_)
  refine lv_aload_n hx hb dL_law_937 rfl (lv_at hl 4 rfl) ?_
  refine qLM_i (As := []) (rest := []) C0 (c_X12_thrown l h) (cwV 0 C0.2.2.2.2 (tbV mK_7_64 ⟨mK_7_65, mK_7_66, mK_1_11, mK_7_67⟩) rfl rfl rfl (by decide +kernel) ⟨Nat.le_of_ble_eq_true rfl, Nat.le_of_ble_eq_true rfl⟩) hR hT hS rfl hl.1 rfl (Nat.le_of_ble_eq_true rfl) dL_law_938 ⟨by omega, by omega⟩ (fun r6 S7 H locs h hR hS => ?_)
  refine lv_iload hx hb dL_law_941 (lv_at hl 1 rfl) ?_
  refine lv_icmp_eq (tgt := 948) hx hb dL_law_943 (by decide) (fun c8 => ?_) (fun c8 => ?_)
  · have h := h.1 c8
    refine lv_iload hx hb dL_law_948 (lv_at hl 1 rfl) ?_
    refine lv_if_ne (tgt := 965) hx hb dL_law_950 (by decide) (fun c9 => ?_) (fun c9 => ?_)
    · have h := h.1 c9
      refine lv_goto (tgt := 2858) hx hb dL_law_965 (by decide) ?_
      exact W.widen (k := cells + 6) (n := slots + 36) (by omega) (by omega) (kk S2 S7 o3 H locs _ h hR hS (lv_sub hl [2, 3, 4, 5, 6] rfl))
    · have h := h.2 c9
      refine lv_aload_n hx hb dL_law_953 rfl (lv_at hl 5 rfl) ?_
      refine lv_iconst (v := 0) hx hb dL_law_954 (by decide) ?_
      refine lw_out C0 hR dL_law_955 ?_
      refine lv_iload hx hb dL_law_956 (lv_at hl 0 rfl) ?_
      refine lv_i2l (v := r4.toInt64) hx hb dL_law_958 rfl ?_
      refine W.lcmp hx hb dL_law_959 ?_
      refine lv_if_eq (tgt := 965) hx hb dL_law_960 (by decide) (fun c10 => ?_) (fun c10 => ?_)
      · have h := h.1 ((lg_cmp_eq _ _).mp c10)
        refine lv_goto (tgt := 2858) hx hb dL_law_965 (by decide) ?_
        exact W.widen (k := cells + 6) (n := slots + 36) (by omega) (by omega) (kk S2 S7 o3 H locs _ h hR hS (lv_sub hl [2, 3, 4, 5, 6] rfl))
      · have h := h.2 (fun q9 => c10 ((lg_cmp_eq _ _).mpr q9))
        exact h.elim
  · have h := h.2 c8
    exact h.elim
def CS_14 (a1 a2 a3 a4 a5 : Int32) (Sc Sm : sSt) (o : Int64) (K : sSt → sSt → Int64 → Prop) : Prop := FW_fail a1 a2 a3 a4 Sc o (fun r1 S2 o3 => F_X12_fail a1 a2 a3 a4 Sm (fun r4 S5 => F_X12_thrown S5 (fun r6 S7 => ((r6 = r1 → ((¬ r1 = 0 → K S2 S7 o3) ∧ (r1 = 0 → ((o3 = r4.toInt64 → K S2 S7 o3) ∧ (¬ o3 = r4.toInt64 → False))))) ∧ (¬ r6 = r1 → False)))))
set_option maxHeartbeats 4000000 in
set_option maxRecDepth 100000 in
theorem LW_14 {p : Program} {l : Launch} {e : Env} {s : State} {m : MethodId} {args : Array Value} {below : List Frame} {meth : Method} {c : Code} {Q : State → Prop} {D : va_G} {cy : Nat → ClassId} {b b0 L : Nat} {tx : TX} {xs : Nat → Int32} (hl0 : l.stackTraces = false) (C0 : CallFix p m c cL_law 7 s args TB RL) (hT : TxR tx s) (hN : TxN s) (hX : va_X b0 L xs s s.heap) (hbl : b0 < s.heap.size) (hb1 : b = s.heap.size) (hL3 : L ≤ 3072) (t : Nat) (ht : 6 * t + 6 ≤ L) {Sc Sm : sSt} {o : Int64} {K : sSt → sSt → Int64 → Prop} {H : Heap} {locs : List Loc} {ls : Array Slot} {cells slots : Nat} (hc1 : cells + 6 ≤ room_1.cells) (hc2 : slots + 36 ≤ room_1.slots) (h : CS_14 (xs (6 * t + 1)) (xs (6 * t + 2)) (xs (6 * t + 3)) (xs (6 * t + 4)) (xs (6 * t + 5)) Sc Sm o K) (hR : RelL D cy b tx Sc Sm o s H) (hS : va_S (bA b) s.heap H locs) (hl : lv_has ls 7 [(0, .ref b0), (1, .ref (b + adC 0 0)), (2, .ref (b + 709 + adM 0 0)), (3, .ref (b + 721)), (4, .int (nI (6 * t)))])
    (kk : ∀ (S1 S2 : sSt) (o1 : Int64) (H1 : Heap) (locs1 : List Loc) (ls1 : Array Slot), K S1 S2 o1 → RelL D cy b tx S1 S2 o1 s H1 → va_S (bA b) s.heap H1 locs1 → lv_has ls1 7 [(0, .ref b0), (1, .ref (b + adC 0 0)), (2, .ref (b + 709 + adM 0 0)), (3, .ref (b + 721)), (4, .int (nI (6 * t)))] → W p l e room_1 s m args below meth c H1 locs1 (cells + 6) (slots + 36) Q (F0 m 2858 ls1 [])) : W p l e room_1 s m args below meth c H locs cells slots Q (F0 m 968 ls []) := by
  have hx := C0.1
  have hb := C0.2.1
  unfold CS_14 at h
  refine lv_aload_n hx hb dL_law_968 rfl (lv_at hl 1 rfl) ?_
  refine lv_aload_n hx hb dL_law_969 rfl (lv_at hl 0 rfl) ?_
  refine lv_iload hx hb dL_law_970 (lv_at hl 4 rfl) ?_
  refine lv_iconst (v := 1) hx hb dL_law_972 (by decide) ?_
  refine lv_iadd hx hb dL_law_973 ?_
  refine lw_sld (v := xs (6 * t + 1)) C0 hX hbl hb1 hS (nI_add (6 * t) 1) (show 6 * t + 1 < L by omega) hL3 rfl dL_law_974 ?_
  refine lv_aload_n hx hb dL_law_975 rfl (lv_at hl 0 rfl) ?_
  refine lv_iload hx hb dL_law_976 (lv_at hl 4 rfl) ?_
  refine lv_iconst (v := 2) hx hb dL_law_978 (by decide) ?_
  refine lv_iadd hx hb dL_law_979 ?_
  refine lw_sld (v := xs (6 * t + 2)) C0 hX hbl hb1 hS (nI_add (6 * t) 2) (show 6 * t + 2 < L by omega) hL3 rfl dL_law_980 ?_
  refine lv_aload_n hx hb dL_law_981 rfl (lv_at hl 0 rfl) ?_
  refine lv_iload hx hb dL_law_982 (lv_at hl 4 rfl) ?_
  refine lv_iconst (v := 3) hx hb dL_law_984 (by decide) ?_
  refine lv_iadd hx hb dL_law_985 ?_
  refine lw_sld (v := xs (6 * t + 3)) C0 hX hbl hb1 hS (nI_add (6 * t) 3) (show 6 * t + 3 < L by omega) hL3 rfl dL_law_986 ?_
  refine lv_aload_n hx hb dL_law_987 rfl (lv_at hl 0 rfl) ?_
  refine lv_iload hx hb dL_law_988 (lv_at hl 4 rfl) ?_
  refine lv_iconst (v := 4) hx hb dL_law_990 (by decide) ?_
  refine lv_iadd hx hb dL_law_991 ?_
  refine lw_sld (v := xs (6 * t + 4)) C0 hX hbl hb1 hS (nI_add (6 * t) 4) (show 6 * t + 4 < L by omega) hL3 rfl dL_law_992 ?_
  refine lv_aload_n hx hb dL_law_993 rfl (lv_at hl 3 rfl) ?_
  refine qLW (As := [.ref (b + adC 0 0), .int (xs (6 * t + 1)), .int (xs (6 * t + 2)), .int (xs (6 * t + 3)), .int (xs (6 * t + 4)), .ref (b + 721)]) (rest := []) C0 (cw_fail l hl0 h) (vx_cwSW 6 C0.2.2.2.2 (tbSW mK_5_157 ⟨mK_5_158, mK_1_0, mK_5_159⟩) rfl rfl rfl (by decide +kernel) ⟨Nat.le_of_ble_eq_true rfl, Nat.le_of_ble_eq_true rfl⟩) hR hT hN hS rfl hl.1 rfl (Nat.le_of_ble_eq_true rfl) dL_law_994 ⟨by omega, by omega⟩ (fun r1 S2 o3 H locs h hR hS => ?_)
  refine lv_istore (lv' := [(5, .int r1), (0, .ref b0), (1, .ref (b + adC 0 0)), (2, .ref (b + 709 + adM 0 0)), (3, .ref (b + 721)), (4, .int (nI (6 * t)))]) hx hb dL_law_997 hl (by decide) rfl (fun ls hl => ?_)
  refine lv_aload_n hx hb dL_law_999 rfl (lv_at hl 3 rfl) ?_
  refine lv_aload_n hx hb dL_law_1000 rfl (lv_at hl 1 rfl) ?_
  refine lv_iload hx hb dL_law_1001 (lv_at hl 5 rfl) ?_
  refine lv_iconst (v := 1) hx hb dL_law_1003 (by decide) ?_
  refine lv_iadd hx hb dL_law_1004 ?_
  refine lw_sld (v := xs (6 * t + 1)) C0 hX hbl hb1 hS (nI_add (6 * t) 1) (show 6 * t + 1 < L by omega) hL3 rfl dL_law_1005 ?_
  refine lv_aload_n hx hb dL_law_1006 rfl (lv_at hl 1 rfl) ?_
  refine lv_iload hx hb dL_law_1007 (lv_at hl 5 rfl) ?_
  refine lv_iconst (v := 2) hx hb dL_law_1009 (by decide) ?_
  refine lv_iadd hx hb dL_law_1010 ?_
  refine lw_sld (v := xs (6 * t + 2)) C0 hX hbl hb1 hS (nI_add (6 * t) 2) (show 6 * t + 2 < L by omega) hL3 rfl dL_law_1011 ?_
  refine lv_aload_n hx hb dL_law_1012 rfl (lv_at hl 1 rfl) ?_
  refine lv_iload hx hb dL_law_1013 (lv_at hl 5 rfl) ?_
  refine lv_iconst (v := 3) hx hb dL_law_1015 (by decide) ?_
  refine lv_iadd hx hb dL_law_1016 ?_
  refine lw_sld (v := xs (6 * t + 3)) C0 hX hbl hb1 hS (nI_add (6 * t) 3) (show 6 * t + 3 < L by omega) hL3 rfl dL_law_1017 ?_
  refine lv_aload_n hx hb dL_law_1018 rfl (lv_at hl 1 rfl) ?_
  refine lv_iload hx hb dL_law_1019 (lv_at hl 5 rfl) ?_
  refine lv_iconst (v := 4) hx hb dL_law_1021 (by decide) ?_
  refine lv_iadd hx hb dL_law_1022 ?_
  refine lw_sld (v := xs (6 * t + 4)) C0 hX hbl hb1 hS (nI_add (6 * t) 4) (show 6 * t + 4 < L by omega) hL3 rfl dL_law_1023 ?_
  refine qLM_i (As := [.int (xs (6 * t + 1)), .int (xs (6 * t + 2)), .int (xs (6 * t + 3)), .int (xs (6 * t + 4))]) (rest := []) C0 (c_X12_fail l h) (cwV 4 C0.2.2.2.2 (tbV mK_8_239 ⟨mK_9_0, mK_9_1, mK_1_11, mK_9_2⟩) rfl rfl rfl (by decide +kernel) ⟨Nat.le_of_ble_eq_true rfl, Nat.le_of_ble_eq_true rfl⟩) hR hT hS rfl hl.1 rfl (Nat.le_of_ble_eq_true rfl) dL_law_1024 ⟨by omega, by omega⟩ (fun r4 S5 H locs h hR hS => ?_)
  refine lv_istore (lv' := [(6, .int r4), (5, .int r1), (0, .ref b0), (1, .ref (b + adC 0 0)), (2, .ref (b + 709 + adM 0 0)), (3, .ref (b + 721)), (4, .int (nI (6 * t)))]) hx hb dL_law_1027 hl (by decide) rfl (fun ls hl => ?_)
  refine lv_aload_n hx hb dL_law_1029 rfl (lv_at hl 4 rfl) ?_
  refine qLM_i (As := []) (rest := []) C0 (c_X12_thrown l h) (cwV 0 C0.2.2.2.2 (tbV mK_7_64 ⟨mK_7_65, mK_7_66, mK_1_11, mK_7_67⟩) rfl rfl rfl (by decide +kernel) ⟨Nat.le_of_ble_eq_true rfl, Nat.le_of_ble_eq_true rfl⟩) hR hT hS rfl hl.1 rfl (Nat.le_of_ble_eq_true rfl) dL_law_1030 ⟨by omega, by omega⟩ (fun r6 S7 H locs h hR hS => ?_)
  refine lv_iload hx hb dL_law_1033 (lv_at hl 1 rfl) ?_
  refine lv_icmp_eq (tgt := 1040) hx hb dL_law_1035 (by decide) (fun c8 => ?_) (fun c8 => ?_)
  · have h := h.1 c8
    refine lv_iload hx hb dL_law_1040 (lv_at hl 1 rfl) ?_
    refine lv_if_ne (tgt := 1057) hx hb dL_law_1042 (by decide) (fun c9 => ?_) (fun c9 => ?_)
    · have h := h.1 c9
      refine lv_goto (tgt := 2858) hx hb dL_law_1057 (by decide) ?_
      exact W.widen (k := cells + 6) (n := slots + 36) (by omega) (by omega) (kk S2 S7 o3 H locs _ h hR hS (lv_sub hl [2, 3, 4, 5, 6] rfl))
    · have h := h.2 c9
      refine lv_aload_n hx hb dL_law_1045 rfl (lv_at hl 5 rfl) ?_
      refine lv_iconst (v := 0) hx hb dL_law_1046 (by decide) ?_
      refine lw_out C0 hR dL_law_1047 ?_
      refine lv_iload hx hb dL_law_1048 (lv_at hl 0 rfl) ?_
      refine lv_i2l (v := r4.toInt64) hx hb dL_law_1050 rfl ?_
      refine W.lcmp hx hb dL_law_1051 ?_
      refine lv_if_eq (tgt := 1057) hx hb dL_law_1052 (by decide) (fun c10 => ?_) (fun c10 => ?_)
      · have h := h.1 ((lg_cmp_eq _ _).mp c10)
        refine lv_goto (tgt := 2858) hx hb dL_law_1057 (by decide) ?_
        exact W.widen (k := cells + 6) (n := slots + 36) (by omega) (by omega) (kk S2 S7 o3 H locs _ h hR hS (lv_sub hl [2, 3, 4, 5, 6] rfl))
      · have h := h.2 (fun q9 => c10 ((lg_cmp_eq _ _).mpr q9))
        exact h.elim
  · have h := h.2 c8
    exact h.elim
def CS_15 (a1 a2 a3 a4 a5 : Int32) (Sc Sm : sSt) (o : Int64) (K : sSt → sSt → Int64 → Prop) : Prop := FW_give a1 a2 a3 Sc o (fun r1 S2 o3 => F_X12_give a1 a2 a3 Sm (fun r4 S5 => F_X12_thrown S5 (fun r6 S7 => ((r6 = r1 → ((¬ r1 = 0 → K S2 S7 o3) ∧ (r1 = 0 → ((o3 = r4.toInt64 → K S2 S7 o3) ∧ (¬ o3 = r4.toInt64 → False))))) ∧ (¬ r6 = r1 → False)))))
set_option maxHeartbeats 4000000 in
set_option maxRecDepth 100000 in
theorem LW_15 {p : Program} {l : Launch} {e : Env} {s : State} {m : MethodId} {args : Array Value} {below : List Frame} {meth : Method} {c : Code} {Q : State → Prop} {D : va_G} {cy : Nat → ClassId} {b b0 L : Nat} {tx : TX} {xs : Nat → Int32} (hl0 : l.stackTraces = false) (C0 : CallFix p m c cL_law 7 s args TB RL) (hT : TxR tx s) (hN : TxN s) (hX : va_X b0 L xs s s.heap) (hbl : b0 < s.heap.size) (hb1 : b = s.heap.size) (hL3 : L ≤ 3072) (t : Nat) (ht : 6 * t + 6 ≤ L) {Sc Sm : sSt} {o : Int64} {K : sSt → sSt → Int64 → Prop} {H : Heap} {locs : List Loc} {ls : Array Slot} {cells slots : Nat} (hc1 : cells + 6 ≤ room_1.cells) (hc2 : slots + 36 ≤ room_1.slots) (h : CS_15 (xs (6 * t + 1)) (xs (6 * t + 2)) (xs (6 * t + 3)) (xs (6 * t + 4)) (xs (6 * t + 5)) Sc Sm o K) (hR : RelL D cy b tx Sc Sm o s H) (hS : va_S (bA b) s.heap H locs) (hl : lv_has ls 7 [(0, .ref b0), (1, .ref (b + adC 0 0)), (2, .ref (b + 709 + adM 0 0)), (3, .ref (b + 721)), (4, .int (nI (6 * t)))])
    (kk : ∀ (S1 S2 : sSt) (o1 : Int64) (H1 : Heap) (locs1 : List Loc) (ls1 : Array Slot), K S1 S2 o1 → RelL D cy b tx S1 S2 o1 s H1 → va_S (bA b) s.heap H1 locs1 → lv_has ls1 7 [(0, .ref b0), (1, .ref (b + adC 0 0)), (2, .ref (b + 709 + adM 0 0)), (3, .ref (b + 721)), (4, .int (nI (6 * t)))] → W p l e room_1 s m args below meth c H1 locs1 (cells + 6) (slots + 36) Q (F0 m 2858 ls1 [])) : W p l e room_1 s m args below meth c H locs cells slots Q (F0 m 1060 ls []) := by
  have hx := C0.1
  have hb := C0.2.1
  unfold CS_15 at h
  refine lv_aload_n hx hb dL_law_1060 rfl (lv_at hl 1 rfl) ?_
  refine lv_aload_n hx hb dL_law_1061 rfl (lv_at hl 0 rfl) ?_
  refine lv_iload hx hb dL_law_1062 (lv_at hl 4 rfl) ?_
  refine lv_iconst (v := 1) hx hb dL_law_1064 (by decide) ?_
  refine lv_iadd hx hb dL_law_1065 ?_
  refine lw_sld (v := xs (6 * t + 1)) C0 hX hbl hb1 hS (nI_add (6 * t) 1) (show 6 * t + 1 < L by omega) hL3 rfl dL_law_1066 ?_
  refine lv_aload_n hx hb dL_law_1067 rfl (lv_at hl 0 rfl) ?_
  refine lv_iload hx hb dL_law_1068 (lv_at hl 4 rfl) ?_
  refine lv_iconst (v := 2) hx hb dL_law_1070 (by decide) ?_
  refine lv_iadd hx hb dL_law_1071 ?_
  refine lw_sld (v := xs (6 * t + 2)) C0 hX hbl hb1 hS (nI_add (6 * t) 2) (show 6 * t + 2 < L by omega) hL3 rfl dL_law_1072 ?_
  refine lv_aload_n hx hb dL_law_1073 rfl (lv_at hl 0 rfl) ?_
  refine lv_iload hx hb dL_law_1074 (lv_at hl 4 rfl) ?_
  refine lv_iconst (v := 3) hx hb dL_law_1076 (by decide) ?_
  refine lv_iadd hx hb dL_law_1077 ?_
  refine lw_sld (v := xs (6 * t + 3)) C0 hX hbl hb1 hS (nI_add (6 * t) 3) (show 6 * t + 3 < L by omega) hL3 rfl dL_law_1078 ?_
  refine lv_aload_n hx hb dL_law_1079 rfl (lv_at hl 3 rfl) ?_
  refine qLW (As := [.ref (b + adC 0 0), .int (xs (6 * t + 1)), .int (xs (6 * t + 2)), .int (xs (6 * t + 3)), .ref (b + 721)]) (rest := []) C0 (cw_give l hl0 h) (vx_cwSW 5 C0.2.2.2.2 (tbSW mK_5_179 ⟨mK_5_180, mK_1_0, mK_5_181⟩) rfl rfl rfl (by decide +kernel) ⟨Nat.le_of_ble_eq_true rfl, Nat.le_of_ble_eq_true rfl⟩) hR hT hN hS rfl hl.1 rfl (Nat.le_of_ble_eq_true rfl) dL_law_1080 ⟨by omega, by omega⟩ (fun r1 S2 o3 H locs h hR hS => ?_)
  refine lv_istore (lv' := [(5, .int r1), (0, .ref b0), (1, .ref (b + adC 0 0)), (2, .ref (b + 709 + adM 0 0)), (3, .ref (b + 721)), (4, .int (nI (6 * t)))]) hx hb dL_law_1083 hl (by decide) rfl (fun ls hl => ?_)
  refine lv_aload_n hx hb dL_law_1085 rfl (lv_at hl 3 rfl) ?_
  refine lv_aload_n hx hb dL_law_1086 rfl (lv_at hl 1 rfl) ?_
  refine lv_iload hx hb dL_law_1087 (lv_at hl 5 rfl) ?_
  refine lv_iconst (v := 1) hx hb dL_law_1089 (by decide) ?_
  refine lv_iadd hx hb dL_law_1090 ?_
  refine lw_sld (v := xs (6 * t + 1)) C0 hX hbl hb1 hS (nI_add (6 * t) 1) (show 6 * t + 1 < L by omega) hL3 rfl dL_law_1091 ?_
  refine lv_aload_n hx hb dL_law_1092 rfl (lv_at hl 1 rfl) ?_
  refine lv_iload hx hb dL_law_1093 (lv_at hl 5 rfl) ?_
  refine lv_iconst (v := 2) hx hb dL_law_1095 (by decide) ?_
  refine lv_iadd hx hb dL_law_1096 ?_
  refine lw_sld (v := xs (6 * t + 2)) C0 hX hbl hb1 hS (nI_add (6 * t) 2) (show 6 * t + 2 < L by omega) hL3 rfl dL_law_1097 ?_
  refine lv_aload_n hx hb dL_law_1098 rfl (lv_at hl 1 rfl) ?_
  refine lv_iload hx hb dL_law_1099 (lv_at hl 5 rfl) ?_
  refine lv_iconst (v := 3) hx hb dL_law_1101 (by decide) ?_
  refine lv_iadd hx hb dL_law_1102 ?_
  refine lw_sld (v := xs (6 * t + 3)) C0 hX hbl hb1 hS (nI_add (6 * t) 3) (show 6 * t + 3 < L by omega) hL3 rfl dL_law_1103 ?_
  refine qLM_i (As := [.int (xs (6 * t + 1)), .int (xs (6 * t + 2)), .int (xs (6 * t + 3))]) (rest := []) C0 (c_X12_give l h) (cwV 3 C0.2.2.2.2 (tbV mK_9_12 ⟨mK_9_13, mK_9_14, mK_1_11, mK_9_15⟩) rfl rfl rfl (by decide +kernel) ⟨Nat.le_of_ble_eq_true rfl, Nat.le_of_ble_eq_true rfl⟩) hR hT hS rfl hl.1 rfl (Nat.le_of_ble_eq_true rfl) dL_law_1104 ⟨by omega, by omega⟩ (fun r4 S5 H locs h hR hS => ?_)
  refine lv_istore (lv' := [(6, .int r4), (5, .int r1), (0, .ref b0), (1, .ref (b + adC 0 0)), (2, .ref (b + 709 + adM 0 0)), (3, .ref (b + 721)), (4, .int (nI (6 * t)))]) hx hb dL_law_1107 hl (by decide) rfl (fun ls hl => ?_)
  refine lv_aload_n hx hb dL_law_1109 rfl (lv_at hl 4 rfl) ?_
  refine qLM_i (As := []) (rest := []) C0 (c_X12_thrown l h) (cwV 0 C0.2.2.2.2 (tbV mK_7_64 ⟨mK_7_65, mK_7_66, mK_1_11, mK_7_67⟩) rfl rfl rfl (by decide +kernel) ⟨Nat.le_of_ble_eq_true rfl, Nat.le_of_ble_eq_true rfl⟩) hR hT hS rfl hl.1 rfl (Nat.le_of_ble_eq_true rfl) dL_law_1110 ⟨by omega, by omega⟩ (fun r6 S7 H locs h hR hS => ?_)
  refine lv_iload hx hb dL_law_1113 (lv_at hl 1 rfl) ?_
  refine lv_icmp_eq (tgt := 1120) hx hb dL_law_1115 (by decide) (fun c8 => ?_) (fun c8 => ?_)
  · have h := h.1 c8
    refine lv_iload hx hb dL_law_1120 (lv_at hl 1 rfl) ?_
    refine lv_if_ne (tgt := 1137) hx hb dL_law_1122 (by decide) (fun c9 => ?_) (fun c9 => ?_)
    · have h := h.1 c9
      refine lv_goto (tgt := 2858) hx hb dL_law_1137 (by decide) ?_
      exact W.widen (k := cells + 6) (n := slots + 36) (by omega) (by omega) (kk S2 S7 o3 H locs _ h hR hS (lv_sub hl [2, 3, 4, 5, 6] rfl))
    · have h := h.2 c9
      refine lv_aload_n hx hb dL_law_1125 rfl (lv_at hl 5 rfl) ?_
      refine lv_iconst (v := 0) hx hb dL_law_1126 (by decide) ?_
      refine lw_out C0 hR dL_law_1127 ?_
      refine lv_iload hx hb dL_law_1128 (lv_at hl 0 rfl) ?_
      refine lv_i2l (v := r4.toInt64) hx hb dL_law_1130 rfl ?_
      refine W.lcmp hx hb dL_law_1131 ?_
      refine lv_if_eq (tgt := 1137) hx hb dL_law_1132 (by decide) (fun c10 => ?_) (fun c10 => ?_)
      · have h := h.1 ((lg_cmp_eq _ _).mp c10)
        refine lv_goto (tgt := 2858) hx hb dL_law_1137 (by decide) ?_
        exact W.widen (k := cells + 6) (n := slots + 36) (by omega) (by omega) (kk S2 S7 o3 H locs _ h hR hS (lv_sub hl [2, 3, 4, 5, 6] rfl))
      · have h := h.2 (fun q9 => c10 ((lg_cmp_eq _ _).mpr q9))
        exact h.elim
  · have h := h.2 c8
    exact h.elim
def CS_16 (a1 a2 a3 a4 a5 : Int32) (Sc Sm : sSt) (o : Int64) (K : sSt → sSt → Int64 → Prop) : Prop := FW_reap a1 Sc o (fun r1 S2 o3 => F_X12_reap a1 Sm (fun r4 S5 => F_X12_thrown S5 (fun r6 S7 => ((r6 = r1 → ((¬ r1 = 0 → K S2 S7 o3) ∧ (r1 = 0 → ((o3 = r4.toInt64 → K S2 S7 o3) ∧ (¬ o3 = r4.toInt64 → False))))) ∧ (¬ r6 = r1 → False)))))
set_option maxHeartbeats 4000000 in
set_option maxRecDepth 100000 in
theorem LW_16 {p : Program} {l : Launch} {e : Env} {s : State} {m : MethodId} {args : Array Value} {below : List Frame} {meth : Method} {c : Code} {Q : State → Prop} {D : va_G} {cy : Nat → ClassId} {b b0 L : Nat} {tx : TX} {xs : Nat → Int32} (hl0 : l.stackTraces = false) (C0 : CallFix p m c cL_law 7 s args TB RL) (hT : TxR tx s) (hN : TxN s) (hX : va_X b0 L xs s s.heap) (hbl : b0 < s.heap.size) (hb1 : b = s.heap.size) (hL3 : L ≤ 3072) (t : Nat) (ht : 6 * t + 6 ≤ L) {Sc Sm : sSt} {o : Int64} {K : sSt → sSt → Int64 → Prop} {H : Heap} {locs : List Loc} {ls : Array Slot} {cells slots : Nat} (hc1 : cells + 6 ≤ room_1.cells) (hc2 : slots + 36 ≤ room_1.slots) (h : CS_16 (xs (6 * t + 1)) (xs (6 * t + 2)) (xs (6 * t + 3)) (xs (6 * t + 4)) (xs (6 * t + 5)) Sc Sm o K) (hR : RelL D cy b tx Sc Sm o s H) (hS : va_S (bA b) s.heap H locs) (hl : lv_has ls 7 [(0, .ref b0), (1, .ref (b + adC 0 0)), (2, .ref (b + 709 + adM 0 0)), (3, .ref (b + 721)), (4, .int (nI (6 * t)))])
    (kk : ∀ (S1 S2 : sSt) (o1 : Int64) (H1 : Heap) (locs1 : List Loc) (ls1 : Array Slot), K S1 S2 o1 → RelL D cy b tx S1 S2 o1 s H1 → va_S (bA b) s.heap H1 locs1 → lv_has ls1 7 [(0, .ref b0), (1, .ref (b + adC 0 0)), (2, .ref (b + 709 + adM 0 0)), (3, .ref (b + 721)), (4, .int (nI (6 * t)))] → W p l e room_1 s m args below meth c H1 locs1 (cells + 6) (slots + 36) Q (F0 m 2858 ls1 [])) : W p l e room_1 s m args below meth c H locs cells slots Q (F0 m 1140 ls []) := by
  have hx := C0.1
  have hb := C0.2.1
  unfold CS_16 at h
  refine lv_aload_n hx hb dL_law_1140 rfl (lv_at hl 1 rfl) ?_
  refine lv_aload_n hx hb dL_law_1141 rfl (lv_at hl 0 rfl) ?_
  refine lv_iload hx hb dL_law_1142 (lv_at hl 4 rfl) ?_
  refine lv_iconst (v := 1) hx hb dL_law_1144 (by decide) ?_
  refine lv_iadd hx hb dL_law_1145 ?_
  refine lw_sld (v := xs (6 * t + 1)) C0 hX hbl hb1 hS (nI_add (6 * t) 1) (show 6 * t + 1 < L by omega) hL3 rfl dL_law_1146 ?_
  refine lv_aload_n hx hb dL_law_1147 rfl (lv_at hl 3 rfl) ?_
  refine qLW (As := [.ref (b + adC 0 0), .int (xs (6 * t + 1)), .ref (b + 721)]) (rest := []) C0 (cw_reap l hl0 h) (vx_cwSW 3 C0.2.2.2.2 (tbSW mK_5_186 ⟨mK_5_187, mK_1_0, mK_5_188⟩) rfl rfl rfl (by decide +kernel) ⟨Nat.le_of_ble_eq_true rfl, Nat.le_of_ble_eq_true rfl⟩) hR hT hN hS rfl hl.1 rfl (Nat.le_of_ble_eq_true rfl) dL_law_1148 ⟨by omega, by omega⟩ (fun r1 S2 o3 H locs h hR hS => ?_)
  refine lv_istore (lv' := [(5, .int r1), (0, .ref b0), (1, .ref (b + adC 0 0)), (2, .ref (b + 709 + adM 0 0)), (3, .ref (b + 721)), (4, .int (nI (6 * t)))]) hx hb dL_law_1151 hl (by decide) rfl (fun ls hl => ?_)
  refine lv_aload_n hx hb dL_law_1153 rfl (lv_at hl 3 rfl) ?_
  refine lv_aload_n hx hb dL_law_1154 rfl (lv_at hl 1 rfl) ?_
  refine lv_iload hx hb dL_law_1155 (lv_at hl 5 rfl) ?_
  refine lv_iconst (v := 1) hx hb dL_law_1157 (by decide) ?_
  refine lv_iadd hx hb dL_law_1158 ?_
  refine lw_sld (v := xs (6 * t + 1)) C0 hX hbl hb1 hS (nI_add (6 * t) 1) (show 6 * t + 1 < L by omega) hL3 rfl dL_law_1159 ?_
  refine qLM_i (As := [.int (xs (6 * t + 1))]) (rest := []) C0 (c_X12_reap l h) (cwV 1 C0.2.2.2.2 (tbV mK_9_16 ⟨mK_9_17, mK_9_18, mK_1_11, mK_9_19⟩) rfl rfl rfl (by decide +kernel) ⟨Nat.le_of_ble_eq_true rfl, Nat.le_of_ble_eq_true rfl⟩) hR hT hS rfl hl.1 rfl (Nat.le_of_ble_eq_true rfl) dL_law_1160 ⟨by omega, by omega⟩ (fun r4 S5 H locs h hR hS => ?_)
  refine lv_istore (lv' := [(6, .int r4), (5, .int r1), (0, .ref b0), (1, .ref (b + adC 0 0)), (2, .ref (b + 709 + adM 0 0)), (3, .ref (b + 721)), (4, .int (nI (6 * t)))]) hx hb dL_law_1163 hl (by decide) rfl (fun ls hl => ?_)
  refine lv_aload_n hx hb dL_law_1165 rfl (lv_at hl 4 rfl) ?_
  refine qLM_i (As := []) (rest := []) C0 (c_X12_thrown l h) (cwV 0 C0.2.2.2.2 (tbV mK_7_64 ⟨mK_7_65, mK_7_66, mK_1_11, mK_7_67⟩) rfl rfl rfl (by decide +kernel) ⟨Nat.le_of_ble_eq_true rfl, Nat.le_of_ble_eq_true rfl⟩) hR hT hS rfl hl.1 rfl (Nat.le_of_ble_eq_true rfl) dL_law_1166 ⟨by omega, by omega⟩ (fun r6 S7 H locs h hR hS => ?_)
  refine lv_iload hx hb dL_law_1169 (lv_at hl 1 rfl) ?_
  refine lv_icmp_eq (tgt := 1176) hx hb dL_law_1171 (by decide) (fun c8 => ?_) (fun c8 => ?_)
  · have h := h.1 c8
    refine lv_iload hx hb dL_law_1176 (lv_at hl 1 rfl) ?_
    refine lv_if_ne (tgt := 1193) hx hb dL_law_1178 (by decide) (fun c9 => ?_) (fun c9 => ?_)
    · have h := h.1 c9
      refine lv_goto (tgt := 2858) hx hb dL_law_1193 (by decide) ?_
      exact W.widen (k := cells + 6) (n := slots + 36) (by omega) (by omega) (kk S2 S7 o3 H locs _ h hR hS (lv_sub hl [2, 3, 4, 5, 6] rfl))
    · have h := h.2 c9
      refine lv_aload_n hx hb dL_law_1181 rfl (lv_at hl 5 rfl) ?_
      refine lv_iconst (v := 0) hx hb dL_law_1182 (by decide) ?_
      refine lw_out C0 hR dL_law_1183 ?_
      refine lv_iload hx hb dL_law_1184 (lv_at hl 0 rfl) ?_
      refine lv_i2l (v := r4.toInt64) hx hb dL_law_1186 rfl ?_
      refine W.lcmp hx hb dL_law_1187 ?_
      refine lv_if_eq (tgt := 1193) hx hb dL_law_1188 (by decide) (fun c10 => ?_) (fun c10 => ?_)
      · have h := h.1 ((lg_cmp_eq _ _).mp c10)
        refine lv_goto (tgt := 2858) hx hb dL_law_1193 (by decide) ?_
        exact W.widen (k := cells + 6) (n := slots + 36) (by omega) (by omega) (kk S2 S7 o3 H locs _ h hR hS (lv_sub hl [2, 3, 4, 5, 6] rfl))
      · have h := h.2 (fun q9 => c10 ((lg_cmp_eq _ _).mpr q9))
        exact h.elim
  · have h := h.2 c8
    exact h.elim
def CS_17 (a1 a2 a3 a4 a5 : Int32) (Sc Sm : sSt) (o : Int64) (K : sSt → sSt → Int64 → Prop) : Prop := FW_retry a1 a2 Sc o (fun r1 S2 o3 => F_X12_retry a1 a2 Sm (fun r4 S5 => F_X12_thrown S5 (fun r6 S7 => ((r6 = r1 → ((¬ r1 = 0 → K S2 S7 o3) ∧ (r1 = 0 → ((o3 = r4.toInt64 → K S2 S7 o3) ∧ (¬ o3 = r4.toInt64 → False))))) ∧ (¬ r6 = r1 → False)))))
set_option maxHeartbeats 4000000 in
set_option maxRecDepth 100000 in
theorem LW_17 {p : Program} {l : Launch} {e : Env} {s : State} {m : MethodId} {args : Array Value} {below : List Frame} {meth : Method} {c : Code} {Q : State → Prop} {D : va_G} {cy : Nat → ClassId} {b b0 L : Nat} {tx : TX} {xs : Nat → Int32} (hl0 : l.stackTraces = false) (C0 : CallFix p m c cL_law 7 s args TB RL) (hT : TxR tx s) (hN : TxN s) (hX : va_X b0 L xs s s.heap) (hbl : b0 < s.heap.size) (hb1 : b = s.heap.size) (hL3 : L ≤ 3072) (t : Nat) (ht : 6 * t + 6 ≤ L) {Sc Sm : sSt} {o : Int64} {K : sSt → sSt → Int64 → Prop} {H : Heap} {locs : List Loc} {ls : Array Slot} {cells slots : Nat} (hc1 : cells + 6 ≤ room_1.cells) (hc2 : slots + 36 ≤ room_1.slots) (h : CS_17 (xs (6 * t + 1)) (xs (6 * t + 2)) (xs (6 * t + 3)) (xs (6 * t + 4)) (xs (6 * t + 5)) Sc Sm o K) (hR : RelL D cy b tx Sc Sm o s H) (hS : va_S (bA b) s.heap H locs) (hl : lv_has ls 7 [(0, .ref b0), (1, .ref (b + adC 0 0)), (2, .ref (b + 709 + adM 0 0)), (3, .ref (b + 721)), (4, .int (nI (6 * t)))])
    (kk : ∀ (S1 S2 : sSt) (o1 : Int64) (H1 : Heap) (locs1 : List Loc) (ls1 : Array Slot), K S1 S2 o1 → RelL D cy b tx S1 S2 o1 s H1 → va_S (bA b) s.heap H1 locs1 → lv_has ls1 7 [(0, .ref b0), (1, .ref (b + adC 0 0)), (2, .ref (b + 709 + adM 0 0)), (3, .ref (b + 721)), (4, .int (nI (6 * t)))] → W p l e room_1 s m args below meth c H1 locs1 (cells + 6) (slots + 36) Q (F0 m 2858 ls1 [])) : W p l e room_1 s m args below meth c H locs cells slots Q (F0 m 1196 ls []) := by
  have hx := C0.1
  have hb := C0.2.1
  unfold CS_17 at h
  refine lv_aload_n hx hb dL_law_1196 rfl (lv_at hl 1 rfl) ?_
  refine lv_aload_n hx hb dL_law_1197 rfl (lv_at hl 0 rfl) ?_
  refine lv_iload hx hb dL_law_1198 (lv_at hl 4 rfl) ?_
  refine lv_iconst (v := 1) hx hb dL_law_1200 (by decide) ?_
  refine lv_iadd hx hb dL_law_1201 ?_
  refine lw_sld (v := xs (6 * t + 1)) C0 hX hbl hb1 hS (nI_add (6 * t) 1) (show 6 * t + 1 < L by omega) hL3 rfl dL_law_1202 ?_
  refine lv_aload_n hx hb dL_law_1203 rfl (lv_at hl 0 rfl) ?_
  refine lv_iload hx hb dL_law_1204 (lv_at hl 4 rfl) ?_
  refine lv_iconst (v := 2) hx hb dL_law_1206 (by decide) ?_
  refine lv_iadd hx hb dL_law_1207 ?_
  refine lw_sld (v := xs (6 * t + 2)) C0 hX hbl hb1 hS (nI_add (6 * t) 2) (show 6 * t + 2 < L by omega) hL3 rfl dL_law_1208 ?_
  refine lv_aload_n hx hb dL_law_1209 rfl (lv_at hl 3 rfl) ?_
  refine qLW (As := [.ref (b + adC 0 0), .int (xs (6 * t + 1)), .int (xs (6 * t + 2)), .ref (b + 721)]) (rest := []) C0 (cw_retry l hl0 h) (vx_cwSW 4 C0.2.2.2.2 (tbSW mK_5_205 ⟨mK_5_206, mK_1_0, mK_5_207⟩) rfl rfl rfl (by decide +kernel) ⟨Nat.le_of_ble_eq_true rfl, Nat.le_of_ble_eq_true rfl⟩) hR hT hN hS rfl hl.1 rfl (Nat.le_of_ble_eq_true rfl) dL_law_1210 ⟨by omega, by omega⟩ (fun r1 S2 o3 H locs h hR hS => ?_)
  refine lv_istore (lv' := [(5, .int r1), (0, .ref b0), (1, .ref (b + adC 0 0)), (2, .ref (b + 709 + adM 0 0)), (3, .ref (b + 721)), (4, .int (nI (6 * t)))]) hx hb dL_law_1213 hl (by decide) rfl (fun ls hl => ?_)
  refine lv_aload_n hx hb dL_law_1215 rfl (lv_at hl 3 rfl) ?_
  refine lv_aload_n hx hb dL_law_1216 rfl (lv_at hl 1 rfl) ?_
  refine lv_iload hx hb dL_law_1217 (lv_at hl 5 rfl) ?_
  refine lv_iconst (v := 1) hx hb dL_law_1219 (by decide) ?_
  refine lv_iadd hx hb dL_law_1220 ?_
  refine lw_sld (v := xs (6 * t + 1)) C0 hX hbl hb1 hS (nI_add (6 * t) 1) (show 6 * t + 1 < L by omega) hL3 rfl dL_law_1221 ?_
  refine lv_aload_n hx hb dL_law_1222 rfl (lv_at hl 1 rfl) ?_
  refine lv_iload hx hb dL_law_1223 (lv_at hl 5 rfl) ?_
  refine lv_iconst (v := 2) hx hb dL_law_1225 (by decide) ?_
  refine lv_iadd hx hb dL_law_1226 ?_
  refine lw_sld (v := xs (6 * t + 2)) C0 hX hbl hb1 hS (nI_add (6 * t) 2) (show 6 * t + 2 < L by omega) hL3 rfl dL_law_1227 ?_
  refine qLM_i (As := [.int (xs (6 * t + 1)), .int (xs (6 * t + 2))]) (rest := []) C0 (c_X12_retry l h) (cwV 2 C0.2.2.2.2 (tbV mK_9_20 ⟨mK_9_21, mK_9_22, mK_1_11, mK_9_23⟩) rfl rfl rfl (by decide +kernel) ⟨Nat.le_of_ble_eq_true rfl, Nat.le_of_ble_eq_true rfl⟩) hR hT hS rfl hl.1 rfl (Nat.le_of_ble_eq_true rfl) dL_law_1228 ⟨by omega, by omega⟩ (fun r4 S5 H locs h hR hS => ?_)
  refine lv_istore (lv' := [(6, .int r4), (5, .int r1), (0, .ref b0), (1, .ref (b + adC 0 0)), (2, .ref (b + 709 + adM 0 0)), (3, .ref (b + 721)), (4, .int (nI (6 * t)))]) hx hb dL_law_1231 hl (by decide) rfl (fun ls hl => ?_)
  refine lv_aload_n hx hb dL_law_1233 rfl (lv_at hl 4 rfl) ?_
  refine qLM_i (As := []) (rest := []) C0 (c_X12_thrown l h) (cwV 0 C0.2.2.2.2 (tbV mK_7_64 ⟨mK_7_65, mK_7_66, mK_1_11, mK_7_67⟩) rfl rfl rfl (by decide +kernel) ⟨Nat.le_of_ble_eq_true rfl, Nat.le_of_ble_eq_true rfl⟩) hR hT hS rfl hl.1 rfl (Nat.le_of_ble_eq_true rfl) dL_law_1234 ⟨by omega, by omega⟩ (fun r6 S7 H locs h hR hS => ?_)
  refine lv_iload hx hb dL_law_1237 (lv_at hl 1 rfl) ?_
  refine lv_icmp_eq (tgt := 1244) hx hb dL_law_1239 (by decide) (fun c8 => ?_) (fun c8 => ?_)
  · have h := h.1 c8
    refine lv_iload hx hb dL_law_1244 (lv_at hl 1 rfl) ?_
    refine lv_if_ne (tgt := 1261) hx hb dL_law_1246 (by decide) (fun c9 => ?_) (fun c9 => ?_)
    · have h := h.1 c9
      refine lv_goto (tgt := 2858) hx hb dL_law_1261 (by decide) ?_
      exact W.widen (k := cells + 6) (n := slots + 36) (by omega) (by omega) (kk S2 S7 o3 H locs _ h hR hS (lv_sub hl [2, 3, 4, 5, 6] rfl))
    · have h := h.2 c9
      refine lv_aload_n hx hb dL_law_1249 rfl (lv_at hl 5 rfl) ?_
      refine lv_iconst (v := 0) hx hb dL_law_1250 (by decide) ?_
      refine lw_out C0 hR dL_law_1251 ?_
      refine lv_iload hx hb dL_law_1252 (lv_at hl 0 rfl) ?_
      refine lv_i2l (v := r4.toInt64) hx hb dL_law_1254 rfl ?_
      refine W.lcmp hx hb dL_law_1255 ?_
      refine lv_if_eq (tgt := 1261) hx hb dL_law_1256 (by decide) (fun c10 => ?_) (fun c10 => ?_)
      · have h := h.1 ((lg_cmp_eq _ _).mp c10)
        refine lv_goto (tgt := 2858) hx hb dL_law_1261 (by decide) ?_
        exact W.widen (k := cells + 6) (n := slots + 36) (by omega) (by omega) (kk S2 S7 o3 H locs _ h hR hS (lv_sub hl [2, 3, 4, 5, 6] rfl))
      · have h := h.2 (fun q9 => c10 ((lg_cmp_eq _ _).mpr q9))
        exact h.elim
  · have h := h.2 c8
    exact h.elim
def CS_18 (a1 a2 a3 a4 a5 : Int32) (Sc Sm : sSt) (o : Int64) (K : sSt → sSt → Int64 → Prop) : Prop := FW_bring a1 a2 a3 a4 Sc o (fun r1 S2 o3 => F_X12_bring a1 a2 a3 a4 Sm (fun r4 S5 => F_X12_thrown S5 (fun r6 S7 => ((r6 = r1 → ((¬ r1 = 0 → K S2 S7 o3) ∧ (r1 = 0 → ((o3 = r4.toInt64 → K S2 S7 o3) ∧ (¬ o3 = r4.toInt64 → False))))) ∧ (¬ r6 = r1 → False)))))
set_option maxHeartbeats 4000000 in
set_option maxRecDepth 100000 in
theorem LW_18 {p : Program} {l : Launch} {e : Env} {s : State} {m : MethodId} {args : Array Value} {below : List Frame} {meth : Method} {c : Code} {Q : State → Prop} {D : va_G} {cy : Nat → ClassId} {b b0 L : Nat} {tx : TX} {xs : Nat → Int32} (hl0 : l.stackTraces = false) (C0 : CallFix p m c cL_law 7 s args TB RL) (hT : TxR tx s) (hN : TxN s) (hX : va_X b0 L xs s s.heap) (hbl : b0 < s.heap.size) (hb1 : b = s.heap.size) (hL3 : L ≤ 3072) (t : Nat) (ht : 6 * t + 6 ≤ L) {Sc Sm : sSt} {o : Int64} {K : sSt → sSt → Int64 → Prop} {H : Heap} {locs : List Loc} {ls : Array Slot} {cells slots : Nat} (hc1 : cells + 6 ≤ room_1.cells) (hc2 : slots + 36 ≤ room_1.slots) (h : CS_18 (xs (6 * t + 1)) (xs (6 * t + 2)) (xs (6 * t + 3)) (xs (6 * t + 4)) (xs (6 * t + 5)) Sc Sm o K) (hR : RelL D cy b tx Sc Sm o s H) (hS : va_S (bA b) s.heap H locs) (hl : lv_has ls 7 [(0, .ref b0), (1, .ref (b + adC 0 0)), (2, .ref (b + 709 + adM 0 0)), (3, .ref (b + 721)), (4, .int (nI (6 * t)))])
    (kk : ∀ (S1 S2 : sSt) (o1 : Int64) (H1 : Heap) (locs1 : List Loc) (ls1 : Array Slot), K S1 S2 o1 → RelL D cy b tx S1 S2 o1 s H1 → va_S (bA b) s.heap H1 locs1 → lv_has ls1 7 [(0, .ref b0), (1, .ref (b + adC 0 0)), (2, .ref (b + 709 + adM 0 0)), (3, .ref (b + 721)), (4, .int (nI (6 * t)))] → W p l e room_1 s m args below meth c H1 locs1 (cells + 6) (slots + 36) Q (F0 m 2858 ls1 [])) : W p l e room_1 s m args below meth c H locs cells slots Q (F0 m 1264 ls []) := by
  have hx := C0.1
  have hb := C0.2.1
  unfold CS_18 at h
  refine lv_aload_n hx hb dL_law_1264 rfl (lv_at hl 1 rfl) ?_
  refine lv_aload_n hx hb dL_law_1265 rfl (lv_at hl 0 rfl) ?_
  refine lv_iload hx hb dL_law_1266 (lv_at hl 4 rfl) ?_
  refine lv_iconst (v := 1) hx hb dL_law_1268 (by decide) ?_
  refine lv_iadd hx hb dL_law_1269 ?_
  refine lw_sld (v := xs (6 * t + 1)) C0 hX hbl hb1 hS (nI_add (6 * t) 1) (show 6 * t + 1 < L by omega) hL3 rfl dL_law_1270 ?_
  refine lv_aload_n hx hb dL_law_1271 rfl (lv_at hl 0 rfl) ?_
  refine lv_iload hx hb dL_law_1272 (lv_at hl 4 rfl) ?_
  refine lv_iconst (v := 2) hx hb dL_law_1274 (by decide) ?_
  refine lv_iadd hx hb dL_law_1275 ?_
  refine lw_sld (v := xs (6 * t + 2)) C0 hX hbl hb1 hS (nI_add (6 * t) 2) (show 6 * t + 2 < L by omega) hL3 rfl dL_law_1276 ?_
  refine lv_aload_n hx hb dL_law_1277 rfl (lv_at hl 0 rfl) ?_
  refine lv_iload hx hb dL_law_1278 (lv_at hl 4 rfl) ?_
  refine lv_iconst (v := 3) hx hb dL_law_1280 (by decide) ?_
  refine lv_iadd hx hb dL_law_1281 ?_
  refine lw_sld (v := xs (6 * t + 3)) C0 hX hbl hb1 hS (nI_add (6 * t) 3) (show 6 * t + 3 < L by omega) hL3 rfl dL_law_1282 ?_
  refine lv_aload_n hx hb dL_law_1283 rfl (lv_at hl 0 rfl) ?_
  refine lv_iload hx hb dL_law_1284 (lv_at hl 4 rfl) ?_
  refine lv_iconst (v := 4) hx hb dL_law_1286 (by decide) ?_
  refine lv_iadd hx hb dL_law_1287 ?_
  refine lw_sld (v := xs (6 * t + 4)) C0 hX hbl hb1 hS (nI_add (6 * t) 4) (show 6 * t + 4 < L by omega) hL3 rfl dL_law_1288 ?_
  refine lv_aload_n hx hb dL_law_1289 rfl (lv_at hl 3 rfl) ?_
  refine qLW (As := [.ref (b + adC 0 0), .int (xs (6 * t + 1)), .int (xs (6 * t + 2)), .int (xs (6 * t + 3)), .int (xs (6 * t + 4)), .ref (b + 721)]) (rest := []) C0 (cw_bring l hl0 h) (vx_cwSW 6 C0.2.2.2.2 (tbSW mK_5_215 ⟨mK_5_216, mK_1_0, mK_5_217⟩) rfl rfl rfl (by decide +kernel) ⟨Nat.le_of_ble_eq_true rfl, Nat.le_of_ble_eq_true rfl⟩) hR hT hN hS rfl hl.1 rfl (Nat.le_of_ble_eq_true rfl) dL_law_1290 ⟨by omega, by omega⟩ (fun r1 S2 o3 H locs h hR hS => ?_)
  refine lv_istore (lv' := [(5, .int r1), (0, .ref b0), (1, .ref (b + adC 0 0)), (2, .ref (b + 709 + adM 0 0)), (3, .ref (b + 721)), (4, .int (nI (6 * t)))]) hx hb dL_law_1293 hl (by decide) rfl (fun ls hl => ?_)
  refine lv_aload_n hx hb dL_law_1295 rfl (lv_at hl 3 rfl) ?_
  refine lv_aload_n hx hb dL_law_1296 rfl (lv_at hl 1 rfl) ?_
  refine lv_iload hx hb dL_law_1297 (lv_at hl 5 rfl) ?_
  refine lv_iconst (v := 1) hx hb dL_law_1299 (by decide) ?_
  refine lv_iadd hx hb dL_law_1300 ?_
  refine lw_sld (v := xs (6 * t + 1)) C0 hX hbl hb1 hS (nI_add (6 * t) 1) (show 6 * t + 1 < L by omega) hL3 rfl dL_law_1301 ?_
  refine lv_aload_n hx hb dL_law_1302 rfl (lv_at hl 1 rfl) ?_
  refine lv_iload hx hb dL_law_1303 (lv_at hl 5 rfl) ?_
  refine lv_iconst (v := 2) hx hb dL_law_1305 (by decide) ?_
  refine lv_iadd hx hb dL_law_1306 ?_
  refine lw_sld (v := xs (6 * t + 2)) C0 hX hbl hb1 hS (nI_add (6 * t) 2) (show 6 * t + 2 < L by omega) hL3 rfl dL_law_1307 ?_
  refine lv_aload_n hx hb dL_law_1308 rfl (lv_at hl 1 rfl) ?_
  refine lv_iload hx hb dL_law_1309 (lv_at hl 5 rfl) ?_
  refine lv_iconst (v := 3) hx hb dL_law_1311 (by decide) ?_
  refine lv_iadd hx hb dL_law_1312 ?_
  refine lw_sld (v := xs (6 * t + 3)) C0 hX hbl hb1 hS (nI_add (6 * t) 3) (show 6 * t + 3 < L by omega) hL3 rfl dL_law_1313 ?_
  refine lv_aload_n hx hb dL_law_1314 rfl (lv_at hl 1 rfl) ?_
  refine lv_iload hx hb dL_law_1315 (lv_at hl 5 rfl) ?_
  refine lv_iconst (v := 4) hx hb dL_law_1317 (by decide) ?_
  refine lv_iadd hx hb dL_law_1318 ?_
  refine lw_sld (v := xs (6 * t + 4)) C0 hX hbl hb1 hS (nI_add (6 * t) 4) (show 6 * t + 4 < L by omega) hL3 rfl dL_law_1319 ?_
  refine qLM_i (As := [.int (xs (6 * t + 1)), .int (xs (6 * t + 2)), .int (xs (6 * t + 3)), .int (xs (6 * t + 4))]) (rest := []) C0 (c_X12_bring l h) (cwV 4 C0.2.2.2.2 (tbV mK_9_24 ⟨mK_9_25, mK_9_26, mK_1_11, mK_9_27⟩) rfl rfl rfl (by decide +kernel) ⟨Nat.le_of_ble_eq_true rfl, Nat.le_of_ble_eq_true rfl⟩) hR hT hS rfl hl.1 rfl (Nat.le_of_ble_eq_true rfl) dL_law_1320 ⟨by omega, by omega⟩ (fun r4 S5 H locs h hR hS => ?_)
  refine lv_istore (lv' := [(6, .int r4), (5, .int r1), (0, .ref b0), (1, .ref (b + adC 0 0)), (2, .ref (b + 709 + adM 0 0)), (3, .ref (b + 721)), (4, .int (nI (6 * t)))]) hx hb dL_law_1323 hl (by decide) rfl (fun ls hl => ?_)
  refine lv_aload_n hx hb dL_law_1325 rfl (lv_at hl 4 rfl) ?_
  refine qLM_i (As := []) (rest := []) C0 (c_X12_thrown l h) (cwV 0 C0.2.2.2.2 (tbV mK_7_64 ⟨mK_7_65, mK_7_66, mK_1_11, mK_7_67⟩) rfl rfl rfl (by decide +kernel) ⟨Nat.le_of_ble_eq_true rfl, Nat.le_of_ble_eq_true rfl⟩) hR hT hS rfl hl.1 rfl (Nat.le_of_ble_eq_true rfl) dL_law_1326 ⟨by omega, by omega⟩ (fun r6 S7 H locs h hR hS => ?_)
  refine lv_iload hx hb dL_law_1329 (lv_at hl 1 rfl) ?_
  refine lv_icmp_eq (tgt := 1336) hx hb dL_law_1331 (by decide) (fun c8 => ?_) (fun c8 => ?_)
  · have h := h.1 c8
    refine lv_iload hx hb dL_law_1336 (lv_at hl 1 rfl) ?_
    refine lv_if_ne (tgt := 1353) hx hb dL_law_1338 (by decide) (fun c9 => ?_) (fun c9 => ?_)
    · have h := h.1 c9
      refine lv_goto (tgt := 2858) hx hb dL_law_1353 (by decide) ?_
      exact W.widen (k := cells + 6) (n := slots + 36) (by omega) (by omega) (kk S2 S7 o3 H locs _ h hR hS (lv_sub hl [2, 3, 4, 5, 6] rfl))
    · have h := h.2 c9
      refine lv_aload_n hx hb dL_law_1341 rfl (lv_at hl 5 rfl) ?_
      refine lv_iconst (v := 0) hx hb dL_law_1342 (by decide) ?_
      refine lw_out C0 hR dL_law_1343 ?_
      refine lv_iload hx hb dL_law_1344 (lv_at hl 0 rfl) ?_
      refine lv_i2l (v := r4.toInt64) hx hb dL_law_1346 rfl ?_
      refine W.lcmp hx hb dL_law_1347 ?_
      refine lv_if_eq (tgt := 1353) hx hb dL_law_1348 (by decide) (fun c10 => ?_) (fun c10 => ?_)
      · have h := h.1 ((lg_cmp_eq _ _).mp c10)
        refine lv_goto (tgt := 2858) hx hb dL_law_1353 (by decide) ?_
        exact W.widen (k := cells + 6) (n := slots + 36) (by omega) (by omega) (kk S2 S7 o3 H locs _ h hR hS (lv_sub hl [2, 3, 4, 5, 6] rfl))
      · have h := h.2 (fun q9 => c10 ((lg_cmp_eq _ _).mpr q9))
        exact h.elim
  · have h := h.2 c8
    exact h.elim
def CS_19 (a1 a2 a3 a4 a5 : Int32) (Sc Sm : sSt) (o : Int64) (K : sSt → sSt → Int64 → Prop) : Prop := F_X11_sweep Sc (fun r1 S2 => F_X12_sweep Sm (fun r3 S4 => ((r1 = r3 → K S2 S4 o) ∧ (¬ r1 = r3 → False))))
set_option maxHeartbeats 4000000 in
set_option maxRecDepth 100000 in
theorem LW_19 {p : Program} {l : Launch} {e : Env} {s : State} {m : MethodId} {args : Array Value} {below : List Frame} {meth : Method} {c : Code} {Q : State → Prop} {D : va_G} {cy : Nat → ClassId} {b b0 L : Nat} {tx : TX} {xs : Nat → Int32} (hl0 : l.stackTraces = false) (C0 : CallFix p m c cL_law 7 s args TB RL) (hT : TxR tx s) (hN : TxN s) (hX : va_X b0 L xs s s.heap) (hbl : b0 < s.heap.size) (hb1 : b = s.heap.size) (hL3 : L ≤ 3072) (t : Nat) (ht : 6 * t + 6 ≤ L) {Sc Sm : sSt} {o : Int64} {K : sSt → sSt → Int64 → Prop} {H : Heap} {locs : List Loc} {ls : Array Slot} {cells slots : Nat} (hc1 : cells + 6 ≤ room_1.cells) (hc2 : slots + 36 ≤ room_1.slots) (h : CS_19 (xs (6 * t + 1)) (xs (6 * t + 2)) (xs (6 * t + 3)) (xs (6 * t + 4)) (xs (6 * t + 5)) Sc Sm o K) (hR : RelL D cy b tx Sc Sm o s H) (hS : va_S (bA b) s.heap H locs) (hl : lv_has ls 7 [(0, .ref b0), (1, .ref (b + adC 0 0)), (2, .ref (b + 709 + adM 0 0)), (3, .ref (b + 721)), (4, .int (nI (6 * t)))])
    (kk : ∀ (S1 S2 : sSt) (o1 : Int64) (H1 : Heap) (locs1 : List Loc) (ls1 : Array Slot), K S1 S2 o1 → RelL D cy b tx S1 S2 o1 s H1 → va_S (bA b) s.heap H1 locs1 → lv_has ls1 7 [(0, .ref b0), (1, .ref (b + adC 0 0)), (2, .ref (b + 709 + adM 0 0)), (3, .ref (b + 721)), (4, .int (nI (6 * t)))] → W p l e room_1 s m args below meth c H1 locs1 (cells + 6) (slots + 36) Q (F0 m 2858 ls1 [])) : W p l e room_1 s m args below meth c H locs cells slots Q (F0 m 1356 ls []) := by
  have hx := C0.1
  have hb := C0.2.1
  unfold CS_19 at h
  refine lv_aload_n hx hb dL_law_1356 rfl (lv_at hl 1 rfl) ?_
  refine qLC_i (As := []) (rest := []) C0 (c_X11_sweep l h) (cwV 0 C0.2.2.2.2 (tbV mK_3_18 ⟨mK_3_19, mK_3_20, mK_1_1, mK_3_21⟩) rfl rfl rfl (by decide +kernel) ⟨Nat.le_of_ble_eq_true rfl, Nat.le_of_ble_eq_true rfl⟩) hR hT hS rfl hl.1 rfl (Nat.le_of_ble_eq_true rfl) dL_law_1357 ⟨by omega, by omega⟩ (fun r1 S2 H locs h hR hS => ?_)
  refine lv_aload_n hx hb dL_law_1360 rfl (lv_at hl 2 rfl) ?_
  refine qLM_i (As := []) (rest := [.int r1]) C0 (c_X12_sweep l h) (cwV 0 C0.2.2.2.2 (tbV mK_9_28 ⟨mK_9_29, mK_9_30, mK_1_11, mK_9_31⟩) rfl rfl rfl (by decide +kernel) ⟨Nat.le_of_ble_eq_true rfl, Nat.le_of_ble_eq_true rfl⟩) hR hT hS rfl hl.1 rfl (Nat.le_of_ble_eq_true rfl) dL_law_1361 ⟨by omega, by omega⟩ (fun r3 S4 H locs h hR hS => ?_)
  refine lv_icmp_eq (tgt := 2858) hx hb dL_law_1364 (by decide) (fun c5 => ?_) (fun c5 => ?_)
  · have h := h.1 c5
    exact W.widen (k := cells + 6) (n := slots + 36) (by omega) (by omega) (kk S2 S4 o H locs _ h hR hS (lv_sub hl [0, 1, 2, 3, 4] rfl))
  · have h := h.2 c5
    exact h.elim
def CS_20 (a1 a2 a3 a4 a5 : Int32) (Sc Sm : sSt) (o : Int64) (K : sSt → sSt → Int64 → Prop) : Prop := FW_ticks a1 Sc o (fun r1 S2 o3 => F_X12_ticks a1 Sm (fun r4 S5 => F_X12_thrown S5 (fun r6 S7 => ((r6 = r1 → ((¬ r1 = 0 → K S2 S7 o3) ∧ (r1 = 0 → ((o3 = r4.toInt64 → K S2 S7 o3) ∧ (¬ o3 = r4.toInt64 → False))))) ∧ (¬ r6 = r1 → False)))))
set_option maxHeartbeats 4000000 in
set_option maxRecDepth 100000 in
theorem LW_20 {p : Program} {l : Launch} {e : Env} {s : State} {m : MethodId} {args : Array Value} {below : List Frame} {meth : Method} {c : Code} {Q : State → Prop} {D : va_G} {cy : Nat → ClassId} {b b0 L : Nat} {tx : TX} {xs : Nat → Int32} (hl0 : l.stackTraces = false) (C0 : CallFix p m c cL_law 7 s args TB RL) (hT : TxR tx s) (hN : TxN s) (hX : va_X b0 L xs s s.heap) (hbl : b0 < s.heap.size) (hb1 : b = s.heap.size) (hL3 : L ≤ 3072) (t : Nat) (ht : 6 * t + 6 ≤ L) {Sc Sm : sSt} {o : Int64} {K : sSt → sSt → Int64 → Prop} {H : Heap} {locs : List Loc} {ls : Array Slot} {cells slots : Nat} (hc1 : cells + 6 ≤ room_1.cells) (hc2 : slots + 36 ≤ room_1.slots) (h : CS_20 (xs (6 * t + 1)) (xs (6 * t + 2)) (xs (6 * t + 3)) (xs (6 * t + 4)) (xs (6 * t + 5)) Sc Sm o K) (hR : RelL D cy b tx Sc Sm o s H) (hS : va_S (bA b) s.heap H locs) (hl : lv_has ls 7 [(0, .ref b0), (1, .ref (b + adC 0 0)), (2, .ref (b + 709 + adM 0 0)), (3, .ref (b + 721)), (4, .int (nI (6 * t)))])
    (kk : ∀ (S1 S2 : sSt) (o1 : Int64) (H1 : Heap) (locs1 : List Loc) (ls1 : Array Slot), K S1 S2 o1 → RelL D cy b tx S1 S2 o1 s H1 → va_S (bA b) s.heap H1 locs1 → lv_has ls1 7 [(0, .ref b0), (1, .ref (b + adC 0 0)), (2, .ref (b + 709 + adM 0 0)), (3, .ref (b + 721)), (4, .int (nI (6 * t)))] → W p l e room_1 s m args below meth c H1 locs1 (cells + 6) (slots + 36) Q (F0 m 2858 ls1 [])) : W p l e room_1 s m args below meth c H locs cells slots Q (F0 m 1369 ls []) := by
  have hx := C0.1
  have hb := C0.2.1
  unfold CS_20 at h
  refine lv_aload_n hx hb dL_law_1369 rfl (lv_at hl 1 rfl) ?_
  refine lv_aload_n hx hb dL_law_1370 rfl (lv_at hl 0 rfl) ?_
  refine lv_iload hx hb dL_law_1371 (lv_at hl 4 rfl) ?_
  refine lv_iconst (v := 1) hx hb dL_law_1373 (by decide) ?_
  refine lv_iadd hx hb dL_law_1374 ?_
  refine lw_sld (v := xs (6 * t + 1)) C0 hX hbl hb1 hS (nI_add (6 * t) 1) (show 6 * t + 1 < L by omega) hL3 rfl dL_law_1375 ?_
  refine lv_aload_n hx hb dL_law_1376 rfl (lv_at hl 3 rfl) ?_
  refine qLW (As := [.ref (b + adC 0 0), .int (xs (6 * t + 1)), .ref (b + 721)]) (rest := []) C0 (cw_ticks l hl0 h) (vx_cwSW 3 C0.2.2.2.2 (tbSW mK_5_232 ⟨mK_5_233, mK_1_0, mK_5_234⟩) rfl rfl rfl (by decide +kernel) ⟨Nat.le_of_ble_eq_true rfl, Nat.le_of_ble_eq_true rfl⟩) hR hT hN hS rfl hl.1 rfl (Nat.le_of_ble_eq_true rfl) dL_law_1377 ⟨by omega, by omega⟩ (fun r1 S2 o3 H locs h hR hS => ?_)
  refine lv_istore (lv' := [(5, .int r1), (0, .ref b0), (1, .ref (b + adC 0 0)), (2, .ref (b + 709 + adM 0 0)), (3, .ref (b + 721)), (4, .int (nI (6 * t)))]) hx hb dL_law_1380 hl (by decide) rfl (fun ls hl => ?_)
  refine lv_aload_n hx hb dL_law_1382 rfl (lv_at hl 3 rfl) ?_
  refine lv_aload_n hx hb dL_law_1383 rfl (lv_at hl 1 rfl) ?_
  refine lv_iload hx hb dL_law_1384 (lv_at hl 5 rfl) ?_
  refine lv_iconst (v := 1) hx hb dL_law_1386 (by decide) ?_
  refine lv_iadd hx hb dL_law_1387 ?_
  refine lw_sld (v := xs (6 * t + 1)) C0 hX hbl hb1 hS (nI_add (6 * t) 1) (show 6 * t + 1 < L by omega) hL3 rfl dL_law_1388 ?_
  refine qLM_i (As := [.int (xs (6 * t + 1))]) (rest := []) C0 (c_X12_ticks l h) (cwV 1 C0.2.2.2.2 (tbV mK_9_32 ⟨mK_9_33, mK_9_34, mK_1_11, mK_9_35⟩) rfl rfl rfl (by decide +kernel) ⟨Nat.le_of_ble_eq_true rfl, Nat.le_of_ble_eq_true rfl⟩) hR hT hS rfl hl.1 rfl (Nat.le_of_ble_eq_true rfl) dL_law_1389 ⟨by omega, by omega⟩ (fun r4 S5 H locs h hR hS => ?_)
  refine lv_istore (lv' := [(6, .int r4), (5, .int r1), (0, .ref b0), (1, .ref (b + adC 0 0)), (2, .ref (b + 709 + adM 0 0)), (3, .ref (b + 721)), (4, .int (nI (6 * t)))]) hx hb dL_law_1392 hl (by decide) rfl (fun ls hl => ?_)
  refine lv_aload_n hx hb dL_law_1394 rfl (lv_at hl 4 rfl) ?_
  refine qLM_i (As := []) (rest := []) C0 (c_X12_thrown l h) (cwV 0 C0.2.2.2.2 (tbV mK_7_64 ⟨mK_7_65, mK_7_66, mK_1_11, mK_7_67⟩) rfl rfl rfl (by decide +kernel) ⟨Nat.le_of_ble_eq_true rfl, Nat.le_of_ble_eq_true rfl⟩) hR hT hS rfl hl.1 rfl (Nat.le_of_ble_eq_true rfl) dL_law_1395 ⟨by omega, by omega⟩ (fun r6 S7 H locs h hR hS => ?_)
  refine lv_iload hx hb dL_law_1398 (lv_at hl 1 rfl) ?_
  refine lv_icmp_eq (tgt := 1405) hx hb dL_law_1400 (by decide) (fun c8 => ?_) (fun c8 => ?_)
  · have h := h.1 c8
    refine lv_iload hx hb dL_law_1405 (lv_at hl 1 rfl) ?_
    refine lv_if_ne (tgt := 1422) hx hb dL_law_1407 (by decide) (fun c9 => ?_) (fun c9 => ?_)
    · have h := h.1 c9
      refine lv_goto (tgt := 2858) hx hb dL_law_1422 (by decide) ?_
      exact W.widen (k := cells + 6) (n := slots + 36) (by omega) (by omega) (kk S2 S7 o3 H locs _ h hR hS (lv_sub hl [2, 3, 4, 5, 6] rfl))
    · have h := h.2 c9
      refine lv_aload_n hx hb dL_law_1410 rfl (lv_at hl 5 rfl) ?_
      refine lv_iconst (v := 0) hx hb dL_law_1411 (by decide) ?_
      refine lw_out C0 hR dL_law_1412 ?_
      refine lv_iload hx hb dL_law_1413 (lv_at hl 0 rfl) ?_
      refine lv_i2l (v := r4.toInt64) hx hb dL_law_1415 rfl ?_
      refine W.lcmp hx hb dL_law_1416 ?_
      refine lv_if_eq (tgt := 1422) hx hb dL_law_1417 (by decide) (fun c10 => ?_) (fun c10 => ?_)
      · have h := h.1 ((lg_cmp_eq _ _).mp c10)
        refine lv_goto (tgt := 2858) hx hb dL_law_1422 (by decide) ?_
        exact W.widen (k := cells + 6) (n := slots + 36) (by omega) (by omega) (kk S2 S7 o3 H locs _ h hR hS (lv_sub hl [2, 3, 4, 5, 6] rfl))
      · have h := h.2 (fun q9 => c10 ((lg_cmp_eq _ _).mpr q9))
        exact h.elim
  · have h := h.2 c8
    exact h.elim
def CS_21 (a1 a2 a3 a4 a5 : Int32) (Sc Sm : sSt) (o : Int64) (K : sSt → sSt → Int64 → Prop) : Prop := FW_jump a1 Sc o (fun r1 S2 o3 => F_X12_jump a1 Sm (fun r4 S5 => F_X12_thrown S5 (fun r6 S7 => ((r6 = r1 → ((¬ r1 = 0 → K S2 S7 o3) ∧ (r1 = 0 → ((o3 = r4.toInt64 → K S2 S7 o3) ∧ (¬ o3 = r4.toInt64 → False))))) ∧ (¬ r6 = r1 → False)))))
set_option maxHeartbeats 4000000 in
set_option maxRecDepth 100000 in
theorem LW_21 {p : Program} {l : Launch} {e : Env} {s : State} {m : MethodId} {args : Array Value} {below : List Frame} {meth : Method} {c : Code} {Q : State → Prop} {D : va_G} {cy : Nat → ClassId} {b b0 L : Nat} {tx : TX} {xs : Nat → Int32} (hl0 : l.stackTraces = false) (C0 : CallFix p m c cL_law 7 s args TB RL) (hT : TxR tx s) (hN : TxN s) (hX : va_X b0 L xs s s.heap) (hbl : b0 < s.heap.size) (hb1 : b = s.heap.size) (hL3 : L ≤ 3072) (t : Nat) (ht : 6 * t + 6 ≤ L) {Sc Sm : sSt} {o : Int64} {K : sSt → sSt → Int64 → Prop} {H : Heap} {locs : List Loc} {ls : Array Slot} {cells slots : Nat} (hc1 : cells + 6 ≤ room_1.cells) (hc2 : slots + 36 ≤ room_1.slots) (h : CS_21 (xs (6 * t + 1)) (xs (6 * t + 2)) (xs (6 * t + 3)) (xs (6 * t + 4)) (xs (6 * t + 5)) Sc Sm o K) (hR : RelL D cy b tx Sc Sm o s H) (hS : va_S (bA b) s.heap H locs) (hl : lv_has ls 7 [(0, .ref b0), (1, .ref (b + adC 0 0)), (2, .ref (b + 709 + adM 0 0)), (3, .ref (b + 721)), (4, .int (nI (6 * t)))])
    (kk : ∀ (S1 S2 : sSt) (o1 : Int64) (H1 : Heap) (locs1 : List Loc) (ls1 : Array Slot), K S1 S2 o1 → RelL D cy b tx S1 S2 o1 s H1 → va_S (bA b) s.heap H1 locs1 → lv_has ls1 7 [(0, .ref b0), (1, .ref (b + adC 0 0)), (2, .ref (b + 709 + adM 0 0)), (3, .ref (b + 721)), (4, .int (nI (6 * t)))] → W p l e room_1 s m args below meth c H1 locs1 (cells + 6) (slots + 36) Q (F0 m 2858 ls1 [])) : W p l e room_1 s m args below meth c H locs cells slots Q (F0 m 1425 ls []) := by
  have hx := C0.1
  have hb := C0.2.1
  unfold CS_21 at h
  refine lv_aload_n hx hb dL_law_1425 rfl (lv_at hl 1 rfl) ?_
  refine lv_aload_n hx hb dL_law_1426 rfl (lv_at hl 0 rfl) ?_
  refine lv_iload hx hb dL_law_1427 (lv_at hl 4 rfl) ?_
  refine lv_iconst (v := 1) hx hb dL_law_1429 (by decide) ?_
  refine lv_iadd hx hb dL_law_1430 ?_
  refine lw_sld (v := xs (6 * t + 1)) C0 hX hbl hb1 hS (nI_add (6 * t) 1) (show 6 * t + 1 < L by omega) hL3 rfl dL_law_1431 ?_
  refine lv_aload_n hx hb dL_law_1432 rfl (lv_at hl 3 rfl) ?_
  refine qLW (As := [.ref (b + adC 0 0), .int (xs (6 * t + 1)), .ref (b + 721)]) (rest := []) C0 (cw_jump l hl0 h) (vx_cwSW 3 C0.2.2.2.2 (tbSW mK_6_22 ⟨mK_6_23, mK_1_0, mK_6_24⟩) rfl rfl rfl (by decide +kernel) ⟨Nat.le_of_ble_eq_true rfl, Nat.le_of_ble_eq_true rfl⟩) hR hT hN hS rfl hl.1 rfl (Nat.le_of_ble_eq_true rfl) dL_law_1433 ⟨by omega, by omega⟩ (fun r1 S2 o3 H locs h hR hS => ?_)
  refine lv_istore (lv' := [(5, .int r1), (0, .ref b0), (1, .ref (b + adC 0 0)), (2, .ref (b + 709 + adM 0 0)), (3, .ref (b + 721)), (4, .int (nI (6 * t)))]) hx hb dL_law_1436 hl (by decide) rfl (fun ls hl => ?_)
  refine lv_aload_n hx hb dL_law_1438 rfl (lv_at hl 3 rfl) ?_
  refine lv_aload_n hx hb dL_law_1439 rfl (lv_at hl 1 rfl) ?_
  refine lv_iload hx hb dL_law_1440 (lv_at hl 5 rfl) ?_
  refine lv_iconst (v := 1) hx hb dL_law_1442 (by decide) ?_
  refine lv_iadd hx hb dL_law_1443 ?_
  refine lw_sld (v := xs (6 * t + 1)) C0 hX hbl hb1 hS (nI_add (6 * t) 1) (show 6 * t + 1 < L by omega) hL3 rfl dL_law_1444 ?_
  refine qLM_i (As := [.int (xs (6 * t + 1))]) (rest := []) C0 (c_X12_jump l h) (cwV 1 C0.2.2.2.2 (tbV mK_9_57 ⟨mK_9_58, mK_9_59, mK_1_11, mK_9_60⟩) rfl rfl rfl (by decide +kernel) ⟨Nat.le_of_ble_eq_true rfl, Nat.le_of_ble_eq_true rfl⟩) hR hT hS rfl hl.1 rfl (Nat.le_of_ble_eq_true rfl) dL_law_1445 ⟨by omega, by omega⟩ (fun r4 S5 H locs h hR hS => ?_)
  refine lv_istore (lv' := [(6, .int r4), (5, .int r1), (0, .ref b0), (1, .ref (b + adC 0 0)), (2, .ref (b + 709 + adM 0 0)), (3, .ref (b + 721)), (4, .int (nI (6 * t)))]) hx hb dL_law_1448 hl (by decide) rfl (fun ls hl => ?_)
  refine lv_aload_n hx hb dL_law_1450 rfl (lv_at hl 4 rfl) ?_
  refine qLM_i (As := []) (rest := []) C0 (c_X12_thrown l h) (cwV 0 C0.2.2.2.2 (tbV mK_7_64 ⟨mK_7_65, mK_7_66, mK_1_11, mK_7_67⟩) rfl rfl rfl (by decide +kernel) ⟨Nat.le_of_ble_eq_true rfl, Nat.le_of_ble_eq_true rfl⟩) hR hT hS rfl hl.1 rfl (Nat.le_of_ble_eq_true rfl) dL_law_1451 ⟨by omega, by omega⟩ (fun r6 S7 H locs h hR hS => ?_)
  refine lv_iload hx hb dL_law_1454 (lv_at hl 1 rfl) ?_
  refine lv_icmp_eq (tgt := 1461) hx hb dL_law_1456 (by decide) (fun c8 => ?_) (fun c8 => ?_)
  · have h := h.1 c8
    refine lv_iload hx hb dL_law_1461 (lv_at hl 1 rfl) ?_
    refine lv_if_ne (tgt := 1478) hx hb dL_law_1463 (by decide) (fun c9 => ?_) (fun c9 => ?_)
    · have h := h.1 c9
      refine lv_goto (tgt := 2858) hx hb dL_law_1478 (by decide) ?_
      exact W.widen (k := cells + 6) (n := slots + 36) (by omega) (by omega) (kk S2 S7 o3 H locs _ h hR hS (lv_sub hl [2, 3, 4, 5, 6] rfl))
    · have h := h.2 c9
      refine lv_aload_n hx hb dL_law_1466 rfl (lv_at hl 5 rfl) ?_
      refine lv_iconst (v := 0) hx hb dL_law_1467 (by decide) ?_
      refine lw_out C0 hR dL_law_1468 ?_
      refine lv_iload hx hb dL_law_1469 (lv_at hl 0 rfl) ?_
      refine lv_i2l (v := r4.toInt64) hx hb dL_law_1471 rfl ?_
      refine W.lcmp hx hb dL_law_1472 ?_
      refine lv_if_eq (tgt := 1478) hx hb dL_law_1473 (by decide) (fun c10 => ?_) (fun c10 => ?_)
      · have h := h.1 ((lg_cmp_eq _ _).mp c10)
        refine lv_goto (tgt := 2858) hx hb dL_law_1478 (by decide) ?_
        exact W.widen (k := cells + 6) (n := slots + 36) (by omega) (by omega) (kk S2 S7 o3 H locs _ h hR hS (lv_sub hl [2, 3, 4, 5, 6] rfl))
      · have h := h.2 (fun q9 => c10 ((lg_cmp_eq _ _).mpr q9))
        exact h.elim
  · have h := h.2 c8
    exact h.elim
def CS_22 (a1 a2 a3 a4 a5 : Int32) (Sc Sm : sSt) (o : Int64) (K : sSt → sSt → Int64 → Prop) : Prop := FW_job a1 a2 a3 Sc o (fun r1 S2 o3 => F_X12_job a1 a2 a3 Sm (fun r4 S5 => F_X12_thrown S5 (fun r6 S7 => ((r6 = r1 → ((¬ r1 = 0 → K S2 S7 o3) ∧ (r1 = 0 → ((o3 = r4.toInt64 → K S2 S7 o3) ∧ (¬ o3 = r4.toInt64 → False))))) ∧ (¬ r6 = r1 → False)))))
set_option maxHeartbeats 4000000 in
set_option maxRecDepth 100000 in
theorem LW_22 {p : Program} {l : Launch} {e : Env} {s : State} {m : MethodId} {args : Array Value} {below : List Frame} {meth : Method} {c : Code} {Q : State → Prop} {D : va_G} {cy : Nat → ClassId} {b b0 L : Nat} {tx : TX} {xs : Nat → Int32} (hl0 : l.stackTraces = false) (C0 : CallFix p m c cL_law 7 s args TB RL) (hT : TxR tx s) (hN : TxN s) (hX : va_X b0 L xs s s.heap) (hbl : b0 < s.heap.size) (hb1 : b = s.heap.size) (hL3 : L ≤ 3072) (t : Nat) (ht : 6 * t + 6 ≤ L) {Sc Sm : sSt} {o : Int64} {K : sSt → sSt → Int64 → Prop} {H : Heap} {locs : List Loc} {ls : Array Slot} {cells slots : Nat} (hc1 : cells + 6 ≤ room_1.cells) (hc2 : slots + 36 ≤ room_1.slots) (h : CS_22 (xs (6 * t + 1)) (xs (6 * t + 2)) (xs (6 * t + 3)) (xs (6 * t + 4)) (xs (6 * t + 5)) Sc Sm o K) (hR : RelL D cy b tx Sc Sm o s H) (hS : va_S (bA b) s.heap H locs) (hl : lv_has ls 7 [(0, .ref b0), (1, .ref (b + adC 0 0)), (2, .ref (b + 709 + adM 0 0)), (3, .ref (b + 721)), (4, .int (nI (6 * t)))])
    (kk : ∀ (S1 S2 : sSt) (o1 : Int64) (H1 : Heap) (locs1 : List Loc) (ls1 : Array Slot), K S1 S2 o1 → RelL D cy b tx S1 S2 o1 s H1 → va_S (bA b) s.heap H1 locs1 → lv_has ls1 7 [(0, .ref b0), (1, .ref (b + adC 0 0)), (2, .ref (b + 709 + adM 0 0)), (3, .ref (b + 721)), (4, .int (nI (6 * t)))] → W p l e room_1 s m args below meth c H1 locs1 (cells + 6) (slots + 36) Q (F0 m 2858 ls1 [])) : W p l e room_1 s m args below meth c H locs cells slots Q (F0 m 1481 ls []) := by
  have hx := C0.1
  have hb := C0.2.1
  unfold CS_22 at h
  refine lv_aload_n hx hb dL_law_1481 rfl (lv_at hl 1 rfl) ?_
  refine lv_aload_n hx hb dL_law_1482 rfl (lv_at hl 0 rfl) ?_
  refine lv_iload hx hb dL_law_1483 (lv_at hl 4 rfl) ?_
  refine lv_iconst (v := 1) hx hb dL_law_1485 (by decide) ?_
  refine lv_iadd hx hb dL_law_1486 ?_
  refine lw_sld (v := xs (6 * t + 1)) C0 hX hbl hb1 hS (nI_add (6 * t) 1) (show 6 * t + 1 < L by omega) hL3 rfl dL_law_1487 ?_
  refine lv_aload_n hx hb dL_law_1488 rfl (lv_at hl 0 rfl) ?_
  refine lv_iload hx hb dL_law_1489 (lv_at hl 4 rfl) ?_
  refine lv_iconst (v := 2) hx hb dL_law_1491 (by decide) ?_
  refine lv_iadd hx hb dL_law_1492 ?_
  refine lw_sld (v := xs (6 * t + 2)) C0 hX hbl hb1 hS (nI_add (6 * t) 2) (show 6 * t + 2 < L by omega) hL3 rfl dL_law_1493 ?_
  refine lv_aload_n hx hb dL_law_1494 rfl (lv_at hl 0 rfl) ?_
  refine lv_iload hx hb dL_law_1495 (lv_at hl 4 rfl) ?_
  refine lv_iconst (v := 3) hx hb dL_law_1497 (by decide) ?_
  refine lv_iadd hx hb dL_law_1498 ?_
  refine lw_sld (v := xs (6 * t + 3)) C0 hX hbl hb1 hS (nI_add (6 * t) 3) (show 6 * t + 3 < L by omega) hL3 rfl dL_law_1499 ?_
  refine lv_aload_n hx hb dL_law_1500 rfl (lv_at hl 3 rfl) ?_
  refine qLW (As := [.ref (b + adC 0 0), .int (xs (6 * t + 1)), .int (xs (6 * t + 2)), .int (xs (6 * t + 3)), .ref (b + 721)]) (rest := []) C0 (cw_job l hl0 h) (vx_cwSW 5 C0.2.2.2.2 (tbSW mK_6_34 ⟨mK_6_35, mK_1_0, mK_6_36⟩) rfl rfl rfl (by decide +kernel) ⟨Nat.le_of_ble_eq_true rfl, Nat.le_of_ble_eq_true rfl⟩) hR hT hN hS rfl hl.1 rfl (Nat.le_of_ble_eq_true rfl) dL_law_1501 ⟨by omega, by omega⟩ (fun r1 S2 o3 H locs h hR hS => ?_)
  refine lv_istore (lv' := [(5, .int r1), (0, .ref b0), (1, .ref (b + adC 0 0)), (2, .ref (b + 709 + adM 0 0)), (3, .ref (b + 721)), (4, .int (nI (6 * t)))]) hx hb dL_law_1504 hl (by decide) rfl (fun ls hl => ?_)
  refine lv_aload_n hx hb dL_law_1506 rfl (lv_at hl 3 rfl) ?_
  refine lv_aload_n hx hb dL_law_1507 rfl (lv_at hl 1 rfl) ?_
  refine lv_iload hx hb dL_law_1508 (lv_at hl 5 rfl) ?_
  refine lv_iconst (v := 1) hx hb dL_law_1510 (by decide) ?_
  refine lv_iadd hx hb dL_law_1511 ?_
  refine lw_sld (v := xs (6 * t + 1)) C0 hX hbl hb1 hS (nI_add (6 * t) 1) (show 6 * t + 1 < L by omega) hL3 rfl dL_law_1512 ?_
  refine lv_aload_n hx hb dL_law_1513 rfl (lv_at hl 1 rfl) ?_
  refine lv_iload hx hb dL_law_1514 (lv_at hl 5 rfl) ?_
  refine lv_iconst (v := 2) hx hb dL_law_1516 (by decide) ?_
  refine lv_iadd hx hb dL_law_1517 ?_
  refine lw_sld (v := xs (6 * t + 2)) C0 hX hbl hb1 hS (nI_add (6 * t) 2) (show 6 * t + 2 < L by omega) hL3 rfl dL_law_1518 ?_
  refine lv_aload_n hx hb dL_law_1519 rfl (lv_at hl 1 rfl) ?_
  refine lv_iload hx hb dL_law_1520 (lv_at hl 5 rfl) ?_
  refine lv_iconst (v := 3) hx hb dL_law_1522 (by decide) ?_
  refine lv_iadd hx hb dL_law_1523 ?_
  refine lw_sld (v := xs (6 * t + 3)) C0 hX hbl hb1 hS (nI_add (6 * t) 3) (show 6 * t + 3 < L by omega) hL3 rfl dL_law_1524 ?_
  refine qLM_i (As := [.int (xs (6 * t + 1)), .int (xs (6 * t + 2)), .int (xs (6 * t + 3))]) (rest := []) C0 (c_X12_job l h) (cwV 3 C0.2.2.2.2 (tbV mK_9_77 ⟨mK_9_78, mK_9_79, mK_1_11, mK_9_80⟩) rfl rfl rfl (by decide +kernel) ⟨Nat.le_of_ble_eq_true rfl, Nat.le_of_ble_eq_true rfl⟩) hR hT hS rfl hl.1 rfl (Nat.le_of_ble_eq_true rfl) dL_law_1525 ⟨by omega, by omega⟩ (fun r4 S5 H locs h hR hS => ?_)
  refine lv_istore (lv' := [(6, .int r4), (5, .int r1), (0, .ref b0), (1, .ref (b + adC 0 0)), (2, .ref (b + 709 + adM 0 0)), (3, .ref (b + 721)), (4, .int (nI (6 * t)))]) hx hb dL_law_1528 hl (by decide) rfl (fun ls hl => ?_)
  refine lv_aload_n hx hb dL_law_1530 rfl (lv_at hl 4 rfl) ?_
  refine qLM_i (As := []) (rest := []) C0 (c_X12_thrown l h) (cwV 0 C0.2.2.2.2 (tbV mK_7_64 ⟨mK_7_65, mK_7_66, mK_1_11, mK_7_67⟩) rfl rfl rfl (by decide +kernel) ⟨Nat.le_of_ble_eq_true rfl, Nat.le_of_ble_eq_true rfl⟩) hR hT hS rfl hl.1 rfl (Nat.le_of_ble_eq_true rfl) dL_law_1531 ⟨by omega, by omega⟩ (fun r6 S7 H locs h hR hS => ?_)
  refine lv_iload hx hb dL_law_1534 (lv_at hl 1 rfl) ?_
  refine lv_icmp_eq (tgt := 1541) hx hb dL_law_1536 (by decide) (fun c8 => ?_) (fun c8 => ?_)
  · have h := h.1 c8
    refine lv_iload hx hb dL_law_1541 (lv_at hl 1 rfl) ?_
    refine lv_if_ne (tgt := 1558) hx hb dL_law_1543 (by decide) (fun c9 => ?_) (fun c9 => ?_)
    · have h := h.1 c9
      refine lv_goto (tgt := 2858) hx hb dL_law_1558 (by decide) ?_
      exact W.widen (k := cells + 6) (n := slots + 36) (by omega) (by omega) (kk S2 S7 o3 H locs _ h hR hS (lv_sub hl [2, 3, 4, 5, 6] rfl))
    · have h := h.2 c9
      refine lv_aload_n hx hb dL_law_1546 rfl (lv_at hl 5 rfl) ?_
      refine lv_iconst (v := 0) hx hb dL_law_1547 (by decide) ?_
      refine lw_out C0 hR dL_law_1548 ?_
      refine lv_iload hx hb dL_law_1549 (lv_at hl 0 rfl) ?_
      refine lv_i2l (v := r4.toInt64) hx hb dL_law_1551 rfl ?_
      refine W.lcmp hx hb dL_law_1552 ?_
      refine lv_if_eq (tgt := 1558) hx hb dL_law_1553 (by decide) (fun c10 => ?_) (fun c10 => ?_)
      · have h := h.1 ((lg_cmp_eq _ _).mp c10)
        refine lv_goto (tgt := 2858) hx hb dL_law_1558 (by decide) ?_
        exact W.widen (k := cells + 6) (n := slots + 36) (by omega) (by omega) (kk S2 S7 o3 H locs _ h hR hS (lv_sub hl [2, 3, 4, 5, 6] rfl))
      · have h := h.2 (fun q9 => c10 ((lg_cmp_eq _ _).mpr q9))
        exact h.elim
  · have h := h.2 c8
    exact h.elim
def CS_23 (a1 a2 a3 a4 a5 : Int32) (Sc Sm : sSt) (o : Int64) (K : sSt → sSt → Int64 → Prop) : Prop := FW_cause a1 a2 a3 Sc o (fun r1 S2 o3 => F_X12_cause a1 a2 a3 Sm (fun r4 S5 => F_X12_thrown S5 (fun r6 S7 => ((r6 = r1 → ((¬ r1 = 0 → K S2 S7 o3) ∧ (r1 = 0 → ((o3 = r4.toInt64 → K S2 S7 o3) ∧ (¬ o3 = r4.toInt64 → False))))) ∧ (¬ r6 = r1 → False)))))
set_option maxHeartbeats 4000000 in
set_option maxRecDepth 100000 in
theorem LW_23 {p : Program} {l : Launch} {e : Env} {s : State} {m : MethodId} {args : Array Value} {below : List Frame} {meth : Method} {c : Code} {Q : State → Prop} {D : va_G} {cy : Nat → ClassId} {b b0 L : Nat} {tx : TX} {xs : Nat → Int32} (hl0 : l.stackTraces = false) (C0 : CallFix p m c cL_law 7 s args TB RL) (hT : TxR tx s) (hN : TxN s) (hX : va_X b0 L xs s s.heap) (hbl : b0 < s.heap.size) (hb1 : b = s.heap.size) (hL3 : L ≤ 3072) (t : Nat) (ht : 6 * t + 6 ≤ L) {Sc Sm : sSt} {o : Int64} {K : sSt → sSt → Int64 → Prop} {H : Heap} {locs : List Loc} {ls : Array Slot} {cells slots : Nat} (hc1 : cells + 6 ≤ room_1.cells) (hc2 : slots + 36 ≤ room_1.slots) (h : CS_23 (xs (6 * t + 1)) (xs (6 * t + 2)) (xs (6 * t + 3)) (xs (6 * t + 4)) (xs (6 * t + 5)) Sc Sm o K) (hR : RelL D cy b tx Sc Sm o s H) (hS : va_S (bA b) s.heap H locs) (hl : lv_has ls 7 [(0, .ref b0), (1, .ref (b + adC 0 0)), (2, .ref (b + 709 + adM 0 0)), (3, .ref (b + 721)), (4, .int (nI (6 * t)))])
    (kk : ∀ (S1 S2 : sSt) (o1 : Int64) (H1 : Heap) (locs1 : List Loc) (ls1 : Array Slot), K S1 S2 o1 → RelL D cy b tx S1 S2 o1 s H1 → va_S (bA b) s.heap H1 locs1 → lv_has ls1 7 [(0, .ref b0), (1, .ref (b + adC 0 0)), (2, .ref (b + 709 + adM 0 0)), (3, .ref (b + 721)), (4, .int (nI (6 * t)))] → W p l e room_1 s m args below meth c H1 locs1 (cells + 6) (slots + 36) Q (F0 m 2858 ls1 [])) : W p l e room_1 s m args below meth c H locs cells slots Q (F0 m 1561 ls []) := by
  have hx := C0.1
  have hb := C0.2.1
  unfold CS_23 at h
  refine lv_aload_n hx hb dL_law_1561 rfl (lv_at hl 1 rfl) ?_
  refine lv_aload_n hx hb dL_law_1562 rfl (lv_at hl 0 rfl) ?_
  refine lv_iload hx hb dL_law_1563 (lv_at hl 4 rfl) ?_
  refine lv_iconst (v := 1) hx hb dL_law_1565 (by decide) ?_
  refine lv_iadd hx hb dL_law_1566 ?_
  refine lw_sld (v := xs (6 * t + 1)) C0 hX hbl hb1 hS (nI_add (6 * t) 1) (show 6 * t + 1 < L by omega) hL3 rfl dL_law_1567 ?_
  refine lv_aload_n hx hb dL_law_1568 rfl (lv_at hl 0 rfl) ?_
  refine lv_iload hx hb dL_law_1569 (lv_at hl 4 rfl) ?_
  refine lv_iconst (v := 2) hx hb dL_law_1571 (by decide) ?_
  refine lv_iadd hx hb dL_law_1572 ?_
  refine lw_sld (v := xs (6 * t + 2)) C0 hX hbl hb1 hS (nI_add (6 * t) 2) (show 6 * t + 2 < L by omega) hL3 rfl dL_law_1573 ?_
  refine lv_aload_n hx hb dL_law_1574 rfl (lv_at hl 0 rfl) ?_
  refine lv_iload hx hb dL_law_1575 (lv_at hl 4 rfl) ?_
  refine lv_iconst (v := 3) hx hb dL_law_1577 (by decide) ?_
  refine lv_iadd hx hb dL_law_1578 ?_
  refine lw_sld (v := xs (6 * t + 3)) C0 hX hbl hb1 hS (nI_add (6 * t) 3) (show 6 * t + 3 < L by omega) hL3 rfl dL_law_1579 ?_
  refine lv_aload_n hx hb dL_law_1580 rfl (lv_at hl 3 rfl) ?_
  refine qLW (As := [.ref (b + adC 0 0), .int (xs (6 * t + 1)), .int (xs (6 * t + 2)), .int (xs (6 * t + 3)), .ref (b + 721)]) (rest := []) C0 (cw_cause l hl0 h) (vx_cwSW 5 C0.2.2.2.2 (tbSW mK_6_61 ⟨mK_6_62, mK_1_0, mK_6_63⟩) rfl rfl rfl (by decide +kernel) ⟨Nat.le_of_ble_eq_true rfl, Nat.le_of_ble_eq_true rfl⟩) hR hT hN hS rfl hl.1 rfl (Nat.le_of_ble_eq_true rfl) dL_law_1581 ⟨by omega, by omega⟩ (fun r1 S2 o3 H locs h hR hS => ?_)
  refine lv_istore (lv' := [(5, .int r1), (0, .ref b0), (1, .ref (b + adC 0 0)), (2, .ref (b + 709 + adM 0 0)), (3, .ref (b + 721)), (4, .int (nI (6 * t)))]) hx hb dL_law_1584 hl (by decide) rfl (fun ls hl => ?_)
  refine lv_aload_n hx hb dL_law_1586 rfl (lv_at hl 3 rfl) ?_
  refine lv_aload_n hx hb dL_law_1587 rfl (lv_at hl 1 rfl) ?_
  refine lv_iload hx hb dL_law_1588 (lv_at hl 5 rfl) ?_
  refine lv_iconst (v := 1) hx hb dL_law_1590 (by decide) ?_
  refine lv_iadd hx hb dL_law_1591 ?_
  refine lw_sld (v := xs (6 * t + 1)) C0 hX hbl hb1 hS (nI_add (6 * t) 1) (show 6 * t + 1 < L by omega) hL3 rfl dL_law_1592 ?_
  refine lv_aload_n hx hb dL_law_1593 rfl (lv_at hl 1 rfl) ?_
  refine lv_iload hx hb dL_law_1594 (lv_at hl 5 rfl) ?_
  refine lv_iconst (v := 2) hx hb dL_law_1596 (by decide) ?_
  refine lv_iadd hx hb dL_law_1597 ?_
  refine lw_sld (v := xs (6 * t + 2)) C0 hX hbl hb1 hS (nI_add (6 * t) 2) (show 6 * t + 2 < L by omega) hL3 rfl dL_law_1598 ?_
  refine lv_aload_n hx hb dL_law_1599 rfl (lv_at hl 1 rfl) ?_
  refine lv_iload hx hb dL_law_1600 (lv_at hl 5 rfl) ?_
  refine lv_iconst (v := 3) hx hb dL_law_1602 (by decide) ?_
  refine lv_iadd hx hb dL_law_1603 ?_
  refine lw_sld (v := xs (6 * t + 3)) C0 hX hbl hb1 hS (nI_add (6 * t) 3) (show 6 * t + 3 < L by omega) hL3 rfl dL_law_1604 ?_
  refine qLM_i (As := [.int (xs (6 * t + 1)), .int (xs (6 * t + 2)), .int (xs (6 * t + 3))]) (rest := []) C0 (c_X12_cause l h) (cwV 3 C0.2.2.2.2 (tbV mK_9_81 ⟨mK_9_82, mK_9_83, mK_1_11, mK_9_84⟩) rfl rfl rfl (by decide +kernel) ⟨Nat.le_of_ble_eq_true rfl, Nat.le_of_ble_eq_true rfl⟩) hR hT hS rfl hl.1 rfl (Nat.le_of_ble_eq_true rfl) dL_law_1605 ⟨by omega, by omega⟩ (fun r4 S5 H locs h hR hS => ?_)
  refine lv_istore (lv' := [(6, .int r4), (5, .int r1), (0, .ref b0), (1, .ref (b + adC 0 0)), (2, .ref (b + 709 + adM 0 0)), (3, .ref (b + 721)), (4, .int (nI (6 * t)))]) hx hb dL_law_1608 hl (by decide) rfl (fun ls hl => ?_)
  refine lv_aload_n hx hb dL_law_1610 rfl (lv_at hl 4 rfl) ?_
  refine qLM_i (As := []) (rest := []) C0 (c_X12_thrown l h) (cwV 0 C0.2.2.2.2 (tbV mK_7_64 ⟨mK_7_65, mK_7_66, mK_1_11, mK_7_67⟩) rfl rfl rfl (by decide +kernel) ⟨Nat.le_of_ble_eq_true rfl, Nat.le_of_ble_eq_true rfl⟩) hR hT hS rfl hl.1 rfl (Nat.le_of_ble_eq_true rfl) dL_law_1611 ⟨by omega, by omega⟩ (fun r6 S7 H locs h hR hS => ?_)
  refine lv_iload hx hb dL_law_1614 (lv_at hl 1 rfl) ?_
  refine lv_icmp_eq (tgt := 1621) hx hb dL_law_1616 (by decide) (fun c8 => ?_) (fun c8 => ?_)
  · have h := h.1 c8
    refine lv_iload hx hb dL_law_1621 (lv_at hl 1 rfl) ?_
    refine lv_if_ne (tgt := 1638) hx hb dL_law_1623 (by decide) (fun c9 => ?_) (fun c9 => ?_)
    · have h := h.1 c9
      refine lv_goto (tgt := 2858) hx hb dL_law_1638 (by decide) ?_
      exact W.widen (k := cells + 6) (n := slots + 36) (by omega) (by omega) (kk S2 S7 o3 H locs _ h hR hS (lv_sub hl [2, 3, 4, 5, 6] rfl))
    · have h := h.2 c9
      refine lv_aload_n hx hb dL_law_1626 rfl (lv_at hl 5 rfl) ?_
      refine lv_iconst (v := 0) hx hb dL_law_1627 (by decide) ?_
      refine lw_out C0 hR dL_law_1628 ?_
      refine lv_iload hx hb dL_law_1629 (lv_at hl 0 rfl) ?_
      refine lv_i2l (v := r4.toInt64) hx hb dL_law_1631 rfl ?_
      refine W.lcmp hx hb dL_law_1632 ?_
      refine lv_if_eq (tgt := 1638) hx hb dL_law_1633 (by decide) (fun c10 => ?_) (fun c10 => ?_)
      · have h := h.1 ((lg_cmp_eq _ _).mp c10)
        refine lv_goto (tgt := 2858) hx hb dL_law_1638 (by decide) ?_
        exact W.widen (k := cells + 6) (n := slots + 36) (by omega) (by omega) (kk S2 S7 o3 H locs _ h hR hS (lv_sub hl [2, 3, 4, 5, 6] rfl))
      · have h := h.2 (fun q9 => c10 ((lg_cmp_eq _ _).mpr q9))
        exact h.elim
  · have h := h.2 c8
    exact h.elim
def CS_24 (a1 a2 a3 a4 a5 : Int32) (Sc Sm : sSt) (o : Int64) (K : sSt → sSt → Int64 → Prop) : Prop := FW_locked a1 Sc o (fun r1 S2 o3 => F_X12_locked a1 Sm (fun r4 S5 => F_X12_thrown S5 (fun r6 S7 => ((r6 = r1 → ((¬ r1 = 0 → K S2 S7 o3) ∧ (r1 = 0 → ((o3 = r4.toInt64 → K S2 S7 o3) ∧ (¬ o3 = r4.toInt64 → False))))) ∧ (¬ r6 = r1 → False)))))
set_option maxHeartbeats 4000000 in
set_option maxRecDepth 100000 in
theorem LW_24 {p : Program} {l : Launch} {e : Env} {s : State} {m : MethodId} {args : Array Value} {below : List Frame} {meth : Method} {c : Code} {Q : State → Prop} {D : va_G} {cy : Nat → ClassId} {b b0 L : Nat} {tx : TX} {xs : Nat → Int32} (hl0 : l.stackTraces = false) (C0 : CallFix p m c cL_law 7 s args TB RL) (hT : TxR tx s) (hN : TxN s) (hX : va_X b0 L xs s s.heap) (hbl : b0 < s.heap.size) (hb1 : b = s.heap.size) (hL3 : L ≤ 3072) (t : Nat) (ht : 6 * t + 6 ≤ L) {Sc Sm : sSt} {o : Int64} {K : sSt → sSt → Int64 → Prop} {H : Heap} {locs : List Loc} {ls : Array Slot} {cells slots : Nat} (hc1 : cells + 6 ≤ room_1.cells) (hc2 : slots + 36 ≤ room_1.slots) (h : CS_24 (xs (6 * t + 1)) (xs (6 * t + 2)) (xs (6 * t + 3)) (xs (6 * t + 4)) (xs (6 * t + 5)) Sc Sm o K) (hR : RelL D cy b tx Sc Sm o s H) (hS : va_S (bA b) s.heap H locs) (hl : lv_has ls 7 [(0, .ref b0), (1, .ref (b + adC 0 0)), (2, .ref (b + 709 + adM 0 0)), (3, .ref (b + 721)), (4, .int (nI (6 * t)))])
    (kk : ∀ (S1 S2 : sSt) (o1 : Int64) (H1 : Heap) (locs1 : List Loc) (ls1 : Array Slot), K S1 S2 o1 → RelL D cy b tx S1 S2 o1 s H1 → va_S (bA b) s.heap H1 locs1 → lv_has ls1 7 [(0, .ref b0), (1, .ref (b + adC 0 0)), (2, .ref (b + 709 + adM 0 0)), (3, .ref (b + 721)), (4, .int (nI (6 * t)))] → W p l e room_1 s m args below meth c H1 locs1 (cells + 6) (slots + 36) Q (F0 m 2858 ls1 [])) : W p l e room_1 s m args below meth c H locs cells slots Q (F0 m 1641 ls []) := by
  have hx := C0.1
  have hb := C0.2.1
  unfold CS_24 at h
  refine lv_aload_n hx hb dL_law_1641 rfl (lv_at hl 1 rfl) ?_
  refine lv_aload_n hx hb dL_law_1642 rfl (lv_at hl 0 rfl) ?_
  refine lv_iload hx hb dL_law_1643 (lv_at hl 4 rfl) ?_
  refine lv_iconst (v := 1) hx hb dL_law_1645 (by decide) ?_
  refine lv_iadd hx hb dL_law_1646 ?_
  refine lw_sld (v := xs (6 * t + 1)) C0 hX hbl hb1 hS (nI_add (6 * t) 1) (show 6 * t + 1 < L by omega) hL3 rfl dL_law_1647 ?_
  refine lv_aload_n hx hb dL_law_1648 rfl (lv_at hl 3 rfl) ?_
  refine qLW (As := [.ref (b + adC 0 0), .int (xs (6 * t + 1)), .ref (b + 721)]) (rest := []) C0 (cw_locked l hl0 h) (vx_cwSW 3 C0.2.2.2.2 (tbSW mK_6_72 ⟨mK_6_73, mK_1_0, mK_6_74⟩) rfl rfl rfl (by decide +kernel) ⟨Nat.le_of_ble_eq_true rfl, Nat.le_of_ble_eq_true rfl⟩) hR hT hN hS rfl hl.1 rfl (Nat.le_of_ble_eq_true rfl) dL_law_1649 ⟨by omega, by omega⟩ (fun r1 S2 o3 H locs h hR hS => ?_)
  refine lv_istore (lv' := [(5, .int r1), (0, .ref b0), (1, .ref (b + adC 0 0)), (2, .ref (b + 709 + adM 0 0)), (3, .ref (b + 721)), (4, .int (nI (6 * t)))]) hx hb dL_law_1652 hl (by decide) rfl (fun ls hl => ?_)
  refine lv_aload_n hx hb dL_law_1654 rfl (lv_at hl 3 rfl) ?_
  refine lv_aload_n hx hb dL_law_1655 rfl (lv_at hl 1 rfl) ?_
  refine lv_iload hx hb dL_law_1656 (lv_at hl 5 rfl) ?_
  refine lv_iconst (v := 1) hx hb dL_law_1658 (by decide) ?_
  refine lv_iadd hx hb dL_law_1659 ?_
  refine lw_sld (v := xs (6 * t + 1)) C0 hX hbl hb1 hS (nI_add (6 * t) 1) (show 6 * t + 1 < L by omega) hL3 rfl dL_law_1660 ?_
  refine qLM_i (As := [.int (xs (6 * t + 1))]) (rest := []) C0 (c_X12_locked l h) (cwV 1 C0.2.2.2.2 (tbV mK_9_85 ⟨mK_9_86, mK_9_87, mK_1_11, mK_9_88⟩) rfl rfl rfl (by decide +kernel) ⟨Nat.le_of_ble_eq_true rfl, Nat.le_of_ble_eq_true rfl⟩) hR hT hS rfl hl.1 rfl (Nat.le_of_ble_eq_true rfl) dL_law_1661 ⟨by omega, by omega⟩ (fun r4 S5 H locs h hR hS => ?_)
  refine lv_istore (lv' := [(6, .int r4), (5, .int r1), (0, .ref b0), (1, .ref (b + adC 0 0)), (2, .ref (b + 709 + adM 0 0)), (3, .ref (b + 721)), (4, .int (nI (6 * t)))]) hx hb dL_law_1664 hl (by decide) rfl (fun ls hl => ?_)
  refine lv_aload_n hx hb dL_law_1666 rfl (lv_at hl 4 rfl) ?_
  refine qLM_i (As := []) (rest := []) C0 (c_X12_thrown l h) (cwV 0 C0.2.2.2.2 (tbV mK_7_64 ⟨mK_7_65, mK_7_66, mK_1_11, mK_7_67⟩) rfl rfl rfl (by decide +kernel) ⟨Nat.le_of_ble_eq_true rfl, Nat.le_of_ble_eq_true rfl⟩) hR hT hS rfl hl.1 rfl (Nat.le_of_ble_eq_true rfl) dL_law_1667 ⟨by omega, by omega⟩ (fun r6 S7 H locs h hR hS => ?_)
  refine lv_iload hx hb dL_law_1670 (lv_at hl 1 rfl) ?_
  refine lv_icmp_eq (tgt := 1677) hx hb dL_law_1672 (by decide) (fun c8 => ?_) (fun c8 => ?_)
  · have h := h.1 c8
    refine lv_iload hx hb dL_law_1677 (lv_at hl 1 rfl) ?_
    refine lv_if_ne (tgt := 1694) hx hb dL_law_1679 (by decide) (fun c9 => ?_) (fun c9 => ?_)
    · have h := h.1 c9
      refine lv_goto (tgt := 2858) hx hb dL_law_1694 (by decide) ?_
      exact W.widen (k := cells + 6) (n := slots + 36) (by omega) (by omega) (kk S2 S7 o3 H locs _ h hR hS (lv_sub hl [2, 3, 4, 5, 6] rfl))
    · have h := h.2 c9
      refine lv_aload_n hx hb dL_law_1682 rfl (lv_at hl 5 rfl) ?_
      refine lv_iconst (v := 0) hx hb dL_law_1683 (by decide) ?_
      refine lw_out C0 hR dL_law_1684 ?_
      refine lv_iload hx hb dL_law_1685 (lv_at hl 0 rfl) ?_
      refine lv_i2l (v := r4.toInt64) hx hb dL_law_1687 rfl ?_
      refine W.lcmp hx hb dL_law_1688 ?_
      refine lv_if_eq (tgt := 1694) hx hb dL_law_1689 (by decide) (fun c10 => ?_) (fun c10 => ?_)
      · have h := h.1 ((lg_cmp_eq _ _).mp c10)
        refine lv_goto (tgt := 2858) hx hb dL_law_1694 (by decide) ?_
        exact W.widen (k := cells + 6) (n := slots + 36) (by omega) (by omega) (kk S2 S7 o3 H locs _ h hR hS (lv_sub hl [2, 3, 4, 5, 6] rfl))
      · have h := h.2 (fun q9 => c10 ((lg_cmp_eq _ _).mpr q9))
        exact h.elim
  · have h := h.2 c8
    exact h.elim
def CS_25 (a1 a2 a3 a4 a5 : Int32) (Sc Sm : sSt) (o : Int64) (K : sSt → sSt → Int64 → Prop) : Prop := FW_session a1 a2 Sc o (fun r1 S2 o3 => F_X12_session a1 a2 Sm (fun r4 S5 => F_X12_thrown S5 (fun r6 S7 => ((r6 = r1 → ((¬ r1 = 0 → K S2 S7 o3) ∧ (r1 = 0 → ((o3 = r4.toInt64 → K S2 S7 o3) ∧ (¬ o3 = r4.toInt64 → False))))) ∧ (¬ r6 = r1 → False)))))
set_option maxHeartbeats 4000000 in
set_option maxRecDepth 100000 in
theorem LW_25 {p : Program} {l : Launch} {e : Env} {s : State} {m : MethodId} {args : Array Value} {below : List Frame} {meth : Method} {c : Code} {Q : State → Prop} {D : va_G} {cy : Nat → ClassId} {b b0 L : Nat} {tx : TX} {xs : Nat → Int32} (hl0 : l.stackTraces = false) (C0 : CallFix p m c cL_law 7 s args TB RL) (hT : TxR tx s) (hN : TxN s) (hX : va_X b0 L xs s s.heap) (hbl : b0 < s.heap.size) (hb1 : b = s.heap.size) (hL3 : L ≤ 3072) (t : Nat) (ht : 6 * t + 6 ≤ L) {Sc Sm : sSt} {o : Int64} {K : sSt → sSt → Int64 → Prop} {H : Heap} {locs : List Loc} {ls : Array Slot} {cells slots : Nat} (hc1 : cells + 6 ≤ room_1.cells) (hc2 : slots + 36 ≤ room_1.slots) (h : CS_25 (xs (6 * t + 1)) (xs (6 * t + 2)) (xs (6 * t + 3)) (xs (6 * t + 4)) (xs (6 * t + 5)) Sc Sm o K) (hR : RelL D cy b tx Sc Sm o s H) (hS : va_S (bA b) s.heap H locs) (hl : lv_has ls 7 [(0, .ref b0), (1, .ref (b + adC 0 0)), (2, .ref (b + 709 + adM 0 0)), (3, .ref (b + 721)), (4, .int (nI (6 * t)))])
    (kk : ∀ (S1 S2 : sSt) (o1 : Int64) (H1 : Heap) (locs1 : List Loc) (ls1 : Array Slot), K S1 S2 o1 → RelL D cy b tx S1 S2 o1 s H1 → va_S (bA b) s.heap H1 locs1 → lv_has ls1 7 [(0, .ref b0), (1, .ref (b + adC 0 0)), (2, .ref (b + 709 + adM 0 0)), (3, .ref (b + 721)), (4, .int (nI (6 * t)))] → W p l e room_1 s m args below meth c H1 locs1 (cells + 6) (slots + 36) Q (F0 m 2858 ls1 [])) : W p l e room_1 s m args below meth c H locs cells slots Q (F0 m 1697 ls []) := by
  have hx := C0.1
  have hb := C0.2.1
  unfold CS_25 at h
  refine lv_aload_n hx hb dL_law_1697 rfl (lv_at hl 1 rfl) ?_
  refine lv_aload_n hx hb dL_law_1698 rfl (lv_at hl 0 rfl) ?_
  refine lv_iload hx hb dL_law_1699 (lv_at hl 4 rfl) ?_
  refine lv_iconst (v := 1) hx hb dL_law_1701 (by decide) ?_
  refine lv_iadd hx hb dL_law_1702 ?_
  refine lw_sld (v := xs (6 * t + 1)) C0 hX hbl hb1 hS (nI_add (6 * t) 1) (show 6 * t + 1 < L by omega) hL3 rfl dL_law_1703 ?_
  refine lv_aload_n hx hb dL_law_1704 rfl (lv_at hl 0 rfl) ?_
  refine lv_iload hx hb dL_law_1705 (lv_at hl 4 rfl) ?_
  refine lv_iconst (v := 2) hx hb dL_law_1707 (by decide) ?_
  refine lv_iadd hx hb dL_law_1708 ?_
  refine lw_sld (v := xs (6 * t + 2)) C0 hX hbl hb1 hS (nI_add (6 * t) 2) (show 6 * t + 2 < L by omega) hL3 rfl dL_law_1709 ?_
  refine lv_aload_n hx hb dL_law_1710 rfl (lv_at hl 3 rfl) ?_
  refine qLW (As := [.ref (b + adC 0 0), .int (xs (6 * t + 1)), .int (xs (6 * t + 2)), .ref (b + 721)]) (rest := []) C0 (cw_session l hl0 h) (vx_cwSW 4 C0.2.2.2.2 (tbSW mK_6_79 ⟨mK_6_80, mK_1_0, mK_6_81⟩) rfl rfl rfl (by decide +kernel) ⟨Nat.le_of_ble_eq_true rfl, Nat.le_of_ble_eq_true rfl⟩) hR hT hN hS rfl hl.1 rfl (Nat.le_of_ble_eq_true rfl) dL_law_1711 ⟨by omega, by omega⟩ (fun r1 S2 o3 H locs h hR hS => ?_)
  refine lv_istore (lv' := [(5, .int r1), (0, .ref b0), (1, .ref (b + adC 0 0)), (2, .ref (b + 709 + adM 0 0)), (3, .ref (b + 721)), (4, .int (nI (6 * t)))]) hx hb dL_law_1714 hl (by decide) rfl (fun ls hl => ?_)
  refine lv_aload_n hx hb dL_law_1716 rfl (lv_at hl 3 rfl) ?_
  refine lv_aload_n hx hb dL_law_1717 rfl (lv_at hl 1 rfl) ?_
  refine lv_iload hx hb dL_law_1718 (lv_at hl 5 rfl) ?_
  refine lv_iconst (v := 1) hx hb dL_law_1720 (by decide) ?_
  refine lv_iadd hx hb dL_law_1721 ?_
  refine lw_sld (v := xs (6 * t + 1)) C0 hX hbl hb1 hS (nI_add (6 * t) 1) (show 6 * t + 1 < L by omega) hL3 rfl dL_law_1722 ?_
  refine lv_aload_n hx hb dL_law_1723 rfl (lv_at hl 1 rfl) ?_
  refine lv_iload hx hb dL_law_1724 (lv_at hl 5 rfl) ?_
  refine lv_iconst (v := 2) hx hb dL_law_1726 (by decide) ?_
  refine lv_iadd hx hb dL_law_1727 ?_
  refine lw_sld (v := xs (6 * t + 2)) C0 hX hbl hb1 hS (nI_add (6 * t) 2) (show 6 * t + 2 < L by omega) hL3 rfl dL_law_1728 ?_
  refine qLM_i (As := [.int (xs (6 * t + 1)), .int (xs (6 * t + 2))]) (rest := []) C0 (c_X12_session l h) (cwV 2 C0.2.2.2.2 (tbV mK_9_89 ⟨mK_9_90, mK_9_91, mK_1_11, mK_9_92⟩) rfl rfl rfl (by decide +kernel) ⟨Nat.le_of_ble_eq_true rfl, Nat.le_of_ble_eq_true rfl⟩) hR hT hS rfl hl.1 rfl (Nat.le_of_ble_eq_true rfl) dL_law_1729 ⟨by omega, by omega⟩ (fun r4 S5 H locs h hR hS => ?_)
  refine lv_istore (lv' := [(6, .int r4), (5, .int r1), (0, .ref b0), (1, .ref (b + adC 0 0)), (2, .ref (b + 709 + adM 0 0)), (3, .ref (b + 721)), (4, .int (nI (6 * t)))]) hx hb dL_law_1732 hl (by decide) rfl (fun ls hl => ?_)
  refine lv_aload_n hx hb dL_law_1734 rfl (lv_at hl 4 rfl) ?_
  refine qLM_i (As := []) (rest := []) C0 (c_X12_thrown l h) (cwV 0 C0.2.2.2.2 (tbV mK_7_64 ⟨mK_7_65, mK_7_66, mK_1_11, mK_7_67⟩) rfl rfl rfl (by decide +kernel) ⟨Nat.le_of_ble_eq_true rfl, Nat.le_of_ble_eq_true rfl⟩) hR hT hS rfl hl.1 rfl (Nat.le_of_ble_eq_true rfl) dL_law_1735 ⟨by omega, by omega⟩ (fun r6 S7 H locs h hR hS => ?_)
  refine lv_iload hx hb dL_law_1738 (lv_at hl 1 rfl) ?_
  refine lv_icmp_eq (tgt := 1745) hx hb dL_law_1740 (by decide) (fun c8 => ?_) (fun c8 => ?_)
  · have h := h.1 c8
    refine lv_iload hx hb dL_law_1745 (lv_at hl 1 rfl) ?_
    refine lv_if_ne (tgt := 1762) hx hb dL_law_1747 (by decide) (fun c9 => ?_) (fun c9 => ?_)
    · have h := h.1 c9
      refine lv_goto (tgt := 2858) hx hb dL_law_1762 (by decide) ?_
      exact W.widen (k := cells + 6) (n := slots + 36) (by omega) (by omega) (kk S2 S7 o3 H locs _ h hR hS (lv_sub hl [2, 3, 4, 5, 6] rfl))
    · have h := h.2 c9
      refine lv_aload_n hx hb dL_law_1750 rfl (lv_at hl 5 rfl) ?_
      refine lv_iconst (v := 0) hx hb dL_law_1751 (by decide) ?_
      refine lw_out C0 hR dL_law_1752 ?_
      refine lv_iload hx hb dL_law_1753 (lv_at hl 0 rfl) ?_
      refine lv_i2l (v := r4.toInt64) hx hb dL_law_1755 rfl ?_
      refine W.lcmp hx hb dL_law_1756 ?_
      refine lv_if_eq (tgt := 1762) hx hb dL_law_1757 (by decide) (fun c10 => ?_) (fun c10 => ?_)
      · have h := h.1 ((lg_cmp_eq _ _).mp c10)
        refine lv_goto (tgt := 2858) hx hb dL_law_1762 (by decide) ?_
        exact W.widen (k := cells + 6) (n := slots + 36) (by omega) (by omega) (kk S2 S7 o3 H locs _ h hR hS (lv_sub hl [2, 3, 4, 5, 6] rfl))
      · have h := h.2 (fun q9 => c10 ((lg_cmp_eq _ _).mpr q9))
        exact h.elim
  · have h := h.2 c8
    exact h.elim
def CS_26 (a1 a2 a3 a4 a5 : Int32) (Sc Sm : sSt) (o : Int64) (K : sSt → sSt → Int64 → Prop) : Prop := FW_plan a1 a2 Sc o (fun r1 S2 o3 => F_X12_plan a1 a2 Sm (fun r4 S5 => F_X12_thrown S5 (fun r6 S7 => ((r6 = r1 → ((¬ r1 = 0 → K S2 S7 o3) ∧ (r1 = 0 → ((o3 = r4.toInt64 → K S2 S7 o3) ∧ (¬ o3 = r4.toInt64 → False))))) ∧ (¬ r6 = r1 → False)))))
set_option maxHeartbeats 4000000 in
set_option maxRecDepth 100000 in
theorem LW_26 {p : Program} {l : Launch} {e : Env} {s : State} {m : MethodId} {args : Array Value} {below : List Frame} {meth : Method} {c : Code} {Q : State → Prop} {D : va_G} {cy : Nat → ClassId} {b b0 L : Nat} {tx : TX} {xs : Nat → Int32} (hl0 : l.stackTraces = false) (C0 : CallFix p m c cL_law 7 s args TB RL) (hT : TxR tx s) (hN : TxN s) (hX : va_X b0 L xs s s.heap) (hbl : b0 < s.heap.size) (hb1 : b = s.heap.size) (hL3 : L ≤ 3072) (t : Nat) (ht : 6 * t + 6 ≤ L) {Sc Sm : sSt} {o : Int64} {K : sSt → sSt → Int64 → Prop} {H : Heap} {locs : List Loc} {ls : Array Slot} {cells slots : Nat} (hc1 : cells + 6 ≤ room_1.cells) (hc2 : slots + 36 ≤ room_1.slots) (h : CS_26 (xs (6 * t + 1)) (xs (6 * t + 2)) (xs (6 * t + 3)) (xs (6 * t + 4)) (xs (6 * t + 5)) Sc Sm o K) (hR : RelL D cy b tx Sc Sm o s H) (hS : va_S (bA b) s.heap H locs) (hl : lv_has ls 7 [(0, .ref b0), (1, .ref (b + adC 0 0)), (2, .ref (b + 709 + adM 0 0)), (3, .ref (b + 721)), (4, .int (nI (6 * t)))])
    (kk : ∀ (S1 S2 : sSt) (o1 : Int64) (H1 : Heap) (locs1 : List Loc) (ls1 : Array Slot), K S1 S2 o1 → RelL D cy b tx S1 S2 o1 s H1 → va_S (bA b) s.heap H1 locs1 → lv_has ls1 7 [(0, .ref b0), (1, .ref (b + adC 0 0)), (2, .ref (b + 709 + adM 0 0)), (3, .ref (b + 721)), (4, .int (nI (6 * t)))] → W p l e room_1 s m args below meth c H1 locs1 (cells + 6) (slots + 36) Q (F0 m 2858 ls1 [])) : W p l e room_1 s m args below meth c H locs cells slots Q (F0 m 1765 ls []) := by
  have hx := C0.1
  have hb := C0.2.1
  unfold CS_26 at h
  refine lv_aload_n hx hb dL_law_1765 rfl (lv_at hl 1 rfl) ?_
  refine lv_aload_n hx hb dL_law_1766 rfl (lv_at hl 0 rfl) ?_
  refine lv_iload hx hb dL_law_1767 (lv_at hl 4 rfl) ?_
  refine lv_iconst (v := 1) hx hb dL_law_1769 (by decide) ?_
  refine lv_iadd hx hb dL_law_1770 ?_
  refine lw_sld (v := xs (6 * t + 1)) C0 hX hbl hb1 hS (nI_add (6 * t) 1) (show 6 * t + 1 < L by omega) hL3 rfl dL_law_1771 ?_
  refine lv_aload_n hx hb dL_law_1772 rfl (lv_at hl 0 rfl) ?_
  refine lv_iload hx hb dL_law_1773 (lv_at hl 4 rfl) ?_
  refine lv_iconst (v := 2) hx hb dL_law_1775 (by decide) ?_
  refine lv_iadd hx hb dL_law_1776 ?_
  refine lw_sld (v := xs (6 * t + 2)) C0 hX hbl hb1 hS (nI_add (6 * t) 2) (show 6 * t + 2 < L by omega) hL3 rfl dL_law_1777 ?_
  refine lv_aload_n hx hb dL_law_1778 rfl (lv_at hl 3 rfl) ?_
  refine qLW (As := [.ref (b + adC 0 0), .int (xs (6 * t + 1)), .int (xs (6 * t + 2)), .ref (b + 721)]) (rest := []) C0 (cw_plan l hl0 h) (vx_cwSW 4 C0.2.2.2.2 (tbSW mK_6_98 ⟨mK_6_99, mK_1_0, mK_6_100⟩) rfl rfl rfl (by decide +kernel) ⟨Nat.le_of_ble_eq_true rfl, Nat.le_of_ble_eq_true rfl⟩) hR hT hN hS rfl hl.1 rfl (Nat.le_of_ble_eq_true rfl) dL_law_1779 ⟨by omega, by omega⟩ (fun r1 S2 o3 H locs h hR hS => ?_)
  refine lv_istore (lv' := [(5, .int r1), (0, .ref b0), (1, .ref (b + adC 0 0)), (2, .ref (b + 709 + adM 0 0)), (3, .ref (b + 721)), (4, .int (nI (6 * t)))]) hx hb dL_law_1782 hl (by decide) rfl (fun ls hl => ?_)
  refine lv_aload_n hx hb dL_law_1784 rfl (lv_at hl 3 rfl) ?_
  refine lv_aload_n hx hb dL_law_1785 rfl (lv_at hl 1 rfl) ?_
  refine lv_iload hx hb dL_law_1786 (lv_at hl 5 rfl) ?_
  refine lv_iconst (v := 1) hx hb dL_law_1788 (by decide) ?_
  refine lv_iadd hx hb dL_law_1789 ?_
  refine lw_sld (v := xs (6 * t + 1)) C0 hX hbl hb1 hS (nI_add (6 * t) 1) (show 6 * t + 1 < L by omega) hL3 rfl dL_law_1790 ?_
  refine lv_aload_n hx hb dL_law_1791 rfl (lv_at hl 1 rfl) ?_
  refine lv_iload hx hb dL_law_1792 (lv_at hl 5 rfl) ?_
  refine lv_iconst (v := 2) hx hb dL_law_1794 (by decide) ?_
  refine lv_iadd hx hb dL_law_1795 ?_
  refine lw_sld (v := xs (6 * t + 2)) C0 hX hbl hb1 hS (nI_add (6 * t) 2) (show 6 * t + 2 < L by omega) hL3 rfl dL_law_1796 ?_
  refine qLM_i (As := [.int (xs (6 * t + 1)), .int (xs (6 * t + 2))]) (rest := []) C0 (c_X12_plan l h) (cwV 2 C0.2.2.2.2 (tbV mK_9_97 ⟨mK_9_98, mK_9_99, mK_1_11, mK_9_100⟩) rfl rfl rfl (by decide +kernel) ⟨Nat.le_of_ble_eq_true rfl, Nat.le_of_ble_eq_true rfl⟩) hR hT hS rfl hl.1 rfl (Nat.le_of_ble_eq_true rfl) dL_law_1797 ⟨by omega, by omega⟩ (fun r4 S5 H locs h hR hS => ?_)
  refine lv_istore (lv' := [(6, .int r4), (5, .int r1), (0, .ref b0), (1, .ref (b + adC 0 0)), (2, .ref (b + 709 + adM 0 0)), (3, .ref (b + 721)), (4, .int (nI (6 * t)))]) hx hb dL_law_1800 hl (by decide) rfl (fun ls hl => ?_)
  refine lv_aload_n hx hb dL_law_1802 rfl (lv_at hl 4 rfl) ?_
  refine qLM_i (As := []) (rest := []) C0 (c_X12_thrown l h) (cwV 0 C0.2.2.2.2 (tbV mK_7_64 ⟨mK_7_65, mK_7_66, mK_1_11, mK_7_67⟩) rfl rfl rfl (by decide +kernel) ⟨Nat.le_of_ble_eq_true rfl, Nat.le_of_ble_eq_true rfl⟩) hR hT hS rfl hl.1 rfl (Nat.le_of_ble_eq_true rfl) dL_law_1803 ⟨by omega, by omega⟩ (fun r6 S7 H locs h hR hS => ?_)
  refine lv_iload hx hb dL_law_1806 (lv_at hl 1 rfl) ?_
  refine lv_icmp_eq (tgt := 1813) hx hb dL_law_1808 (by decide) (fun c8 => ?_) (fun c8 => ?_)
  · have h := h.1 c8
    refine lv_iload hx hb dL_law_1813 (lv_at hl 1 rfl) ?_
    refine lv_if_ne (tgt := 1830) hx hb dL_law_1815 (by decide) (fun c9 => ?_) (fun c9 => ?_)
    · have h := h.1 c9
      refine lv_goto (tgt := 2858) hx hb dL_law_1830 (by decide) ?_
      exact W.widen (k := cells + 6) (n := slots + 36) (by omega) (by omega) (kk S2 S7 o3 H locs _ h hR hS (lv_sub hl [2, 3, 4, 5, 6] rfl))
    · have h := h.2 c9
      refine lv_aload_n hx hb dL_law_1818 rfl (lv_at hl 5 rfl) ?_
      refine lv_iconst (v := 0) hx hb dL_law_1819 (by decide) ?_
      refine lw_out C0 hR dL_law_1820 ?_
      refine lv_iload hx hb dL_law_1821 (lv_at hl 0 rfl) ?_
      refine lv_i2l (v := r4.toInt64) hx hb dL_law_1823 rfl ?_
      refine W.lcmp hx hb dL_law_1824 ?_
      refine lv_if_eq (tgt := 1830) hx hb dL_law_1825 (by decide) (fun c10 => ?_) (fun c10 => ?_)
      · have h := h.1 ((lg_cmp_eq _ _).mp c10)
        refine lv_goto (tgt := 2858) hx hb dL_law_1830 (by decide) ?_
        exact W.widen (k := cells + 6) (n := slots + 36) (by omega) (by omega) (kk S2 S7 o3 H locs _ h hR hS (lv_sub hl [2, 3, 4, 5, 6] rfl))
      · have h := h.2 (fun q9 => c10 ((lg_cmp_eq _ _).mpr q9))
        exact h.elim
  · have h := h.2 c8
    exact h.elim
def CS_27 (a1 a2 a3 a4 a5 : Int32) (Sc Sm : sSt) (o : Int64) (K : sSt → sSt → Int64 → Prop) : Prop := FW_may a1 a2 Sc o (fun r1 S2 o3 => F_X12_may a1 a2 Sm (fun r4 S5 => F_X12_thrown S5 (fun r6 S7 => ((r6 = r1 → ((¬ r1 = 0 → K S2 S7 o3) ∧ (r1 = 0 → ((r4 = 0 → ((o3 = (0 : Int64) → K S2 S7 o3) ∧ (¬ o3 = (0 : Int64) → False))) ∧ (¬ r4 = 0 → ((o3 = (1 : Int64) → K S2 S7 o3) ∧ (¬ o3 = (1 : Int64) → False))))))) ∧ (¬ r6 = r1 → False)))))
set_option maxHeartbeats 4000000 in
set_option maxRecDepth 100000 in
theorem LW_27 {p : Program} {l : Launch} {e : Env} {s : State} {m : MethodId} {args : Array Value} {below : List Frame} {meth : Method} {c : Code} {Q : State → Prop} {D : va_G} {cy : Nat → ClassId} {b b0 L : Nat} {tx : TX} {xs : Nat → Int32} (hl0 : l.stackTraces = false) (C0 : CallFix p m c cL_law 7 s args TB RL) (hT : TxR tx s) (hN : TxN s) (hX : va_X b0 L xs s s.heap) (hbl : b0 < s.heap.size) (hb1 : b = s.heap.size) (hL3 : L ≤ 3072) (t : Nat) (ht : 6 * t + 6 ≤ L) {Sc Sm : sSt} {o : Int64} {K : sSt → sSt → Int64 → Prop} {H : Heap} {locs : List Loc} {ls : Array Slot} {cells slots : Nat} (hc1 : cells + 6 ≤ room_1.cells) (hc2 : slots + 36 ≤ room_1.slots) (h : CS_27 (xs (6 * t + 1)) (xs (6 * t + 2)) (xs (6 * t + 3)) (xs (6 * t + 4)) (xs (6 * t + 5)) Sc Sm o K) (hR : RelL D cy b tx Sc Sm o s H) (hS : va_S (bA b) s.heap H locs) (hl : lv_has ls 7 [(0, .ref b0), (1, .ref (b + adC 0 0)), (2, .ref (b + 709 + adM 0 0)), (3, .ref (b + 721)), (4, .int (nI (6 * t)))])
    (kk : ∀ (S1 S2 : sSt) (o1 : Int64) (H1 : Heap) (locs1 : List Loc) (ls1 : Array Slot), K S1 S2 o1 → RelL D cy b tx S1 S2 o1 s H1 → va_S (bA b) s.heap H1 locs1 → lv_has ls1 7 [(0, .ref b0), (1, .ref (b + adC 0 0)), (2, .ref (b + 709 + adM 0 0)), (3, .ref (b + 721)), (4, .int (nI (6 * t)))] → W p l e room_1 s m args below meth c H1 locs1 (cells + 6) (slots + 36) Q (F0 m 2858 ls1 [])) : W p l e room_1 s m args below meth c H locs cells slots Q (F0 m 1833 ls []) := by
  have hx := C0.1
  have hb := C0.2.1
  unfold CS_27 at h
  refine lv_aload_n hx hb dL_law_1833 rfl (lv_at hl 1 rfl) ?_
  refine lv_aload_n hx hb dL_law_1834 rfl (lv_at hl 0 rfl) ?_
  refine lv_iload hx hb dL_law_1835 (lv_at hl 4 rfl) ?_
  refine lv_iconst (v := 1) hx hb dL_law_1837 (by decide) ?_
  refine lv_iadd hx hb dL_law_1838 ?_
  refine lw_sld (v := xs (6 * t + 1)) C0 hX hbl hb1 hS (nI_add (6 * t) 1) (show 6 * t + 1 < L by omega) hL3 rfl dL_law_1839 ?_
  refine lv_aload_n hx hb dL_law_1840 rfl (lv_at hl 0 rfl) ?_
  refine lv_iload hx hb dL_law_1841 (lv_at hl 4 rfl) ?_
  refine lv_iconst (v := 2) hx hb dL_law_1843 (by decide) ?_
  refine lv_iadd hx hb dL_law_1844 ?_
  refine lw_sld (v := xs (6 * t + 2)) C0 hX hbl hb1 hS (nI_add (6 * t) 2) (show 6 * t + 2 < L by omega) hL3 rfl dL_law_1845 ?_
  refine lv_aload_n hx hb dL_law_1846 rfl (lv_at hl 3 rfl) ?_
  refine qLW (As := [.ref (b + adC 0 0), .int (xs (6 * t + 1)), .int (xs (6 * t + 2)), .ref (b + 721)]) (rest := []) C0 (cw_may l hl0 h) (vx_cwSW 4 C0.2.2.2.2 (tbSW mK_6_106 ⟨mK_6_107, mK_1_0, mK_6_108⟩) rfl rfl rfl (by decide +kernel) ⟨Nat.le_of_ble_eq_true rfl, Nat.le_of_ble_eq_true rfl⟩) hR hT hN hS rfl hl.1 rfl (Nat.le_of_ble_eq_true rfl) dL_law_1847 ⟨by omega, by omega⟩ (fun r1 S2 o3 H locs h hR hS => ?_)
  refine lv_istore (lv' := [(5, .int r1), (0, .ref b0), (1, .ref (b + adC 0 0)), (2, .ref (b + 709 + adM 0 0)), (3, .ref (b + 721)), (4, .int (nI (6 * t)))]) hx hb dL_law_1850 hl (by decide) rfl (fun ls hl => ?_)
  refine lv_aload_n hx hb dL_law_1852 rfl (lv_at hl 3 rfl) ?_
  refine lv_aload_n hx hb dL_law_1853 rfl (lv_at hl 1 rfl) ?_
  refine lv_iload hx hb dL_law_1854 (lv_at hl 5 rfl) ?_
  refine lv_iconst (v := 1) hx hb dL_law_1856 (by decide) ?_
  refine lv_iadd hx hb dL_law_1857 ?_
  refine lw_sld (v := xs (6 * t + 1)) C0 hX hbl hb1 hS (nI_add (6 * t) 1) (show 6 * t + 1 < L by omega) hL3 rfl dL_law_1858 ?_
  refine lv_aload_n hx hb dL_law_1859 rfl (lv_at hl 1 rfl) ?_
  refine lv_iload hx hb dL_law_1860 (lv_at hl 5 rfl) ?_
  refine lv_iconst (v := 2) hx hb dL_law_1862 (by decide) ?_
  refine lv_iadd hx hb dL_law_1863 ?_
  refine lw_sld (v := xs (6 * t + 2)) C0 hX hbl hb1 hS (nI_add (6 * t) 2) (show 6 * t + 2 < L by omega) hL3 rfl dL_law_1864 ?_
  refine qLM_i (As := [.int (xs (6 * t + 1)), .int (xs (6 * t + 2))]) (rest := []) C0 (c_X12_may l h) (cwV 2 C0.2.2.2.2 (tbV mK_9_101 ⟨mK_9_102, mK_9_103, mK_1_11, mK_9_104⟩) rfl rfl rfl (by decide +kernel) ⟨Nat.le_of_ble_eq_true rfl, Nat.le_of_ble_eq_true rfl⟩) hR hT hS rfl hl.1 rfl (Nat.le_of_ble_eq_true rfl) dL_law_1865 ⟨by omega, by omega⟩ (fun r4 S5 H locs h hR hS => ?_)
  refine lv_istore (lv' := [(6, .int r4), (5, .int r1), (0, .ref b0), (1, .ref (b + adC 0 0)), (2, .ref (b + 709 + adM 0 0)), (3, .ref (b + 721)), (4, .int (nI (6 * t)))]) hx hb dL_law_1868 hl (by decide) rfl (fun ls hl => ?_)
  refine lv_aload_n hx hb dL_law_1870 rfl (lv_at hl 4 rfl) ?_
  refine qLM_i (As := []) (rest := []) C0 (c_X12_thrown l h) (cwV 0 C0.2.2.2.2 (tbV mK_7_64 ⟨mK_7_65, mK_7_66, mK_1_11, mK_7_67⟩) rfl rfl rfl (by decide +kernel) ⟨Nat.le_of_ble_eq_true rfl, Nat.le_of_ble_eq_true rfl⟩) hR hT hS rfl hl.1 rfl (Nat.le_of_ble_eq_true rfl) dL_law_1871 ⟨by omega, by omega⟩ (fun r6 S7 H locs h hR hS => ?_)
  refine lv_iload hx hb dL_law_1874 (lv_at hl 1 rfl) ?_
  refine lv_icmp_eq (tgt := 1881) hx hb dL_law_1876 (by decide) (fun c8 => ?_) (fun c8 => ?_)
  · have h := h.1 c8
    refine lv_iload hx hb dL_law_1881 (lv_at hl 1 rfl) ?_
    refine lv_if_ne (tgt := 1905) hx hb dL_law_1883 (by decide) (fun c9 => ?_) (fun c9 => ?_)
    · have h := h.1 c9
      refine lv_goto (tgt := 2858) hx hb dL_law_1905 (by decide) ?_
      exact W.widen (k := cells + 6) (n := slots + 36) (by omega) (by omega) (kk S2 S7 o3 H locs _ h hR hS (lv_sub hl [2, 3, 4, 5, 6] rfl))
    · have h := h.2 c9
      refine lv_aload_n hx hb dL_law_1886 rfl (lv_at hl 5 rfl) ?_
      refine lv_iconst (v := 0) hx hb dL_law_1887 (by decide) ?_
      refine lw_out C0 hR dL_law_1888 ?_
      refine lv_iload hx hb dL_law_1889 (lv_at hl 0 rfl) ?_
      refine lv_if_eq (tgt := 1898) hx hb dL_law_1891 (by decide) (fun c10 => ?_) (fun c10 => ?_)
      · have h := h.1 c10
        refine lv_lconst (v := 0) hx hb dL_law_1898 rfl ?_
        refine W.lcmp hx hb dL_law_1899 ?_
        refine lv_if_eq (tgt := 1905) hx hb dL_law_1900 (by decide) (fun c11 => ?_) (fun c11 => ?_)
        · have h := h.1 ((lg_cmp_eq _ _).mp c11)
          refine lv_goto (tgt := 2858) hx hb dL_law_1905 (by decide) ?_
          exact W.widen (k := cells + 6) (n := slots + 36) (by omega) (by omega) (kk S2 S7 o3 H locs _ h hR hS (lv_sub hl [2, 3, 4, 5, 6] rfl))
        · have h := h.2 (fun q9 => c11 ((lg_cmp_eq _ _).mpr q9))
          exact h.elim
      · have h := h.2 c10
        refine lv_lconst (v := 1) hx hb dL_law_1894 rfl ?_
        refine lv_goto (tgt := 1899) hx hb dL_law_1895 (by decide) ?_
        refine W.lcmp hx hb dL_law_1899 ?_
        refine lv_if_eq (tgt := 1905) hx hb dL_law_1900 (by decide) (fun c12 => ?_) (fun c12 => ?_)
        · have h := h.1 ((lg_cmp_eq _ _).mp c12)
          refine lv_goto (tgt := 2858) hx hb dL_law_1905 (by decide) ?_
          exact W.widen (k := cells + 6) (n := slots + 36) (by omega) (by omega) (kk S2 S7 o3 H locs _ h hR hS (lv_sub hl [2, 3, 4, 5, 6] rfl))
        · have h := h.2 (fun q9 => c12 ((lg_cmp_eq _ _).mpr q9))
          exact h.elim
  · have h := h.2 c8
    exact h.elim
def CS_28 (a1 a2 a3 a4 a5 : Int32) (Sc Sm : sSt) (o : Int64) (K : sSt → sSt → Int64 → Prop) : Prop := FW_next a1 a2 Sc o (fun r1 S2 o3 => F_X12_next a1 a2 Sm (fun r4 S5 => F_X12_thrown S5 (fun r6 S7 => ((r6 = r1 → ((¬ r1 = 0 → K S2 S7 o3) ∧ (r1 = 0 → ((o3 = r4.toInt64 → K S2 S7 o3) ∧ (¬ o3 = r4.toInt64 → False))))) ∧ (¬ r6 = r1 → False)))))
set_option maxHeartbeats 4000000 in
set_option maxRecDepth 100000 in
theorem LW_28 {p : Program} {l : Launch} {e : Env} {s : State} {m : MethodId} {args : Array Value} {below : List Frame} {meth : Method} {c : Code} {Q : State → Prop} {D : va_G} {cy : Nat → ClassId} {b b0 L : Nat} {tx : TX} {xs : Nat → Int32} (hl0 : l.stackTraces = false) (C0 : CallFix p m c cL_law 7 s args TB RL) (hT : TxR tx s) (hN : TxN s) (hX : va_X b0 L xs s s.heap) (hbl : b0 < s.heap.size) (hb1 : b = s.heap.size) (hL3 : L ≤ 3072) (t : Nat) (ht : 6 * t + 6 ≤ L) {Sc Sm : sSt} {o : Int64} {K : sSt → sSt → Int64 → Prop} {H : Heap} {locs : List Loc} {ls : Array Slot} {cells slots : Nat} (hc1 : cells + 6 ≤ room_1.cells) (hc2 : slots + 36 ≤ room_1.slots) (h : CS_28 (xs (6 * t + 1)) (xs (6 * t + 2)) (xs (6 * t + 3)) (xs (6 * t + 4)) (xs (6 * t + 5)) Sc Sm o K) (hR : RelL D cy b tx Sc Sm o s H) (hS : va_S (bA b) s.heap H locs) (hl : lv_has ls 7 [(0, .ref b0), (1, .ref (b + adC 0 0)), (2, .ref (b + 709 + adM 0 0)), (3, .ref (b + 721)), (4, .int (nI (6 * t)))])
    (kk : ∀ (S1 S2 : sSt) (o1 : Int64) (H1 : Heap) (locs1 : List Loc) (ls1 : Array Slot), K S1 S2 o1 → RelL D cy b tx S1 S2 o1 s H1 → va_S (bA b) s.heap H1 locs1 → lv_has ls1 7 [(0, .ref b0), (1, .ref (b + adC 0 0)), (2, .ref (b + 709 + adM 0 0)), (3, .ref (b + 721)), (4, .int (nI (6 * t)))] → W p l e room_1 s m args below meth c H1 locs1 (cells + 6) (slots + 36) Q (F0 m 2858 ls1 [])) : W p l e room_1 s m args below meth c H locs cells slots Q (F0 m 1908 ls []) := by
  have hx := C0.1
  have hb := C0.2.1
  unfold CS_28 at h
  refine lv_aload_n hx hb dL_law_1908 rfl (lv_at hl 1 rfl) ?_
  refine lv_aload_n hx hb dL_law_1909 rfl (lv_at hl 0 rfl) ?_
  refine lv_iload hx hb dL_law_1910 (lv_at hl 4 rfl) ?_
  refine lv_iconst (v := 1) hx hb dL_law_1912 (by decide) ?_
  refine lv_iadd hx hb dL_law_1913 ?_
  refine lw_sld (v := xs (6 * t + 1)) C0 hX hbl hb1 hS (nI_add (6 * t) 1) (show 6 * t + 1 < L by omega) hL3 rfl dL_law_1914 ?_
  refine lv_aload_n hx hb dL_law_1915 rfl (lv_at hl 0 rfl) ?_
  refine lv_iload hx hb dL_law_1916 (lv_at hl 4 rfl) ?_
  refine lv_iconst (v := 2) hx hb dL_law_1918 (by decide) ?_
  refine lv_iadd hx hb dL_law_1919 ?_
  refine lw_sld (v := xs (6 * t + 2)) C0 hX hbl hb1 hS (nI_add (6 * t) 2) (show 6 * t + 2 < L by omega) hL3 rfl dL_law_1920 ?_
  refine lv_aload_n hx hb dL_law_1921 rfl (lv_at hl 3 rfl) ?_
  refine qLW (As := [.ref (b + adC 0 0), .int (xs (6 * t + 1)), .int (xs (6 * t + 2)), .ref (b + 721)]) (rest := []) C0 (cw_next l hl0 h) (vx_cwSW 4 C0.2.2.2.2 (tbSW mK_6_114 ⟨mK_6_115, mK_1_0, mK_6_116⟩) rfl rfl rfl (by decide +kernel) ⟨Nat.le_of_ble_eq_true rfl, Nat.le_of_ble_eq_true rfl⟩) hR hT hN hS rfl hl.1 rfl (Nat.le_of_ble_eq_true rfl) dL_law_1922 ⟨by omega, by omega⟩ (fun r1 S2 o3 H locs h hR hS => ?_)
  refine lv_istore (lv' := [(5, .int r1), (0, .ref b0), (1, .ref (b + adC 0 0)), (2, .ref (b + 709 + adM 0 0)), (3, .ref (b + 721)), (4, .int (nI (6 * t)))]) hx hb dL_law_1925 hl (by decide) rfl (fun ls hl => ?_)
  refine lv_aload_n hx hb dL_law_1927 rfl (lv_at hl 3 rfl) ?_
  refine lv_aload_n hx hb dL_law_1928 rfl (lv_at hl 1 rfl) ?_
  refine lv_iload hx hb dL_law_1929 (lv_at hl 5 rfl) ?_
  refine lv_iconst (v := 1) hx hb dL_law_1931 (by decide) ?_
  refine lv_iadd hx hb dL_law_1932 ?_
  refine lw_sld (v := xs (6 * t + 1)) C0 hX hbl hb1 hS (nI_add (6 * t) 1) (show 6 * t + 1 < L by omega) hL3 rfl dL_law_1933 ?_
  refine lv_aload_n hx hb dL_law_1934 rfl (lv_at hl 1 rfl) ?_
  refine lv_iload hx hb dL_law_1935 (lv_at hl 5 rfl) ?_
  refine lv_iconst (v := 2) hx hb dL_law_1937 (by decide) ?_
  refine lv_iadd hx hb dL_law_1938 ?_
  refine lw_sld (v := xs (6 * t + 2)) C0 hX hbl hb1 hS (nI_add (6 * t) 2) (show 6 * t + 2 < L by omega) hL3 rfl dL_law_1939 ?_
  refine qLM_i (As := [.int (xs (6 * t + 1)), .int (xs (6 * t + 2))]) (rest := []) C0 (c_X12_next l h) (cwV 2 C0.2.2.2.2 (tbV mK_9_105 ⟨mK_9_106, mK_9_107, mK_1_11, mK_9_108⟩) rfl rfl rfl (by decide +kernel) ⟨Nat.le_of_ble_eq_true rfl, Nat.le_of_ble_eq_true rfl⟩) hR hT hS rfl hl.1 rfl (Nat.le_of_ble_eq_true rfl) dL_law_1940 ⟨by omega, by omega⟩ (fun r4 S5 H locs h hR hS => ?_)
  refine lv_istore (lv' := [(6, .int r4), (5, .int r1), (0, .ref b0), (1, .ref (b + adC 0 0)), (2, .ref (b + 709 + adM 0 0)), (3, .ref (b + 721)), (4, .int (nI (6 * t)))]) hx hb dL_law_1943 hl (by decide) rfl (fun ls hl => ?_)
  refine lv_aload_n hx hb dL_law_1945 rfl (lv_at hl 4 rfl) ?_
  refine qLM_i (As := []) (rest := []) C0 (c_X12_thrown l h) (cwV 0 C0.2.2.2.2 (tbV mK_7_64 ⟨mK_7_65, mK_7_66, mK_1_11, mK_7_67⟩) rfl rfl rfl (by decide +kernel) ⟨Nat.le_of_ble_eq_true rfl, Nat.le_of_ble_eq_true rfl⟩) hR hT hS rfl hl.1 rfl (Nat.le_of_ble_eq_true rfl) dL_law_1946 ⟨by omega, by omega⟩ (fun r6 S7 H locs h hR hS => ?_)
  refine lv_iload hx hb dL_law_1949 (lv_at hl 1 rfl) ?_
  refine lv_icmp_eq (tgt := 1956) hx hb dL_law_1951 (by decide) (fun c8 => ?_) (fun c8 => ?_)
  · have h := h.1 c8
    refine lv_iload hx hb dL_law_1956 (lv_at hl 1 rfl) ?_
    refine lv_if_ne (tgt := 1973) hx hb dL_law_1958 (by decide) (fun c9 => ?_) (fun c9 => ?_)
    · have h := h.1 c9
      refine lv_goto (tgt := 2858) hx hb dL_law_1973 (by decide) ?_
      exact W.widen (k := cells + 6) (n := slots + 36) (by omega) (by omega) (kk S2 S7 o3 H locs _ h hR hS (lv_sub hl [2, 3, 4, 5, 6] rfl))
    · have h := h.2 c9
      refine lv_aload_n hx hb dL_law_1961 rfl (lv_at hl 5 rfl) ?_
      refine lv_iconst (v := 0) hx hb dL_law_1962 (by decide) ?_
      refine lw_out C0 hR dL_law_1963 ?_
      refine lv_iload hx hb dL_law_1964 (lv_at hl 0 rfl) ?_
      refine lv_i2l (v := r4.toInt64) hx hb dL_law_1966 rfl ?_
      refine W.lcmp hx hb dL_law_1967 ?_
      refine lv_if_eq (tgt := 1973) hx hb dL_law_1968 (by decide) (fun c10 => ?_) (fun c10 => ?_)
      · have h := h.1 ((lg_cmp_eq _ _).mp c10)
        refine lv_goto (tgt := 2858) hx hb dL_law_1973 (by decide) ?_
        exact W.widen (k := cells + 6) (n := slots + 36) (by omega) (by omega) (kk S2 S7 o3 H locs _ h hR hS (lv_sub hl [2, 3, 4, 5, 6] rfl))
      · have h := h.2 (fun q9 => c10 ((lg_cmp_eq _ _).mpr q9))
        exact h.elim
  · have h := h.2 c8
    exact h.elim
def CS_29 (a1 a2 a3 a4 a5 : Int32) (Sc Sm : sSt) (o : Int64) (K : sSt → sSt → Int64 → Prop) : Prop := FW_bar a1 a2 Sc o (fun r1 S2 o3 => F_X12_bar a1 a2 Sm (fun r4 S5 => F_X12_thrown S5 (fun r6 S7 => ((r6 = r1 → ((¬ r1 = 0 → K S2 S7 o3) ∧ (r1 = 0 → ((o3 = r4.toInt64 → K S2 S7 o3) ∧ (¬ o3 = r4.toInt64 → False))))) ∧ (¬ r6 = r1 → False)))))
set_option maxHeartbeats 4000000 in
set_option maxRecDepth 100000 in
theorem LW_29 {p : Program} {l : Launch} {e : Env} {s : State} {m : MethodId} {args : Array Value} {below : List Frame} {meth : Method} {c : Code} {Q : State → Prop} {D : va_G} {cy : Nat → ClassId} {b b0 L : Nat} {tx : TX} {xs : Nat → Int32} (hl0 : l.stackTraces = false) (C0 : CallFix p m c cL_law 7 s args TB RL) (hT : TxR tx s) (hN : TxN s) (hX : va_X b0 L xs s s.heap) (hbl : b0 < s.heap.size) (hb1 : b = s.heap.size) (hL3 : L ≤ 3072) (t : Nat) (ht : 6 * t + 6 ≤ L) {Sc Sm : sSt} {o : Int64} {K : sSt → sSt → Int64 → Prop} {H : Heap} {locs : List Loc} {ls : Array Slot} {cells slots : Nat} (hc1 : cells + 6 ≤ room_1.cells) (hc2 : slots + 36 ≤ room_1.slots) (h : CS_29 (xs (6 * t + 1)) (xs (6 * t + 2)) (xs (6 * t + 3)) (xs (6 * t + 4)) (xs (6 * t + 5)) Sc Sm o K) (hR : RelL D cy b tx Sc Sm o s H) (hS : va_S (bA b) s.heap H locs) (hl : lv_has ls 7 [(0, .ref b0), (1, .ref (b + adC 0 0)), (2, .ref (b + 709 + adM 0 0)), (3, .ref (b + 721)), (4, .int (nI (6 * t)))])
    (kk : ∀ (S1 S2 : sSt) (o1 : Int64) (H1 : Heap) (locs1 : List Loc) (ls1 : Array Slot), K S1 S2 o1 → RelL D cy b tx S1 S2 o1 s H1 → va_S (bA b) s.heap H1 locs1 → lv_has ls1 7 [(0, .ref b0), (1, .ref (b + adC 0 0)), (2, .ref (b + 709 + adM 0 0)), (3, .ref (b + 721)), (4, .int (nI (6 * t)))] → W p l e room_1 s m args below meth c H1 locs1 (cells + 6) (slots + 36) Q (F0 m 2858 ls1 [])) : W p l e room_1 s m args below meth c H locs cells slots Q (F0 m 1976 ls []) := by
  have hx := C0.1
  have hb := C0.2.1
  unfold CS_29 at h
  refine lv_aload_n hx hb dL_law_1976 rfl (lv_at hl 1 rfl) ?_
  refine lv_aload_n hx hb dL_law_1977 rfl (lv_at hl 0 rfl) ?_
  refine lv_iload hx hb dL_law_1978 (lv_at hl 4 rfl) ?_
  refine lv_iconst (v := 1) hx hb dL_law_1980 (by decide) ?_
  refine lv_iadd hx hb dL_law_1981 ?_
  refine lw_sld (v := xs (6 * t + 1)) C0 hX hbl hb1 hS (nI_add (6 * t) 1) (show 6 * t + 1 < L by omega) hL3 rfl dL_law_1982 ?_
  refine lv_aload_n hx hb dL_law_1983 rfl (lv_at hl 0 rfl) ?_
  refine lv_iload hx hb dL_law_1984 (lv_at hl 4 rfl) ?_
  refine lv_iconst (v := 2) hx hb dL_law_1986 (by decide) ?_
  refine lv_iadd hx hb dL_law_1987 ?_
  refine lw_sld (v := xs (6 * t + 2)) C0 hX hbl hb1 hS (nI_add (6 * t) 2) (show 6 * t + 2 < L by omega) hL3 rfl dL_law_1988 ?_
  refine lv_aload_n hx hb dL_law_1989 rfl (lv_at hl 3 rfl) ?_
  refine qLW (As := [.ref (b + adC 0 0), .int (xs (6 * t + 1)), .int (xs (6 * t + 2)), .ref (b + 721)]) (rest := []) C0 (cw_bar l hl0 h) (vx_cwSW 4 C0.2.2.2.2 (tbSW mK_6_125 ⟨mK_6_126, mK_1_0, mK_6_127⟩) rfl rfl rfl (by decide +kernel) ⟨Nat.le_of_ble_eq_true rfl, Nat.le_of_ble_eq_true rfl⟩) hR hT hN hS rfl hl.1 rfl (Nat.le_of_ble_eq_true rfl) dL_law_1990 ⟨by omega, by omega⟩ (fun r1 S2 o3 H locs h hR hS => ?_)
  refine lv_istore (lv' := [(5, .int r1), (0, .ref b0), (1, .ref (b + adC 0 0)), (2, .ref (b + 709 + adM 0 0)), (3, .ref (b + 721)), (4, .int (nI (6 * t)))]) hx hb dL_law_1993 hl (by decide) rfl (fun ls hl => ?_)
  refine lv_aload_n hx hb dL_law_1995 rfl (lv_at hl 3 rfl) ?_
  refine lv_aload_n hx hb dL_law_1996 rfl (lv_at hl 1 rfl) ?_
  refine lv_iload hx hb dL_law_1997 (lv_at hl 5 rfl) ?_
  refine lv_iconst (v := 1) hx hb dL_law_1999 (by decide) ?_
  refine lv_iadd hx hb dL_law_2000 ?_
  refine lw_sld (v := xs (6 * t + 1)) C0 hX hbl hb1 hS (nI_add (6 * t) 1) (show 6 * t + 1 < L by omega) hL3 rfl dL_law_2001 ?_
  refine lv_aload_n hx hb dL_law_2002 rfl (lv_at hl 1 rfl) ?_
  refine lv_iload hx hb dL_law_2003 (lv_at hl 5 rfl) ?_
  refine lv_iconst (v := 2) hx hb dL_law_2005 (by decide) ?_
  refine lv_iadd hx hb dL_law_2006 ?_
  refine lw_sld (v := xs (6 * t + 2)) C0 hX hbl hb1 hS (nI_add (6 * t) 2) (show 6 * t + 2 < L by omega) hL3 rfl dL_law_2007 ?_
  refine qLM_i (As := [.int (xs (6 * t + 1)), .int (xs (6 * t + 2))]) (rest := []) C0 (c_X12_bar l h) (cwV 2 C0.2.2.2.2 (tbV mK_9_113 ⟨mK_9_114, mK_9_115, mK_1_11, mK_9_116⟩) rfl rfl rfl (by decide +kernel) ⟨Nat.le_of_ble_eq_true rfl, Nat.le_of_ble_eq_true rfl⟩) hR hT hS rfl hl.1 rfl (Nat.le_of_ble_eq_true rfl) dL_law_2008 ⟨by omega, by omega⟩ (fun r4 S5 H locs h hR hS => ?_)
  refine lv_istore (lv' := [(6, .int r4), (5, .int r1), (0, .ref b0), (1, .ref (b + adC 0 0)), (2, .ref (b + 709 + adM 0 0)), (3, .ref (b + 721)), (4, .int (nI (6 * t)))]) hx hb dL_law_2011 hl (by decide) rfl (fun ls hl => ?_)
  refine lv_aload_n hx hb dL_law_2013 rfl (lv_at hl 4 rfl) ?_
  refine qLM_i (As := []) (rest := []) C0 (c_X12_thrown l h) (cwV 0 C0.2.2.2.2 (tbV mK_7_64 ⟨mK_7_65, mK_7_66, mK_1_11, mK_7_67⟩) rfl rfl rfl (by decide +kernel) ⟨Nat.le_of_ble_eq_true rfl, Nat.le_of_ble_eq_true rfl⟩) hR hT hS rfl hl.1 rfl (Nat.le_of_ble_eq_true rfl) dL_law_2014 ⟨by omega, by omega⟩ (fun r6 S7 H locs h hR hS => ?_)
  refine lv_iload hx hb dL_law_2017 (lv_at hl 1 rfl) ?_
  refine lv_icmp_eq (tgt := 2024) hx hb dL_law_2019 (by decide) (fun c8 => ?_) (fun c8 => ?_)
  · have h := h.1 c8
    refine lv_iload hx hb dL_law_2024 (lv_at hl 1 rfl) ?_
    refine lv_if_ne (tgt := 2041) hx hb dL_law_2026 (by decide) (fun c9 => ?_) (fun c9 => ?_)
    · have h := h.1 c9
      refine lv_goto (tgt := 2858) hx hb dL_law_2041 (by decide) ?_
      exact W.widen (k := cells + 6) (n := slots + 36) (by omega) (by omega) (kk S2 S7 o3 H locs _ h hR hS (lv_sub hl [2, 3, 4, 5, 6] rfl))
    · have h := h.2 c9
      refine lv_aload_n hx hb dL_law_2029 rfl (lv_at hl 5 rfl) ?_
      refine lv_iconst (v := 0) hx hb dL_law_2030 (by decide) ?_
      refine lw_out C0 hR dL_law_2031 ?_
      refine lv_iload hx hb dL_law_2032 (lv_at hl 0 rfl) ?_
      refine lv_i2l (v := r4.toInt64) hx hb dL_law_2034 rfl ?_
      refine W.lcmp hx hb dL_law_2035 ?_
      refine lv_if_eq (tgt := 2041) hx hb dL_law_2036 (by decide) (fun c10 => ?_) (fun c10 => ?_)
      · have h := h.1 ((lg_cmp_eq _ _).mp c10)
        refine lv_goto (tgt := 2858) hx hb dL_law_2041 (by decide) ?_
        exact W.widen (k := cells + 6) (n := slots + 36) (by omega) (by omega) (kk S2 S7 o3 H locs _ h hR hS (lv_sub hl [2, 3, 4, 5, 6] rfl))
      · have h := h.2 (fun q9 => c10 ((lg_cmp_eq _ _).mpr q9))
        exact h.elim
  · have h := h.2 c8
    exact h.elim
def CS_30 (a1 a2 a3 a4 a5 : Int32) (Sc Sm : sSt) (o : Int64) (K : sSt → sSt → Int64 → Prop) : Prop := FW_race a1 a2 Sc o (fun r1 S2 o3 => F_X12_race a1 a2 Sm (fun r4 S5 => F_X12_thrown S5 (fun r6 S7 => ((r6 = r1 → ((¬ r1 = 0 → K S2 S7 o3) ∧ (r1 = 0 → ((o3 = r4.toInt64 → K S2 S7 o3) ∧ (¬ o3 = r4.toInt64 → False))))) ∧ (¬ r6 = r1 → False)))))
set_option maxHeartbeats 4000000 in
set_option maxRecDepth 100000 in
theorem LW_30 {p : Program} {l : Launch} {e : Env} {s : State} {m : MethodId} {args : Array Value} {below : List Frame} {meth : Method} {c : Code} {Q : State → Prop} {D : va_G} {cy : Nat → ClassId} {b b0 L : Nat} {tx : TX} {xs : Nat → Int32} (hl0 : l.stackTraces = false) (C0 : CallFix p m c cL_law 7 s args TB RL) (hT : TxR tx s) (hN : TxN s) (hX : va_X b0 L xs s s.heap) (hbl : b0 < s.heap.size) (hb1 : b = s.heap.size) (hL3 : L ≤ 3072) (t : Nat) (ht : 6 * t + 6 ≤ L) {Sc Sm : sSt} {o : Int64} {K : sSt → sSt → Int64 → Prop} {H : Heap} {locs : List Loc} {ls : Array Slot} {cells slots : Nat} (hc1 : cells + 6 ≤ room_1.cells) (hc2 : slots + 36 ≤ room_1.slots) (h : CS_30 (xs (6 * t + 1)) (xs (6 * t + 2)) (xs (6 * t + 3)) (xs (6 * t + 4)) (xs (6 * t + 5)) Sc Sm o K) (hR : RelL D cy b tx Sc Sm o s H) (hS : va_S (bA b) s.heap H locs) (hl : lv_has ls 7 [(0, .ref b0), (1, .ref (b + adC 0 0)), (2, .ref (b + 709 + adM 0 0)), (3, .ref (b + 721)), (4, .int (nI (6 * t)))])
    (kk : ∀ (S1 S2 : sSt) (o1 : Int64) (H1 : Heap) (locs1 : List Loc) (ls1 : Array Slot), K S1 S2 o1 → RelL D cy b tx S1 S2 o1 s H1 → va_S (bA b) s.heap H1 locs1 → lv_has ls1 7 [(0, .ref b0), (1, .ref (b + adC 0 0)), (2, .ref (b + 709 + adM 0 0)), (3, .ref (b + 721)), (4, .int (nI (6 * t)))] → W p l e room_1 s m args below meth c H1 locs1 (cells + 6) (slots + 36) Q (F0 m 2858 ls1 [])) : W p l e room_1 s m args below meth c H locs cells slots Q (F0 m 2044 ls []) := by
  have hx := C0.1
  have hb := C0.2.1
  unfold CS_30 at h
  refine lv_aload_n hx hb dL_law_2044 rfl (lv_at hl 1 rfl) ?_
  refine lv_aload_n hx hb dL_law_2045 rfl (lv_at hl 0 rfl) ?_
  refine lv_iload hx hb dL_law_2046 (lv_at hl 4 rfl) ?_
  refine lv_iconst (v := 1) hx hb dL_law_2048 (by decide) ?_
  refine lv_iadd hx hb dL_law_2049 ?_
  refine lw_sld (v := xs (6 * t + 1)) C0 hX hbl hb1 hS (nI_add (6 * t) 1) (show 6 * t + 1 < L by omega) hL3 rfl dL_law_2050 ?_
  refine lv_aload_n hx hb dL_law_2051 rfl (lv_at hl 0 rfl) ?_
  refine lv_iload hx hb dL_law_2052 (lv_at hl 4 rfl) ?_
  refine lv_iconst (v := 2) hx hb dL_law_2054 (by decide) ?_
  refine lv_iadd hx hb dL_law_2055 ?_
  refine lw_sld (v := xs (6 * t + 2)) C0 hX hbl hb1 hS (nI_add (6 * t) 2) (show 6 * t + 2 < L by omega) hL3 rfl dL_law_2056 ?_
  refine lv_aload_n hx hb dL_law_2057 rfl (lv_at hl 3 rfl) ?_
  refine qLW (As := [.ref (b + adC 0 0), .int (xs (6 * t + 1)), .int (xs (6 * t + 2)), .ref (b + 721)]) (rest := []) C0 (cw_race l hl0 h) (vx_cwSW 4 C0.2.2.2.2 (tbSW mK_6_139 ⟨mK_6_140, mK_1_0, mK_6_141⟩) rfl rfl rfl (by decide +kernel) ⟨Nat.le_of_ble_eq_true rfl, Nat.le_of_ble_eq_true rfl⟩) hR hT hN hS rfl hl.1 rfl (Nat.le_of_ble_eq_true rfl) dL_law_2058 ⟨by omega, by omega⟩ (fun r1 S2 o3 H locs h hR hS => ?_)
  refine lv_istore (lv' := [(5, .int r1), (0, .ref b0), (1, .ref (b + adC 0 0)), (2, .ref (b + 709 + adM 0 0)), (3, .ref (b + 721)), (4, .int (nI (6 * t)))]) hx hb dL_law_2061 hl (by decide) rfl (fun ls hl => ?_)
  refine lv_aload_n hx hb dL_law_2063 rfl (lv_at hl 3 rfl) ?_
  refine lv_aload_n hx hb dL_law_2064 rfl (lv_at hl 1 rfl) ?_
  refine lv_iload hx hb dL_law_2065 (lv_at hl 5 rfl) ?_
  refine lv_iconst (v := 1) hx hb dL_law_2067 (by decide) ?_
  refine lv_iadd hx hb dL_law_2068 ?_
  refine lw_sld (v := xs (6 * t + 1)) C0 hX hbl hb1 hS (nI_add (6 * t) 1) (show 6 * t + 1 < L by omega) hL3 rfl dL_law_2069 ?_
  refine lv_aload_n hx hb dL_law_2070 rfl (lv_at hl 1 rfl) ?_
  refine lv_iload hx hb dL_law_2071 (lv_at hl 5 rfl) ?_
  refine lv_iconst (v := 2) hx hb dL_law_2073 (by decide) ?_
  refine lv_iadd hx hb dL_law_2074 ?_
  refine lw_sld (v := xs (6 * t + 2)) C0 hX hbl hb1 hS (nI_add (6 * t) 2) (show 6 * t + 2 < L by omega) hL3 rfl dL_law_2075 ?_
  refine qLM_i (As := [.int (xs (6 * t + 1)), .int (xs (6 * t + 2))]) (rest := []) C0 (c_X12_race l h) (cwV 2 C0.2.2.2.2 (tbV mK_9_117 ⟨mK_9_118, mK_9_119, mK_1_11, mK_9_120⟩) rfl rfl rfl (by decide +kernel) ⟨Nat.le_of_ble_eq_true rfl, Nat.le_of_ble_eq_true rfl⟩) hR hT hS rfl hl.1 rfl (Nat.le_of_ble_eq_true rfl) dL_law_2076 ⟨by omega, by omega⟩ (fun r4 S5 H locs h hR hS => ?_)
  refine lv_istore (lv' := [(6, .int r4), (5, .int r1), (0, .ref b0), (1, .ref (b + adC 0 0)), (2, .ref (b + 709 + adM 0 0)), (3, .ref (b + 721)), (4, .int (nI (6 * t)))]) hx hb dL_law_2079 hl (by decide) rfl (fun ls hl => ?_)
  refine lv_aload_n hx hb dL_law_2081 rfl (lv_at hl 4 rfl) ?_
  refine qLM_i (As := []) (rest := []) C0 (c_X12_thrown l h) (cwV 0 C0.2.2.2.2 (tbV mK_7_64 ⟨mK_7_65, mK_7_66, mK_1_11, mK_7_67⟩) rfl rfl rfl (by decide +kernel) ⟨Nat.le_of_ble_eq_true rfl, Nat.le_of_ble_eq_true rfl⟩) hR hT hS rfl hl.1 rfl (Nat.le_of_ble_eq_true rfl) dL_law_2082 ⟨by omega, by omega⟩ (fun r6 S7 H locs h hR hS => ?_)
  refine lv_iload hx hb dL_law_2085 (lv_at hl 1 rfl) ?_
  refine lv_icmp_eq (tgt := 2092) hx hb dL_law_2087 (by decide) (fun c8 => ?_) (fun c8 => ?_)
  · have h := h.1 c8
    refine lv_iload hx hb dL_law_2092 (lv_at hl 1 rfl) ?_
    refine lv_if_ne (tgt := 2109) hx hb dL_law_2094 (by decide) (fun c9 => ?_) (fun c9 => ?_)
    · have h := h.1 c9
      refine lv_goto (tgt := 2858) hx hb dL_law_2109 (by decide) ?_
      exact W.widen (k := cells + 6) (n := slots + 36) (by omega) (by omega) (kk S2 S7 o3 H locs _ h hR hS (lv_sub hl [2, 3, 4, 5, 6] rfl))
    · have h := h.2 c9
      refine lv_aload_n hx hb dL_law_2097 rfl (lv_at hl 5 rfl) ?_
      refine lv_iconst (v := 0) hx hb dL_law_2098 (by decide) ?_
      refine lw_out C0 hR dL_law_2099 ?_
      refine lv_iload hx hb dL_law_2100 (lv_at hl 0 rfl) ?_
      refine lv_i2l (v := r4.toInt64) hx hb dL_law_2102 rfl ?_
      refine W.lcmp hx hb dL_law_2103 ?_
      refine lv_if_eq (tgt := 2109) hx hb dL_law_2104 (by decide) (fun c10 => ?_) (fun c10 => ?_)
      · have h := h.1 ((lg_cmp_eq _ _).mp c10)
        refine lv_goto (tgt := 2858) hx hb dL_law_2109 (by decide) ?_
        exact W.widen (k := cells + 6) (n := slots + 36) (by omega) (by omega) (kk S2 S7 o3 H locs _ h hR hS (lv_sub hl [2, 3, 4, 5, 6] rfl))
      · have h := h.2 (fun q9 => c10 ((lg_cmp_eq _ _).mpr q9))
        exact h.elim
  · have h := h.2 c8
    exact h.elim
def CS_31 (a1 a2 a3 a4 a5 : Int32) (Sc Sm : sSt) (o : Int64) (K : sSt → sSt → Int64 → Prop) : Prop := FW_passed a1 a2 Sc o (fun r1 S2 o3 => F_X12_passed a1 a2 Sm (fun r4 S5 => F_X12_thrown S5 (fun r6 S7 => ((r6 = r1 → ((¬ r1 = 0 → K S2 S7 o3) ∧ (r1 = 0 → ((o3 = r4.toInt64 → K S2 S7 o3) ∧ (¬ o3 = r4.toInt64 → False))))) ∧ (¬ r6 = r1 → False)))))
set_option maxHeartbeats 4000000 in
set_option maxRecDepth 100000 in
theorem LW_31 {p : Program} {l : Launch} {e : Env} {s : State} {m : MethodId} {args : Array Value} {below : List Frame} {meth : Method} {c : Code} {Q : State → Prop} {D : va_G} {cy : Nat → ClassId} {b b0 L : Nat} {tx : TX} {xs : Nat → Int32} (hl0 : l.stackTraces = false) (C0 : CallFix p m c cL_law 7 s args TB RL) (hT : TxR tx s) (hN : TxN s) (hX : va_X b0 L xs s s.heap) (hbl : b0 < s.heap.size) (hb1 : b = s.heap.size) (hL3 : L ≤ 3072) (t : Nat) (ht : 6 * t + 6 ≤ L) {Sc Sm : sSt} {o : Int64} {K : sSt → sSt → Int64 → Prop} {H : Heap} {locs : List Loc} {ls : Array Slot} {cells slots : Nat} (hc1 : cells + 6 ≤ room_1.cells) (hc2 : slots + 36 ≤ room_1.slots) (h : CS_31 (xs (6 * t + 1)) (xs (6 * t + 2)) (xs (6 * t + 3)) (xs (6 * t + 4)) (xs (6 * t + 5)) Sc Sm o K) (hR : RelL D cy b tx Sc Sm o s H) (hS : va_S (bA b) s.heap H locs) (hl : lv_has ls 7 [(0, .ref b0), (1, .ref (b + adC 0 0)), (2, .ref (b + 709 + adM 0 0)), (3, .ref (b + 721)), (4, .int (nI (6 * t)))])
    (kk : ∀ (S1 S2 : sSt) (o1 : Int64) (H1 : Heap) (locs1 : List Loc) (ls1 : Array Slot), K S1 S2 o1 → RelL D cy b tx S1 S2 o1 s H1 → va_S (bA b) s.heap H1 locs1 → lv_has ls1 7 [(0, .ref b0), (1, .ref (b + adC 0 0)), (2, .ref (b + 709 + adM 0 0)), (3, .ref (b + 721)), (4, .int (nI (6 * t)))] → W p l e room_1 s m args below meth c H1 locs1 (cells + 6) (slots + 36) Q (F0 m 2858 ls1 [])) : W p l e room_1 s m args below meth c H locs cells slots Q (F0 m 2112 ls []) := by
  have hx := C0.1
  have hb := C0.2.1
  unfold CS_31 at h
  refine lv_aload_n hx hb dL_law_2112 rfl (lv_at hl 1 rfl) ?_
  refine lv_aload_n hx hb dL_law_2113 rfl (lv_at hl 0 rfl) ?_
  refine lv_iload hx hb dL_law_2114 (lv_at hl 4 rfl) ?_
  refine lv_iconst (v := 1) hx hb dL_law_2116 (by decide) ?_
  refine lv_iadd hx hb dL_law_2117 ?_
  refine lw_sld (v := xs (6 * t + 1)) C0 hX hbl hb1 hS (nI_add (6 * t) 1) (show 6 * t + 1 < L by omega) hL3 rfl dL_law_2118 ?_
  refine lv_aload_n hx hb dL_law_2119 rfl (lv_at hl 0 rfl) ?_
  refine lv_iload hx hb dL_law_2120 (lv_at hl 4 rfl) ?_
  refine lv_iconst (v := 2) hx hb dL_law_2122 (by decide) ?_
  refine lv_iadd hx hb dL_law_2123 ?_
  refine lw_sld (v := xs (6 * t + 2)) C0 hX hbl hb1 hS (nI_add (6 * t) 2) (show 6 * t + 2 < L by omega) hL3 rfl dL_law_2124 ?_
  refine lv_aload_n hx hb dL_law_2125 rfl (lv_at hl 3 rfl) ?_
  refine qLW (As := [.ref (b + adC 0 0), .int (xs (6 * t + 1)), .int (xs (6 * t + 2)), .ref (b + 721)]) (rest := []) C0 (cw_passed l hl0 h) (vx_cwSW 4 C0.2.2.2.2 (tbSW mK_6_164 ⟨mK_6_165, mK_1_0, mK_6_166⟩) rfl rfl rfl (by decide +kernel) ⟨Nat.le_of_ble_eq_true rfl, Nat.le_of_ble_eq_true rfl⟩) hR hT hN hS rfl hl.1 rfl (Nat.le_of_ble_eq_true rfl) dL_law_2126 ⟨by omega, by omega⟩ (fun r1 S2 o3 H locs h hR hS => ?_)
  refine lv_istore (lv' := [(5, .int r1), (0, .ref b0), (1, .ref (b + adC 0 0)), (2, .ref (b + 709 + adM 0 0)), (3, .ref (b + 721)), (4, .int (nI (6 * t)))]) hx hb dL_law_2129 hl (by decide) rfl (fun ls hl => ?_)
  refine lv_aload_n hx hb dL_law_2131 rfl (lv_at hl 3 rfl) ?_
  refine lv_aload_n hx hb dL_law_2132 rfl (lv_at hl 1 rfl) ?_
  refine lv_iload hx hb dL_law_2133 (lv_at hl 5 rfl) ?_
  refine lv_iconst (v := 1) hx hb dL_law_2135 (by decide) ?_
  refine lv_iadd hx hb dL_law_2136 ?_
  refine lw_sld (v := xs (6 * t + 1)) C0 hX hbl hb1 hS (nI_add (6 * t) 1) (show 6 * t + 1 < L by omega) hL3 rfl dL_law_2137 ?_
  refine lv_aload_n hx hb dL_law_2138 rfl (lv_at hl 1 rfl) ?_
  refine lv_iload hx hb dL_law_2139 (lv_at hl 5 rfl) ?_
  refine lv_iconst (v := 2) hx hb dL_law_2141 (by decide) ?_
  refine lv_iadd hx hb dL_law_2142 ?_
  refine lw_sld (v := xs (6 * t + 2)) C0 hX hbl hb1 hS (nI_add (6 * t) 2) (show 6 * t + 2 < L by omega) hL3 rfl dL_law_2143 ?_
  refine qLM_i (As := [.int (xs (6 * t + 1)), .int (xs (6 * t + 2))]) (rest := []) C0 (c_X12_passed l h) (cwV 2 C0.2.2.2.2 (tbV mK_9_129 ⟨mK_9_130, mK_9_131, mK_1_11, mK_9_132⟩) rfl rfl rfl (by decide +kernel) ⟨Nat.le_of_ble_eq_true rfl, Nat.le_of_ble_eq_true rfl⟩) hR hT hS rfl hl.1 rfl (Nat.le_of_ble_eq_true rfl) dL_law_2144 ⟨by omega, by omega⟩ (fun r4 S5 H locs h hR hS => ?_)
  refine lv_istore (lv' := [(6, .int r4), (5, .int r1), (0, .ref b0), (1, .ref (b + adC 0 0)), (2, .ref (b + 709 + adM 0 0)), (3, .ref (b + 721)), (4, .int (nI (6 * t)))]) hx hb dL_law_2147 hl (by decide) rfl (fun ls hl => ?_)
  refine lv_aload_n hx hb dL_law_2149 rfl (lv_at hl 4 rfl) ?_
  refine qLM_i (As := []) (rest := []) C0 (c_X12_thrown l h) (cwV 0 C0.2.2.2.2 (tbV mK_7_64 ⟨mK_7_65, mK_7_66, mK_1_11, mK_7_67⟩) rfl rfl rfl (by decide +kernel) ⟨Nat.le_of_ble_eq_true rfl, Nat.le_of_ble_eq_true rfl⟩) hR hT hS rfl hl.1 rfl (Nat.le_of_ble_eq_true rfl) dL_law_2150 ⟨by omega, by omega⟩ (fun r6 S7 H locs h hR hS => ?_)
  refine lv_iload hx hb dL_law_2153 (lv_at hl 1 rfl) ?_
  refine lv_icmp_eq (tgt := 2160) hx hb dL_law_2155 (by decide) (fun c8 => ?_) (fun c8 => ?_)
  · have h := h.1 c8
    refine lv_iload hx hb dL_law_2160 (lv_at hl 1 rfl) ?_
    refine lv_if_ne (tgt := 2177) hx hb dL_law_2162 (by decide) (fun c9 => ?_) (fun c9 => ?_)
    · have h := h.1 c9
      refine lv_goto (tgt := 2858) hx hb dL_law_2177 (by decide) ?_
      exact W.widen (k := cells + 6) (n := slots + 36) (by omega) (by omega) (kk S2 S7 o3 H locs _ h hR hS (lv_sub hl [2, 3, 4, 5, 6] rfl))
    · have h := h.2 c9
      refine lv_aload_n hx hb dL_law_2165 rfl (lv_at hl 5 rfl) ?_
      refine lv_iconst (v := 0) hx hb dL_law_2166 (by decide) ?_
      refine lw_out C0 hR dL_law_2167 ?_
      refine lv_iload hx hb dL_law_2168 (lv_at hl 0 rfl) ?_
      refine lv_i2l (v := r4.toInt64) hx hb dL_law_2170 rfl ?_
      refine W.lcmp hx hb dL_law_2171 ?_
      refine lv_if_eq (tgt := 2177) hx hb dL_law_2172 (by decide) (fun c10 => ?_) (fun c10 => ?_)
      · have h := h.1 ((lg_cmp_eq _ _).mp c10)
        refine lv_goto (tgt := 2858) hx hb dL_law_2177 (by decide) ?_
        exact W.widen (k := cells + 6) (n := slots + 36) (by omega) (by omega) (kk S2 S7 o3 H locs _ h hR hS (lv_sub hl [2, 3, 4, 5, 6] rfl))
      · have h := h.2 (fun q9 => c10 ((lg_cmp_eq _ _).mpr q9))
        exact h.elim
  · have h := h.2 c8
    exact h.elim
def CS_32 (a1 a2 a3 a4 a5 : Int32) (Sc Sm : sSt) (o : Int64) (K : sSt → sSt → Int64 → Prop) : Prop := FW_again a1 a2 a3 Sc o (fun r1 S2 o3 => F_X12_again a1 a2 a3 Sm (fun r4 S5 => F_X12_thrown S5 (fun r6 S7 => ((r6 = r1 → ((¬ r1 = 0 → K S2 S7 o3) ∧ (r1 = 0 → ((o3 = r4.toInt64 → K S2 S7 o3) ∧ (¬ o3 = r4.toInt64 → False))))) ∧ (¬ r6 = r1 → False)))))
set_option maxHeartbeats 4000000 in
set_option maxRecDepth 100000 in
theorem LW_32 {p : Program} {l : Launch} {e : Env} {s : State} {m : MethodId} {args : Array Value} {below : List Frame} {meth : Method} {c : Code} {Q : State → Prop} {D : va_G} {cy : Nat → ClassId} {b b0 L : Nat} {tx : TX} {xs : Nat → Int32} (hl0 : l.stackTraces = false) (C0 : CallFix p m c cL_law 7 s args TB RL) (hT : TxR tx s) (hN : TxN s) (hX : va_X b0 L xs s s.heap) (hbl : b0 < s.heap.size) (hb1 : b = s.heap.size) (hL3 : L ≤ 3072) (t : Nat) (ht : 6 * t + 6 ≤ L) {Sc Sm : sSt} {o : Int64} {K : sSt → sSt → Int64 → Prop} {H : Heap} {locs : List Loc} {ls : Array Slot} {cells slots : Nat} (hc1 : cells + 6 ≤ room_1.cells) (hc2 : slots + 36 ≤ room_1.slots) (h : CS_32 (xs (6 * t + 1)) (xs (6 * t + 2)) (xs (6 * t + 3)) (xs (6 * t + 4)) (xs (6 * t + 5)) Sc Sm o K) (hR : RelL D cy b tx Sc Sm o s H) (hS : va_S (bA b) s.heap H locs) (hl : lv_has ls 7 [(0, .ref b0), (1, .ref (b + adC 0 0)), (2, .ref (b + 709 + adM 0 0)), (3, .ref (b + 721)), (4, .int (nI (6 * t)))])
    (kk : ∀ (S1 S2 : sSt) (o1 : Int64) (H1 : Heap) (locs1 : List Loc) (ls1 : Array Slot), K S1 S2 o1 → RelL D cy b tx S1 S2 o1 s H1 → va_S (bA b) s.heap H1 locs1 → lv_has ls1 7 [(0, .ref b0), (1, .ref (b + adC 0 0)), (2, .ref (b + 709 + adM 0 0)), (3, .ref (b + 721)), (4, .int (nI (6 * t)))] → W p l e room_1 s m args below meth c H1 locs1 (cells + 6) (slots + 36) Q (F0 m 2858 ls1 [])) : W p l e room_1 s m args below meth c H locs cells slots Q (F0 m 2180 ls []) := by
  have hx := C0.1
  have hb := C0.2.1
  unfold CS_32 at h
  refine lv_aload_n hx hb dL_law_2180 rfl (lv_at hl 1 rfl) ?_
  refine lv_aload_n hx hb dL_law_2181 rfl (lv_at hl 0 rfl) ?_
  refine lv_iload hx hb dL_law_2182 (lv_at hl 4 rfl) ?_
  refine lv_iconst (v := 1) hx hb dL_law_2184 (by decide) ?_
  refine lv_iadd hx hb dL_law_2185 ?_
  refine lw_sld (v := xs (6 * t + 1)) C0 hX hbl hb1 hS (nI_add (6 * t) 1) (show 6 * t + 1 < L by omega) hL3 rfl dL_law_2186 ?_
  refine lv_aload_n hx hb dL_law_2187 rfl (lv_at hl 0 rfl) ?_
  refine lv_iload hx hb dL_law_2188 (lv_at hl 4 rfl) ?_
  refine lv_iconst (v := 2) hx hb dL_law_2190 (by decide) ?_
  refine lv_iadd hx hb dL_law_2191 ?_
  refine lw_sld (v := xs (6 * t + 2)) C0 hX hbl hb1 hS (nI_add (6 * t) 2) (show 6 * t + 2 < L by omega) hL3 rfl dL_law_2192 ?_
  refine lv_aload_n hx hb dL_law_2193 rfl (lv_at hl 0 rfl) ?_
  refine lv_iload hx hb dL_law_2194 (lv_at hl 4 rfl) ?_
  refine lv_iconst (v := 3) hx hb dL_law_2196 (by decide) ?_
  refine lv_iadd hx hb dL_law_2197 ?_
  refine lw_sld (v := xs (6 * t + 3)) C0 hX hbl hb1 hS (nI_add (6 * t) 3) (show 6 * t + 3 < L by omega) hL3 rfl dL_law_2198 ?_
  refine lv_aload_n hx hb dL_law_2199 rfl (lv_at hl 3 rfl) ?_
  refine qLW (As := [.ref (b + adC 0 0), .int (xs (6 * t + 1)), .int (xs (6 * t + 2)), .int (xs (6 * t + 3)), .ref (b + 721)]) (rest := []) C0 (cw_again l hl0 h) (vx_cwSW 5 C0.2.2.2.2 (tbSW mK_6_174 ⟨mK_6_175, mK_1_0, mK_6_176⟩) rfl rfl rfl (by decide +kernel) ⟨Nat.le_of_ble_eq_true rfl, Nat.le_of_ble_eq_true rfl⟩) hR hT hN hS rfl hl.1 rfl (Nat.le_of_ble_eq_true rfl) dL_law_2200 ⟨by omega, by omega⟩ (fun r1 S2 o3 H locs h hR hS => ?_)
  refine lv_istore (lv' := [(5, .int r1), (0, .ref b0), (1, .ref (b + adC 0 0)), (2, .ref (b + 709 + adM 0 0)), (3, .ref (b + 721)), (4, .int (nI (6 * t)))]) hx hb dL_law_2203 hl (by decide) rfl (fun ls hl => ?_)
  refine lv_aload_n hx hb dL_law_2205 rfl (lv_at hl 3 rfl) ?_
  refine lv_aload_n hx hb dL_law_2206 rfl (lv_at hl 1 rfl) ?_
  refine lv_iload hx hb dL_law_2207 (lv_at hl 5 rfl) ?_
  refine lv_iconst (v := 1) hx hb dL_law_2209 (by decide) ?_
  refine lv_iadd hx hb dL_law_2210 ?_
  refine lw_sld (v := xs (6 * t + 1)) C0 hX hbl hb1 hS (nI_add (6 * t) 1) (show 6 * t + 1 < L by omega) hL3 rfl dL_law_2211 ?_
  refine lv_aload_n hx hb dL_law_2212 rfl (lv_at hl 1 rfl) ?_
  refine lv_iload hx hb dL_law_2213 (lv_at hl 5 rfl) ?_
  refine lv_iconst (v := 2) hx hb dL_law_2215 (by decide) ?_
  refine lv_iadd hx hb dL_law_2216 ?_
  refine lw_sld (v := xs (6 * t + 2)) C0 hX hbl hb1 hS (nI_add (6 * t) 2) (show 6 * t + 2 < L by omega) hL3 rfl dL_law_2217 ?_
  refine lv_aload_n hx hb dL_law_2218 rfl (lv_at hl 1 rfl) ?_
  refine lv_iload hx hb dL_law_2219 (lv_at hl 5 rfl) ?_
  refine lv_iconst (v := 3) hx hb dL_law_2221 (by decide) ?_
  refine lv_iadd hx hb dL_law_2222 ?_
  refine lw_sld (v := xs (6 * t + 3)) C0 hX hbl hb1 hS (nI_add (6 * t) 3) (show 6 * t + 3 < L by omega) hL3 rfl dL_law_2223 ?_
  refine qLM_i (As := [.int (xs (6 * t + 1)), .int (xs (6 * t + 2)), .int (xs (6 * t + 3))]) (rest := []) C0 (c_X12_again l h) (cwV 3 C0.2.2.2.2 (tbV mK_9_137 ⟨mK_9_138, mK_9_139, mK_1_11, mK_9_140⟩) rfl rfl rfl (by decide +kernel) ⟨Nat.le_of_ble_eq_true rfl, Nat.le_of_ble_eq_true rfl⟩) hR hT hS rfl hl.1 rfl (Nat.le_of_ble_eq_true rfl) dL_law_2224 ⟨by omega, by omega⟩ (fun r4 S5 H locs h hR hS => ?_)
  refine lv_istore (lv' := [(6, .int r4), (5, .int r1), (0, .ref b0), (1, .ref (b + adC 0 0)), (2, .ref (b + 709 + adM 0 0)), (3, .ref (b + 721)), (4, .int (nI (6 * t)))]) hx hb dL_law_2227 hl (by decide) rfl (fun ls hl => ?_)
  refine lv_aload_n hx hb dL_law_2229 rfl (lv_at hl 4 rfl) ?_
  refine qLM_i (As := []) (rest := []) C0 (c_X12_thrown l h) (cwV 0 C0.2.2.2.2 (tbV mK_7_64 ⟨mK_7_65, mK_7_66, mK_1_11, mK_7_67⟩) rfl rfl rfl (by decide +kernel) ⟨Nat.le_of_ble_eq_true rfl, Nat.le_of_ble_eq_true rfl⟩) hR hT hS rfl hl.1 rfl (Nat.le_of_ble_eq_true rfl) dL_law_2230 ⟨by omega, by omega⟩ (fun r6 S7 H locs h hR hS => ?_)
  refine lv_iload hx hb dL_law_2233 (lv_at hl 1 rfl) ?_
  refine lv_icmp_eq (tgt := 2240) hx hb dL_law_2235 (by decide) (fun c8 => ?_) (fun c8 => ?_)
  · have h := h.1 c8
    refine lv_iload hx hb dL_law_2240 (lv_at hl 1 rfl) ?_
    refine lv_if_ne (tgt := 2257) hx hb dL_law_2242 (by decide) (fun c9 => ?_) (fun c9 => ?_)
    · have h := h.1 c9
      refine lv_goto (tgt := 2858) hx hb dL_law_2257 (by decide) ?_
      exact W.widen (k := cells + 6) (n := slots + 36) (by omega) (by omega) (kk S2 S7 o3 H locs _ h hR hS (lv_sub hl [2, 3, 4, 5, 6] rfl))
    · have h := h.2 c9
      refine lv_aload_n hx hb dL_law_2245 rfl (lv_at hl 5 rfl) ?_
      refine lv_iconst (v := 0) hx hb dL_law_2246 (by decide) ?_
      refine lw_out C0 hR dL_law_2247 ?_
      refine lv_iload hx hb dL_law_2248 (lv_at hl 0 rfl) ?_
      refine lv_i2l (v := r4.toInt64) hx hb dL_law_2250 rfl ?_
      refine W.lcmp hx hb dL_law_2251 ?_
      refine lv_if_eq (tgt := 2257) hx hb dL_law_2252 (by decide) (fun c10 => ?_) (fun c10 => ?_)
      · have h := h.1 ((lg_cmp_eq _ _).mp c10)
        refine lv_goto (tgt := 2858) hx hb dL_law_2257 (by decide) ?_
        exact W.widen (k := cells + 6) (n := slots + 36) (by omega) (by omega) (kk S2 S7 o3 H locs _ h hR hS (lv_sub hl [2, 3, 4, 5, 6] rfl))
      · have h := h.2 (fun q9 => c10 ((lg_cmp_eq _ _).mpr q9))
        exact h.elim
  · have h := h.2 c8
    exact h.elim
def CS_33 (a1 a2 a3 a4 a5 : Int32) (Sc Sm : sSt) (o : Int64) (K : sSt → sSt → Int64 → Prop) : Prop := ((a2 = 0 → FW_would a1 0 Sc o (fun r2 S3 o4 => ((a2 = 0 → F_X12_would a1 0 Sm (fun r6 S7 => F_X12_thrown S7 (fun r8 S9 => ((r8 = r2 → ((¬ r2 = 0 → K S3 S9 o4) ∧ (r2 = 0 → ((o4 = r6.toInt64 → K S3 S9 o4) ∧ (¬ o4 = r6.toInt64 → False))))) ∧ (¬ r8 = r2 → False))))) ∧ (¬ a2 = 0 → F_X12_would a1 1 Sm (fun r13 S14 => F_X12_thrown S14 (fun r15 S16 => ((r15 = r2 → ((¬ r2 = 0 → K S3 S16 o4) ∧ (r2 = 0 → ((o4 = r13.toInt64 → K S3 S16 o4) ∧ (¬ o4 = r13.toInt64 → False))))) ∧ (¬ r15 = r2 → False)))))))) ∧ (¬ a2 = 0 → FW_would a1 1 Sc o (fun r20 S21 o22 => ((a2 = 0 → F_X12_would a1 0 Sm (fun r24 S25 => F_X12_thrown S25 (fun r26 S27 => ((r26 = r20 → ((¬ r20 = 0 → K S21 S27 o22) ∧ (r20 = 0 → ((o22 = r24.toInt64 → K S21 S27 o22) ∧ (¬ o22 = r24.toInt64 → False))))) ∧ (¬ r26 = r20 → False))))) ∧ (¬ a2 = 0 → F_X12_would a1 1 Sm (fun r31 S32 => F_X12_thrown S32 (fun r33 S34 => ((r33 = r20 → ((¬ r20 = 0 → K S21 S34 o22) ∧ (r20 = 0 → ((o22 = r31.toInt64 → K S21 S34 o22) ∧ (¬ o22 = r31.toInt64 → False))))) ∧ (¬ r33 = r20 → False)))))))))
set_option maxHeartbeats 4000000 in
set_option maxRecDepth 100000 in
theorem LW_33 {p : Program} {l : Launch} {e : Env} {s : State} {m : MethodId} {args : Array Value} {below : List Frame} {meth : Method} {c : Code} {Q : State → Prop} {D : va_G} {cy : Nat → ClassId} {b b0 L : Nat} {tx : TX} {xs : Nat → Int32} (hl0 : l.stackTraces = false) (C0 : CallFix p m c cL_law 7 s args TB RL) (hT : TxR tx s) (hN : TxN s) (hX : va_X b0 L xs s s.heap) (hbl : b0 < s.heap.size) (hb1 : b = s.heap.size) (hL3 : L ≤ 3072) (t : Nat) (ht : 6 * t + 6 ≤ L) {Sc Sm : sSt} {o : Int64} {K : sSt → sSt → Int64 → Prop} {H : Heap} {locs : List Loc} {ls : Array Slot} {cells slots : Nat} (hc1 : cells + 6 ≤ room_1.cells) (hc2 : slots + 36 ≤ room_1.slots) (h : CS_33 (xs (6 * t + 1)) (xs (6 * t + 2)) (xs (6 * t + 3)) (xs (6 * t + 4)) (xs (6 * t + 5)) Sc Sm o K) (hR : RelL D cy b tx Sc Sm o s H) (hS : va_S (bA b) s.heap H locs) (hl : lv_has ls 7 [(0, .ref b0), (1, .ref (b + adC 0 0)), (2, .ref (b + 709 + adM 0 0)), (3, .ref (b + 721)), (4, .int (nI (6 * t)))])
    (kk : ∀ (S1 S2 : sSt) (o1 : Int64) (H1 : Heap) (locs1 : List Loc) (ls1 : Array Slot), K S1 S2 o1 → RelL D cy b tx S1 S2 o1 s H1 → va_S (bA b) s.heap H1 locs1 → lv_has ls1 7 [(0, .ref b0), (1, .ref (b + adC 0 0)), (2, .ref (b + 709 + adM 0 0)), (3, .ref (b + 721)), (4, .int (nI (6 * t)))] → W p l e room_1 s m args below meth c H1 locs1 (cells + 6) (slots + 36) Q (F0 m 2858 ls1 [])) : W p l e room_1 s m args below meth c H locs cells slots Q (F0 m 2260 ls []) := by
  have hx := C0.1
  have hb := C0.2.1
  unfold CS_33 at h
  refine lv_aload_n hx hb dL_law_2260 rfl (lv_at hl 1 rfl) ?_
  refine lv_aload_n hx hb dL_law_2261 rfl (lv_at hl 0 rfl) ?_
  refine lv_iload hx hb dL_law_2262 (lv_at hl 4 rfl) ?_
  refine lv_iconst (v := 1) hx hb dL_law_2264 (by decide) ?_
  refine lv_iadd hx hb dL_law_2265 ?_
  refine lw_sld (v := xs (6 * t + 1)) C0 hX hbl hb1 hS (nI_add (6 * t) 1) (show 6 * t + 1 < L by omega) hL3 rfl dL_law_2266 ?_
  refine lv_aload_n hx hb dL_law_2267 rfl (lv_at hl 0 rfl) ?_
  refine lv_iload hx hb dL_law_2268 (lv_at hl 4 rfl) ?_
  refine lv_iconst (v := 2) hx hb dL_law_2270 (by decide) ?_
  refine lv_iadd hx hb dL_law_2271 ?_
  refine lw_sld (v := xs (6 * t + 2)) C0 hX hbl hb1 hS (nI_add (6 * t) 2) (show 6 * t + 2 < L by omega) hL3 rfl dL_law_2272 ?_
  refine lv_if_eq (tgt := 2280) hx hb dL_law_2273 (by decide) (fun c1 => ?_) (fun c1 => ?_)
  · have h := h.1 c1
    refine lv_iconst (v := 0) hx hb dL_law_2280 (by decide) ?_
    refine lv_aload_n hx hb dL_law_2281 rfl (lv_at hl 3 rfl) ?_
    refine qLW (As := [.ref (b + adC 0 0), .int (xs (6 * t + 1)), .int 0, .ref (b + 721)]) (rest := []) C0 (cw_would l hl0 h) (vx_cwSW 4 C0.2.2.2.2 (tbSW mK_6_185 ⟨mK_6_186, mK_1_0, mK_6_187⟩) rfl rfl rfl (by decide +kernel) ⟨Nat.le_of_ble_eq_true rfl, Nat.le_of_ble_eq_true rfl⟩) hR hT hN hS rfl hl.1 rfl (Nat.le_of_ble_eq_true rfl) dL_law_2282 ⟨by omega, by omega⟩ (fun r2 S3 o4 H locs h hR hS => ?_)
    refine lv_istore (lv' := [(5, .int r2), (0, .ref b0), (1, .ref (b + adC 0 0)), (2, .ref (b + 709 + adM 0 0)), (3, .ref (b + 721)), (4, .int (nI (6 * t)))]) hx hb dL_law_2285 hl (by decide) rfl (fun ls hl => ?_)
    refine lv_aload_n hx hb dL_law_2287 rfl (lv_at hl 3 rfl) ?_
    refine lv_aload_n hx hb dL_law_2288 rfl (lv_at hl 1 rfl) ?_
    refine lv_iload hx hb dL_law_2289 (lv_at hl 5 rfl) ?_
    refine lv_iconst (v := 1) hx hb dL_law_2291 (by decide) ?_
    refine lv_iadd hx hb dL_law_2292 ?_
    refine lw_sld (v := xs (6 * t + 1)) C0 hX hbl hb1 hS (nI_add (6 * t) 1) (show 6 * t + 1 < L by omega) hL3 rfl dL_law_2293 ?_
    refine lv_aload_n hx hb dL_law_2294 rfl (lv_at hl 1 rfl) ?_
    refine lv_iload hx hb dL_law_2295 (lv_at hl 5 rfl) ?_
    refine lv_iconst (v := 2) hx hb dL_law_2297 (by decide) ?_
    refine lv_iadd hx hb dL_law_2298 ?_
    refine lw_sld (v := xs (6 * t + 2)) C0 hX hbl hb1 hS (nI_add (6 * t) 2) (show 6 * t + 2 < L by omega) hL3 rfl dL_law_2299 ?_
    refine lv_if_eq (tgt := 2307) hx hb dL_law_2300 (by decide) (fun c5 => ?_) (fun c5 => ?_)
    · have h := h.1 c5
      refine lv_iconst (v := 0) hx hb dL_law_2307 (by decide) ?_
      refine qLM_i (As := [.int (xs (6 * t + 1)), .int 0]) (rest := []) C0 (c_X12_would l h) (cwV 2 C0.2.2.2.2 (tbV mK_9_65 ⟨mK_9_66, mK_9_67, mK_1_11, mK_9_68⟩) rfl rfl rfl (by decide +kernel) ⟨Nat.le_of_ble_eq_true rfl, Nat.le_of_ble_eq_true rfl⟩) hR hT hS rfl hl.1 rfl (Nat.le_of_ble_eq_true rfl) dL_law_2308 ⟨by omega, by omega⟩ (fun r6 S7 H locs h hR hS => ?_)
      refine lv_istore (lv' := [(6, .int r6), (5, .int r2), (0, .ref b0), (1, .ref (b + adC 0 0)), (2, .ref (b + 709 + adM 0 0)), (3, .ref (b + 721)), (4, .int (nI (6 * t)))]) hx hb dL_law_2311 hl (by decide) rfl (fun ls hl => ?_)
      refine lv_aload_n hx hb dL_law_2313 rfl (lv_at hl 4 rfl) ?_
      refine qLM_i (As := []) (rest := []) C0 (c_X12_thrown l h) (cwV 0 C0.2.2.2.2 (tbV mK_7_64 ⟨mK_7_65, mK_7_66, mK_1_11, mK_7_67⟩) rfl rfl rfl (by decide +kernel) ⟨Nat.le_of_ble_eq_true rfl, Nat.le_of_ble_eq_true rfl⟩) hR hT hS rfl hl.1 rfl (Nat.le_of_ble_eq_true rfl) dL_law_2314 ⟨by omega, by omega⟩ (fun r8 S9 H locs h hR hS => ?_)
      refine lv_iload hx hb dL_law_2317 (lv_at hl 1 rfl) ?_
      refine lv_icmp_eq (tgt := 2324) hx hb dL_law_2319 (by decide) (fun c10 => ?_) (fun c10 => ?_)
      · have h := h.1 c10
        refine lv_iload hx hb dL_law_2324 (lv_at hl 1 rfl) ?_
        refine lv_if_ne (tgt := 2341) hx hb dL_law_2326 (by decide) (fun c11 => ?_) (fun c11 => ?_)
        · have h := h.1 c11
          refine lv_goto (tgt := 2858) hx hb dL_law_2341 (by decide) ?_
          exact W.widen (k := cells + 6) (n := slots + 36) (by omega) (by omega) (kk S3 S9 o4 H locs _ h hR hS (lv_sub hl [2, 3, 4, 5, 6] rfl))
        · have h := h.2 c11
          refine lv_aload_n hx hb dL_law_2329 rfl (lv_at hl 5 rfl) ?_
          refine lv_iconst (v := 0) hx hb dL_law_2330 (by decide) ?_
          refine lw_out C0 hR dL_law_2331 ?_
          refine lv_iload hx hb dL_law_2332 (lv_at hl 0 rfl) ?_
          refine lv_i2l (v := r6.toInt64) hx hb dL_law_2334 rfl ?_
          refine W.lcmp hx hb dL_law_2335 ?_
          refine lv_if_eq (tgt := 2341) hx hb dL_law_2336 (by decide) (fun c12 => ?_) (fun c12 => ?_)
          · have h := h.1 ((lg_cmp_eq _ _).mp c12)
            refine lv_goto (tgt := 2858) hx hb dL_law_2341 (by decide) ?_
            exact W.widen (k := cells + 6) (n := slots + 36) (by omega) (by omega) (kk S3 S9 o4 H locs _ h hR hS (lv_sub hl [2, 3, 4, 5, 6] rfl))
          · have h := h.2 (fun q9 => c12 ((lg_cmp_eq _ _).mpr q9))
            exact h.elim
      · have h := h.2 c10
        exact h.elim
    · have h := h.2 c5
      refine lv_iconst (v := 1) hx hb dL_law_2303 (by decide) ?_
      refine lv_goto (tgt := 2308) hx hb dL_law_2304 (by decide) ?_
      refine qLM_i (As := [.int (xs (6 * t + 1)), .int 1]) (rest := []) C0 (c_X12_would l h) (cwV 2 C0.2.2.2.2 (tbV mK_9_65 ⟨mK_9_66, mK_9_67, mK_1_11, mK_9_68⟩) rfl rfl rfl (by decide +kernel) ⟨Nat.le_of_ble_eq_true rfl, Nat.le_of_ble_eq_true rfl⟩) hR hT hS rfl hl.1 rfl (Nat.le_of_ble_eq_true rfl) dL_law_2308 ⟨by omega, by omega⟩ (fun r13 S14 H locs h hR hS => ?_)
      refine lv_istore (lv' := [(6, .int r13), (5, .int r2), (0, .ref b0), (1, .ref (b + adC 0 0)), (2, .ref (b + 709 + adM 0 0)), (3, .ref (b + 721)), (4, .int (nI (6 * t)))]) hx hb dL_law_2311 hl (by decide) rfl (fun ls hl => ?_)
      refine lv_aload_n hx hb dL_law_2313 rfl (lv_at hl 4 rfl) ?_
      refine qLM_i (As := []) (rest := []) C0 (c_X12_thrown l h) (cwV 0 C0.2.2.2.2 (tbV mK_7_64 ⟨mK_7_65, mK_7_66, mK_1_11, mK_7_67⟩) rfl rfl rfl (by decide +kernel) ⟨Nat.le_of_ble_eq_true rfl, Nat.le_of_ble_eq_true rfl⟩) hR hT hS rfl hl.1 rfl (Nat.le_of_ble_eq_true rfl) dL_law_2314 ⟨by omega, by omega⟩ (fun r15 S16 H locs h hR hS => ?_)
      refine lv_iload hx hb dL_law_2317 (lv_at hl 1 rfl) ?_
      refine lv_icmp_eq (tgt := 2324) hx hb dL_law_2319 (by decide) (fun c17 => ?_) (fun c17 => ?_)
      · have h := h.1 c17
        refine lv_iload hx hb dL_law_2324 (lv_at hl 1 rfl) ?_
        refine lv_if_ne (tgt := 2341) hx hb dL_law_2326 (by decide) (fun c18 => ?_) (fun c18 => ?_)
        · have h := h.1 c18
          refine lv_goto (tgt := 2858) hx hb dL_law_2341 (by decide) ?_
          exact W.widen (k := cells + 6) (n := slots + 36) (by omega) (by omega) (kk S3 S16 o4 H locs _ h hR hS (lv_sub hl [2, 3, 4, 5, 6] rfl))
        · have h := h.2 c18
          refine lv_aload_n hx hb dL_law_2329 rfl (lv_at hl 5 rfl) ?_
          refine lv_iconst (v := 0) hx hb dL_law_2330 (by decide) ?_
          refine lw_out C0 hR dL_law_2331 ?_
          refine lv_iload hx hb dL_law_2332 (lv_at hl 0 rfl) ?_
          refine lv_i2l (v := r13.toInt64) hx hb dL_law_2334 rfl ?_
          refine W.lcmp hx hb dL_law_2335 ?_
          refine lv_if_eq (tgt := 2341) hx hb dL_law_2336 (by decide) (fun c19 => ?_) (fun c19 => ?_)
          · have h := h.1 ((lg_cmp_eq _ _).mp c19)
            refine lv_goto (tgt := 2858) hx hb dL_law_2341 (by decide) ?_
            exact W.widen (k := cells + 6) (n := slots + 36) (by omega) (by omega) (kk S3 S16 o4 H locs _ h hR hS (lv_sub hl [2, 3, 4, 5, 6] rfl))
          · have h := h.2 (fun q9 => c19 ((lg_cmp_eq _ _).mpr q9))
            exact h.elim
      · have h := h.2 c17
        exact h.elim
  · have h := h.2 c1
    refine lv_iconst (v := 1) hx hb dL_law_2276 (by decide) ?_
    refine lv_goto (tgt := 2281) hx hb dL_law_2277 (by decide) ?_
    refine lv_aload_n hx hb dL_law_2281 rfl (lv_at hl 3 rfl) ?_
    refine qLW (As := [.ref (b + adC 0 0), .int (xs (6 * t + 1)), .int 1, .ref (b + 721)]) (rest := []) C0 (cw_would l hl0 h) (vx_cwSW 4 C0.2.2.2.2 (tbSW mK_6_185 ⟨mK_6_186, mK_1_0, mK_6_187⟩) rfl rfl rfl (by decide +kernel) ⟨Nat.le_of_ble_eq_true rfl, Nat.le_of_ble_eq_true rfl⟩) hR hT hN hS rfl hl.1 rfl (Nat.le_of_ble_eq_true rfl) dL_law_2282 ⟨by omega, by omega⟩ (fun r20 S21 o22 H locs h hR hS => ?_)
    refine lv_istore (lv' := [(5, .int r20), (0, .ref b0), (1, .ref (b + adC 0 0)), (2, .ref (b + 709 + adM 0 0)), (3, .ref (b + 721)), (4, .int (nI (6 * t)))]) hx hb dL_law_2285 hl (by decide) rfl (fun ls hl => ?_)
    refine lv_aload_n hx hb dL_law_2287 rfl (lv_at hl 3 rfl) ?_
    refine lv_aload_n hx hb dL_law_2288 rfl (lv_at hl 1 rfl) ?_
    refine lv_iload hx hb dL_law_2289 (lv_at hl 5 rfl) ?_
    refine lv_iconst (v := 1) hx hb dL_law_2291 (by decide) ?_
    refine lv_iadd hx hb dL_law_2292 ?_
    refine lw_sld (v := xs (6 * t + 1)) C0 hX hbl hb1 hS (nI_add (6 * t) 1) (show 6 * t + 1 < L by omega) hL3 rfl dL_law_2293 ?_
    refine lv_aload_n hx hb dL_law_2294 rfl (lv_at hl 1 rfl) ?_
    refine lv_iload hx hb dL_law_2295 (lv_at hl 5 rfl) ?_
    refine lv_iconst (v := 2) hx hb dL_law_2297 (by decide) ?_
    refine lv_iadd hx hb dL_law_2298 ?_
    refine lw_sld (v := xs (6 * t + 2)) C0 hX hbl hb1 hS (nI_add (6 * t) 2) (show 6 * t + 2 < L by omega) hL3 rfl dL_law_2299 ?_
    refine lv_if_eq (tgt := 2307) hx hb dL_law_2300 (by decide) (fun c23 => ?_) (fun c23 => ?_)
    · have h := h.1 c23
      refine lv_iconst (v := 0) hx hb dL_law_2307 (by decide) ?_
      refine qLM_i (As := [.int (xs (6 * t + 1)), .int 0]) (rest := []) C0 (c_X12_would l h) (cwV 2 C0.2.2.2.2 (tbV mK_9_65 ⟨mK_9_66, mK_9_67, mK_1_11, mK_9_68⟩) rfl rfl rfl (by decide +kernel) ⟨Nat.le_of_ble_eq_true rfl, Nat.le_of_ble_eq_true rfl⟩) hR hT hS rfl hl.1 rfl (Nat.le_of_ble_eq_true rfl) dL_law_2308 ⟨by omega, by omega⟩ (fun r24 S25 H locs h hR hS => ?_)
      refine lv_istore (lv' := [(6, .int r24), (5, .int r20), (0, .ref b0), (1, .ref (b + adC 0 0)), (2, .ref (b + 709 + adM 0 0)), (3, .ref (b + 721)), (4, .int (nI (6 * t)))]) hx hb dL_law_2311 hl (by decide) rfl (fun ls hl => ?_)
      refine lv_aload_n hx hb dL_law_2313 rfl (lv_at hl 4 rfl) ?_
      refine qLM_i (As := []) (rest := []) C0 (c_X12_thrown l h) (cwV 0 C0.2.2.2.2 (tbV mK_7_64 ⟨mK_7_65, mK_7_66, mK_1_11, mK_7_67⟩) rfl rfl rfl (by decide +kernel) ⟨Nat.le_of_ble_eq_true rfl, Nat.le_of_ble_eq_true rfl⟩) hR hT hS rfl hl.1 rfl (Nat.le_of_ble_eq_true rfl) dL_law_2314 ⟨by omega, by omega⟩ (fun r26 S27 H locs h hR hS => ?_)
      refine lv_iload hx hb dL_law_2317 (lv_at hl 1 rfl) ?_
      refine lv_icmp_eq (tgt := 2324) hx hb dL_law_2319 (by decide) (fun c28 => ?_) (fun c28 => ?_)
      · have h := h.1 c28
        refine lv_iload hx hb dL_law_2324 (lv_at hl 1 rfl) ?_
        refine lv_if_ne (tgt := 2341) hx hb dL_law_2326 (by decide) (fun c29 => ?_) (fun c29 => ?_)
        · have h := h.1 c29
          refine lv_goto (tgt := 2858) hx hb dL_law_2341 (by decide) ?_
          exact W.widen (k := cells + 6) (n := slots + 36) (by omega) (by omega) (kk S21 S27 o22 H locs _ h hR hS (lv_sub hl [2, 3, 4, 5, 6] rfl))
        · have h := h.2 c29
          refine lv_aload_n hx hb dL_law_2329 rfl (lv_at hl 5 rfl) ?_
          refine lv_iconst (v := 0) hx hb dL_law_2330 (by decide) ?_
          refine lw_out C0 hR dL_law_2331 ?_
          refine lv_iload hx hb dL_law_2332 (lv_at hl 0 rfl) ?_
          refine lv_i2l (v := r24.toInt64) hx hb dL_law_2334 rfl ?_
          refine W.lcmp hx hb dL_law_2335 ?_
          refine lv_if_eq (tgt := 2341) hx hb dL_law_2336 (by decide) (fun c30 => ?_) (fun c30 => ?_)
          · have h := h.1 ((lg_cmp_eq _ _).mp c30)
            refine lv_goto (tgt := 2858) hx hb dL_law_2341 (by decide) ?_
            exact W.widen (k := cells + 6) (n := slots + 36) (by omega) (by omega) (kk S21 S27 o22 H locs _ h hR hS (lv_sub hl [2, 3, 4, 5, 6] rfl))
          · have h := h.2 (fun q9 => c30 ((lg_cmp_eq _ _).mpr q9))
            exact h.elim
      · have h := h.2 c28
        exact h.elim
    · have h := h.2 c23
      refine lv_iconst (v := 1) hx hb dL_law_2303 (by decide) ?_
      refine lv_goto (tgt := 2308) hx hb dL_law_2304 (by decide) ?_
      refine qLM_i (As := [.int (xs (6 * t + 1)), .int 1]) (rest := []) C0 (c_X12_would l h) (cwV 2 C0.2.2.2.2 (tbV mK_9_65 ⟨mK_9_66, mK_9_67, mK_1_11, mK_9_68⟩) rfl rfl rfl (by decide +kernel) ⟨Nat.le_of_ble_eq_true rfl, Nat.le_of_ble_eq_true rfl⟩) hR hT hS rfl hl.1 rfl (Nat.le_of_ble_eq_true rfl) dL_law_2308 ⟨by omega, by omega⟩ (fun r31 S32 H locs h hR hS => ?_)
      refine lv_istore (lv' := [(6, .int r31), (5, .int r20), (0, .ref b0), (1, .ref (b + adC 0 0)), (2, .ref (b + 709 + adM 0 0)), (3, .ref (b + 721)), (4, .int (nI (6 * t)))]) hx hb dL_law_2311 hl (by decide) rfl (fun ls hl => ?_)
      refine lv_aload_n hx hb dL_law_2313 rfl (lv_at hl 4 rfl) ?_
      refine qLM_i (As := []) (rest := []) C0 (c_X12_thrown l h) (cwV 0 C0.2.2.2.2 (tbV mK_7_64 ⟨mK_7_65, mK_7_66, mK_1_11, mK_7_67⟩) rfl rfl rfl (by decide +kernel) ⟨Nat.le_of_ble_eq_true rfl, Nat.le_of_ble_eq_true rfl⟩) hR hT hS rfl hl.1 rfl (Nat.le_of_ble_eq_true rfl) dL_law_2314 ⟨by omega, by omega⟩ (fun r33 S34 H locs h hR hS => ?_)
      refine lv_iload hx hb dL_law_2317 (lv_at hl 1 rfl) ?_
      refine lv_icmp_eq (tgt := 2324) hx hb dL_law_2319 (by decide) (fun c35 => ?_) (fun c35 => ?_)
      · have h := h.1 c35
        refine lv_iload hx hb dL_law_2324 (lv_at hl 1 rfl) ?_
        refine lv_if_ne (tgt := 2341) hx hb dL_law_2326 (by decide) (fun c36 => ?_) (fun c36 => ?_)
        · have h := h.1 c36
          refine lv_goto (tgt := 2858) hx hb dL_law_2341 (by decide) ?_
          exact W.widen (k := cells + 6) (n := slots + 36) (by omega) (by omega) (kk S21 S34 o22 H locs _ h hR hS (lv_sub hl [2, 3, 4, 5, 6] rfl))
        · have h := h.2 c36
          refine lv_aload_n hx hb dL_law_2329 rfl (lv_at hl 5 rfl) ?_
          refine lv_iconst (v := 0) hx hb dL_law_2330 (by decide) ?_
          refine lw_out C0 hR dL_law_2331 ?_
          refine lv_iload hx hb dL_law_2332 (lv_at hl 0 rfl) ?_
          refine lv_i2l (v := r31.toInt64) hx hb dL_law_2334 rfl ?_
          refine W.lcmp hx hb dL_law_2335 ?_
          refine lv_if_eq (tgt := 2341) hx hb dL_law_2336 (by decide) (fun c37 => ?_) (fun c37 => ?_)
          · have h := h.1 ((lg_cmp_eq _ _).mp c37)
            refine lv_goto (tgt := 2858) hx hb dL_law_2341 (by decide) ?_
            exact W.widen (k := cells + 6) (n := slots + 36) (by omega) (by omega) (kk S21 S34 o22 H locs _ h hR hS (lv_sub hl [2, 3, 4, 5, 6] rfl))
          · have h := h.2 (fun q9 => c37 ((lg_cmp_eq _ _).mpr q9))
            exact h.elim
      · have h := h.2 c35
        exact h.elim
def CS_34 (a1 a2 a3 a4 a5 : Int32) (Sc Sm : sSt) (o : Int64) (K : sSt → sSt → Int64 → Prop) : Prop := FW_work a1 a2 Sc o (fun r1 S2 o3 => F_X12_work a1 a2 Sm (fun r4 S5 => F_X12_thrown S5 (fun r6 S7 => ((r6 = r1 → ((¬ r1 = 0 → K S2 S7 o3) ∧ (r1 = 0 → ((o3 = r4.toInt64 → K S2 S7 o3) ∧ (¬ o3 = r4.toInt64 → False))))) ∧ (¬ r6 = r1 → False)))))
set_option maxHeartbeats 4000000 in
set_option maxRecDepth 100000 in
theorem LW_34 {p : Program} {l : Launch} {e : Env} {s : State} {m : MethodId} {args : Array Value} {below : List Frame} {meth : Method} {c : Code} {Q : State → Prop} {D : va_G} {cy : Nat → ClassId} {b b0 L : Nat} {tx : TX} {xs : Nat → Int32} (hl0 : l.stackTraces = false) (C0 : CallFix p m c cL_law 7 s args TB RL) (hT : TxR tx s) (hN : TxN s) (hX : va_X b0 L xs s s.heap) (hbl : b0 < s.heap.size) (hb1 : b = s.heap.size) (hL3 : L ≤ 3072) (t : Nat) (ht : 6 * t + 6 ≤ L) {Sc Sm : sSt} {o : Int64} {K : sSt → sSt → Int64 → Prop} {H : Heap} {locs : List Loc} {ls : Array Slot} {cells slots : Nat} (hc1 : cells + 6 ≤ room_1.cells) (hc2 : slots + 36 ≤ room_1.slots) (h : CS_34 (xs (6 * t + 1)) (xs (6 * t + 2)) (xs (6 * t + 3)) (xs (6 * t + 4)) (xs (6 * t + 5)) Sc Sm o K) (hR : RelL D cy b tx Sc Sm o s H) (hS : va_S (bA b) s.heap H locs) (hl : lv_has ls 7 [(0, .ref b0), (1, .ref (b + adC 0 0)), (2, .ref (b + 709 + adM 0 0)), (3, .ref (b + 721)), (4, .int (nI (6 * t)))])
    (kk : ∀ (S1 S2 : sSt) (o1 : Int64) (H1 : Heap) (locs1 : List Loc) (ls1 : Array Slot), K S1 S2 o1 → RelL D cy b tx S1 S2 o1 s H1 → va_S (bA b) s.heap H1 locs1 → lv_has ls1 7 [(0, .ref b0), (1, .ref (b + adC 0 0)), (2, .ref (b + 709 + adM 0 0)), (3, .ref (b + 721)), (4, .int (nI (6 * t)))] → W p l e room_1 s m args below meth c H1 locs1 (cells + 6) (slots + 36) Q (F0 m 2858 ls1 [])) : W p l e room_1 s m args below meth c H locs cells slots Q (F0 m 2344 ls []) := by
  have hx := C0.1
  have hb := C0.2.1
  unfold CS_34 at h
  refine lv_aload_n hx hb dL_law_2344 rfl (lv_at hl 1 rfl) ?_
  refine lv_aload_n hx hb dL_law_2345 rfl (lv_at hl 0 rfl) ?_
  refine lv_iload hx hb dL_law_2346 (lv_at hl 4 rfl) ?_
  refine lv_iconst (v := 1) hx hb dL_law_2348 (by decide) ?_
  refine lv_iadd hx hb dL_law_2349 ?_
  refine lw_sld (v := xs (6 * t + 1)) C0 hX hbl hb1 hS (nI_add (6 * t) 1) (show 6 * t + 1 < L by omega) hL3 rfl dL_law_2350 ?_
  refine lv_aload_n hx hb dL_law_2351 rfl (lv_at hl 0 rfl) ?_
  refine lv_iload hx hb dL_law_2352 (lv_at hl 4 rfl) ?_
  refine lv_iconst (v := 2) hx hb dL_law_2354 (by decide) ?_
  refine lv_iadd hx hb dL_law_2355 ?_
  refine lw_sld (v := xs (6 * t + 2)) C0 hX hbl hb1 hS (nI_add (6 * t) 2) (show 6 * t + 2 < L by omega) hL3 rfl dL_law_2356 ?_
  refine lv_aload_n hx hb dL_law_2357 rfl (lv_at hl 3 rfl) ?_
  refine qLW (As := [.ref (b + adC 0 0), .int (xs (6 * t + 1)), .int (xs (6 * t + 2)), .ref (b + 721)]) (rest := []) C0 (cw_work l hl0 h) (vx_cwSW 4 C0.2.2.2.2 (tbSW mK_6_192 ⟨mK_6_193, mK_1_0, mK_6_194⟩) rfl rfl rfl (by decide +kernel) ⟨Nat.le_of_ble_eq_true rfl, Nat.le_of_ble_eq_true rfl⟩) hR hT hN hS rfl hl.1 rfl (Nat.le_of_ble_eq_true rfl) dL_law_2358 ⟨by omega, by omega⟩ (fun r1 S2 o3 H locs h hR hS => ?_)
  refine lv_istore (lv' := [(5, .int r1), (0, .ref b0), (1, .ref (b + adC 0 0)), (2, .ref (b + 709 + adM 0 0)), (3, .ref (b + 721)), (4, .int (nI (6 * t)))]) hx hb dL_law_2361 hl (by decide) rfl (fun ls hl => ?_)
  refine lv_aload_n hx hb dL_law_2363 rfl (lv_at hl 3 rfl) ?_
  refine lv_aload_n hx hb dL_law_2364 rfl (lv_at hl 1 rfl) ?_
  refine lv_iload hx hb dL_law_2365 (lv_at hl 5 rfl) ?_
  refine lv_iconst (v := 1) hx hb dL_law_2367 (by decide) ?_
  refine lv_iadd hx hb dL_law_2368 ?_
  refine lw_sld (v := xs (6 * t + 1)) C0 hX hbl hb1 hS (nI_add (6 * t) 1) (show 6 * t + 1 < L by omega) hL3 rfl dL_law_2369 ?_
  refine lv_aload_n hx hb dL_law_2370 rfl (lv_at hl 1 rfl) ?_
  refine lv_iload hx hb dL_law_2371 (lv_at hl 5 rfl) ?_
  refine lv_iconst (v := 2) hx hb dL_law_2373 (by decide) ?_
  refine lv_iadd hx hb dL_law_2374 ?_
  refine lw_sld (v := xs (6 * t + 2)) C0 hX hbl hb1 hS (nI_add (6 * t) 2) (show 6 * t + 2 < L by omega) hL3 rfl dL_law_2375 ?_
  refine qLM_i (As := [.int (xs (6 * t + 1)), .int (xs (6 * t + 2))]) (rest := []) C0 (c_X12_work l h) (cwV 2 C0.2.2.2.2 (tbV mK_9_141 ⟨mK_9_142, mK_9_143, mK_1_11, mK_9_144⟩) rfl rfl rfl (by decide +kernel) ⟨Nat.le_of_ble_eq_true rfl, Nat.le_of_ble_eq_true rfl⟩) hR hT hS rfl hl.1 rfl (Nat.le_of_ble_eq_true rfl) dL_law_2376 ⟨by omega, by omega⟩ (fun r4 S5 H locs h hR hS => ?_)
  refine lv_istore (lv' := [(6, .int r4), (5, .int r1), (0, .ref b0), (1, .ref (b + adC 0 0)), (2, .ref (b + 709 + adM 0 0)), (3, .ref (b + 721)), (4, .int (nI (6 * t)))]) hx hb dL_law_2379 hl (by decide) rfl (fun ls hl => ?_)
  refine lv_aload_n hx hb dL_law_2381 rfl (lv_at hl 4 rfl) ?_
  refine qLM_i (As := []) (rest := []) C0 (c_X12_thrown l h) (cwV 0 C0.2.2.2.2 (tbV mK_7_64 ⟨mK_7_65, mK_7_66, mK_1_11, mK_7_67⟩) rfl rfl rfl (by decide +kernel) ⟨Nat.le_of_ble_eq_true rfl, Nat.le_of_ble_eq_true rfl⟩) hR hT hS rfl hl.1 rfl (Nat.le_of_ble_eq_true rfl) dL_law_2382 ⟨by omega, by omega⟩ (fun r6 S7 H locs h hR hS => ?_)
  refine lv_iload hx hb dL_law_2385 (lv_at hl 1 rfl) ?_
  refine lv_icmp_eq (tgt := 2392) hx hb dL_law_2387 (by decide) (fun c8 => ?_) (fun c8 => ?_)
  · have h := h.1 c8
    refine lv_iload hx hb dL_law_2392 (lv_at hl 1 rfl) ?_
    refine lv_if_ne (tgt := 2409) hx hb dL_law_2394 (by decide) (fun c9 => ?_) (fun c9 => ?_)
    · have h := h.1 c9
      refine lv_goto (tgt := 2858) hx hb dL_law_2409 (by decide) ?_
      exact W.widen (k := cells + 6) (n := slots + 36) (by omega) (by omega) (kk S2 S7 o3 H locs _ h hR hS (lv_sub hl [2, 3, 4, 5, 6] rfl))
    · have h := h.2 c9
      refine lv_aload_n hx hb dL_law_2397 rfl (lv_at hl 5 rfl) ?_
      refine lv_iconst (v := 0) hx hb dL_law_2398 (by decide) ?_
      refine lw_out C0 hR dL_law_2399 ?_
      refine lv_iload hx hb dL_law_2400 (lv_at hl 0 rfl) ?_
      refine lv_i2l (v := r4.toInt64) hx hb dL_law_2402 rfl ?_
      refine W.lcmp hx hb dL_law_2403 ?_
      refine lv_if_eq (tgt := 2409) hx hb dL_law_2404 (by decide) (fun c10 => ?_) (fun c10 => ?_)
      · have h := h.1 ((lg_cmp_eq _ _).mp c10)
        refine lv_goto (tgt := 2858) hx hb dL_law_2409 (by decide) ?_
        exact W.widen (k := cells + 6) (n := slots + 36) (by omega) (by omega) (kk S2 S7 o3 H locs _ h hR hS (lv_sub hl [2, 3, 4, 5, 6] rfl))
      · have h := h.2 (fun q9 => c10 ((lg_cmp_eq _ _).mpr q9))
        exact h.elim
  · have h := h.2 c8
    exact h.elim
def CS_35 (a1 a2 a3 a4 a5 : Int32) (Sc Sm : sSt) (o : Int64) (K : sSt → sSt → Int64 → Prop) : Prop := FW_was a1 a2 Sc o (fun r1 S2 o3 => F_X12_was a1 a2 Sm (fun r4 S5 => F_X12_thrown S5 (fun r6 S7 => ((r6 = r1 → ((¬ r1 = 0 → K S2 S7 o3) ∧ (r1 = 0 → ((o3 = r4.toInt64 → K S2 S7 o3) ∧ (¬ o3 = r4.toInt64 → False))))) ∧ (¬ r6 = r1 → False)))))
set_option maxHeartbeats 4000000 in
set_option maxRecDepth 100000 in
theorem LW_35 {p : Program} {l : Launch} {e : Env} {s : State} {m : MethodId} {args : Array Value} {below : List Frame} {meth : Method} {c : Code} {Q : State → Prop} {D : va_G} {cy : Nat → ClassId} {b b0 L : Nat} {tx : TX} {xs : Nat → Int32} (hl0 : l.stackTraces = false) (C0 : CallFix p m c cL_law 7 s args TB RL) (hT : TxR tx s) (hN : TxN s) (hX : va_X b0 L xs s s.heap) (hbl : b0 < s.heap.size) (hb1 : b = s.heap.size) (hL3 : L ≤ 3072) (t : Nat) (ht : 6 * t + 6 ≤ L) {Sc Sm : sSt} {o : Int64} {K : sSt → sSt → Int64 → Prop} {H : Heap} {locs : List Loc} {ls : Array Slot} {cells slots : Nat} (hc1 : cells + 6 ≤ room_1.cells) (hc2 : slots + 36 ≤ room_1.slots) (h : CS_35 (xs (6 * t + 1)) (xs (6 * t + 2)) (xs (6 * t + 3)) (xs (6 * t + 4)) (xs (6 * t + 5)) Sc Sm o K) (hR : RelL D cy b tx Sc Sm o s H) (hS : va_S (bA b) s.heap H locs) (hl : lv_has ls 7 [(0, .ref b0), (1, .ref (b + adC 0 0)), (2, .ref (b + 709 + adM 0 0)), (3, .ref (b + 721)), (4, .int (nI (6 * t)))])
    (kk : ∀ (S1 S2 : sSt) (o1 : Int64) (H1 : Heap) (locs1 : List Loc) (ls1 : Array Slot), K S1 S2 o1 → RelL D cy b tx S1 S2 o1 s H1 → va_S (bA b) s.heap H1 locs1 → lv_has ls1 7 [(0, .ref b0), (1, .ref (b + adC 0 0)), (2, .ref (b + 709 + adM 0 0)), (3, .ref (b + 721)), (4, .int (nI (6 * t)))] → W p l e room_1 s m args below meth c H1 locs1 (cells + 6) (slots + 36) Q (F0 m 2858 ls1 [])) : W p l e room_1 s m args below meth c H locs cells slots Q (F0 m 2412 ls []) := by
  have hx := C0.1
  have hb := C0.2.1
  unfold CS_35 at h
  refine lv_aload_n hx hb dL_law_2412 rfl (lv_at hl 1 rfl) ?_
  refine lv_aload_n hx hb dL_law_2413 rfl (lv_at hl 0 rfl) ?_
  refine lv_iload hx hb dL_law_2414 (lv_at hl 4 rfl) ?_
  refine lv_iconst (v := 1) hx hb dL_law_2416 (by decide) ?_
  refine lv_iadd hx hb dL_law_2417 ?_
  refine lw_sld (v := xs (6 * t + 1)) C0 hX hbl hb1 hS (nI_add (6 * t) 1) (show 6 * t + 1 < L by omega) hL3 rfl dL_law_2418 ?_
  refine lv_aload_n hx hb dL_law_2419 rfl (lv_at hl 0 rfl) ?_
  refine lv_iload hx hb dL_law_2420 (lv_at hl 4 rfl) ?_
  refine lv_iconst (v := 2) hx hb dL_law_2422 (by decide) ?_
  refine lv_iadd hx hb dL_law_2423 ?_
  refine lw_sld (v := xs (6 * t + 2)) C0 hX hbl hb1 hS (nI_add (6 * t) 2) (show 6 * t + 2 < L by omega) hL3 rfl dL_law_2424 ?_
  refine lv_aload_n hx hb dL_law_2425 rfl (lv_at hl 3 rfl) ?_
  refine qLW (As := [.ref (b + adC 0 0), .int (xs (6 * t + 1)), .int (xs (6 * t + 2)), .ref (b + 721)]) (rest := []) C0 (cw_was l hl0 h) (vx_cwSW 4 C0.2.2.2.2 (tbSW mK_6_219 ⟨mK_6_220, mK_1_0, mK_6_221⟩) rfl rfl rfl (by decide +kernel) ⟨Nat.le_of_ble_eq_true rfl, Nat.le_of_ble_eq_true rfl⟩) hR hT hN hS rfl hl.1 rfl (Nat.le_of_ble_eq_true rfl) dL_law_2426 ⟨by omega, by omega⟩ (fun r1 S2 o3 H locs h hR hS => ?_)
  refine lv_istore (lv' := [(5, .int r1), (0, .ref b0), (1, .ref (b + adC 0 0)), (2, .ref (b + 709 + adM 0 0)), (3, .ref (b + 721)), (4, .int (nI (6 * t)))]) hx hb dL_law_2429 hl (by decide) rfl (fun ls hl => ?_)
  refine lv_aload_n hx hb dL_law_2431 rfl (lv_at hl 3 rfl) ?_
  refine lv_aload_n hx hb dL_law_2432 rfl (lv_at hl 1 rfl) ?_
  refine lv_iload hx hb dL_law_2433 (lv_at hl 5 rfl) ?_
  refine lv_iconst (v := 1) hx hb dL_law_2435 (by decide) ?_
  refine lv_iadd hx hb dL_law_2436 ?_
  refine lw_sld (v := xs (6 * t + 1)) C0 hX hbl hb1 hS (nI_add (6 * t) 1) (show 6 * t + 1 < L by omega) hL3 rfl dL_law_2437 ?_
  refine lv_aload_n hx hb dL_law_2438 rfl (lv_at hl 1 rfl) ?_
  refine lv_iload hx hb dL_law_2439 (lv_at hl 5 rfl) ?_
  refine lv_iconst (v := 2) hx hb dL_law_2441 (by decide) ?_
  refine lv_iadd hx hb dL_law_2442 ?_
  refine lw_sld (v := xs (6 * t + 2)) C0 hX hbl hb1 hS (nI_add (6 * t) 2) (show 6 * t + 2 < L by omega) hL3 rfl dL_law_2443 ?_
  refine qLM_i (As := [.int (xs (6 * t + 1)), .int (xs (6 * t + 2))]) (rest := []) C0 (c_X12_was l h) (cwV 2 C0.2.2.2.2 (tbV mK_9_173 ⟨mK_9_174, mK_9_175, mK_1_11, mK_9_176⟩) rfl rfl rfl (by decide +kernel) ⟨Nat.le_of_ble_eq_true rfl, Nat.le_of_ble_eq_true rfl⟩) hR hT hS rfl hl.1 rfl (Nat.le_of_ble_eq_true rfl) dL_law_2444 ⟨by omega, by omega⟩ (fun r4 S5 H locs h hR hS => ?_)
  refine lv_istore (lv' := [(6, .int r4), (5, .int r1), (0, .ref b0), (1, .ref (b + adC 0 0)), (2, .ref (b + 709 + adM 0 0)), (3, .ref (b + 721)), (4, .int (nI (6 * t)))]) hx hb dL_law_2447 hl (by decide) rfl (fun ls hl => ?_)
  refine lv_aload_n hx hb dL_law_2449 rfl (lv_at hl 4 rfl) ?_
  refine qLM_i (As := []) (rest := []) C0 (c_X12_thrown l h) (cwV 0 C0.2.2.2.2 (tbV mK_7_64 ⟨mK_7_65, mK_7_66, mK_1_11, mK_7_67⟩) rfl rfl rfl (by decide +kernel) ⟨Nat.le_of_ble_eq_true rfl, Nat.le_of_ble_eq_true rfl⟩) hR hT hS rfl hl.1 rfl (Nat.le_of_ble_eq_true rfl) dL_law_2450 ⟨by omega, by omega⟩ (fun r6 S7 H locs h hR hS => ?_)
  refine lv_iload hx hb dL_law_2453 (lv_at hl 1 rfl) ?_
  refine lv_icmp_eq (tgt := 2460) hx hb dL_law_2455 (by decide) (fun c8 => ?_) (fun c8 => ?_)
  · have h := h.1 c8
    refine lv_iload hx hb dL_law_2460 (lv_at hl 1 rfl) ?_
    refine lv_if_ne (tgt := 2477) hx hb dL_law_2462 (by decide) (fun c9 => ?_) (fun c9 => ?_)
    · have h := h.1 c9
      refine lv_goto (tgt := 2858) hx hb dL_law_2477 (by decide) ?_
      exact W.widen (k := cells + 6) (n := slots + 36) (by omega) (by omega) (kk S2 S7 o3 H locs _ h hR hS (lv_sub hl [2, 3, 4, 5, 6] rfl))
    · have h := h.2 c9
      refine lv_aload_n hx hb dL_law_2465 rfl (lv_at hl 5 rfl) ?_
      refine lv_iconst (v := 0) hx hb dL_law_2466 (by decide) ?_
      refine lw_out C0 hR dL_law_2467 ?_
      refine lv_iload hx hb dL_law_2468 (lv_at hl 0 rfl) ?_
      refine lv_i2l (v := r4.toInt64) hx hb dL_law_2470 rfl ?_
      refine W.lcmp hx hb dL_law_2471 ?_
      refine lv_if_eq (tgt := 2477) hx hb dL_law_2472 (by decide) (fun c10 => ?_) (fun c10 => ?_)
      · have h := h.1 ((lg_cmp_eq _ _).mp c10)
        refine lv_goto (tgt := 2858) hx hb dL_law_2477 (by decide) ?_
        exact W.widen (k := cells + 6) (n := slots + 36) (by omega) (by omega) (kk S2 S7 o3 H locs _ h hR hS (lv_sub hl [2, 3, 4, 5, 6] rfl))
      · have h := h.2 (fun q9 => c10 ((lg_cmp_eq _ _).mpr q9))
        exact h.elim
  · have h := h.2 c8
    exact h.elim
def CS_36 (a1 a2 a3 a4 a5 : Int32) (Sc Sm : sSt) (o : Int64) (K : sSt → sSt → Int64 → Prop) : Prop := F_X11_longest Sc (fun r1 S2 => F_X12_longest Sm (fun r3 S4 => ((r1 = r3 → K S2 S4 o) ∧ (¬ r1 = r3 → False))))
set_option maxHeartbeats 4000000 in
set_option maxRecDepth 100000 in
theorem LW_36 {p : Program} {l : Launch} {e : Env} {s : State} {m : MethodId} {args : Array Value} {below : List Frame} {meth : Method} {c : Code} {Q : State → Prop} {D : va_G} {cy : Nat → ClassId} {b b0 L : Nat} {tx : TX} {xs : Nat → Int32} (hl0 : l.stackTraces = false) (C0 : CallFix p m c cL_law 7 s args TB RL) (hT : TxR tx s) (hN : TxN s) (hX : va_X b0 L xs s s.heap) (hbl : b0 < s.heap.size) (hb1 : b = s.heap.size) (hL3 : L ≤ 3072) (t : Nat) (ht : 6 * t + 6 ≤ L) {Sc Sm : sSt} {o : Int64} {K : sSt → sSt → Int64 → Prop} {H : Heap} {locs : List Loc} {ls : Array Slot} {cells slots : Nat} (hc1 : cells + 6 ≤ room_1.cells) (hc2 : slots + 36 ≤ room_1.slots) (h : CS_36 (xs (6 * t + 1)) (xs (6 * t + 2)) (xs (6 * t + 3)) (xs (6 * t + 4)) (xs (6 * t + 5)) Sc Sm o K) (hR : RelL D cy b tx Sc Sm o s H) (hS : va_S (bA b) s.heap H locs) (hl : lv_has ls 7 [(0, .ref b0), (1, .ref (b + adC 0 0)), (2, .ref (b + 709 + adM 0 0)), (3, .ref (b + 721)), (4, .int (nI (6 * t)))])
    (kk : ∀ (S1 S2 : sSt) (o1 : Int64) (H1 : Heap) (locs1 : List Loc) (ls1 : Array Slot), K S1 S2 o1 → RelL D cy b tx S1 S2 o1 s H1 → va_S (bA b) s.heap H1 locs1 → lv_has ls1 7 [(0, .ref b0), (1, .ref (b + adC 0 0)), (2, .ref (b + 709 + adM 0 0)), (3, .ref (b + 721)), (4, .int (nI (6 * t)))] → W p l e room_1 s m args below meth c H1 locs1 (cells + 6) (slots + 36) Q (F0 m 2858 ls1 [])) : W p l e room_1 s m args below meth c H locs cells slots Q (F0 m 2480 ls []) := by
  have hx := C0.1
  have hb := C0.2.1
  unfold CS_36 at h
  refine lv_aload_n hx hb dL_law_2480 rfl (lv_at hl 1 rfl) ?_
  refine qLC_i (As := []) (rest := []) C0 (c_X11_longest l h) (cwV 0 C0.2.2.2.2 (tbV mK_3_30 ⟨mK_3_31, mK_3_32, mK_1_1, mK_3_33⟩) rfl rfl rfl (by decide +kernel) ⟨Nat.le_of_ble_eq_true rfl, Nat.le_of_ble_eq_true rfl⟩) hR hT hS rfl hl.1 rfl (Nat.le_of_ble_eq_true rfl) dL_law_2481 ⟨by omega, by omega⟩ (fun r1 S2 H locs h hR hS => ?_)
  refine lv_aload_n hx hb dL_law_2484 rfl (lv_at hl 2 rfl) ?_
  refine qLM_i (As := []) (rest := [.int r1]) C0 (c_X12_longest l h) (cwV 0 C0.2.2.2.2 (tbV mK_9_181 ⟨mK_9_182, mK_9_183, mK_1_11, mK_9_184⟩) rfl rfl rfl (by decide +kernel) ⟨Nat.le_of_ble_eq_true rfl, Nat.le_of_ble_eq_true rfl⟩) hR hT hS rfl hl.1 rfl (Nat.le_of_ble_eq_true rfl) dL_law_2485 ⟨by omega, by omega⟩ (fun r3 S4 H locs h hR hS => ?_)
  refine lv_icmp_eq (tgt := 2858) hx hb dL_law_2488 (by decide) (fun c5 => ?_) (fun c5 => ?_)
  · have h := h.1 c5
    exact W.widen (k := cells + 6) (n := slots + 36) (by omega) (by omega) (kk S2 S4 o H locs _ h hR hS (lv_sub hl [0, 1, 2, 3, 4] rfl))
  · have h := h.2 c5
    exact h.elim
def CS_37 (a1 a2 a3 a4 a5 : Int32) (Sc Sm : sSt) (o : Int64) (K : sSt → sSt → Int64 → Prop) : Prop := FW_overtaken a1 Sc o (fun r1 S2 o3 => F_X12_overtaken a1 Sm (fun r4 S5 => F_X12_thrown S5 (fun r6 S7 => ((r6 = r1 → ((¬ r1 = 0 → K S2 S7 o3) ∧ (r1 = 0 → ((o3 = r4.toInt64 → K S2 S7 o3) ∧ (¬ o3 = r4.toInt64 → False))))) ∧ (¬ r6 = r1 → False)))))
set_option maxHeartbeats 4000000 in
set_option maxRecDepth 100000 in
theorem LW_37 {p : Program} {l : Launch} {e : Env} {s : State} {m : MethodId} {args : Array Value} {below : List Frame} {meth : Method} {c : Code} {Q : State → Prop} {D : va_G} {cy : Nat → ClassId} {b b0 L : Nat} {tx : TX} {xs : Nat → Int32} (hl0 : l.stackTraces = false) (C0 : CallFix p m c cL_law 7 s args TB RL) (hT : TxR tx s) (hN : TxN s) (hX : va_X b0 L xs s s.heap) (hbl : b0 < s.heap.size) (hb1 : b = s.heap.size) (hL3 : L ≤ 3072) (t : Nat) (ht : 6 * t + 6 ≤ L) {Sc Sm : sSt} {o : Int64} {K : sSt → sSt → Int64 → Prop} {H : Heap} {locs : List Loc} {ls : Array Slot} {cells slots : Nat} (hc1 : cells + 6 ≤ room_1.cells) (hc2 : slots + 36 ≤ room_1.slots) (h : CS_37 (xs (6 * t + 1)) (xs (6 * t + 2)) (xs (6 * t + 3)) (xs (6 * t + 4)) (xs (6 * t + 5)) Sc Sm o K) (hR : RelL D cy b tx Sc Sm o s H) (hS : va_S (bA b) s.heap H locs) (hl : lv_has ls 7 [(0, .ref b0), (1, .ref (b + adC 0 0)), (2, .ref (b + 709 + adM 0 0)), (3, .ref (b + 721)), (4, .int (nI (6 * t)))])
    (kk : ∀ (S1 S2 : sSt) (o1 : Int64) (H1 : Heap) (locs1 : List Loc) (ls1 : Array Slot), K S1 S2 o1 → RelL D cy b tx S1 S2 o1 s H1 → va_S (bA b) s.heap H1 locs1 → lv_has ls1 7 [(0, .ref b0), (1, .ref (b + adC 0 0)), (2, .ref (b + 709 + adM 0 0)), (3, .ref (b + 721)), (4, .int (nI (6 * t)))] → W p l e room_1 s m args below meth c H1 locs1 (cells + 6) (slots + 36) Q (F0 m 2858 ls1 [])) : W p l e room_1 s m args below meth c H locs cells slots Q (F0 m 2493 ls []) := by
  have hx := C0.1
  have hb := C0.2.1
  unfold CS_37 at h
  refine lv_aload_n hx hb dL_law_2493 rfl (lv_at hl 1 rfl) ?_
  refine lv_aload_n hx hb dL_law_2494 rfl (lv_at hl 0 rfl) ?_
  refine lv_iload hx hb dL_law_2495 (lv_at hl 4 rfl) ?_
  refine lv_iconst (v := 1) hx hb dL_law_2497 (by decide) ?_
  refine lv_iadd hx hb dL_law_2498 ?_
  refine lw_sld (v := xs (6 * t + 1)) C0 hX hbl hb1 hS (nI_add (6 * t) 1) (show 6 * t + 1 < L by omega) hL3 rfl dL_law_2499 ?_
  refine lv_aload_n hx hb dL_law_2500 rfl (lv_at hl 3 rfl) ?_
  refine qLW (As := [.ref (b + adC 0 0), .int (xs (6 * t + 1)), .ref (b + 721)]) (rest := []) C0 (cw_overtaken l hl0 h) (vx_cwSW 3 C0.2.2.2.2 (tbSW mK_6_230 ⟨mK_6_231, mK_1_0, mK_6_232⟩) rfl rfl rfl (by decide +kernel) ⟨Nat.le_of_ble_eq_true rfl, Nat.le_of_ble_eq_true rfl⟩) hR hT hN hS rfl hl.1 rfl (Nat.le_of_ble_eq_true rfl) dL_law_2501 ⟨by omega, by omega⟩ (fun r1 S2 o3 H locs h hR hS => ?_)
  refine lv_istore (lv' := [(5, .int r1), (0, .ref b0), (1, .ref (b + adC 0 0)), (2, .ref (b + 709 + adM 0 0)), (3, .ref (b + 721)), (4, .int (nI (6 * t)))]) hx hb dL_law_2504 hl (by decide) rfl (fun ls hl => ?_)
  refine lv_aload_n hx hb dL_law_2506 rfl (lv_at hl 3 rfl) ?_
  refine lv_aload_n hx hb dL_law_2507 rfl (lv_at hl 1 rfl) ?_
  refine lv_iload hx hb dL_law_2508 (lv_at hl 5 rfl) ?_
  refine lv_iconst (v := 1) hx hb dL_law_2510 (by decide) ?_
  refine lv_iadd hx hb dL_law_2511 ?_
  refine lw_sld (v := xs (6 * t + 1)) C0 hX hbl hb1 hS (nI_add (6 * t) 1) (show 6 * t + 1 < L by omega) hL3 rfl dL_law_2512 ?_
  refine qLM_i (As := [.int (xs (6 * t + 1))]) (rest := []) C0 (c_X12_overtaken l h) (cwV 1 C0.2.2.2.2 (tbV mK_9_189 ⟨mK_9_190, mK_9_191, mK_1_11, mK_9_192⟩) rfl rfl rfl (by decide +kernel) ⟨Nat.le_of_ble_eq_true rfl, Nat.le_of_ble_eq_true rfl⟩) hR hT hS rfl hl.1 rfl (Nat.le_of_ble_eq_true rfl) dL_law_2513 ⟨by omega, by omega⟩ (fun r4 S5 H locs h hR hS => ?_)
  refine lv_istore (lv' := [(6, .int r4), (5, .int r1), (0, .ref b0), (1, .ref (b + adC 0 0)), (2, .ref (b + 709 + adM 0 0)), (3, .ref (b + 721)), (4, .int (nI (6 * t)))]) hx hb dL_law_2516 hl (by decide) rfl (fun ls hl => ?_)
  refine lv_aload_n hx hb dL_law_2518 rfl (lv_at hl 4 rfl) ?_
  refine qLM_i (As := []) (rest := []) C0 (c_X12_thrown l h) (cwV 0 C0.2.2.2.2 (tbV mK_7_64 ⟨mK_7_65, mK_7_66, mK_1_11, mK_7_67⟩) rfl rfl rfl (by decide +kernel) ⟨Nat.le_of_ble_eq_true rfl, Nat.le_of_ble_eq_true rfl⟩) hR hT hS rfl hl.1 rfl (Nat.le_of_ble_eq_true rfl) dL_law_2519 ⟨by omega, by omega⟩ (fun r6 S7 H locs h hR hS => ?_)
  refine lv_iload hx hb dL_law_2522 (lv_at hl 1 rfl) ?_
  refine lv_icmp_eq (tgt := 2529) hx hb dL_law_2524 (by decide) (fun c8 => ?_) (fun c8 => ?_)
  · have h := h.1 c8
    refine lv_iload hx hb dL_law_2529 (lv_at hl 1 rfl) ?_
    refine lv_if_ne (tgt := 2546) hx hb dL_law_2531 (by decide) (fun c9 => ?_) (fun c9 => ?_)
    · have h := h.1 c9
      refine lv_goto (tgt := 2858) hx hb dL_law_2546 (by decide) ?_
      exact W.widen (k := cells + 6) (n := slots + 36) (by omega) (by omega) (kk S2 S7 o3 H locs _ h hR hS (lv_sub hl [2, 3, 4, 5, 6] rfl))
    · have h := h.2 c9
      refine lv_aload_n hx hb dL_law_2534 rfl (lv_at hl 5 rfl) ?_
      refine lv_iconst (v := 0) hx hb dL_law_2535 (by decide) ?_
      refine lw_out C0 hR dL_law_2536 ?_
      refine lv_iload hx hb dL_law_2537 (lv_at hl 0 rfl) ?_
      refine lv_i2l (v := r4.toInt64) hx hb dL_law_2539 rfl ?_
      refine W.lcmp hx hb dL_law_2540 ?_
      refine lv_if_eq (tgt := 2546) hx hb dL_law_2541 (by decide) (fun c10 => ?_) (fun c10 => ?_)
      · have h := h.1 ((lg_cmp_eq _ _).mp c10)
        refine lv_goto (tgt := 2858) hx hb dL_law_2546 (by decide) ?_
        exact W.widen (k := cells + 6) (n := slots + 36) (by omega) (by omega) (kk S2 S7 o3 H locs _ h hR hS (lv_sub hl [2, 3, 4, 5, 6] rfl))
      · have h := h.2 (fun q9 => c10 ((lg_cmp_eq _ _).mpr q9))
        exact h.elim
  · have h := h.2 c8
    exact h.elim
def CS_38 (a1 a2 a3 a4 a5 : Int32) (Sc Sm : sSt) (o : Int64) (K : sSt → sSt → Int64 → Prop) : Prop := FW_alike a1 a2 Sc o (fun r1 S2 o3 => F_X12_alike a1 a2 Sm (fun r4 S5 => F_X12_thrown S5 (fun r6 S7 => ((r6 = r1 → ((¬ r1 = 0 → K S2 S7 o3) ∧ (r1 = 0 → ((o3 = r4.toInt64 → K S2 S7 o3) ∧ (¬ o3 = r4.toInt64 → False))))) ∧ (¬ r6 = r1 → False)))))
set_option maxHeartbeats 4000000 in
set_option maxRecDepth 100000 in
theorem LW_38 {p : Program} {l : Launch} {e : Env} {s : State} {m : MethodId} {args : Array Value} {below : List Frame} {meth : Method} {c : Code} {Q : State → Prop} {D : va_G} {cy : Nat → ClassId} {b b0 L : Nat} {tx : TX} {xs : Nat → Int32} (hl0 : l.stackTraces = false) (C0 : CallFix p m c cL_law 7 s args TB RL) (hT : TxR tx s) (hN : TxN s) (hX : va_X b0 L xs s s.heap) (hbl : b0 < s.heap.size) (hb1 : b = s.heap.size) (hL3 : L ≤ 3072) (t : Nat) (ht : 6 * t + 6 ≤ L) {Sc Sm : sSt} {o : Int64} {K : sSt → sSt → Int64 → Prop} {H : Heap} {locs : List Loc} {ls : Array Slot} {cells slots : Nat} (hc1 : cells + 6 ≤ room_1.cells) (hc2 : slots + 36 ≤ room_1.slots) (h : CS_38 (xs (6 * t + 1)) (xs (6 * t + 2)) (xs (6 * t + 3)) (xs (6 * t + 4)) (xs (6 * t + 5)) Sc Sm o K) (hR : RelL D cy b tx Sc Sm o s H) (hS : va_S (bA b) s.heap H locs) (hl : lv_has ls 7 [(0, .ref b0), (1, .ref (b + adC 0 0)), (2, .ref (b + 709 + adM 0 0)), (3, .ref (b + 721)), (4, .int (nI (6 * t)))])
    (kk : ∀ (S1 S2 : sSt) (o1 : Int64) (H1 : Heap) (locs1 : List Loc) (ls1 : Array Slot), K S1 S2 o1 → RelL D cy b tx S1 S2 o1 s H1 → va_S (bA b) s.heap H1 locs1 → lv_has ls1 7 [(0, .ref b0), (1, .ref (b + adC 0 0)), (2, .ref (b + 709 + adM 0 0)), (3, .ref (b + 721)), (4, .int (nI (6 * t)))] → W p l e room_1 s m args below meth c H1 locs1 (cells + 6) (slots + 36) Q (F0 m 2858 ls1 [])) : W p l e room_1 s m args below meth c H locs cells slots Q (F0 m 2549 ls []) := by
  have hx := C0.1
  have hb := C0.2.1
  unfold CS_38 at h
  refine lv_aload_n hx hb dL_law_2549 rfl (lv_at hl 1 rfl) ?_
  refine lv_aload_n hx hb dL_law_2550 rfl (lv_at hl 0 rfl) ?_
  refine lv_iload hx hb dL_law_2551 (lv_at hl 4 rfl) ?_
  refine lv_iconst (v := 1) hx hb dL_law_2553 (by decide) ?_
  refine lv_iadd hx hb dL_law_2554 ?_
  refine lw_sld (v := xs (6 * t + 1)) C0 hX hbl hb1 hS (nI_add (6 * t) 1) (show 6 * t + 1 < L by omega) hL3 rfl dL_law_2555 ?_
  refine lv_aload_n hx hb dL_law_2556 rfl (lv_at hl 0 rfl) ?_
  refine lv_iload hx hb dL_law_2557 (lv_at hl 4 rfl) ?_
  refine lv_iconst (v := 2) hx hb dL_law_2559 (by decide) ?_
  refine lv_iadd hx hb dL_law_2560 ?_
  refine lw_sld (v := xs (6 * t + 2)) C0 hX hbl hb1 hS (nI_add (6 * t) 2) (show 6 * t + 2 < L by omega) hL3 rfl dL_law_2561 ?_
  refine lv_aload_n hx hb dL_law_2562 rfl (lv_at hl 3 rfl) ?_
  refine qLW (As := [.ref (b + adC 0 0), .int (xs (6 * t + 1)), .int (xs (6 * t + 2)), .ref (b + 721)]) (rest := []) C0 (cw_alike l hl0 h) (vx_cwSW 4 C0.2.2.2.2 (tbSW mK_7_17 ⟨mK_7_18, mK_1_0, mK_7_19⟩) rfl rfl rfl (by decide +kernel) ⟨Nat.le_of_ble_eq_true rfl, Nat.le_of_ble_eq_true rfl⟩) hR hT hN hS rfl hl.1 rfl (Nat.le_of_ble_eq_true rfl) dL_law_2563 ⟨by omega, by omega⟩ (fun r1 S2 o3 H locs h hR hS => ?_)
  refine lv_istore (lv' := [(5, .int r1), (0, .ref b0), (1, .ref (b + adC 0 0)), (2, .ref (b + 709 + adM 0 0)), (3, .ref (b + 721)), (4, .int (nI (6 * t)))]) hx hb dL_law_2566 hl (by decide) rfl (fun ls hl => ?_)
  refine lv_aload_n hx hb dL_law_2568 rfl (lv_at hl 3 rfl) ?_
  refine lv_aload_n hx hb dL_law_2569 rfl (lv_at hl 1 rfl) ?_
  refine lv_iload hx hb dL_law_2570 (lv_at hl 5 rfl) ?_
  refine lv_iconst (v := 1) hx hb dL_law_2572 (by decide) ?_
  refine lv_iadd hx hb dL_law_2573 ?_
  refine lw_sld (v := xs (6 * t + 1)) C0 hX hbl hb1 hS (nI_add (6 * t) 1) (show 6 * t + 1 < L by omega) hL3 rfl dL_law_2574 ?_
  refine lv_aload_n hx hb dL_law_2575 rfl (lv_at hl 1 rfl) ?_
  refine lv_iload hx hb dL_law_2576 (lv_at hl 5 rfl) ?_
  refine lv_iconst (v := 2) hx hb dL_law_2578 (by decide) ?_
  refine lv_iadd hx hb dL_law_2579 ?_
  refine lw_sld (v := xs (6 * t + 2)) C0 hX hbl hb1 hS (nI_add (6 * t) 2) (show 6 * t + 2 < L by omega) hL3 rfl dL_law_2580 ?_
  refine qLM_i (As := [.int (xs (6 * t + 1)), .int (xs (6 * t + 2))]) (rest := []) C0 (c_X12_alike l h) (cwV 2 C0.2.2.2.2 (tbV mK_9_201 ⟨mK_9_202, mK_9_203, mK_1_11, mK_9_204⟩) rfl rfl rfl (by decide +kernel) ⟨Nat.le_of_ble_eq_true rfl, Nat.le_of_ble_eq_true rfl⟩) hR hT hS rfl hl.1 rfl (Nat.le_of_ble_eq_true rfl) dL_law_2581 ⟨by omega, by omega⟩ (fun r4 S5 H locs h hR hS => ?_)
  refine lv_istore (lv' := [(6, .int r4), (5, .int r1), (0, .ref b0), (1, .ref (b + adC 0 0)), (2, .ref (b + 709 + adM 0 0)), (3, .ref (b + 721)), (4, .int (nI (6 * t)))]) hx hb dL_law_2584 hl (by decide) rfl (fun ls hl => ?_)
  refine lv_aload_n hx hb dL_law_2586 rfl (lv_at hl 4 rfl) ?_
  refine qLM_i (As := []) (rest := []) C0 (c_X12_thrown l h) (cwV 0 C0.2.2.2.2 (tbV mK_7_64 ⟨mK_7_65, mK_7_66, mK_1_11, mK_7_67⟩) rfl rfl rfl (by decide +kernel) ⟨Nat.le_of_ble_eq_true rfl, Nat.le_of_ble_eq_true rfl⟩) hR hT hS rfl hl.1 rfl (Nat.le_of_ble_eq_true rfl) dL_law_2587 ⟨by omega, by omega⟩ (fun r6 S7 H locs h hR hS => ?_)
  refine lv_iload hx hb dL_law_2590 (lv_at hl 1 rfl) ?_
  refine lv_icmp_eq (tgt := 2597) hx hb dL_law_2592 (by decide) (fun c8 => ?_) (fun c8 => ?_)
  · have h := h.1 c8
    refine lv_iload hx hb dL_law_2597 (lv_at hl 1 rfl) ?_
    refine lv_if_ne (tgt := 2614) hx hb dL_law_2599 (by decide) (fun c9 => ?_) (fun c9 => ?_)
    · have h := h.1 c9
      refine lv_goto (tgt := 2858) hx hb dL_law_2614 (by decide) ?_
      exact W.widen (k := cells + 6) (n := slots + 36) (by omega) (by omega) (kk S2 S7 o3 H locs _ h hR hS (lv_sub hl [2, 3, 4, 5, 6] rfl))
    · have h := h.2 c9
      refine lv_aload_n hx hb dL_law_2602 rfl (lv_at hl 5 rfl) ?_
      refine lv_iconst (v := 0) hx hb dL_law_2603 (by decide) ?_
      refine lw_out C0 hR dL_law_2604 ?_
      refine lv_iload hx hb dL_law_2605 (lv_at hl 0 rfl) ?_
      refine lv_i2l (v := r4.toInt64) hx hb dL_law_2607 rfl ?_
      refine W.lcmp hx hb dL_law_2608 ?_
      refine lv_if_eq (tgt := 2614) hx hb dL_law_2609 (by decide) (fun c10 => ?_) (fun c10 => ?_)
      · have h := h.1 ((lg_cmp_eq _ _).mp c10)
        refine lv_goto (tgt := 2858) hx hb dL_law_2614 (by decide) ?_
        exact W.widen (k := cells + 6) (n := slots + 36) (by omega) (by omega) (kk S2 S7 o3 H locs _ h hR hS (lv_sub hl [2, 3, 4, 5, 6] rfl))
      · have h := h.2 (fun q9 => c10 ((lg_cmp_eq _ _).mpr q9))
        exact h.elim
  · have h := h.2 c8
    exact h.elim
def CS_39 (a1 a2 a3 a4 a5 : Int32) (Sc Sm : sSt) (o : Int64) (K : sSt → sSt → Int64 → Prop) : Prop := FW_root a1 Sc o (fun r1 S2 o3 => F_X12_root a1 Sm (fun r4 S5 => F_X12_thrown S5 (fun r6 S7 => ((r6 = r1 → ((¬ r1 = 0 → K S2 S7 o3) ∧ (r1 = 0 → ((o3 = r4.toInt64 → K S2 S7 o3) ∧ (¬ o3 = r4.toInt64 → False))))) ∧ (¬ r6 = r1 → False)))))
set_option maxHeartbeats 4000000 in
set_option maxRecDepth 100000 in
theorem LW_39 {p : Program} {l : Launch} {e : Env} {s : State} {m : MethodId} {args : Array Value} {below : List Frame} {meth : Method} {c : Code} {Q : State → Prop} {D : va_G} {cy : Nat → ClassId} {b b0 L : Nat} {tx : TX} {xs : Nat → Int32} (hl0 : l.stackTraces = false) (C0 : CallFix p m c cL_law 7 s args TB RL) (hT : TxR tx s) (hN : TxN s) (hX : va_X b0 L xs s s.heap) (hbl : b0 < s.heap.size) (hb1 : b = s.heap.size) (hL3 : L ≤ 3072) (t : Nat) (ht : 6 * t + 6 ≤ L) {Sc Sm : sSt} {o : Int64} {K : sSt → sSt → Int64 → Prop} {H : Heap} {locs : List Loc} {ls : Array Slot} {cells slots : Nat} (hc1 : cells + 6 ≤ room_1.cells) (hc2 : slots + 36 ≤ room_1.slots) (h : CS_39 (xs (6 * t + 1)) (xs (6 * t + 2)) (xs (6 * t + 3)) (xs (6 * t + 4)) (xs (6 * t + 5)) Sc Sm o K) (hR : RelL D cy b tx Sc Sm o s H) (hS : va_S (bA b) s.heap H locs) (hl : lv_has ls 7 [(0, .ref b0), (1, .ref (b + adC 0 0)), (2, .ref (b + 709 + adM 0 0)), (3, .ref (b + 721)), (4, .int (nI (6 * t)))])
    (kk : ∀ (S1 S2 : sSt) (o1 : Int64) (H1 : Heap) (locs1 : List Loc) (ls1 : Array Slot), K S1 S2 o1 → RelL D cy b tx S1 S2 o1 s H1 → va_S (bA b) s.heap H1 locs1 → lv_has ls1 7 [(0, .ref b0), (1, .ref (b + adC 0 0)), (2, .ref (b + 709 + adM 0 0)), (3, .ref (b + 721)), (4, .int (nI (6 * t)))] → W p l e room_1 s m args below meth c H1 locs1 (cells + 6) (slots + 36) Q (F0 m 2858 ls1 [])) : W p l e room_1 s m args below meth c H locs cells slots Q (F0 m 2617 ls []) := by
  have hx := C0.1
  have hb := C0.2.1
  unfold CS_39 at h
  refine lv_aload_n hx hb dL_law_2617 rfl (lv_at hl 1 rfl) ?_
  refine lv_aload_n hx hb dL_law_2618 rfl (lv_at hl 0 rfl) ?_
  refine lv_iload hx hb dL_law_2619 (lv_at hl 4 rfl) ?_
  refine lv_iconst (v := 1) hx hb dL_law_2621 (by decide) ?_
  refine lv_iadd hx hb dL_law_2622 ?_
  refine lw_sld (v := xs (6 * t + 1)) C0 hX hbl hb1 hS (nI_add (6 * t) 1) (show 6 * t + 1 < L by omega) hL3 rfl dL_law_2623 ?_
  refine lv_aload_n hx hb dL_law_2624 rfl (lv_at hl 3 rfl) ?_
  refine qLW (As := [.ref (b + adC 0 0), .int (xs (6 * t + 1)), .ref (b + 721)]) (rest := []) C0 (cw_root l hl0 h) (vx_cwSW 3 C0.2.2.2.2 (tbSW mK_7_29 ⟨mK_7_30, mK_1_0, mK_7_31⟩) rfl rfl rfl (by decide +kernel) ⟨Nat.le_of_ble_eq_true rfl, Nat.le_of_ble_eq_true rfl⟩) hR hT hN hS rfl hl.1 rfl (Nat.le_of_ble_eq_true rfl) dL_law_2625 ⟨by omega, by omega⟩ (fun r1 S2 o3 H locs h hR hS => ?_)
  refine lv_istore (lv' := [(5, .int r1), (0, .ref b0), (1, .ref (b + adC 0 0)), (2, .ref (b + 709 + adM 0 0)), (3, .ref (b + 721)), (4, .int (nI (6 * t)))]) hx hb dL_law_2628 hl (by decide) rfl (fun ls hl => ?_)
  refine lv_aload_n hx hb dL_law_2630 rfl (lv_at hl 3 rfl) ?_
  refine lv_aload_n hx hb dL_law_2631 rfl (lv_at hl 1 rfl) ?_
  refine lv_iload hx hb dL_law_2632 (lv_at hl 5 rfl) ?_
  refine lv_iconst (v := 1) hx hb dL_law_2634 (by decide) ?_
  refine lv_iadd hx hb dL_law_2635 ?_
  refine lw_sld (v := xs (6 * t + 1)) C0 hX hbl hb1 hS (nI_add (6 * t) 1) (show 6 * t + 1 < L by omega) hL3 rfl dL_law_2636 ?_
  refine qLM_i (As := [.int (xs (6 * t + 1))]) (rest := []) C0 (c_X12_root l h) (cwV 1 C0.2.2.2.2 (tbV mK_9_205 ⟨mK_9_206, mK_9_207, mK_1_11, mK_9_208⟩) rfl rfl rfl (by decide +kernel) ⟨Nat.le_of_ble_eq_true rfl, Nat.le_of_ble_eq_true rfl⟩) hR hT hS rfl hl.1 rfl (Nat.le_of_ble_eq_true rfl) dL_law_2637 ⟨by omega, by omega⟩ (fun r4 S5 H locs h hR hS => ?_)
  refine lv_istore (lv' := [(6, .int r4), (5, .int r1), (0, .ref b0), (1, .ref (b + adC 0 0)), (2, .ref (b + 709 + adM 0 0)), (3, .ref (b + 721)), (4, .int (nI (6 * t)))]) hx hb dL_law_2640 hl (by decide) rfl (fun ls hl => ?_)
  refine lv_aload_n hx hb dL_law_2642 rfl (lv_at hl 4 rfl) ?_
  refine qLM_i (As := []) (rest := []) C0 (c_X12_thrown l h) (cwV 0 C0.2.2.2.2 (tbV mK_7_64 ⟨mK_7_65, mK_7_66, mK_1_11, mK_7_67⟩) rfl rfl rfl (by decide +kernel) ⟨Nat.le_of_ble_eq_true rfl, Nat.le_of_ble_eq_true rfl⟩) hR hT hS rfl hl.1 rfl (Nat.le_of_ble_eq_true rfl) dL_law_2643 ⟨by omega, by omega⟩ (fun r6 S7 H locs h hR hS => ?_)
  refine lv_iload hx hb dL_law_2646 (lv_at hl 1 rfl) ?_
  refine lv_icmp_eq (tgt := 2653) hx hb dL_law_2648 (by decide) (fun c8 => ?_) (fun c8 => ?_)
  · have h := h.1 c8
    refine lv_iload hx hb dL_law_2653 (lv_at hl 1 rfl) ?_
    refine lv_if_ne (tgt := 2670) hx hb dL_law_2655 (by decide) (fun c9 => ?_) (fun c9 => ?_)
    · have h := h.1 c9
      refine lv_goto (tgt := 2858) hx hb dL_law_2670 (by decide) ?_
      exact W.widen (k := cells + 6) (n := slots + 36) (by omega) (by omega) (kk S2 S7 o3 H locs _ h hR hS (lv_sub hl [2, 3, 4, 5, 6] rfl))
    · have h := h.2 c9
      refine lv_aload_n hx hb dL_law_2658 rfl (lv_at hl 5 rfl) ?_
      refine lv_iconst (v := 0) hx hb dL_law_2659 (by decide) ?_
      refine lw_out C0 hR dL_law_2660 ?_
      refine lv_iload hx hb dL_law_2661 (lv_at hl 0 rfl) ?_
      refine lv_i2l (v := r4.toInt64) hx hb dL_law_2663 rfl ?_
      refine W.lcmp hx hb dL_law_2664 ?_
      refine lv_if_eq (tgt := 2670) hx hb dL_law_2665 (by decide) (fun c10 => ?_) (fun c10 => ?_)
      · have h := h.1 ((lg_cmp_eq _ _).mp c10)
        refine lv_goto (tgt := 2858) hx hb dL_law_2670 (by decide) ?_
        exact W.widen (k := cells + 6) (n := slots + 36) (by omega) (by omega) (kk S2 S7 o3 H locs _ h hR hS (lv_sub hl [2, 3, 4, 5, 6] rfl))
      · have h := h.2 (fun q9 => c10 ((lg_cmp_eq _ _).mpr q9))
        exact h.elim
  · have h := h.2 c8
    exact h.elim
def CS_40 (a1 a2 a3 a4 a5 : Int32) (Sc Sm : sSt) (o : Int64) (K : sSt → sSt → Int64 → Prop) : Prop := FW_find a1 a2 Sc o (fun r1 S2 o3 => F_X12_find a1 a2 Sm (fun r4 S5 => F_X12_thrown S5 (fun r6 S7 => ((r6 = r1 → ((¬ r1 = 0 → K S2 S7 o3) ∧ (r1 = 0 → ((o3 = r4.toInt64 → K S2 S7 o3) ∧ (¬ o3 = r4.toInt64 → False))))) ∧ (¬ r6 = r1 → False)))))
set_option maxHeartbeats 4000000 in
set_option maxRecDepth 100000 in
theorem LW_40 {p : Program} {l : Launch} {e : Env} {s : State} {m : MethodId} {args : Array Value} {below : List Frame} {meth : Method} {c : Code} {Q : State → Prop} {D : va_G} {cy : Nat → ClassId} {b b0 L : Nat} {tx : TX} {xs : Nat → Int32} (hl0 : l.stackTraces = false) (C0 : CallFix p m c cL_law 7 s args TB RL) (hT : TxR tx s) (hN : TxN s) (hX : va_X b0 L xs s s.heap) (hbl : b0 < s.heap.size) (hb1 : b = s.heap.size) (hL3 : L ≤ 3072) (t : Nat) (ht : 6 * t + 6 ≤ L) {Sc Sm : sSt} {o : Int64} {K : sSt → sSt → Int64 → Prop} {H : Heap} {locs : List Loc} {ls : Array Slot} {cells slots : Nat} (hc1 : cells + 6 ≤ room_1.cells) (hc2 : slots + 36 ≤ room_1.slots) (h : CS_40 (xs (6 * t + 1)) (xs (6 * t + 2)) (xs (6 * t + 3)) (xs (6 * t + 4)) (xs (6 * t + 5)) Sc Sm o K) (hR : RelL D cy b tx Sc Sm o s H) (hS : va_S (bA b) s.heap H locs) (hl : lv_has ls 7 [(0, .ref b0), (1, .ref (b + adC 0 0)), (2, .ref (b + 709 + adM 0 0)), (3, .ref (b + 721)), (4, .int (nI (6 * t)))])
    (kk : ∀ (S1 S2 : sSt) (o1 : Int64) (H1 : Heap) (locs1 : List Loc) (ls1 : Array Slot), K S1 S2 o1 → RelL D cy b tx S1 S2 o1 s H1 → va_S (bA b) s.heap H1 locs1 → lv_has ls1 7 [(0, .ref b0), (1, .ref (b + adC 0 0)), (2, .ref (b + 709 + adM 0 0)), (3, .ref (b + 721)), (4, .int (nI (6 * t)))] → W p l e room_1 s m args below meth c H1 locs1 (cells + 6) (slots + 36) Q (F0 m 2858 ls1 [])) : W p l e room_1 s m args below meth c H locs cells slots Q (F0 m 2673 ls []) := by
  have hx := C0.1
  have hb := C0.2.1
  unfold CS_40 at h
  refine lv_aload_n hx hb dL_law_2673 rfl (lv_at hl 1 rfl) ?_
  refine lv_aload_n hx hb dL_law_2674 rfl (lv_at hl 0 rfl) ?_
  refine lv_iload hx hb dL_law_2675 (lv_at hl 4 rfl) ?_
  refine lv_iconst (v := 1) hx hb dL_law_2677 (by decide) ?_
  refine lv_iadd hx hb dL_law_2678 ?_
  refine lw_sld (v := xs (6 * t + 1)) C0 hX hbl hb1 hS (nI_add (6 * t) 1) (show 6 * t + 1 < L by omega) hL3 rfl dL_law_2679 ?_
  refine lv_aload_n hx hb dL_law_2680 rfl (lv_at hl 0 rfl) ?_
  refine lv_iload hx hb dL_law_2681 (lv_at hl 4 rfl) ?_
  refine lv_iconst (v := 2) hx hb dL_law_2683 (by decide) ?_
  refine lv_iadd hx hb dL_law_2684 ?_
  refine lw_sld (v := xs (6 * t + 2)) C0 hX hbl hb1 hS (nI_add (6 * t) 2) (show 6 * t + 2 < L by omega) hL3 rfl dL_law_2685 ?_
  refine lv_aload_n hx hb dL_law_2686 rfl (lv_at hl 3 rfl) ?_
  refine qLW (As := [.ref (b + adC 0 0), .int (xs (6 * t + 1)), .int (xs (6 * t + 2)), .ref (b + 721)]) (rest := []) C0 (cw_find l hl0 h) (vx_cwSW 4 C0.2.2.2.2 (tbSW mK_7_41 ⟨mK_7_42, mK_1_0, mK_7_43⟩) rfl rfl rfl (by decide +kernel) ⟨Nat.le_of_ble_eq_true rfl, Nat.le_of_ble_eq_true rfl⟩) hR hT hN hS rfl hl.1 rfl (Nat.le_of_ble_eq_true rfl) dL_law_2687 ⟨by omega, by omega⟩ (fun r1 S2 o3 H locs h hR hS => ?_)
  refine lv_istore (lv' := [(5, .int r1), (0, .ref b0), (1, .ref (b + adC 0 0)), (2, .ref (b + 709 + adM 0 0)), (3, .ref (b + 721)), (4, .int (nI (6 * t)))]) hx hb dL_law_2690 hl (by decide) rfl (fun ls hl => ?_)
  refine lv_aload_n hx hb dL_law_2692 rfl (lv_at hl 3 rfl) ?_
  refine lv_aload_n hx hb dL_law_2693 rfl (lv_at hl 1 rfl) ?_
  refine lv_iload hx hb dL_law_2694 (lv_at hl 5 rfl) ?_
  refine lv_iconst (v := 1) hx hb dL_law_2696 (by decide) ?_
  refine lv_iadd hx hb dL_law_2697 ?_
  refine lw_sld (v := xs (6 * t + 1)) C0 hX hbl hb1 hS (nI_add (6 * t) 1) (show 6 * t + 1 < L by omega) hL3 rfl dL_law_2698 ?_
  refine lv_aload_n hx hb dL_law_2699 rfl (lv_at hl 1 rfl) ?_
  refine lv_iload hx hb dL_law_2700 (lv_at hl 5 rfl) ?_
  refine lv_iconst (v := 2) hx hb dL_law_2702 (by decide) ?_
  refine lv_iadd hx hb dL_law_2703 ?_
  refine lw_sld (v := xs (6 * t + 2)) C0 hX hbl hb1 hS (nI_add (6 * t) 2) (show 6 * t + 2 < L by omega) hL3 rfl dL_law_2704 ?_
  refine qLM_i (As := [.int (xs (6 * t + 1)), .int (xs (6 * t + 2))]) (rest := []) C0 (c_X12_find l h) (cwV 2 C0.2.2.2.2 (tbV mK_9_209 ⟨mK_9_210, mK_9_211, mK_1_11, mK_9_212⟩) rfl rfl rfl (by decide +kernel) ⟨Nat.le_of_ble_eq_true rfl, Nat.le_of_ble_eq_true rfl⟩) hR hT hS rfl hl.1 rfl (Nat.le_of_ble_eq_true rfl) dL_law_2705 ⟨by omega, by omega⟩ (fun r4 S5 H locs h hR hS => ?_)
  refine lv_istore (lv' := [(6, .int r4), (5, .int r1), (0, .ref b0), (1, .ref (b + adC 0 0)), (2, .ref (b + 709 + adM 0 0)), (3, .ref (b + 721)), (4, .int (nI (6 * t)))]) hx hb dL_law_2708 hl (by decide) rfl (fun ls hl => ?_)
  refine lv_aload_n hx hb dL_law_2710 rfl (lv_at hl 4 rfl) ?_
  refine qLM_i (As := []) (rest := []) C0 (c_X12_thrown l h) (cwV 0 C0.2.2.2.2 (tbV mK_7_64 ⟨mK_7_65, mK_7_66, mK_1_11, mK_7_67⟩) rfl rfl rfl (by decide +kernel) ⟨Nat.le_of_ble_eq_true rfl, Nat.le_of_ble_eq_true rfl⟩) hR hT hS rfl hl.1 rfl (Nat.le_of_ble_eq_true rfl) dL_law_2711 ⟨by omega, by omega⟩ (fun r6 S7 H locs h hR hS => ?_)
  refine lv_iload hx hb dL_law_2714 (lv_at hl 1 rfl) ?_
  refine lv_icmp_eq (tgt := 2721) hx hb dL_law_2716 (by decide) (fun c8 => ?_) (fun c8 => ?_)
  · have h := h.1 c8
    refine lv_iload hx hb dL_law_2721 (lv_at hl 1 rfl) ?_
    refine lv_if_ne (tgt := 2738) hx hb dL_law_2723 (by decide) (fun c9 => ?_) (fun c9 => ?_)
    · have h := h.1 c9
      refine lv_goto (tgt := 2858) hx hb dL_law_2738 (by decide) ?_
      exact W.widen (k := cells + 6) (n := slots + 36) (by omega) (by omega) (kk S2 S7 o3 H locs _ h hR hS (lv_sub hl [2, 3, 4, 5, 6] rfl))
    · have h := h.2 c9
      refine lv_aload_n hx hb dL_law_2726 rfl (lv_at hl 5 rfl) ?_
      refine lv_iconst (v := 0) hx hb dL_law_2727 (by decide) ?_
      refine lw_out C0 hR dL_law_2728 ?_
      refine lv_iload hx hb dL_law_2729 (lv_at hl 0 rfl) ?_
      refine lv_i2l (v := r4.toInt64) hx hb dL_law_2731 rfl ?_
      refine W.lcmp hx hb dL_law_2732 ?_
      refine lv_if_eq (tgt := 2738) hx hb dL_law_2733 (by decide) (fun c10 => ?_) (fun c10 => ?_)
      · have h := h.1 ((lg_cmp_eq _ _).mp c10)
        refine lv_goto (tgt := 2858) hx hb dL_law_2738 (by decide) ?_
        exact W.widen (k := cells + 6) (n := slots + 36) (by omega) (by omega) (kk S2 S7 o3 H locs _ h hR hS (lv_sub hl [2, 3, 4, 5, 6] rfl))
      · have h := h.2 (fun q9 => c10 ((lg_cmp_eq _ _).mpr q9))
        exact h.elim
  · have h := h.2 c8
    exact h.elim
def CS_41 (a1 a2 a3 a4 a5 : Int32) (Sc Sm : sSt) (o : Int64) (K : sSt → sSt → Int64 → Prop) : Prop := FW_log a1 a2 Sc o (fun r1 S2 o3 => F_X12_log a1 a2 Sm (fun r4 S5 => F_X12_thrown S5 (fun r6 S7 => ((r6 = r1 → ((¬ r1 = 0 → K S2 S7 o3) ∧ (r1 = 0 → ((o3 = r4.toInt64 → K S2 S7 o3) ∧ (¬ o3 = r4.toInt64 → False))))) ∧ (¬ r6 = r1 → False)))))
set_option maxHeartbeats 4000000 in
set_option maxRecDepth 100000 in
theorem LW_41 {p : Program} {l : Launch} {e : Env} {s : State} {m : MethodId} {args : Array Value} {below : List Frame} {meth : Method} {c : Code} {Q : State → Prop} {D : va_G} {cy : Nat → ClassId} {b b0 L : Nat} {tx : TX} {xs : Nat → Int32} (hl0 : l.stackTraces = false) (C0 : CallFix p m c cL_law 7 s args TB RL) (hT : TxR tx s) (hN : TxN s) (hX : va_X b0 L xs s s.heap) (hbl : b0 < s.heap.size) (hb1 : b = s.heap.size) (hL3 : L ≤ 3072) (t : Nat) (ht : 6 * t + 6 ≤ L) {Sc Sm : sSt} {o : Int64} {K : sSt → sSt → Int64 → Prop} {H : Heap} {locs : List Loc} {ls : Array Slot} {cells slots : Nat} (hc1 : cells + 6 ≤ room_1.cells) (hc2 : slots + 36 ≤ room_1.slots) (h : CS_41 (xs (6 * t + 1)) (xs (6 * t + 2)) (xs (6 * t + 3)) (xs (6 * t + 4)) (xs (6 * t + 5)) Sc Sm o K) (hR : RelL D cy b tx Sc Sm o s H) (hS : va_S (bA b) s.heap H locs) (hl : lv_has ls 7 [(0, .ref b0), (1, .ref (b + adC 0 0)), (2, .ref (b + 709 + adM 0 0)), (3, .ref (b + 721)), (4, .int (nI (6 * t)))])
    (kk : ∀ (S1 S2 : sSt) (o1 : Int64) (H1 : Heap) (locs1 : List Loc) (ls1 : Array Slot), K S1 S2 o1 → RelL D cy b tx S1 S2 o1 s H1 → va_S (bA b) s.heap H1 locs1 → lv_has ls1 7 [(0, .ref b0), (1, .ref (b + adC 0 0)), (2, .ref (b + 709 + adM 0 0)), (3, .ref (b + 721)), (4, .int (nI (6 * t)))] → W p l e room_1 s m args below meth c H1 locs1 (cells + 6) (slots + 36) Q (F0 m 2858 ls1 [])) : W p l e room_1 s m args below meth c H locs cells slots Q (F0 m 2741 ls []) := by
  have hx := C0.1
  have hb := C0.2.1
  unfold CS_41 at h
  refine lv_aload_n hx hb dL_law_2741 rfl (lv_at hl 1 rfl) ?_
  refine lv_aload_n hx hb dL_law_2742 rfl (lv_at hl 0 rfl) ?_
  refine lv_iload hx hb dL_law_2743 (lv_at hl 4 rfl) ?_
  refine lv_iconst (v := 1) hx hb dL_law_2745 (by decide) ?_
  refine lv_iadd hx hb dL_law_2746 ?_
  refine lw_sld (v := xs (6 * t + 1)) C0 hX hbl hb1 hS (nI_add (6 * t) 1) (show 6 * t + 1 < L by omega) hL3 rfl dL_law_2747 ?_
  refine lv_aload_n hx hb dL_law_2748 rfl (lv_at hl 0 rfl) ?_
  refine lv_iload hx hb dL_law_2749 (lv_at hl 4 rfl) ?_
  refine lv_iconst (v := 2) hx hb dL_law_2751 (by decide) ?_
  refine lv_iadd hx hb dL_law_2752 ?_
  refine lw_sld (v := xs (6 * t + 2)) C0 hX hbl hb1 hS (nI_add (6 * t) 2) (show 6 * t + 2 < L by omega) hL3 rfl dL_law_2753 ?_
  refine lv_aload_n hx hb dL_law_2754 rfl (lv_at hl 3 rfl) ?_
  refine qLW (As := [.ref (b + adC 0 0), .int (xs (6 * t + 1)), .int (xs (6 * t + 2)), .ref (b + 721)]) (rest := []) C0 (cw_log l hl0 h) (vx_cwSW 4 C0.2.2.2.2 (tbSW mK_7_56 ⟨mK_7_57, mK_1_0, mK_7_58⟩) rfl rfl rfl (by decide +kernel) ⟨Nat.le_of_ble_eq_true rfl, Nat.le_of_ble_eq_true rfl⟩) hR hT hN hS rfl hl.1 rfl (Nat.le_of_ble_eq_true rfl) dL_law_2755 ⟨by omega, by omega⟩ (fun r1 S2 o3 H locs h hR hS => ?_)
  refine lv_istore (lv' := [(5, .int r1), (0, .ref b0), (1, .ref (b + adC 0 0)), (2, .ref (b + 709 + adM 0 0)), (3, .ref (b + 721)), (4, .int (nI (6 * t)))]) hx hb dL_law_2758 hl (by decide) rfl (fun ls hl => ?_)
  refine lv_aload_n hx hb dL_law_2760 rfl (lv_at hl 3 rfl) ?_
  refine lv_aload_n hx hb dL_law_2761 rfl (lv_at hl 1 rfl) ?_
  refine lv_iload hx hb dL_law_2762 (lv_at hl 5 rfl) ?_
  refine lv_iconst (v := 1) hx hb dL_law_2764 (by decide) ?_
  refine lv_iadd hx hb dL_law_2765 ?_
  refine lw_sld (v := xs (6 * t + 1)) C0 hX hbl hb1 hS (nI_add (6 * t) 1) (show 6 * t + 1 < L by omega) hL3 rfl dL_law_2766 ?_
  refine lv_aload_n hx hb dL_law_2767 rfl (lv_at hl 1 rfl) ?_
  refine lv_iload hx hb dL_law_2768 (lv_at hl 5 rfl) ?_
  refine lv_iconst (v := 2) hx hb dL_law_2770 (by decide) ?_
  refine lv_iadd hx hb dL_law_2771 ?_
  refine lw_sld (v := xs (6 * t + 2)) C0 hX hbl hb1 hS (nI_add (6 * t) 2) (show 6 * t + 2 < L by omega) hL3 rfl dL_law_2772 ?_
  refine qLM_i (As := [.int (xs (6 * t + 1)), .int (xs (6 * t + 2))]) (rest := []) C0 (c_X12_log l h) (cwV 2 C0.2.2.2.2 (tbV mK_9_197 ⟨mK_9_198, mK_9_199, mK_1_11, mK_9_200⟩) rfl rfl rfl (by decide +kernel) ⟨Nat.le_of_ble_eq_true rfl, Nat.le_of_ble_eq_true rfl⟩) hR hT hS rfl hl.1 rfl (Nat.le_of_ble_eq_true rfl) dL_law_2773 ⟨by omega, by omega⟩ (fun r4 S5 H locs h hR hS => ?_)
  refine lv_istore (lv' := [(6, .int r4), (5, .int r1), (0, .ref b0), (1, .ref (b + adC 0 0)), (2, .ref (b + 709 + adM 0 0)), (3, .ref (b + 721)), (4, .int (nI (6 * t)))]) hx hb dL_law_2776 hl (by decide) rfl (fun ls hl => ?_)
  refine lv_aload_n hx hb dL_law_2778 rfl (lv_at hl 4 rfl) ?_
  refine qLM_i (As := []) (rest := []) C0 (c_X12_thrown l h) (cwV 0 C0.2.2.2.2 (tbV mK_7_64 ⟨mK_7_65, mK_7_66, mK_1_11, mK_7_67⟩) rfl rfl rfl (by decide +kernel) ⟨Nat.le_of_ble_eq_true rfl, Nat.le_of_ble_eq_true rfl⟩) hR hT hS rfl hl.1 rfl (Nat.le_of_ble_eq_true rfl) dL_law_2779 ⟨by omega, by omega⟩ (fun r6 S7 H locs h hR hS => ?_)
  refine lv_iload hx hb dL_law_2782 (lv_at hl 1 rfl) ?_
  refine lv_icmp_eq (tgt := 2789) hx hb dL_law_2784 (by decide) (fun c8 => ?_) (fun c8 => ?_)
  · have h := h.1 c8
    refine lv_iload hx hb dL_law_2789 (lv_at hl 1 rfl) ?_
    refine lv_if_ne (tgt := 2806) hx hb dL_law_2791 (by decide) (fun c9 => ?_) (fun c9 => ?_)
    · have h := h.1 c9
      refine lv_goto (tgt := 2858) hx hb dL_law_2806 (by decide) ?_
      exact W.widen (k := cells + 6) (n := slots + 36) (by omega) (by omega) (kk S2 S7 o3 H locs _ h hR hS (lv_sub hl [2, 3, 4, 5, 6] rfl))
    · have h := h.2 c9
      refine lv_aload_n hx hb dL_law_2794 rfl (lv_at hl 5 rfl) ?_
      refine lv_iconst (v := 0) hx hb dL_law_2795 (by decide) ?_
      refine lw_out C0 hR dL_law_2796 ?_
      refine lv_iload hx hb dL_law_2797 (lv_at hl 0 rfl) ?_
      refine lv_i2l (v := r4.toInt64) hx hb dL_law_2799 rfl ?_
      refine W.lcmp hx hb dL_law_2800 ?_
      refine lv_if_eq (tgt := 2806) hx hb dL_law_2801 (by decide) (fun c10 => ?_) (fun c10 => ?_)
      · have h := h.1 ((lg_cmp_eq _ _).mp c10)
        refine lv_goto (tgt := 2858) hx hb dL_law_2806 (by decide) ?_
        exact W.widen (k := cells + 6) (n := slots + 36) (by omega) (by omega) (kk S2 S7 o3 H locs _ h hR hS (lv_sub hl [2, 3, 4, 5, 6] rfl))
      · have h := h.2 (fun q9 => c10 ((lg_cmp_eq _ _).mpr q9))
        exact h.elim
  · have h := h.2 c8
    exact h.elim
def CS_42 (a1 a2 a3 a4 a5 : Int32) (Sc Sm : sSt) (o : Int64) (K : sSt → sSt → Int64 → Prop) : Prop := F_X11_image Sc (fun S2 => F_X12_image Sm (fun S4 => K S2 S4 o))
set_option maxHeartbeats 4000000 in
set_option maxRecDepth 100000 in
theorem LW_42 {p : Program} {l : Launch} {e : Env} {s : State} {m : MethodId} {args : Array Value} {below : List Frame} {meth : Method} {c : Code} {Q : State → Prop} {D : va_G} {cy : Nat → ClassId} {b b0 L : Nat} {tx : TX} {xs : Nat → Int32} (hl0 : l.stackTraces = false) (C0 : CallFix p m c cL_law 7 s args TB RL) (hT : TxR tx s) (hN : TxN s) (hX : va_X b0 L xs s s.heap) (hbl : b0 < s.heap.size) (hb1 : b = s.heap.size) (hL3 : L ≤ 3072) (t : Nat) (ht : 6 * t + 6 ≤ L) {Sc Sm : sSt} {o : Int64} {K : sSt → sSt → Int64 → Prop} {H : Heap} {locs : List Loc} {ls : Array Slot} {cells slots : Nat} (hc1 : cells + 6 ≤ room_1.cells) (hc2 : slots + 36 ≤ room_1.slots) (h : CS_42 (xs (6 * t + 1)) (xs (6 * t + 2)) (xs (6 * t + 3)) (xs (6 * t + 4)) (xs (6 * t + 5)) Sc Sm o K) (hR : RelL D cy b tx Sc Sm o s H) (hS : va_S (bA b) s.heap H locs) (hl : lv_has ls 7 [(0, .ref b0), (1, .ref (b + adC 0 0)), (2, .ref (b + 709 + adM 0 0)), (3, .ref (b + 721)), (4, .int (nI (6 * t)))])
    (kk : ∀ (S1 S2 : sSt) (o1 : Int64) (H1 : Heap) (locs1 : List Loc) (ls1 : Array Slot), K S1 S2 o1 → RelL D cy b tx S1 S2 o1 s H1 → va_S (bA b) s.heap H1 locs1 → lv_has ls1 7 [(0, .ref b0), (1, .ref (b + adC 0 0)), (2, .ref (b + 709 + adM 0 0)), (3, .ref (b + 721)), (4, .int (nI (6 * t)))] → W p l e room_1 s m args below meth c H1 locs1 (cells + 6) (slots + 36) Q (F0 m 2858 ls1 [])) : W p l e room_1 s m args below meth c H locs cells slots Q (F0 m 2809 ls []) := by
  have hx := C0.1
  have hb := C0.2.1
  unfold CS_42 at h
  refine lv_aload_n hx hb dL_law_2809 rfl (lv_at hl 1 rfl) ?_
  refine qLC_v (As := []) (rest := []) C0 (c_X11_image l h) (cwV 0 C0.2.2.2.2 (tbV mK_3_49 ⟨mK_3_50, mK_3_51, mK_1_1, mK_3_52⟩) rfl rfl rfl (by decide +kernel) ⟨Nat.le_of_ble_eq_true rfl, Nat.le_of_ble_eq_true rfl⟩) hR hT hS rfl hl.1 rfl (Nat.le_of_ble_eq_true rfl) dL_law_2810 ⟨by omega, by omega⟩ (fun S2 H locs h hR hS => ?_)
  refine lv_aload_n hx hb dL_law_2813 rfl (lv_at hl 2 rfl) ?_
  refine qLM_v (As := []) (rest := []) C0 (c_X12_image l h) (cwV 0 C0.2.2.2.2 (tbV mK_7_135 ⟨mK_7_136, mK_7_137, mK_1_11, mK_7_138⟩) rfl rfl rfl (by decide +kernel) ⟨Nat.le_of_ble_eq_true rfl, Nat.le_of_ble_eq_true rfl⟩) hR hT hS rfl hl.1 rfl (Nat.le_of_ble_eq_true rfl) dL_law_2814 ⟨by omega, by omega⟩ (fun S4 H locs h hR hS => ?_)
  refine lv_goto (tgt := 2858) hx hb dL_law_2817 (by decide) ?_
  exact W.widen (k := cells + 6) (n := slots + 36) (by omega) (by omega) (kk S2 S4 o H locs _ h hR hS (lv_sub hl [0, 1, 2, 3, 4] rfl))
def CS_43 (a1 a2 a3 a4 a5 : Int32) (Sc Sm : sSt) (o : Int64) (K : sSt → sSt → Int64 → Prop) : Prop := F_X11_back Sc (fun r1 S2 => F_X12_back Sm (fun r3 S4 => ((r1 = r3 → K S2 S4 o) ∧ (¬ r1 = r3 → False))))
set_option maxHeartbeats 4000000 in
set_option maxRecDepth 100000 in
theorem LW_43 {p : Program} {l : Launch} {e : Env} {s : State} {m : MethodId} {args : Array Value} {below : List Frame} {meth : Method} {c : Code} {Q : State → Prop} {D : va_G} {cy : Nat → ClassId} {b b0 L : Nat} {tx : TX} {xs : Nat → Int32} (hl0 : l.stackTraces = false) (C0 : CallFix p m c cL_law 7 s args TB RL) (hT : TxR tx s) (hN : TxN s) (hX : va_X b0 L xs s s.heap) (hbl : b0 < s.heap.size) (hb1 : b = s.heap.size) (hL3 : L ≤ 3072) (t : Nat) (ht : 6 * t + 6 ≤ L) {Sc Sm : sSt} {o : Int64} {K : sSt → sSt → Int64 → Prop} {H : Heap} {locs : List Loc} {ls : Array Slot} {cells slots : Nat} (hc1 : cells + 6 ≤ room_1.cells) (hc2 : slots + 36 ≤ room_1.slots) (h : CS_43 (xs (6 * t + 1)) (xs (6 * t + 2)) (xs (6 * t + 3)) (xs (6 * t + 4)) (xs (6 * t + 5)) Sc Sm o K) (hR : RelL D cy b tx Sc Sm o s H) (hS : va_S (bA b) s.heap H locs) (hl : lv_has ls 7 [(0, .ref b0), (1, .ref (b + adC 0 0)), (2, .ref (b + 709 + adM 0 0)), (3, .ref (b + 721)), (4, .int (nI (6 * t)))])
    (kk : ∀ (S1 S2 : sSt) (o1 : Int64) (H1 : Heap) (locs1 : List Loc) (ls1 : Array Slot), K S1 S2 o1 → RelL D cy b tx S1 S2 o1 s H1 → va_S (bA b) s.heap H1 locs1 → lv_has ls1 7 [(0, .ref b0), (1, .ref (b + adC 0 0)), (2, .ref (b + 709 + adM 0 0)), (3, .ref (b + 721)), (4, .int (nI (6 * t)))] → W p l e room_1 s m args below meth c H1 locs1 (cells + 6) (slots + 36) Q (F0 m 2858 ls1 [])) : W p l e room_1 s m args below meth c H locs cells slots Q (F0 m 2820 ls []) := by
  have hx := C0.1
  have hb := C0.2.1
  unfold CS_43 at h
  refine lv_aload_n hx hb dL_law_2820 rfl (lv_at hl 1 rfl) ?_
  refine qLC_i (As := []) (rest := []) C0 (c_X11_back l h) (cwV 0 C0.2.2.2.2 (tbV mK_3_89 ⟨mK_3_90, mK_3_91, mK_1_1, mK_3_92⟩) rfl rfl rfl (by decide +kernel) ⟨Nat.le_of_ble_eq_true rfl, Nat.le_of_ble_eq_true rfl⟩) hR hT hS rfl hl.1 rfl (Nat.le_of_ble_eq_true rfl) dL_law_2821 ⟨by omega, by omega⟩ (fun r1 S2 H locs h hR hS => ?_)
  refine lv_aload_n hx hb dL_law_2824 rfl (lv_at hl 2 rfl) ?_
  refine qLM_i (As := []) (rest := [.int r1]) C0 (c_X12_back l h) (cwV 0 C0.2.2.2.2 (tbV mK_7_139 ⟨mK_7_140, mK_7_141, mK_1_11, mK_7_142⟩) rfl rfl rfl (by decide +kernel) ⟨Nat.le_of_ble_eq_true rfl, Nat.le_of_ble_eq_true rfl⟩) hR hT hS rfl hl.1 rfl (Nat.le_of_ble_eq_true rfl) dL_law_2825 ⟨by omega, by omega⟩ (fun r3 S4 H locs h hR hS => ?_)
  refine lv_icmp_eq (tgt := 2858) hx hb dL_law_2828 (by decide) (fun c5 => ?_) (fun c5 => ?_)
  · have h := h.1 c5
    exact W.widen (k := cells + 6) (n := slots + 36) (by omega) (by omega) (kk S2 S4 o H locs _ h hR hS (lv_sub hl [0, 1, 2, 3, 4] rfl))
  · have h := h.2 c5
    exact h.elim
def CS_44 (a1 a2 a3 a4 a5 : Int32) (Sc Sm : sSt) (o : Int64) (K : sSt → sSt → Int64 → Prop) : Prop := F_X11_count a1 Sc (fun r1 S2 => F_X12_count a1 Sm (fun r3 S4 => ((r1 = r3 → K S2 S4 o) ∧ (¬ r1 = r3 → False))))
set_option maxHeartbeats 4000000 in
set_option maxRecDepth 100000 in
theorem LW_44 {p : Program} {l : Launch} {e : Env} {s : State} {m : MethodId} {args : Array Value} {below : List Frame} {meth : Method} {c : Code} {Q : State → Prop} {D : va_G} {cy : Nat → ClassId} {b b0 L : Nat} {tx : TX} {xs : Nat → Int32} (hl0 : l.stackTraces = false) (C0 : CallFix p m c cL_law 7 s args TB RL) (hT : TxR tx s) (hN : TxN s) (hX : va_X b0 L xs s s.heap) (hbl : b0 < s.heap.size) (hb1 : b = s.heap.size) (hL3 : L ≤ 3072) (t : Nat) (ht : 6 * t + 6 ≤ L) {Sc Sm : sSt} {o : Int64} {K : sSt → sSt → Int64 → Prop} {H : Heap} {locs : List Loc} {ls : Array Slot} {cells slots : Nat} (hc1 : cells + 6 ≤ room_1.cells) (hc2 : slots + 36 ≤ room_1.slots) (h : CS_44 (xs (6 * t + 1)) (xs (6 * t + 2)) (xs (6 * t + 3)) (xs (6 * t + 4)) (xs (6 * t + 5)) Sc Sm o K) (hR : RelL D cy b tx Sc Sm o s H) (hS : va_S (bA b) s.heap H locs) (hl : lv_has ls 7 [(0, .ref b0), (1, .ref (b + adC 0 0)), (2, .ref (b + 709 + adM 0 0)), (3, .ref (b + 721)), (4, .int (nI (6 * t)))])
    (kk : ∀ (S1 S2 : sSt) (o1 : Int64) (H1 : Heap) (locs1 : List Loc) (ls1 : Array Slot), K S1 S2 o1 → RelL D cy b tx S1 S2 o1 s H1 → va_S (bA b) s.heap H1 locs1 → lv_has ls1 7 [(0, .ref b0), (1, .ref (b + adC 0 0)), (2, .ref (b + 709 + adM 0 0)), (3, .ref (b + 721)), (4, .int (nI (6 * t)))] → W p l e room_1 s m args below meth c H1 locs1 (cells + 6) (slots + 36) Q (F0 m 2858 ls1 [])) : W p l e room_1 s m args below meth c H locs cells slots Q (F0 m 2833 ls []) := by
  have hx := C0.1
  have hb := C0.2.1
  unfold CS_44 at h
  refine lv_aload_n hx hb dL_law_2833 rfl (lv_at hl 1 rfl) ?_
  refine lv_aload_n hx hb dL_law_2834 rfl (lv_at hl 0 rfl) ?_
  refine lv_iload hx hb dL_law_2835 (lv_at hl 4 rfl) ?_
  refine lv_iconst (v := 1) hx hb dL_law_2837 (by decide) ?_
  refine lv_iadd hx hb dL_law_2838 ?_
  refine lw_sld (v := xs (6 * t + 1)) C0 hX hbl hb1 hS (nI_add (6 * t) 1) (show 6 * t + 1 < L by omega) hL3 rfl dL_law_2839 ?_
  refine qLC_i (As := [.int (xs (6 * t + 1))]) (rest := []) C0 (c_X11_count l h) (cwV 1 C0.2.2.2.2 (tbV mK_3_93 ⟨mK_3_94, mK_3_95, mK_1_1, mK_3_96⟩) rfl rfl rfl (by decide +kernel) ⟨Nat.le_of_ble_eq_true rfl, Nat.le_of_ble_eq_true rfl⟩) hR hT hS rfl hl.1 rfl (Nat.le_of_ble_eq_true rfl) dL_law_2840 ⟨by omega, by omega⟩ (fun r1 S2 H locs h hR hS => ?_)
  refine lv_aload_n hx hb dL_law_2843 rfl (lv_at hl 2 rfl) ?_
  refine lv_aload_n hx hb dL_law_2844 rfl (lv_at hl 0 rfl) ?_
  refine lv_iload hx hb dL_law_2845 (lv_at hl 4 rfl) ?_
  refine lv_iconst (v := 1) hx hb dL_law_2847 (by decide) ?_
  refine lv_iadd hx hb dL_law_2848 ?_
  refine lw_sld (v := xs (6 * t + 1)) C0 hX hbl hb1 hS (nI_add (6 * t) 1) (show 6 * t + 1 < L by omega) hL3 rfl dL_law_2849 ?_
  refine qLM_i (As := [.int (xs (6 * t + 1))]) (rest := [.int r1]) C0 (c_X12_count l h) (cwV 1 C0.2.2.2.2 (tbV mK_9_217 ⟨mK_9_218, mK_9_219, mK_1_11, mK_9_220⟩) rfl rfl rfl (by decide +kernel) ⟨Nat.le_of_ble_eq_true rfl, Nat.le_of_ble_eq_true rfl⟩) hR hT hS rfl hl.1 rfl (Nat.le_of_ble_eq_true rfl) dL_law_2850 ⟨by omega, by omega⟩ (fun r3 S4 H locs h hR hS => ?_)
  refine lv_icmp_eq (tgt := 2858) hx hb dL_law_2853 (by decide) (fun c5 => ?_) (fun c5 => ?_)
  · have h := h.1 c5
    exact W.widen (k := cells + 6) (n := slots + 36) (by omega) (by omega) (kk S2 S4 o H locs _ h hR hS (lv_sub hl [0, 1, 2, 3, 4] rfl))
  · have h := h.2 c5
    exact h.elim
