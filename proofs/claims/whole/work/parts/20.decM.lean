theorem dX12_thrown_0 : decode cX12_thrown 0 = .ok (.aload_n 0, 1) := by decide +kernel
theorem dX12_thrown_1 : decode cX12_thrown 1 = .ok (.getfield 3, 3) := by decide +kernel
theorem dX12_thrown_4 : decode cX12_thrown 4 = .ok (.ireturn, 1) := by decide +kernel
theorem dX12_throwsIf_0 : decode cX12_throwsIf 0 = .ok (.iload_n 1, 1) := by decide +kernel
theorem dX12_throwsIf_1 : decode cX12_throwsIf 1 = .ok (.ifCond .eq 8, 3) := by decide +kernel
theorem dX12_throwsIf_4 : decode cX12_throwsIf 4 = .ok (.aload_n 0, 1) := by decide +kernel
theorem dX12_throwsIf_5 : decode cX12_throwsIf 5 = .ok (.iload_n 2, 1) := by decide +kernel
theorem dX12_throwsIf_6 : decode cX12_throwsIf 6 = .ok (.putfield 3, 3) := by decide +kernel
theorem dX12_throwsIf_9 : decode cX12_throwsIf 9 = .ok (.iload_n 1, 1) := by decide +kernel
theorem dX12_throwsIf_10 : decode cX12_throwsIf 10 = .ok (.ireturn, 1) := by decide +kernel
theorem dX12_in_0 : decode cX12_in 0 = .ok (.iload_n 0, 1) := by decide +kernel
theorem dX12_in_1 : decode cX12_in 1 = .ok (.iload_n 1, 1) := by decide +kernel
theorem dX12_in_2 : decode cX12_in 2 = .ok (.if_icmp .lt 12, 3) := by decide +kernel
theorem dX12_in_5 : decode cX12_in 5 = .ok (.iload_n 0, 1) := by decide +kernel
theorem dX12_in_6 : decode cX12_in 6 = .ok (.iload_n 2, 1) := by decide +kernel
theorem dX12_in_7 : decode cX12_in 7 = .ok (.if_icmp .gt 7, 3) := by decide +kernel
theorem dX12_in_10 : decode cX12_in 10 = .ok (.iconst 1, 1) := by decide +kernel
theorem dX12_in_11 : decode cX12_in 11 = .ok (.goto 4, 3) := by decide +kernel
theorem dX12_in_14 : decode cX12_in 14 = .ok (.iconst 0, 1) := by decide +kernel
theorem dX12_in_15 : decode cX12_in 15 = .ok (.ireturn, 1) := by decide +kernel
theorem dX12_init_0 : decode cX12_init 0 = .ok (.aload_n 0, 1) := by decide +kernel
theorem dX12_init_1 : decode cX12_init 1 = .ok (.invokespecial 7, 3) := by decide +kernel
theorem dX12_init_4 : decode cX12_init 4 = .ok (.aload_n 0, 1) := by decide +kernel
theorem dX12_init_5 : decode cX12_init 5 = .ok (.sipush 10421, 3) := by decide +kernel
theorem dX12_init_8 : decode cX12_init 8 = .ok (.newarray .int, 2) := by decide +kernel
theorem dX12_init_10 : decode cX12_init 10 = .ok (.putfield 13, 3) := by decide +kernel
theorem dX12_init_13 : decode cX12_init 13 = .ok (.aload_n 0, 1) := by decide +kernel
theorem dX12_init_14 : decode cX12_init 14 = .ok (.sipush 10421, 3) := by decide +kernel
theorem dX12_init_17 : decode cX12_init 17 = .ok (.newarray .int, 2) := by decide +kernel
theorem dX12_init_19 : decode cX12_init 19 = .ok (.putfield 17, 3) := by decide +kernel
theorem dX12_init_22 : decode cX12_init 22 = .ok (.aload_n 0, 1) := by decide +kernel
theorem dX12_init_23 : decode cX12_init 23 = .ok (.sipush 1589, 3) := by decide +kernel
theorem dX12_init_26 : decode cX12_init 26 = .ok (.newarray .int, 2) := by decide +kernel
theorem dX12_init_28 : decode cX12_init 28 = .ok (.putfield 20, 3) := by decide +kernel
theorem dX12_init_31 : decode cX12_init 31 = .ok (.aload_n 0, 1) := by decide +kernel
theorem dX12_init_32 : decode cX12_init 32 = .ok (.sipush 1289, 3) := by decide +kernel
theorem dX12_init_35 : decode cX12_init 35 = .ok (.newarray .int, 2) := by decide +kernel
theorem dX12_init_37 : decode cX12_init 37 = .ok (.putfield 23, 3) := by decide +kernel
theorem dX12_init_40 : decode cX12_init 40 = .ok (.aload_n 0, 1) := by decide +kernel
theorem dX12_init_41 : decode cX12_init 41 = .ok (.bipush 23, 2) := by decide +kernel
theorem dX12_init_43 : decode cX12_init 43 = .ok (.newarray .int, 2) := by decide +kernel
theorem dX12_init_45 : decode cX12_init 45 = .ok (.putfield 26, 3) := by decide +kernel
theorem dX12_init_48 : decode cX12_init 48 = .ok (.aload_n 0, 1) := by decide +kernel
theorem dX12_init_49 : decode cX12_init 49 = .ok (.sipush 400, 3) := by decide +kernel
theorem dX12_init_52 : decode cX12_init 52 = .ok (.newarray .byte, 2) := by decide +kernel
theorem dX12_init_54 : decode cX12_init 54 = .ok (.putfield 29, 3) := by decide +kernel
theorem dX12_init_57 : decode cX12_init 57 = .ok (.aload_n 0, 1) := by decide +kernel
theorem dX12_init_58 : decode cX12_init 58 = .ok (.iconst (-1), 1) := by decide +kernel
theorem dX12_init_59 : decode cX12_init 59 = .ok (.putfield 33, 3) := by decide +kernel
theorem dX12_init_62 : decode cX12_init 62 = .ok (.aload_n 0, 1) := by decide +kernel
theorem dX12_init_63 : decode cX12_init 63 = .ok (.iconst 5, 1) := by decide +kernel
theorem dX12_init_64 : decode cX12_init 64 = .ok (.newarray .int, 2) := by decide +kernel
theorem dX12_init_66 : decode cX12_init 66 = .ok (.putfield 36, 3) := by decide +kernel
theorem dX12_init_69 : decode cX12_init 69 = .ok (.aload_n 0, 1) := by decide +kernel
theorem dX12_init_70 : decode cX12_init 70 = .ok (.bipush 6, 2) := by decide +kernel
theorem dX12_init_72 : decode cX12_init 72 = .ok (.newarray .int, 2) := by decide +kernel
theorem dX12_init_74 : decode cX12_init 74 = .ok (.putfield 39, 3) := by decide +kernel
theorem dX12_init_77 : decode cX12_init 77 = .ok (.aload_n 0, 1) := by decide +kernel
theorem dX12_init_78 : decode cX12_init 78 = .ok (.bipush 6, 2) := by decide +kernel
theorem dX12_init_80 : decode cX12_init 80 = .ok (.newarray .int, 2) := by decide +kernel
theorem dX12_init_82 : decode cX12_init 82 = .ok (.putfield 42, 3) := by decide +kernel
theorem dX12_init_85 : decode cX12_init 85 = .ok (.aload_n 0, 1) := by decide +kernel
theorem dX12_init_86 : decode cX12_init 86 = .ok (.bipush 48, 2) := by decide +kernel
theorem dX12_init_88 : decode cX12_init 88 = .ok (.newarray .int, 2) := by decide +kernel
theorem dX12_init_90 : decode cX12_init 90 = .ok (.putfield 45, 3) := by decide +kernel
theorem dX12_init_93 : decode cX12_init 93 = .ok (.aload_n 0, 1) := by decide +kernel
theorem dX12_init_94 : decode cX12_init 94 = .ok (.bipush 24, 2) := by decide +kernel
theorem dX12_init_96 : decode cX12_init 96 = .ok (.newarray .int, 2) := by decide +kernel
theorem dX12_init_98 : decode cX12_init 98 = .ok (.putfield 48, 3) := by decide +kernel
theorem dX12_init_101 : decode cX12_init 101 = .ok (.iconst 0, 1) := by decide +kernel
theorem dX12_init_102 : decode cX12_init 102 = .ok (.istore_n 1, 1) := by decide +kernel
theorem dX12_init_103 : decode cX12_init 103 = .ok (.iload_n 1, 1) := by decide +kernel
theorem dX12_init_104 : decode cX12_init 104 = .ok (.bipush 24, 2) := by decide +kernel
theorem dX12_init_106 : decode cX12_init 106 = .ok (.if_icmp .ge 31, 3) := by decide +kernel
theorem dX12_init_109 : decode cX12_init 109 = .ok (.aload_n 0, 1) := by decide +kernel
theorem dX12_init_110 : decode cX12_init 110 = .ok (.getfield 13, 3) := by decide +kernel
theorem dX12_init_113 : decode cX12_init 113 = .ok (.iload_n 1, 1) := by decide +kernel
theorem dX12_init_114 : decode cX12_init 114 = .ok (.iconst 0, 1) := by decide +kernel
theorem dX12_init_115 : decode cX12_init 115 = .ok (.invokestatic 51, 3) := by decide +kernel
theorem dX12_init_118 : decode cX12_init 118 = .ok (.iconst (-1), 1) := by decide +kernel
theorem dX12_init_119 : decode cX12_init 119 = .ok (.iastore, 1) := by decide +kernel
theorem dX12_init_120 : decode cX12_init 120 = .ok (.aload_n 0, 1) := by decide +kernel
theorem dX12_init_121 : decode cX12_init 121 = .ok (.getfield 13, 3) := by decide +kernel
theorem dX12_init_124 : decode cX12_init 124 = .ok (.iload_n 1, 1) := by decide +kernel
theorem dX12_init_125 : decode cX12_init 125 = .ok (.iconst 2, 1) := by decide +kernel
theorem dX12_init_126 : decode cX12_init 126 = .ok (.invokestatic 51, 3) := by decide +kernel
theorem dX12_init_129 : decode cX12_init 129 = .ok (.iconst (-1), 1) := by decide +kernel
theorem dX12_init_130 : decode cX12_init 130 = .ok (.iastore, 1) := by decide +kernel
theorem dX12_init_131 : decode cX12_init 131 = .ok (.iinc 1 1, 3) := by decide +kernel
theorem dX12_init_134 : decode cX12_init 134 = .ok (.goto (-31), 3) := by decide +kernel
theorem dX12_init_137 : decode cX12_init 137 = .ok (.iconst 0, 1) := by decide +kernel
theorem dX12_init_138 : decode cX12_init 138 = .ok (.istore_n 1, 1) := by decide +kernel
theorem dX12_init_139 : decode cX12_init 139 = .ok (.iload_n 1, 1) := by decide +kernel
theorem dX12_init_140 : decode cX12_init 140 = .ok (.bipush 6, 2) := by decide +kernel
theorem dX12_init_142 : decode cX12_init 142 = .ok (.if_icmp .ge 19, 3) := by decide +kernel
theorem dX12_init_145 : decode cX12_init 145 = .ok (.aload_n 0, 1) := by decide +kernel
theorem dX12_init_146 : decode cX12_init 146 = .ok (.getfield 13, 3) := by decide +kernel
theorem dX12_init_149 : decode cX12_init 149 = .ok (.bipush 15, 2) := by decide +kernel
theorem dX12_init_151 : decode cX12_init 151 = .ok (.iload_n 1, 1) := by decide +kernel
theorem dX12_init_152 : decode cX12_init 152 = .ok (.iadd, 1) := by decide +kernel
theorem dX12_init_153 : decode cX12_init 153 = .ok (.iconst 1, 1) := by decide +kernel
theorem dX12_init_154 : decode cX12_init 154 = .ok (.iastore, 1) := by decide +kernel
theorem dX12_init_155 : decode cX12_init 155 = .ok (.iinc 1 1, 3) := by decide +kernel
theorem dX12_init_158 : decode cX12_init 158 = .ok (.goto (-19), 3) := by decide +kernel
theorem dX12_init_161 : decode cX12_init 161 = .ok (.aload_n 0, 1) := by decide +kernel
theorem dX12_init_162 : decode cX12_init 162 = .ok (.getfield 13, 3) := by decide +kernel
theorem dX12_init_165 : decode cX12_init 165 = .ok (.bipush 9, 2) := by decide +kernel
theorem dX12_init_167 : decode cX12_init 167 = .ok (.iconst 5, 1) := by decide +kernel
theorem dX12_init_168 : decode cX12_init 168 = .ok (.iastore, 1) := by decide +kernel
theorem dX12_init_169 : decode cX12_init 169 = .ok (.aload_n 0, 1) := by decide +kernel
theorem dX12_init_170 : decode cX12_init 170 = .ok (.getfield 13, 3) := by decide +kernel
theorem dX12_init_173 : decode cX12_init 173 = .ok (.bipush 10, 2) := by decide +kernel
theorem dX12_init_175 : decode cX12_init 175 = .ok (.iconst 1, 1) := by decide +kernel
theorem dX12_init_176 : decode cX12_init 176 = .ok (.iastore, 1) := by decide +kernel
theorem dX12_init_177 : decode cX12_init 177 = .ok (.aload_n 0, 1) := by decide +kernel
theorem dX12_init_178 : decode cX12_init 178 = .ok (.getfield 13, 3) := by decide +kernel
theorem dX12_init_181 : decode cX12_init 181 = .ok (.bipush 11, 2) := by decide +kernel
theorem dX12_init_183 : decode cX12_init 183 = .ok (.bipush 30, 2) := by decide +kernel
theorem dX12_init_185 : decode cX12_init 185 = .ok (.iastore, 1) := by decide +kernel
theorem dX12_init_186 : decode cX12_init 186 = .ok (.aload_n 0, 1) := by decide +kernel
theorem dX12_init_187 : decode cX12_init 187 = .ok (.getfield 13, 3) := by decide +kernel
theorem dX12_init_190 : decode cX12_init 190 = .ok (.bipush 13, 2) := by decide +kernel
theorem dX12_init_192 : decode cX12_init 192 = .ok (.iconst 3, 1) := by decide +kernel
theorem dX12_init_193 : decode cX12_init 193 = .ok (.iastore, 1) := by decide +kernel
theorem dX12_init_194 : decode cX12_init 194 = .ok (.return_, 1) := by decide +kernel
theorem dX12_image_0 : decode cX12_image 0 = .ok (.aload_n 0, 1) := by decide +kernel
theorem dX12_image_1 : decode cX12_image 1 = .ok (.iconst 0, 1) := by decide +kernel
theorem dX12_image_2 : decode cX12_image 2 = .ok (.putfield 3, 3) := by decide +kernel
theorem dX12_image_5 : decode cX12_image 5 = .ok (.iconst 0, 1) := by decide +kernel
theorem dX12_image_6 : decode cX12_image 6 = .ok (.istore_n 1, 1) := by decide +kernel
theorem dX12_image_7 : decode cX12_image 7 = .ok (.iload_n 1, 1) := by decide +kernel
theorem dX12_image_8 : decode cX12_image 8 = .ok (.sipush 10421, 3) := by decide +kernel
theorem dX12_image_11 : decode cX12_image 11 = .ok (.if_icmp .ge 21, 3) := by decide +kernel
theorem dX12_image_14 : decode cX12_image 14 = .ok (.aload_n 0, 1) := by decide +kernel
theorem dX12_image_15 : decode cX12_image 15 = .ok (.getfield 17, 3) := by decide +kernel
theorem dX12_image_18 : decode cX12_image 18 = .ok (.iload_n 1, 1) := by decide +kernel
theorem dX12_image_19 : decode cX12_image 19 = .ok (.aload_n 0, 1) := by decide +kernel
theorem dX12_image_20 : decode cX12_image 20 = .ok (.getfield 13, 3) := by decide +kernel
theorem dX12_image_23 : decode cX12_image 23 = .ok (.iload_n 1, 1) := by decide +kernel
theorem dX12_image_24 : decode cX12_image 24 = .ok (.iaload, 1) := by decide +kernel
theorem dX12_image_25 : decode cX12_image 25 = .ok (.iastore, 1) := by decide +kernel
theorem dX12_image_26 : decode cX12_image 26 = .ok (.iinc 1 1, 3) := by decide +kernel
theorem dX12_image_29 : decode cX12_image 29 = .ok (.goto (-22), 3) := by decide +kernel
theorem dX12_image_32 : decode cX12_image 32 = .ok (.aload_n 0, 1) := by decide +kernel
theorem dX12_image_33 : decode cX12_image 33 = .ok (.iconst 1, 1) := by decide +kernel
theorem dX12_image_34 : decode cX12_image 34 = .ok (.putfield 55, 3) := by decide +kernel
theorem dX12_image_37 : decode cX12_image 37 = .ok (.return_, 1) := by decide +kernel
theorem dX12_back_0 : decode cX12_back 0 = .ok (.aload_n 0, 1) := by decide +kernel
theorem dX12_back_1 : decode cX12_back 1 = .ok (.iconst 0, 1) := by decide +kernel
theorem dX12_back_2 : decode cX12_back 2 = .ok (.putfield 3, 3) := by decide +kernel
theorem dX12_back_5 : decode cX12_back 5 = .ok (.aload_n 0, 1) := by decide +kernel
theorem dX12_back_6 : decode cX12_back 6 = .ok (.getfield 55, 3) := by decide +kernel
theorem dX12_back_9 : decode cX12_back 9 = .ok (.ifCond .ne 5, 3) := by decide +kernel
theorem dX12_back_12 : decode cX12_back 12 = .ok (.iconst 0, 1) := by decide +kernel
theorem dX12_back_13 : decode cX12_back 13 = .ok (.ireturn, 1) := by decide +kernel
theorem dX12_back_14 : decode cX12_back 14 = .ok (.iconst 0, 1) := by decide +kernel
theorem dX12_back_15 : decode cX12_back 15 = .ok (.istore_n 1, 1) := by decide +kernel
theorem dX12_back_16 : decode cX12_back 16 = .ok (.iload_n 1, 1) := by decide +kernel
theorem dX12_back_17 : decode cX12_back 17 = .ok (.sipush 10421, 3) := by decide +kernel
theorem dX12_back_20 : decode cX12_back 20 = .ok (.if_icmp .ge 21, 3) := by decide +kernel
theorem dX12_back_23 : decode cX12_back 23 = .ok (.aload_n 0, 1) := by decide +kernel
theorem dX12_back_24 : decode cX12_back 24 = .ok (.getfield 13, 3) := by decide +kernel
theorem dX12_back_27 : decode cX12_back 27 = .ok (.iload_n 1, 1) := by decide +kernel
theorem dX12_back_28 : decode cX12_back 28 = .ok (.aload_n 0, 1) := by decide +kernel
theorem dX12_back_29 : decode cX12_back 29 = .ok (.getfield 17, 3) := by decide +kernel
theorem dX12_back_32 : decode cX12_back 32 = .ok (.iload_n 1, 1) := by decide +kernel
theorem dX12_back_33 : decode cX12_back 33 = .ok (.iaload, 1) := by decide +kernel
theorem dX12_back_34 : decode cX12_back 34 = .ok (.iastore, 1) := by decide +kernel
theorem dX12_back_35 : decode cX12_back 35 = .ok (.iinc 1 1, 3) := by decide +kernel
theorem dX12_back_38 : decode cX12_back 38 = .ok (.goto (-22), 3) := by decide +kernel
theorem dX12_back_41 : decode cX12_back 41 = .ok (.iconst 1, 1) := by decide +kernel
theorem dX12_back_42 : decode cX12_back 42 = .ok (.ireturn, 1) := by decide +kernel
theorem dX12_keepsAll_0 : decode cX12_keepsAll 0 = .ok (.iconst 0, 1) := by decide +kernel
theorem dX12_keepsAll_1 : decode cX12_keepsAll 1 = .ok (.istore_n 1, 1) := by decide +kernel
theorem dX12_keepsAll_2 : decode cX12_keepsAll 2 = .ok (.iload_n 1, 1) := by decide +kernel
theorem dX12_keepsAll_3 : decode cX12_keepsAll 3 = .ok (.sipush 1289, 3) := by decide +kernel
theorem dX12_keepsAll_6 : decode cX12_keepsAll 6 = .ok (.if_icmp .ge 21, 3) := by decide +kernel
theorem dX12_keepsAll_9 : decode cX12_keepsAll 9 = .ok (.aload_n 0, 1) := by decide +kernel
theorem dX12_keepsAll_10 : decode cX12_keepsAll 10 = .ok (.getfield 23, 3) := by decide +kernel
theorem dX12_keepsAll_13 : decode cX12_keepsAll 13 = .ok (.iload_n 1, 1) := by decide +kernel
theorem dX12_keepsAll_14 : decode cX12_keepsAll 14 = .ok (.aload_n 0, 1) := by decide +kernel
theorem dX12_keepsAll_15 : decode cX12_keepsAll 15 = .ok (.getfield 13, 3) := by decide +kernel
theorem dX12_keepsAll_18 : decode cX12_keepsAll 18 = .ok (.iload_n 1, 1) := by decide +kernel
theorem dX12_keepsAll_19 : decode cX12_keepsAll 19 = .ok (.iaload, 1) := by decide +kernel
theorem dX12_keepsAll_20 : decode cX12_keepsAll 20 = .ok (.iastore, 1) := by decide +kernel
theorem dX12_keepsAll_21 : decode cX12_keepsAll 21 = .ok (.iinc 1 1, 3) := by decide +kernel
theorem dX12_keepsAll_24 : decode cX12_keepsAll 24 = .ok (.goto (-22), 3) := by decide +kernel
theorem dX12_keepsAll_27 : decode cX12_keepsAll 27 = .ok (.return_, 1) := by decide +kernel
theorem dX12_bringsBack_0 : decode cX12_bringsBack 0 = .ok (.iconst 0, 1) := by decide +kernel
theorem dX12_bringsBack_1 : decode cX12_bringsBack 1 = .ok (.istore_n 1, 1) := by decide +kernel
theorem dX12_bringsBack_2 : decode cX12_bringsBack 2 = .ok (.iload_n 1, 1) := by decide +kernel
theorem dX12_bringsBack_3 : decode cX12_bringsBack 3 = .ok (.sipush 1289, 3) := by decide +kernel
theorem dX12_bringsBack_6 : decode cX12_bringsBack 6 = .ok (.if_icmp .ge 21, 3) := by decide +kernel
theorem dX12_bringsBack_9 : decode cX12_bringsBack 9 = .ok (.aload_n 0, 1) := by decide +kernel
theorem dX12_bringsBack_10 : decode cX12_bringsBack 10 = .ok (.getfield 13, 3) := by decide +kernel
theorem dX12_bringsBack_13 : decode cX12_bringsBack 13 = .ok (.iload_n 1, 1) := by decide +kernel
theorem dX12_bringsBack_14 : decode cX12_bringsBack 14 = .ok (.aload_n 0, 1) := by decide +kernel
theorem dX12_bringsBack_15 : decode cX12_bringsBack 15 = .ok (.getfield 23, 3) := by decide +kernel
theorem dX12_bringsBack_18 : decode cX12_bringsBack 18 = .ok (.iload_n 1, 1) := by decide +kernel
theorem dX12_bringsBack_19 : decode cX12_bringsBack 19 = .ok (.iaload, 1) := by decide +kernel
theorem dX12_bringsBack_20 : decode cX12_bringsBack 20 = .ok (.iastore, 1) := by decide +kernel
theorem dX12_bringsBack_21 : decode cX12_bringsBack 21 = .ok (.iinc 1 1, 3) := by decide +kernel
theorem dX12_bringsBack_24 : decode cX12_bringsBack 24 = .ok (.goto (-22), 3) := by decide +kernel
theorem dX12_bringsBack_27 : decode cX12_bringsBack 27 = .ok (.return_, 1) := by decide +kernel
theorem dX12_jobAt_0 : decode cX12_jobAt 0 = .ok (.bipush 21, 2) := by decide +kernel
theorem dX12_jobAt_2 : decode cX12_jobAt 2 = .ok (.bipush 47, 2) := by decide +kernel
theorem dX12_jobAt_4 : decode cX12_jobAt 4 = .ok (.iload_n 0, 1) := by decide +kernel
theorem dX12_jobAt_5 : decode cX12_jobAt 5 = .ok (.imul, 1) := by decide +kernel
theorem dX12_jobAt_6 : decode cX12_jobAt 6 = .ok (.iadd, 1) := by decide +kernel
theorem dX12_jobAt_7 : decode cX12_jobAt 7 = .ok (.iload_n 1, 1) := by decide +kernel
theorem dX12_jobAt_8 : decode cX12_jobAt 8 = .ok (.iadd, 1) := by decide +kernel
theorem dX12_jobAt_9 : decode cX12_jobAt 9 = .ok (.ireturn, 1) := by decide +kernel
theorem dX12_sessionAt_0 : decode cX12_sessionAt 0 = .ok (.sipush 1149, 3) := by decide +kernel
theorem dX12_sessionAt_3 : decode cX12_sessionAt 3 = .ok (.bipush 27, 2) := by decide +kernel
theorem dX12_sessionAt_5 : decode cX12_sessionAt 5 = .ok (.iload_n 0, 1) := by decide +kernel
theorem dX12_sessionAt_6 : decode cX12_sessionAt 6 = .ok (.imul, 1) := by decide +kernel
theorem dX12_sessionAt_7 : decode cX12_sessionAt 7 = .ok (.iadd, 1) := by decide +kernel
theorem dX12_sessionAt_8 : decode cX12_sessionAt 8 = .ok (.iload_n 1, 1) := by decide +kernel
theorem dX12_sessionAt_9 : decode cX12_sessionAt 9 = .ok (.iadd, 1) := by decide +kernel
theorem dX12_sessionAt_10 : decode cX12_sessionAt 10 = .ok (.ireturn, 1) := by decide +kernel
theorem dX12_planAt_0 : decode cX12_planAt 0 = .ok (.sipush 1257, 3) := by decide +kernel
theorem dX12_planAt_3 : decode cX12_planAt 3 = .ok (.bipush 8, 2) := by decide +kernel
theorem dX12_planAt_5 : decode cX12_planAt 5 = .ok (.iload_n 0, 1) := by decide +kernel
theorem dX12_planAt_6 : decode cX12_planAt 6 = .ok (.imul, 1) := by decide +kernel
theorem dX12_planAt_7 : decode cX12_planAt 7 = .ok (.iadd, 1) := by decide +kernel
theorem dX12_planAt_8 : decode cX12_planAt 8 = .ok (.iload_n 1, 1) := by decide +kernel
theorem dX12_planAt_9 : decode cX12_planAt 9 = .ok (.iadd, 1) := by decide +kernel
theorem dX12_planAt_10 : decode cX12_planAt 10 = .ok (.ireturn, 1) := by decide +kernel
theorem dX12_numberOf_0 : decode cX12_numberOf 0 = .ok (.aload_n 0, 1) := by decide +kernel
theorem dX12_numberOf_1 : decode cX12_numberOf 1 = .ok (.getfield 13, 3) := by decide +kernel
theorem dX12_numberOf_4 : decode cX12_numberOf 4 = .ok (.iload_n 1, 1) := by decide +kernel
theorem dX12_numberOf_5 : decode cX12_numberOf 5 = .ok (.iconst 0, 1) := by decide +kernel
theorem dX12_numberOf_6 : decode cX12_numberOf 6 = .ok (.invokestatic 51, 3) := by decide +kernel
theorem dX12_numberOf_9 : decode cX12_numberOf 9 = .ok (.iaload, 1) := by decide +kernel
theorem dX12_numberOf_10 : decode cX12_numberOf 10 = .ok (.ireturn, 1) := by decide +kernel
theorem dX12_lockerOf_0 : decode cX12_lockerOf 0 = .ok (.aload_n 0, 1) := by decide +kernel
theorem dX12_lockerOf_1 : decode cX12_lockerOf 1 = .ok (.getfield 13, 3) := by decide +kernel
theorem dX12_lockerOf_4 : decode cX12_lockerOf 4 = .ok (.iload_n 1, 1) := by decide +kernel
theorem dX12_lockerOf_5 : decode cX12_lockerOf 5 = .ok (.iconst 2, 1) := by decide +kernel
theorem dX12_lockerOf_6 : decode cX12_lockerOf 6 = .ok (.invokestatic 51, 3) := by decide +kernel
theorem dX12_lockerOf_9 : decode cX12_lockerOf 9 = .ok (.iaload, 1) := by decide +kernel
theorem dX12_lockerOf_10 : decode cX12_lockerOf 10 = .ok (.ireturn, 1) := by decide +kernel
theorem dX12_isIn_0 : decode cX12_isIn 0 = .ok (.aload_n 0, 1) := by decide +kernel
theorem dX12_isIn_1 : decode cX12_isIn 1 = .ok (.iload_n 1, 1) := by decide +kernel
theorem dX12_isIn_2 : decode cX12_isIn 2 = .ok (.invokevirtual 59, 3) := by decide +kernel
theorem dX12_isIn_5 : decode cX12_isIn 5 = .ok (.iconst (-1), 1) := by decide +kernel
theorem dX12_isIn_6 : decode cX12_isIn 6 = .ok (.if_icmp .eq 21, 3) := by decide +kernel
theorem dX12_isIn_9 : decode cX12_isIn 9 = .ok (.aload_n 0, 1) := by decide +kernel
theorem dX12_isIn_10 : decode cX12_isIn 10 = .ok (.getfield 13, 3) := by decide +kernel
theorem dX12_isIn_13 : decode cX12_isIn 13 = .ok (.iload_n 1, 1) := by decide +kernel
theorem dX12_isIn_14 : decode cX12_isIn 14 = .ok (.iconst 1, 1) := by decide +kernel
theorem dX12_isIn_15 : decode cX12_isIn 15 = .ok (.invokestatic 51, 3) := by decide +kernel
theorem dX12_isIn_18 : decode cX12_isIn 18 = .ok (.iaload, 1) := by decide +kernel
theorem dX12_isIn_19 : decode cX12_isIn 19 = .ok (.iconst 1, 1) := by decide +kernel
theorem dX12_isIn_20 : decode cX12_isIn 20 = .ok (.if_icmp .ne 7, 3) := by decide +kernel
theorem dX12_isIn_23 : decode cX12_isIn 23 = .ok (.iconst 1, 1) := by decide +kernel
theorem dX12_isIn_24 : decode cX12_isIn 24 = .ok (.goto 4, 3) := by decide +kernel
theorem dX12_isIn_27 : decode cX12_isIn 27 = .ok (.iconst 0, 1) := by decide +kernel
theorem dX12_isIn_28 : decode cX12_isIn 28 = .ok (.ireturn, 1) := by decide +kernel
theorem dX12_isOpen_0 : decode cX12_isOpen 0 = .ok (.aload_n 0, 1) := by decide +kernel
theorem dX12_isOpen_1 : decode cX12_isOpen 1 = .ok (.getfield 13, 3) := by decide +kernel
theorem dX12_isOpen_4 : decode cX12_isOpen 4 = .ok (.iload_n 1, 1) := by decide +kernel
theorem dX12_isOpen_5 : decode cX12_isOpen 5 = .ok (.iconst 2, 1) := by decide +kernel
theorem dX12_isOpen_6 : decode cX12_isOpen 6 = .ok (.invokestatic 63, 3) := by decide +kernel
theorem dX12_isOpen_9 : decode cX12_isOpen 9 = .ok (.iaload, 1) := by decide +kernel
theorem dX12_isOpen_10 : decode cX12_isOpen 10 = .ok (.iconst 1, 1) := by decide +kernel
theorem dX12_isOpen_11 : decode cX12_isOpen 11 = .ok (.if_icmp .ne 7, 3) := by decide +kernel
theorem dX12_isOpen_14 : decode cX12_isOpen 14 = .ok (.iconst 1, 1) := by decide +kernel
theorem dX12_isOpen_15 : decode cX12_isOpen 15 = .ok (.goto 4, 3) := by decide +kernel
theorem dX12_isOpen_18 : decode cX12_isOpen 18 = .ok (.iconst 0, 1) := by decide +kernel
theorem dX12_isOpen_19 : decode cX12_isOpen 19 = .ok (.ireturn, 1) := by decide +kernel
theorem dX12_noSession_0 : decode cX12_noSession 0 = .ok (.iload_n 1, 1) := by decide +kernel
theorem dX12_noSession_1 : decode cX12_noSession 1 = .ok (.iconst 0, 1) := by decide +kernel
theorem dX12_noSession_2 : decode cX12_noSession 2 = .ok (.aload_n 0, 1) := by decide +kernel
theorem dX12_noSession_3 : decode cX12_noSession 3 = .ok (.getfield 13, 3) := by decide +kernel
theorem dX12_noSession_6 : decode cX12_noSession 6 = .ok (.iconst 0, 1) := by decide +kernel
theorem dX12_noSession_7 : decode cX12_noSession 7 = .ok (.iaload, 1) := by decide +kernel
theorem dX12_noSession_8 : decode cX12_noSession 8 = .ok (.iconst 1, 1) := by decide +kernel
theorem dX12_noSession_9 : decode cX12_noSession 9 = .ok (.isub, 1) := by decide +kernel
theorem dX12_noSession_10 : decode cX12_noSession 10 = .ok (.invokestatic 66, 3) := by decide +kernel
theorem dX12_noSession_13 : decode cX12_noSession 13 = .ok (.ifCond .ne 7, 3) := by decide +kernel
theorem dX12_noSession_16 : decode cX12_noSession 16 = .ok (.iconst 1, 1) := by decide +kernel
theorem dX12_noSession_17 : decode cX12_noSession 17 = .ok (.goto 4, 3) := by decide +kernel
theorem dX12_noSession_20 : decode cX12_noSession 20 = .ok (.iconst 0, 1) := by decide +kernel
theorem dX12_noSession_21 : decode cX12_noSession 21 = .ok (.ireturn, 1) := by decide +kernel
theorem dX12_behindNumber_0 : decode cX12_behindNumber 0 = .ok (.iconst (-1), 1) := by decide +kernel
theorem dX12_behindNumber_1 : decode cX12_behindNumber 1 = .ok (.istore_n 2, 1) := by decide +kernel
theorem dX12_behindNumber_2 : decode cX12_behindNumber 2 = .ok (.iconst 0, 1) := by decide +kernel
theorem dX12_behindNumber_3 : decode cX12_behindNumber 3 = .ok (.istore_n 3, 1) := by decide +kernel
theorem dX12_behindNumber_4 : decode cX12_behindNumber 4 = .ok (.iload_n 3, 1) := by decide +kernel
theorem dX12_behindNumber_5 : decode cX12_behindNumber 5 = .ok (.bipush 24, 2) := by decide +kernel
theorem dX12_behindNumber_7 : decode cX12_behindNumber 7 = .ok (.if_icmp .ge 38, 3) := by decide +kernel
theorem dX12_behindNumber_10 : decode cX12_behindNumber 10 = .ok (.aload_n 0, 1) := by decide +kernel
theorem dX12_behindNumber_11 : decode cX12_behindNumber 11 = .ok (.iload_n 3, 1) := by decide +kernel
theorem dX12_behindNumber_12 : decode cX12_behindNumber 12 = .ok (.invokevirtual 59, 3) := by decide +kernel
theorem dX12_behindNumber_15 : decode cX12_behindNumber 15 = .ok (.iload_n 1, 1) := by decide +kernel
theorem dX12_behindNumber_16 : decode cX12_behindNumber 16 = .ok (.if_icmp .le 23, 3) := by decide +kernel
theorem dX12_behindNumber_19 : decode cX12_behindNumber 19 = .ok (.iload_n 2, 1) := by decide +kernel
theorem dX12_behindNumber_20 : decode cX12_behindNumber 20 = .ok (.iconst (-1), 1) := by decide +kernel
theorem dX12_behindNumber_21 : decode cX12_behindNumber 21 = .ok (.if_icmp .eq 16, 3) := by decide +kernel
theorem dX12_behindNumber_24 : decode cX12_behindNumber 24 = .ok (.aload_n 0, 1) := by decide +kernel
theorem dX12_behindNumber_25 : decode cX12_behindNumber 25 = .ok (.iload_n 3, 1) := by decide +kernel
theorem dX12_behindNumber_26 : decode cX12_behindNumber 26 = .ok (.invokevirtual 59, 3) := by decide +kernel
theorem dX12_behindNumber_29 : decode cX12_behindNumber 29 = .ok (.aload_n 0, 1) := by decide +kernel
theorem dX12_behindNumber_30 : decode cX12_behindNumber 30 = .ok (.iload_n 2, 1) := by decide +kernel
theorem dX12_behindNumber_31 : decode cX12_behindNumber 31 = .ok (.invokevirtual 59, 3) := by decide +kernel
theorem dX12_behindNumber_34 : decode cX12_behindNumber 34 = .ok (.if_icmp .ge 5, 3) := by decide +kernel
theorem dX12_behindNumber_37 : decode cX12_behindNumber 37 = .ok (.iload_n 3, 1) := by decide +kernel
theorem dX12_behindNumber_38 : decode cX12_behindNumber 38 = .ok (.istore_n 2, 1) := by decide +kernel
theorem dX12_behindNumber_39 : decode cX12_behindNumber 39 = .ok (.iinc 3 1, 3) := by decide +kernel
theorem dX12_behindNumber_42 : decode cX12_behindNumber 42 = .ok (.goto (-38), 3) := by decide +kernel
theorem dX12_behindNumber_45 : decode cX12_behindNumber 45 = .ok (.iload_n 2, 1) := by decide +kernel
theorem dX12_behindNumber_46 : decode cX12_behindNumber 46 = .ok (.ireturn, 1) := by decide +kernel
theorem dX12_jobOf_0 : decode cX12_jobOf 0 = .ok (.iload_n 1, 1) := by decide +kernel
theorem dX12_jobOf_1 : decode cX12_jobOf 1 = .ok (.ifCond .ge 8, 3) := by decide +kernel
theorem dX12_jobOf_4 : decode cX12_jobOf 4 = .ok (.bipush 24, 2) := by decide +kernel
theorem dX12_jobOf_6 : decode cX12_jobOf 6 = .ok (.goto 4, 3) := by decide +kernel
theorem dX12_jobOf_9 : decode cX12_jobOf 9 = .ok (.iconst 0, 1) := by decide +kernel
theorem dX12_jobOf_10 : decode cX12_jobOf 10 = .ok (.istore_n 2, 1) := by decide +kernel
theorem dX12_jobOf_11 : decode cX12_jobOf 11 = .ok (.iload_n 2, 1) := by decide +kernel
theorem dX12_jobOf_12 : decode cX12_jobOf 12 = .ok (.bipush 24, 2) := by decide +kernel
theorem dX12_jobOf_14 : decode cX12_jobOf 14 = .ok (.if_icmp .ge 18, 3) := by decide +kernel
theorem dX12_jobOf_17 : decode cX12_jobOf 17 = .ok (.aload_n 0, 1) := by decide +kernel
theorem dX12_jobOf_18 : decode cX12_jobOf 18 = .ok (.iload_n 2, 1) := by decide +kernel
theorem dX12_jobOf_19 : decode cX12_jobOf 19 = .ok (.invokevirtual 59, 3) := by decide +kernel
theorem dX12_jobOf_22 : decode cX12_jobOf 22 = .ok (.iload_n 1, 1) := by decide +kernel
theorem dX12_jobOf_23 : decode cX12_jobOf 23 = .ok (.if_icmp .eq 9, 3) := by decide +kernel
theorem dX12_jobOf_26 : decode cX12_jobOf 26 = .ok (.iinc 2 1, 3) := by decide +kernel
theorem dX12_jobOf_29 : decode cX12_jobOf 29 = .ok (.goto (-18), 3) := by decide +kernel
theorem dX12_jobOf_32 : decode cX12_jobOf 32 = .ok (.iload_n 2, 1) := by decide +kernel
theorem dX12_jobOf_33 : decode cX12_jobOf 33 = .ok (.bipush 24, 2) := by decide +kernel
theorem dX12_jobOf_35 : decode cX12_jobOf 35 = .ok (.if_icmp .ne 7, 3) := by decide +kernel
theorem dX12_jobOf_38 : decode cX12_jobOf 38 = .ok (.iconst (-1), 1) := by decide +kernel
theorem dX12_jobOf_39 : decode cX12_jobOf 39 = .ok (.goto 4, 3) := by decide +kernel
theorem dX12_jobOf_42 : decode cX12_jobOf 42 = .ok (.iload_n 2, 1) := by decide +kernel
theorem dX12_jobOf_43 : decode cX12_jobOf 43 = .ok (.ireturn, 1) := by decide +kernel
theorem dX12_jobsLying_0 : decode cX12_jobsLying 0 = .ok (.iconst 0, 1) := by decide +kernel
theorem dX12_jobsLying_1 : decode cX12_jobsLying 1 = .ok (.istore_n 1, 1) := by decide +kernel
theorem dX12_jobsLying_2 : decode cX12_jobsLying 2 = .ok (.iconst 0, 1) := by decide +kernel
theorem dX12_jobsLying_3 : decode cX12_jobsLying 3 = .ok (.istore_n 2, 1) := by decide +kernel
theorem dX12_jobsLying_4 : decode cX12_jobsLying 4 = .ok (.iload_n 2, 1) := by decide +kernel
theorem dX12_jobsLying_5 : decode cX12_jobsLying 5 = .ok (.bipush 24, 2) := by decide +kernel
theorem dX12_jobsLying_7 : decode cX12_jobsLying 7 = .ok (.if_icmp .ge 26, 3) := by decide +kernel
theorem dX12_jobsLying_10 : decode cX12_jobsLying 10 = .ok (.iload_n 1, 1) := by decide +kernel
theorem dX12_jobsLying_11 : decode cX12_jobsLying 11 = .ok (.aload_n 0, 1) := by decide +kernel
theorem dX12_jobsLying_12 : decode cX12_jobsLying 12 = .ok (.iload_n 2, 1) := by decide +kernel
theorem dX12_jobsLying_13 : decode cX12_jobsLying 13 = .ok (.invokevirtual 59, 3) := by decide +kernel
theorem dX12_jobsLying_16 : decode cX12_jobsLying 16 = .ok (.iconst (-1), 1) := by decide +kernel
theorem dX12_jobsLying_17 : decode cX12_jobsLying 17 = .ok (.if_icmp .ne 7, 3) := by decide +kernel
theorem dX12_jobsLying_20 : decode cX12_jobsLying 20 = .ok (.iconst 0, 1) := by decide +kernel
theorem dX12_jobsLying_21 : decode cX12_jobsLying 21 = .ok (.goto 4, 3) := by decide +kernel
theorem dX12_jobsLying_24 : decode cX12_jobsLying 24 = .ok (.iconst 1, 1) := by decide +kernel
theorem dX12_jobsLying_25 : decode cX12_jobsLying 25 = .ok (.iadd, 1) := by decide +kernel
theorem dX12_jobsLying_26 : decode cX12_jobsLying 26 = .ok (.istore_n 1, 1) := by decide +kernel
theorem dX12_jobsLying_27 : decode cX12_jobsLying 27 = .ok (.iinc 2 1, 3) := by decide +kernel
theorem dX12_jobsLying_30 : decode cX12_jobsLying 30 = .ok (.goto (-26), 3) := by decide +kernel
theorem dX12_jobsLying_33 : decode cX12_jobsLying 33 = .ok (.iload_n 1, 1) := by decide +kernel
theorem dX12_jobsLying_34 : decode cX12_jobsLying 34 = .ok (.ireturn, 1) := by decide +kernel
theorem dX12_seen_0 : decode cX12_seen 0 = .ok (.aload_n 0, 1) := by decide +kernel
theorem dX12_seen_1 : decode cX12_seen 1 = .ok (.iload_n 1, 1) := by decide +kernel
theorem dX12_seen_2 : decode cX12_seen 2 = .ok (.invokevirtual 59, 3) := by decide +kernel
theorem dX12_seen_5 : decode cX12_seen 5 = .ok (.iconst (-1), 1) := by decide +kernel
theorem dX12_seen_6 : decode cX12_seen 6 = .ok (.if_icmp .ne 5, 3) := by decide +kernel
theorem dX12_seen_9 : decode cX12_seen 9 = .ok (.iconst (-1), 1) := by decide +kernel
theorem dX12_seen_10 : decode cX12_seen 10 = .ok (.ireturn, 1) := by decide +kernel
theorem dX12_seen_11 : decode cX12_seen 11 = .ok (.iload_n 2, 1) := by decide +kernel
theorem dX12_seen_12 : decode cX12_seen 12 = .ok (.iconst (-1), 1) := by decide +kernel
theorem dX12_seen_13 : decode cX12_seen 13 = .ok (.if_icmp .eq 19, 3) := by decide +kernel
theorem dX12_seen_16 : decode cX12_seen 16 = .ok (.aload_n 0, 1) := by decide +kernel
theorem dX12_seen_17 : decode cX12_seen 17 = .ok (.iload_n 1, 1) := by decide +kernel
theorem dX12_seen_18 : decode cX12_seen 18 = .ok (.invokevirtual 70, 3) := by decide +kernel
theorem dX12_seen_21 : decode cX12_seen 21 = .ok (.iload_n 2, 1) := by decide +kernel
theorem dX12_seen_22 : decode cX12_seen 22 = .ok (.if_icmp .ne 10, 3) := by decide +kernel
theorem dX12_seen_25 : decode cX12_seen 25 = .ok (.iload_n 1, 1) := by decide +kernel
theorem dX12_seen_26 : decode cX12_seen 26 = .ok (.bipush 25, 2) := by decide +kernel
theorem dX12_seen_28 : decode cX12_seen 28 = .ok (.invokestatic 51, 3) := by decide +kernel
theorem dX12_seen_31 : decode cX12_seen 31 = .ok (.ireturn, 1) := by decide +kernel
theorem dX12_seen_32 : decode cX12_seen 32 = .ok (.aload_n 0, 1) := by decide +kernel
theorem dX12_seen_33 : decode cX12_seen 33 = .ok (.iload_n 1, 1) := by decide +kernel
theorem dX12_seen_34 : decode cX12_seen 34 = .ok (.invokevirtual 73, 3) := by decide +kernel
theorem dX12_seen_37 : decode cX12_seen 37 = .ok (.ifCond .eq 11, 3) := by decide +kernel
theorem dX12_seen_40 : decode cX12_seen 40 = .ok (.iload_n 1, 1) := by decide +kernel
theorem dX12_seen_41 : decode cX12_seen 41 = .ok (.iconst 3, 1) := by decide +kernel
theorem dX12_seen_42 : decode cX12_seen 42 = .ok (.invokestatic 51, 3) := by decide +kernel
theorem dX12_seen_45 : decode cX12_seen 45 = .ok (.goto 4, 3) := by decide +kernel
theorem dX12_seen_48 : decode cX12_seen 48 = .ok (.iconst (-1), 1) := by decide +kernel
theorem dX12_seen_49 : decode cX12_seen 49 = .ok (.ireturn, 1) := by decide +kernel
theorem dX12_isOthers_0 : decode cX12_isOthers 0 = .ok (.aload_n 0, 1) := by decide +kernel
theorem dX12_isOthers_1 : decode cX12_isOthers 1 = .ok (.iload_n 1, 1) := by decide +kernel
theorem dX12_isOthers_2 : decode cX12_isOthers 2 = .ok (.invokevirtual 70, 3) := by decide +kernel
theorem dX12_isOthers_5 : decode cX12_isOthers 5 = .ok (.iconst (-1), 1) := by decide +kernel
theorem dX12_isOthers_6 : decode cX12_isOthers 6 = .ok (.if_icmp .eq 16, 3) := by decide +kernel
theorem dX12_isOthers_9 : decode cX12_isOthers 9 = .ok (.aload_n 0, 1) := by decide +kernel
theorem dX12_isOthers_10 : decode cX12_isOthers 10 = .ok (.iload_n 1, 1) := by decide +kernel
theorem dX12_isOthers_11 : decode cX12_isOthers 11 = .ok (.invokevirtual 70, 3) := by decide +kernel
theorem dX12_isOthers_14 : decode cX12_isOthers 14 = .ok (.iload_n 2, 1) := by decide +kernel
theorem dX12_isOthers_15 : decode cX12_isOthers 15 = .ok (.if_icmp .eq 7, 3) := by decide +kernel
theorem dX12_isOthers_18 : decode cX12_isOthers 18 = .ok (.iconst 1, 1) := by decide +kernel
theorem dX12_isOthers_19 : decode cX12_isOthers 19 = .ok (.goto 4, 3) := by decide +kernel
theorem dX12_isOthers_22 : decode cX12_isOthers 22 = .ok (.iconst 0, 1) := by decide +kernel
theorem dX12_isOthers_23 : decode cX12_isOthers 23 = .ok (.ireturn, 1) := by decide +kernel
theorem dX12_anyVersion_0 : decode cX12_anyVersion 0 = .ok (.iload_n 1, 1) := by decide +kernel
theorem dX12_anyVersion_1 : decode cX12_anyVersion 1 = .ok (.aload_n 0, 1) := by decide +kernel
theorem dX12_anyVersion_2 : decode cX12_anyVersion 2 = .ok (.iload_n 1, 1) := by decide +kernel
theorem dX12_anyVersion_3 : decode cX12_anyVersion 3 = .ok (.invokevirtual 73, 3) := by decide +kernel
theorem dX12_anyVersion_6 : decode cX12_anyVersion 6 = .ok (.ifCond .eq 7, 3) := by decide +kernel
theorem dX12_anyVersion_9 : decode cX12_anyVersion 9 = .ok (.iconst 3, 1) := by decide +kernel
theorem dX12_anyVersion_10 : decode cX12_anyVersion 10 = .ok (.goto 5, 3) := by decide +kernel
theorem dX12_anyVersion_13 : decode cX12_anyVersion 13 = .ok (.bipush 25, 2) := by decide +kernel
theorem dX12_anyVersion_15 : decode cX12_anyVersion 15 = .ok (.invokestatic 51, 3) := by decide +kernel
theorem dX12_anyVersion_18 : decode cX12_anyVersion 18 = .ok (.ireturn, 1) := by decide +kernel
theorem dX12_copies_0 : decode cX12_copies 0 = .ok (.iconst 0, 1) := by decide +kernel
theorem dX12_copies_1 : decode cX12_copies 1 = .ok (.istore 4, 2) := by decide +kernel
theorem dX12_copies_3 : decode cX12_copies 3 = .ok (.iload 4, 2) := by decide +kernel
theorem dX12_copies_5 : decode cX12_copies 5 = .ok (.iload_n 3, 1) := by decide +kernel
theorem dX12_copies_6 : decode cX12_copies 6 = .ok (.if_icmp .ge 27, 3) := by decide +kernel
theorem dX12_copies_9 : decode cX12_copies 9 = .ok (.aload_n 0, 1) := by decide +kernel
theorem dX12_copies_10 : decode cX12_copies 10 = .ok (.getfield 13, 3) := by decide +kernel
theorem dX12_copies_13 : decode cX12_copies 13 = .ok (.iload_n 2, 1) := by decide +kernel
theorem dX12_copies_14 : decode cX12_copies 14 = .ok (.iload 4, 2) := by decide +kernel
theorem dX12_copies_16 : decode cX12_copies 16 = .ok (.iadd, 1) := by decide +kernel
theorem dX12_copies_17 : decode cX12_copies 17 = .ok (.aload_n 0, 1) := by decide +kernel
theorem dX12_copies_18 : decode cX12_copies 18 = .ok (.getfield 13, 3) := by decide +kernel
theorem dX12_copies_21 : decode cX12_copies 21 = .ok (.iload_n 1, 1) := by decide +kernel
theorem dX12_copies_22 : decode cX12_copies 22 = .ok (.iload 4, 2) := by decide +kernel
theorem dX12_copies_24 : decode cX12_copies 24 = .ok (.iadd, 1) := by decide +kernel
theorem dX12_copies_25 : decode cX12_copies 25 = .ok (.iaload, 1) := by decide +kernel
theorem dX12_copies_26 : decode cX12_copies 26 = .ok (.iastore, 1) := by decide +kernel
theorem dX12_copies_27 : decode cX12_copies 27 = .ok (.iinc 4 1, 3) := by decide +kernel
theorem dX12_copies_30 : decode cX12_copies 30 = .ok (.goto (-27), 3) := by decide +kernel
theorem dX12_copies_33 : decode cX12_copies 33 = .ok (.return_, 1) := by decide +kernel
theorem dX12_comes_0 : decode cX12_comes 0 = .ok (.iconst 0, 1) := by decide +kernel
theorem dX12_comes_1 : decode cX12_comes 1 = .ok (.istore 7, 2) := by decide +kernel
theorem dX12_comes_3 : decode cX12_comes 3 = .ok (.iload 7, 2) := by decide +kernel
theorem dX12_comes_5 : decode cX12_comes 5 = .ok (.bipush 24, 2) := by decide +kernel
theorem dX12_comes_7 : decode cX12_comes 7 = .ok (.if_icmp .ge 19, 3) := by decide +kernel
theorem dX12_comes_10 : decode cX12_comes 10 = .ok (.aload_n 0, 1) := by decide +kernel
theorem dX12_comes_11 : decode cX12_comes 11 = .ok (.iload 7, 2) := by decide +kernel
theorem dX12_comes_13 : decode cX12_comes 13 = .ok (.invokevirtual 59, 3) := by decide +kernel
theorem dX12_comes_16 : decode cX12_comes 16 = .ok (.iconst (-1), 1) := by decide +kernel
theorem dX12_comes_17 : decode cX12_comes 17 = .ok (.if_icmp .eq 9, 3) := by decide +kernel
theorem dX12_comes_20 : decode cX12_comes 20 = .ok (.iinc 7 1, 3) := by decide +kernel
theorem dX12_comes_23 : decode cX12_comes 23 = .ok (.goto (-20), 3) := by decide +kernel
theorem dX12_comes_26 : decode cX12_comes 26 = .ok (.iload 7, 2) := by decide +kernel
theorem dX12_comes_28 : decode cX12_comes 28 = .ok (.bipush 24, 2) := by decide +kernel
theorem dX12_comes_30 : decode cX12_comes 30 = .ok (.if_icmp .ne 5, 3) := by decide +kernel
theorem dX12_comes_33 : decode cX12_comes 33 = .ok (.iconst (-1), 1) := by decide +kernel
theorem dX12_comes_34 : decode cX12_comes 34 = .ok (.ireturn, 1) := by decide +kernel
theorem dX12_comes_35 : decode cX12_comes 35 = .ok (.iconst 0, 1) := by decide +kernel
theorem dX12_comes_36 : decode cX12_comes 36 = .ok (.istore 8, 2) := by decide +kernel
theorem dX12_comes_38 : decode cX12_comes 38 = .ok (.iload 8, 2) := by decide +kernel
theorem dX12_comes_40 : decode cX12_comes 40 = .ok (.bipush 47, 2) := by decide +kernel
theorem dX12_comes_42 : decode cX12_comes 42 = .ok (.if_icmp .ge 22, 3) := by decide +kernel
theorem dX12_comes_45 : decode cX12_comes 45 = .ok (.aload_n 0, 1) := by decide +kernel
theorem dX12_comes_46 : decode cX12_comes 46 = .ok (.getfield 13, 3) := by decide +kernel
theorem dX12_comes_49 : decode cX12_comes 49 = .ok (.iload 7, 2) := by decide +kernel
theorem dX12_comes_51 : decode cX12_comes 51 = .ok (.iload 8, 2) := by decide +kernel
theorem dX12_comes_53 : decode cX12_comes 53 = .ok (.invokestatic 51, 3) := by decide +kernel
theorem dX12_comes_56 : decode cX12_comes 56 = .ok (.iconst 0, 1) := by decide +kernel
theorem dX12_comes_57 : decode cX12_comes 57 = .ok (.iastore, 1) := by decide +kernel
theorem dX12_comes_58 : decode cX12_comes 58 = .ok (.iinc 8 1, 3) := by decide +kernel
theorem dX12_comes_61 : decode cX12_comes 61 = .ok (.goto (-23), 3) := by decide +kernel
theorem dX12_comes_64 : decode cX12_comes 64 = .ok (.aload_n 0, 1) := by decide +kernel
theorem dX12_comes_65 : decode cX12_comes 65 = .ok (.getfield 13, 3) := by decide +kernel
theorem dX12_comes_68 : decode cX12_comes 68 = .ok (.iload 7, 2) := by decide +kernel
theorem dX12_comes_70 : decode cX12_comes 70 = .ok (.iconst 0, 1) := by decide +kernel
theorem dX12_comes_71 : decode cX12_comes 71 = .ok (.invokestatic 51, 3) := by decide +kernel
theorem dX12_comes_74 : decode cX12_comes 74 = .ok (.aload_n 0, 1) := by decide +kernel
theorem dX12_comes_75 : decode cX12_comes 75 = .ok (.getfield 13, 3) := by decide +kernel
theorem dX12_comes_78 : decode cX12_comes 78 = .ok (.bipush 6, 2) := by decide +kernel
theorem dX12_comes_80 : decode cX12_comes 80 = .ok (.iaload, 1) := by decide +kernel
theorem dX12_comes_81 : decode cX12_comes 81 = .ok (.iastore, 1) := by decide +kernel
theorem dX12_comes_82 : decode cX12_comes 82 = .ok (.aload_n 0, 1) := by decide +kernel
theorem dX12_comes_83 : decode cX12_comes 83 = .ok (.getfield 13, 3) := by decide +kernel
theorem dX12_comes_86 : decode cX12_comes 86 = .ok (.iload 7, 2) := by decide +kernel
theorem dX12_comes_88 : decode cX12_comes 88 = .ok (.iconst 1, 1) := by decide +kernel
theorem dX12_comes_89 : decode cX12_comes 89 = .ok (.invokestatic 51, 3) := by decide +kernel
theorem dX12_comes_92 : decode cX12_comes 92 = .ok (.iload_n 2, 1) := by decide +kernel
theorem dX12_comes_93 : decode cX12_comes 93 = .ok (.ifCond .eq 7, 3) := by decide +kernel
theorem dX12_comes_96 : decode cX12_comes 96 = .ok (.iconst 1, 1) := by decide +kernel
theorem dX12_comes_97 : decode cX12_comes 97 = .ok (.goto 4, 3) := by decide +kernel
theorem dX12_comes_100 : decode cX12_comes 100 = .ok (.iconst 0, 1) := by decide +kernel
theorem dX12_comes_101 : decode cX12_comes 101 = .ok (.iastore, 1) := by decide +kernel
theorem dX12_comes_102 : decode cX12_comes 102 = .ok (.aload_n 0, 1) := by decide +kernel
theorem dX12_comes_103 : decode cX12_comes 103 = .ok (.getfield 13, 3) := by decide +kernel
theorem dX12_comes_106 : decode cX12_comes 106 = .ok (.iload 7, 2) := by decide +kernel
theorem dX12_comes_108 : decode cX12_comes 108 = .ok (.iconst 2, 1) := by decide +kernel
theorem dX12_comes_109 : decode cX12_comes 109 = .ok (.invokestatic 51, 3) := by decide +kernel
theorem dX12_comes_112 : decode cX12_comes 112 = .ok (.iconst (-1), 1) := by decide +kernel
theorem dX12_comes_113 : decode cX12_comes 113 = .ok (.iastore, 1) := by decide +kernel
theorem dX12_comes_114 : decode cX12_comes 114 = .ok (.iload 7, 2) := by decide +kernel
theorem dX12_comes_116 : decode cX12_comes 116 = .ok (.iload_n 1, 1) := by decide +kernel
theorem dX12_comes_117 : decode cX12_comes 117 = .ok (.invokestatic 51, 3) := by decide +kernel
theorem dX12_comes_120 : decode cX12_comes 120 = .ok (.istore 8, 2) := by decide +kernel
theorem dX12_comes_122 : decode cX12_comes 122 = .ok (.aload_n 0, 1) := by decide +kernel
theorem dX12_comes_123 : decode cX12_comes 123 = .ok (.getfield 13, 3) := by decide +kernel
theorem dX12_comes_126 : decode cX12_comes 126 = .ok (.iload 8, 2) := by decide +kernel
theorem dX12_comes_128 : decode cX12_comes 128 = .ok (.iconst 0, 1) := by decide +kernel
theorem dX12_comes_129 : decode cX12_comes 129 = .ok (.iadd, 1) := by decide +kernel
theorem dX12_comes_130 : decode cX12_comes 130 = .ok (.iload_n 3, 1) := by decide +kernel
theorem dX12_comes_131 : decode cX12_comes 131 = .ok (.iastore, 1) := by decide +kernel
theorem dX12_comes_132 : decode cX12_comes 132 = .ok (.aload_n 0, 1) := by decide +kernel
theorem dX12_comes_133 : decode cX12_comes 133 = .ok (.getfield 13, 3) := by decide +kernel
theorem dX12_comes_136 : decode cX12_comes 136 = .ok (.iload 8, 2) := by decide +kernel
theorem dX12_comes_138 : decode cX12_comes 138 = .ok (.iconst 1, 1) := by decide +kernel
theorem dX12_comes_139 : decode cX12_comes 139 = .ok (.iadd, 1) := by decide +kernel
theorem dX12_comes_140 : decode cX12_comes 140 = .ok (.iload 4, 2) := by decide +kernel
theorem dX12_comes_142 : decode cX12_comes 142 = .ok (.iastore, 1) := by decide +kernel
theorem dX12_comes_143 : decode cX12_comes 143 = .ok (.aload_n 0, 1) := by decide +kernel
theorem dX12_comes_144 : decode cX12_comes 144 = .ok (.getfield 13, 3) := by decide +kernel
theorem dX12_comes_147 : decode cX12_comes 147 = .ok (.iload 8, 2) := by decide +kernel
theorem dX12_comes_149 : decode cX12_comes 149 = .ok (.iconst 2, 1) := by decide +kernel
theorem dX12_comes_150 : decode cX12_comes 150 = .ok (.iadd, 1) := by decide +kernel
theorem dX12_comes_151 : decode cX12_comes 151 = .ok (.iload 5, 2) := by decide +kernel
theorem dX12_comes_153 : decode cX12_comes 153 = .ok (.iastore, 1) := by decide +kernel
theorem dX12_comes_154 : decode cX12_comes 154 = .ok (.aload_n 0, 1) := by decide +kernel
theorem dX12_comes_155 : decode cX12_comes 155 = .ok (.getfield 13, 3) := by decide +kernel
theorem dX12_comes_158 : decode cX12_comes 158 = .ok (.iload 8, 2) := by decide +kernel
theorem dX12_comes_160 : decode cX12_comes 160 = .ok (.iconst 4, 1) := by decide +kernel
theorem dX12_comes_161 : decode cX12_comes 161 = .ok (.iadd, 1) := by decide +kernel
theorem dX12_comes_162 : decode cX12_comes 162 = .ok (.aload_n 0, 1) := by decide +kernel
theorem dX12_comes_163 : decode cX12_comes 163 = .ok (.getfield 13, 3) := by decide +kernel
theorem dX12_comes_166 : decode cX12_comes 166 = .ok (.iconst 3, 1) := by decide +kernel
theorem dX12_comes_167 : decode cX12_comes 167 = .ok (.iaload, 1) := by decide +kernel
theorem dX12_comes_168 : decode cX12_comes 168 = .ok (.iastore, 1) := by decide +kernel
theorem dX12_comes_169 : decode cX12_comes 169 = .ok (.aload_n 0, 1) := by decide +kernel
theorem dX12_comes_170 : decode cX12_comes 170 = .ok (.getfield 13, 3) := by decide +kernel
theorem dX12_comes_173 : decode cX12_comes 173 = .ok (.iload 8, 2) := by decide +kernel
theorem dX12_comes_175 : decode cX12_comes 175 = .ok (.iconst 5, 1) := by decide +kernel
theorem dX12_comes_176 : decode cX12_comes 176 = .ok (.iadd, 1) := by decide +kernel
theorem dX12_comes_177 : decode cX12_comes 177 = .ok (.iload 6, 2) := by decide +kernel
theorem dX12_comes_179 : decode cX12_comes 179 = .ok (.iastore, 1) := by decide +kernel
theorem dX12_comes_180 : decode cX12_comes 180 = .ok (.aload_n 0, 1) := by decide +kernel
theorem dX12_comes_181 : decode cX12_comes 181 = .ok (.getfield 13, 3) := by decide +kernel
theorem dX12_comes_184 : decode cX12_comes 184 = .ok (.iload 8, 2) := by decide +kernel
theorem dX12_comes_186 : decode cX12_comes 186 = .ok (.bipush 9, 2) := by decide +kernel
theorem dX12_comes_188 : decode cX12_comes 188 = .ok (.iadd, 1) := by decide +kernel
theorem dX12_comes_189 : decode cX12_comes 189 = .ok (.iconst (-1), 1) := by decide +kernel
theorem dX12_comes_190 : decode cX12_comes 190 = .ok (.iastore, 1) := by decide +kernel
theorem dX12_comes_191 : decode cX12_comes 191 = .ok (.aload_n 0, 1) := by decide +kernel
theorem dX12_comes_192 : decode cX12_comes 192 = .ok (.getfield 13, 3) := by decide +kernel
theorem dX12_comes_195 : decode cX12_comes 195 = .ok (.iload 8, 2) := by decide +kernel
theorem dX12_comes_197 : decode cX12_comes 197 = .ok (.bipush 11, 2) := by decide +kernel
theorem dX12_comes_199 : decode cX12_comes 199 = .ok (.iadd, 1) := by decide +kernel
theorem dX12_comes_200 : decode cX12_comes 200 = .ok (.iconst (-1), 1) := by decide +kernel
theorem dX12_comes_201 : decode cX12_comes 201 = .ok (.iastore, 1) := by decide +kernel
theorem dX12_comes_202 : decode cX12_comes 202 = .ok (.aload_n 0, 1) := by decide +kernel
theorem dX12_comes_203 : decode cX12_comes 203 = .ok (.getfield 13, 3) := by decide +kernel
theorem dX12_comes_206 : decode cX12_comes 206 = .ok (.iload 8, 2) := by decide +kernel
theorem dX12_comes_208 : decode cX12_comes 208 = .ok (.bipush 12, 2) := by decide +kernel
theorem dX12_comes_210 : decode cX12_comes 210 = .ok (.iadd, 1) := by decide +kernel
theorem dX12_comes_211 : decode cX12_comes 211 = .ok (.iconst (-1), 1) := by decide +kernel
theorem dX12_comes_212 : decode cX12_comes 212 = .ok (.iastore, 1) := by decide +kernel
theorem dX12_comes_213 : decode cX12_comes 213 = .ok (.aload_n 0, 1) := by decide +kernel
theorem dX12_comes_214 : decode cX12_comes 214 = .ok (.getfield 13, 3) := by decide +kernel
theorem dX12_comes_217 : decode cX12_comes 217 = .ok (.bipush 6, 2) := by decide +kernel
theorem dX12_comes_219 : decode cX12_comes 219 = .ok (.dup2, 1) := by decide +kernel
theorem dX12_comes_220 : decode cX12_comes 220 = .ok (.iaload, 1) := by decide +kernel
theorem dX12_comes_221 : decode cX12_comes 221 = .ok (.iconst 1, 1) := by decide +kernel
theorem dX12_comes_222 : decode cX12_comes 222 = .ok (.iadd, 1) := by decide +kernel
theorem dX12_comes_223 : decode cX12_comes 223 = .ok (.iastore, 1) := by decide +kernel
theorem dX12_comes_224 : decode cX12_comes 224 = .ok (.iload 7, 2) := by decide +kernel
theorem dX12_comes_226 : decode cX12_comes 226 = .ok (.ireturn, 1) := by decide +kernel
theorem dX12_feed_0 : decode cX12_feed 0 = .ok (.aload_n 0, 1) := by decide +kernel
theorem dX12_feed_1 : decode cX12_feed 1 = .ok (.iconst 0, 1) := by decide +kernel
theorem dX12_feed_2 : decode cX12_feed 2 = .ok (.putfield 3, 3) := by decide +kernel
theorem dX12_feed_5 : decode cX12_feed 5 = .ok (.aload_n 0, 1) := by decide +kernel
theorem dX12_feed_6 : decode cX12_feed 6 = .ok (.getfield 77, 3) := by decide +kernel
theorem dX12_feed_9 : decode cX12_feed 9 = .ok (.bipush 20, 2) := by decide +kernel
theorem dX12_feed_11 : decode cX12_feed 11 = .ok (.iadd, 1) := by decide +kernel
theorem dX12_feed_12 : decode cX12_feed 12 = .ok (.sipush 400, 3) := by decide +kernel
theorem dX12_feed_15 : decode cX12_feed 15 = .ok (.if_icmp .le 5, 3) := by decide +kernel
theorem dX12_feed_18 : decode cX12_feed 18 = .ok (.iconst (-1), 1) := by decide +kernel
theorem dX12_feed_19 : decode cX12_feed 19 = .ok (.ireturn, 1) := by decide +kernel
theorem dX12_feed_20 : decode cX12_feed 20 = .ok (.aload_n 0, 1) := by decide +kernel
theorem dX12_feed_21 : decode cX12_feed 21 = .ok (.getfield 36, 3) := by decide +kernel
theorem dX12_feed_24 : decode cX12_feed 24 = .ok (.iconst 0, 1) := by decide +kernel
theorem dX12_feed_25 : decode cX12_feed 25 = .ok (.iload_n 1, 1) := by decide +kernel
theorem dX12_feed_26 : decode cX12_feed 26 = .ok (.iastore, 1) := by decide +kernel
theorem dX12_feed_27 : decode cX12_feed 27 = .ok (.aload_n 0, 1) := by decide +kernel
theorem dX12_feed_28 : decode cX12_feed 28 = .ok (.getfield 36, 3) := by decide +kernel
theorem dX12_feed_31 : decode cX12_feed 31 = .ok (.iconst 1, 1) := by decide +kernel
theorem dX12_feed_32 : decode cX12_feed 32 = .ok (.iload_n 2, 1) := by decide +kernel
theorem dX12_feed_33 : decode cX12_feed 33 = .ok (.iastore, 1) := by decide +kernel
theorem dX12_feed_34 : decode cX12_feed 34 = .ok (.aload_n 0, 1) := by decide +kernel
theorem dX12_feed_35 : decode cX12_feed 35 = .ok (.getfield 36, 3) := by decide +kernel
theorem dX12_feed_38 : decode cX12_feed 38 = .ok (.iconst 2, 1) := by decide +kernel
theorem dX12_feed_39 : decode cX12_feed 39 = .ok (.iload_n 3, 1) := by decide +kernel
theorem dX12_feed_40 : decode cX12_feed 40 = .ok (.iastore, 1) := by decide +kernel
theorem dX12_feed_41 : decode cX12_feed 41 = .ok (.aload_n 0, 1) := by decide +kernel
theorem dX12_feed_42 : decode cX12_feed 42 = .ok (.getfield 36, 3) := by decide +kernel
theorem dX12_feed_45 : decode cX12_feed 45 = .ok (.iconst 3, 1) := by decide +kernel
theorem dX12_feed_46 : decode cX12_feed 46 = .ok (.iload 4, 2) := by decide +kernel
theorem dX12_feed_48 : decode cX12_feed 48 = .ok (.iastore, 1) := by decide +kernel
theorem dX12_feed_49 : decode cX12_feed 49 = .ok (.aload_n 0, 1) := by decide +kernel
theorem dX12_feed_50 : decode cX12_feed 50 = .ok (.getfield 36, 3) := by decide +kernel
theorem dX12_feed_53 : decode cX12_feed 53 = .ok (.iconst 4, 1) := by decide +kernel
theorem dX12_feed_54 : decode cX12_feed 54 = .ok (.iload 5, 2) := by decide +kernel
theorem dX12_feed_56 : decode cX12_feed 56 = .ok (.iastore, 1) := by decide +kernel
theorem dX12_feed_57 : decode cX12_feed 57 = .ok (.iconst 0, 1) := by decide +kernel
theorem dX12_feed_58 : decode cX12_feed 58 = .ok (.istore 6, 2) := by decide +kernel
theorem dX12_feed_60 : decode cX12_feed 60 = .ok (.iload 6, 2) := by decide +kernel
theorem dX12_feed_62 : decode cX12_feed 62 = .ok (.bipush 20, 2) := by decide +kernel
theorem dX12_feed_64 : decode cX12_feed 64 = .ok (.if_icmp .ge 42, 3) := by decide +kernel
theorem dX12_feed_67 : decode cX12_feed 67 = .ok (.aload_n 0, 1) := by decide +kernel
theorem dX12_feed_68 : decode cX12_feed 68 = .ok (.getfield 29, 3) := by decide +kernel
theorem dX12_feed_71 : decode cX12_feed 71 = .ok (.aload_n 0, 1) := by decide +kernel
theorem dX12_feed_72 : decode cX12_feed 72 = .ok (.getfield 77, 3) := by decide +kernel
theorem dX12_feed_75 : decode cX12_feed 75 = .ok (.iload 6, 2) := by decide +kernel
theorem dX12_feed_77 : decode cX12_feed 77 = .ok (.iadd, 1) := by decide +kernel
theorem dX12_feed_78 : decode cX12_feed 78 = .ok (.aload_n 0, 1) := by decide +kernel
theorem dX12_feed_79 : decode cX12_feed 79 = .ok (.getfield 36, 3) := by decide +kernel
theorem dX12_feed_82 : decode cX12_feed 82 = .ok (.iload 6, 2) := by decide +kernel
theorem dX12_feed_84 : decode cX12_feed 84 = .ok (.iconst 4, 1) := by decide +kernel
theorem dX12_feed_85 : decode cX12_feed 85 = .ok (.idiv, 1) := by decide +kernel
theorem dX12_feed_86 : decode cX12_feed 86 = .ok (.iaload, 1) := by decide +kernel
theorem dX12_feed_87 : decode cX12_feed 87 = .ok (.bipush 24, 2) := by decide +kernel
theorem dX12_feed_89 : decode cX12_feed 89 = .ok (.bipush 8, 2) := by decide +kernel
theorem dX12_feed_91 : decode cX12_feed 91 = .ok (.iload 6, 2) := by decide +kernel
theorem dX12_feed_93 : decode cX12_feed 93 = .ok (.iconst 4, 1) := by decide +kernel
theorem dX12_feed_94 : decode cX12_feed 94 = .ok (.irem, 1) := by decide +kernel
theorem dX12_feed_95 : decode cX12_feed 95 = .ok (.imul, 1) := by decide +kernel
theorem dX12_feed_96 : decode cX12_feed 96 = .ok (.isub, 1) := by decide +kernel
theorem dX12_feed_97 : decode cX12_feed 97 = .ok (.ishr, 1) := by decide +kernel
theorem dX12_feed_98 : decode cX12_feed 98 = .ok (.i2b, 1) := by decide +kernel
theorem dX12_feed_99 : decode cX12_feed 99 = .ok (.bastore, 1) := by decide +kernel
theorem dX12_feed_100 : decode cX12_feed 100 = .ok (.iinc 6 1, 3) := by decide +kernel
theorem dX12_feed_103 : decode cX12_feed 103 = .ok (.goto (-43), 3) := by decide +kernel
theorem dX12_feed_106 : decode cX12_feed 106 = .ok (.aload_n 0, 1) := by decide +kernel
theorem dX12_feed_107 : decode cX12_feed 107 = .ok (.dup, 1) := by decide +kernel
theorem dX12_feed_108 : decode cX12_feed 108 = .ok (.getfield 77, 3) := by decide +kernel
theorem dX12_feed_111 : decode cX12_feed 111 = .ok (.bipush 20, 2) := by decide +kernel
theorem dX12_feed_113 : decode cX12_feed 113 = .ok (.iadd, 1) := by decide +kernel
theorem dX12_feed_114 : decode cX12_feed 114 = .ok (.putfield 77, 3) := by decide +kernel
theorem dX12_feed_117 : decode cX12_feed 117 = .ok (.aload_n 0, 1) := by decide +kernel
theorem dX12_feed_118 : decode cX12_feed 118 = .ok (.getfield 77, 3) := by decide +kernel
theorem dX12_feed_121 : decode cX12_feed 121 = .ok (.ireturn, 1) := by decide +kernel
theorem dX12_end_0 : decode cX12_end 0 = .ok (.aload_n 0, 1) := by decide +kernel
theorem dX12_end_1 : decode cX12_end 1 = .ok (.iconst 0, 1) := by decide +kernel
theorem dX12_end_2 : decode cX12_end 2 = .ok (.putfield 3, 3) := by decide +kernel
theorem dX12_end_5 : decode cX12_end 5 = .ok (.iload_n 1, 1) := by decide +kernel
theorem dX12_end_6 : decode cX12_end 6 = .ok (.ifCond .lt 11, 3) := by decide +kernel
theorem dX12_end_9 : decode cX12_end 9 = .ok (.iload_n 1, 1) := by decide +kernel
theorem dX12_end_10 : decode cX12_end 10 = .ok (.aload_n 0, 1) := by decide +kernel
theorem dX12_end_11 : decode cX12_end 11 = .ok (.getfield 77, 3) := by decide +kernel
theorem dX12_end_14 : decode cX12_end 14 = .ok (.if_icmp .le 5, 3) := by decide +kernel
theorem dX12_end_17 : decode cX12_end 17 = .ok (.iconst 0, 1) := by decide +kernel
theorem dX12_end_18 : decode cX12_end 18 = .ok (.ireturn, 1) := by decide +kernel
theorem dX12_end_19 : decode cX12_end 19 = .ok (.aload_n 0, 1) := by decide +kernel
theorem dX12_end_20 : decode cX12_end 20 = .ok (.iload_n 1, 1) := by decide +kernel
theorem dX12_end_21 : decode cX12_end 21 = .ok (.putfield 77, 3) := by decide +kernel
theorem dX12_end_24 : decode cX12_end 24 = .ok (.iconst 1, 1) := by decide +kernel
theorem dX12_end_25 : decode cX12_end 25 = .ok (.ireturn, 1) := by decide +kernel
theorem dX12_isAt_0 : decode cX12_isAt 0 = .ok (.aload_n 0, 1) := by decide +kernel
theorem dX12_isAt_1 : decode cX12_isAt 1 = .ok (.getfield 80, 3) := by decide +kernel
theorem dX12_isAt_4 : decode cX12_isAt 4 = .ok (.aload_n 0, 1) := by decide +kernel
theorem dX12_isAt_5 : decode cX12_isAt 5 = .ok (.getfield 83, 3) := by decide +kernel
theorem dX12_isAt_8 : decode cX12_isAt 8 = .ok (.if_icmp .ge 33, 3) := by decide +kernel
theorem dX12_isAt_11 : decode cX12_isAt 11 = .ok (.aload_n 0, 1) := by decide +kernel
theorem dX12_isAt_12 : decode cX12_isAt 12 = .ok (.getfield 29, 3) := by decide +kernel
theorem dX12_isAt_15 : decode cX12_isAt 15 = .ok (.aload_n 0, 1) := by decide +kernel
theorem dX12_isAt_16 : decode cX12_isAt 16 = .ok (.getfield 80, 3) := by decide +kernel
theorem dX12_isAt_19 : decode cX12_isAt 19 = .ok (.baload, 1) := by decide +kernel
theorem dX12_isAt_20 : decode cX12_isAt 20 = .ok (.iload_n 1, 1) := by decide +kernel
theorem dX12_isAt_21 : decode cX12_isAt 21 = .ok (.if_icmp .lt 20, 3) := by decide +kernel
theorem dX12_isAt_24 : decode cX12_isAt 24 = .ok (.aload_n 0, 1) := by decide +kernel
theorem dX12_isAt_25 : decode cX12_isAt 25 = .ok (.getfield 29, 3) := by decide +kernel
theorem dX12_isAt_28 : decode cX12_isAt 28 = .ok (.aload_n 0, 1) := by decide +kernel
theorem dX12_isAt_29 : decode cX12_isAt 29 = .ok (.getfield 80, 3) := by decide +kernel
theorem dX12_isAt_32 : decode cX12_isAt 32 = .ok (.baload, 1) := by decide +kernel
theorem dX12_isAt_33 : decode cX12_isAt 33 = .ok (.iload_n 2, 1) := by decide +kernel
theorem dX12_isAt_34 : decode cX12_isAt 34 = .ok (.if_icmp .gt 7, 3) := by decide +kernel
theorem dX12_isAt_37 : decode cX12_isAt 37 = .ok (.iconst 1, 1) := by decide +kernel
theorem dX12_isAt_38 : decode cX12_isAt 38 = .ok (.goto 4, 3) := by decide +kernel
theorem dX12_isAt_41 : decode cX12_isAt 41 = .ok (.iconst 0, 1) := by decide +kernel
theorem dX12_isAt_42 : decode cX12_isAt 42 = .ok (.ireturn, 1) := by decide +kernel
theorem dX12_blanks_0 : decode cX12_blanks 0 = .ok (.aload_n 0, 1) := by decide +kernel
theorem dX12_blanks_1 : decode cX12_blanks 1 = .ok (.bipush 32, 2) := by decide +kernel
theorem dX12_blanks_3 : decode cX12_blanks 3 = .ok (.bipush 32, 2) := by decide +kernel
theorem dX12_blanks_5 : decode cX12_blanks 5 = .ok (.invokevirtual 86, 3) := by decide +kernel
theorem dX12_blanks_8 : decode cX12_blanks 8 = .ok (.ifCond .eq 16, 3) := by decide +kernel
theorem dX12_blanks_11 : decode cX12_blanks 11 = .ok (.aload_n 0, 1) := by decide +kernel
theorem dX12_blanks_12 : decode cX12_blanks 12 = .ok (.dup, 1) := by decide +kernel
theorem dX12_blanks_13 : decode cX12_blanks 13 = .ok (.getfield 80, 3) := by decide +kernel
theorem dX12_blanks_16 : decode cX12_blanks 16 = .ok (.iconst 1, 1) := by decide +kernel
theorem dX12_blanks_17 : decode cX12_blanks 17 = .ok (.iadd, 1) := by decide +kernel
theorem dX12_blanks_18 : decode cX12_blanks 18 = .ok (.putfield 80, 3) := by decide +kernel
theorem dX12_blanks_21 : decode cX12_blanks 21 = .ok (.goto (-21), 3) := by decide +kernel
theorem dX12_blanks_24 : decode cX12_blanks 24 = .ok (.aload_n 0, 1) := by decide +kernel
theorem dX12_blanks_25 : decode cX12_blanks 25 = .ok (.aload_n 0, 1) := by decide +kernel
theorem dX12_blanks_26 : decode cX12_blanks 26 = .ok (.getfield 80, 3) := by decide +kernel
theorem dX12_blanks_29 : decode cX12_blanks 29 = .ok (.putfield 90, 3) := by decide +kernel
theorem dX12_blanks_32 : decode cX12_blanks 32 = .ok (.return_, 1) := by decide +kernel
theorem dX12_letters_0 : decode cX12_letters 0 = .ok (.aload_n 0, 1) := by decide +kernel
theorem dX12_letters_1 : decode cX12_letters 1 = .ok (.invokevirtual 93, 3) := by decide +kernel
theorem dX12_letters_4 : decode cX12_letters 4 = .ok (.aload_n 0, 1) := by decide +kernel
theorem dX12_letters_5 : decode cX12_letters 5 = .ok (.bipush 97, 2) := by decide +kernel
theorem dX12_letters_7 : decode cX12_letters 7 = .ok (.bipush 122, 2) := by decide +kernel
theorem dX12_letters_9 : decode cX12_letters 9 = .ok (.invokevirtual 86, 3) := by decide +kernel
theorem dX12_letters_12 : decode cX12_letters 12 = .ok (.ifCond .eq 16, 3) := by decide +kernel
theorem dX12_letters_15 : decode cX12_letters 15 = .ok (.aload_n 0, 1) := by decide +kernel
theorem dX12_letters_16 : decode cX12_letters 16 = .ok (.dup, 1) := by decide +kernel
theorem dX12_letters_17 : decode cX12_letters 17 = .ok (.getfield 80, 3) := by decide +kernel
theorem dX12_letters_20 : decode cX12_letters 20 = .ok (.iconst 1, 1) := by decide +kernel
theorem dX12_letters_21 : decode cX12_letters 21 = .ok (.iadd, 1) := by decide +kernel
theorem dX12_letters_22 : decode cX12_letters 22 = .ok (.putfield 80, 3) := by decide +kernel
theorem dX12_letters_25 : decode cX12_letters 25 = .ok (.goto (-21), 3) := by decide +kernel
theorem dX12_letters_28 : decode cX12_letters 28 = .ok (.return_, 1) := by decide +kernel
theorem dX12_isWord_0 : decode cX12_isWord 0 = .ok (.aload_n 0, 1) := by decide +kernel
theorem dX12_isWord_1 : decode cX12_isWord 1 = .ok (.getfield 80, 3) := by decide +kernel
theorem dX12_isWord_4 : decode cX12_isWord 4 = .ok (.aload_n 0, 1) := by decide +kernel
theorem dX12_isWord_5 : decode cX12_isWord 5 = .ok (.getfield 90, 3) := by decide +kernel
theorem dX12_isWord_8 : decode cX12_isWord 8 = .ok (.isub, 1) := by decide +kernel
theorem dX12_isWord_9 : decode cX12_isWord 9 = .ok (.aload_n 1, 1) := by decide +kernel
theorem dX12_isWord_10 : decode cX12_isWord 10 = .ok (.invokevirtual 96, 3) := by decide +kernel
theorem dX12_isWord_13 : decode cX12_isWord 13 = .ok (.if_icmp .ne 7, 3) := by decide +kernel
theorem dX12_isWord_16 : decode cX12_isWord 16 = .ok (.iconst 1, 1) := by decide +kernel
theorem dX12_isWord_17 : decode cX12_isWord 17 = .ok (.goto 4, 3) := by decide +kernel
theorem dX12_isWord_20 : decode cX12_isWord 20 = .ok (.iconst 0, 1) := by decide +kernel
theorem dX12_isWord_21 : decode cX12_isWord 21 = .ok (.istore_n 2, 1) := by decide +kernel
theorem dX12_isWord_22 : decode cX12_isWord 22 = .ok (.iconst 0, 1) := by decide +kernel
theorem dX12_isWord_23 : decode cX12_isWord 23 = .ok (.istore_n 3, 1) := by decide +kernel
theorem dX12_isWord_24 : decode cX12_isWord 24 = .ok (.iload_n 2, 1) := by decide +kernel
theorem dX12_isWord_25 : decode cX12_isWord 25 = .ok (.ifCond .eq 42, 3) := by decide +kernel
theorem dX12_isWord_28 : decode cX12_isWord 28 = .ok (.iload_n 3, 1) := by decide +kernel
theorem dX12_isWord_29 : decode cX12_isWord 29 = .ok (.aload_n 1, 1) := by decide +kernel
theorem dX12_isWord_30 : decode cX12_isWord 30 = .ok (.invokevirtual 96, 3) := by decide +kernel
theorem dX12_isWord_33 : decode cX12_isWord 33 = .ok (.if_icmp .ge 34, 3) := by decide +kernel
theorem dX12_isWord_36 : decode cX12_isWord 36 = .ok (.aload_n 0, 1) := by decide +kernel
theorem dX12_isWord_37 : decode cX12_isWord 37 = .ok (.getfield 29, 3) := by decide +kernel
theorem dX12_isWord_40 : decode cX12_isWord 40 = .ok (.aload_n 0, 1) := by decide +kernel
theorem dX12_isWord_41 : decode cX12_isWord 41 = .ok (.getfield 90, 3) := by decide +kernel
theorem dX12_isWord_44 : decode cX12_isWord 44 = .ok (.iload_n 3, 1) := by decide +kernel
theorem dX12_isWord_45 : decode cX12_isWord 45 = .ok (.iadd, 1) := by decide +kernel
theorem dX12_isWord_46 : decode cX12_isWord 46 = .ok (.baload, 1) := by decide +kernel
theorem dX12_isWord_47 : decode cX12_isWord 47 = .ok (.aload_n 1, 1) := by decide +kernel
theorem dX12_isWord_48 : decode cX12_isWord 48 = .ok (.iload_n 3, 1) := by decide +kernel
theorem dX12_isWord_49 : decode cX12_isWord 49 = .ok (.invokevirtual 102, 3) := by decide +kernel
theorem dX12_isWord_52 : decode cX12_isWord 52 = .ok (.if_icmp .ne 7, 3) := by decide +kernel
theorem dX12_isWord_55 : decode cX12_isWord 55 = .ok (.iconst 1, 1) := by decide +kernel
theorem dX12_isWord_56 : decode cX12_isWord 56 = .ok (.goto 4, 3) := by decide +kernel
theorem dX12_isWord_59 : decode cX12_isWord 59 = .ok (.iconst 0, 1) := by decide +kernel
theorem dX12_isWord_60 : decode cX12_isWord 60 = .ok (.istore_n 2, 1) := by decide +kernel
theorem dX12_isWord_61 : decode cX12_isWord 61 = .ok (.iinc 3 1, 3) := by decide +kernel
theorem dX12_isWord_64 : decode cX12_isWord 64 = .ok (.goto (-40), 3) := by decide +kernel
theorem dX12_isWord_67 : decode cX12_isWord 67 = .ok (.iload_n 2, 1) := by decide +kernel
theorem dX12_isWord_68 : decode cX12_isWord 68 = .ok (.ireturn, 1) := by decide +kernel
theorem dX12_passes_0 : decode cX12_passes 0 = .ok (.aload_n 0, 1) := by decide +kernel
theorem dX12_passes_1 : decode cX12_passes 1 = .ok (.invokevirtual 106, 3) := by decide +kernel
theorem dX12_passes_4 : decode cX12_passes 4 = .ok (.aload_n 0, 1) := by decide +kernel
theorem dX12_passes_5 : decode cX12_passes 5 = .ok (.aload_n 1, 1) := by decide +kernel
theorem dX12_passes_6 : decode cX12_passes 6 = .ok (.invokevirtual 109, 3) := by decide +kernel
theorem dX12_passes_9 : decode cX12_passes 9 = .ok (.ifCond .eq 5, 3) := by decide +kernel
theorem dX12_passes_12 : decode cX12_passes 12 = .ok (.iconst 1, 1) := by decide +kernel
theorem dX12_passes_13 : decode cX12_passes 13 = .ok (.ireturn, 1) := by decide +kernel
theorem dX12_passes_14 : decode cX12_passes 14 = .ok (.aload_n 0, 1) := by decide +kernel
theorem dX12_passes_15 : decode cX12_passes 15 = .ok (.aload_n 0, 1) := by decide +kernel
theorem dX12_passes_16 : decode cX12_passes 16 = .ok (.getfield 90, 3) := by decide +kernel
theorem dX12_passes_19 : decode cX12_passes 19 = .ok (.putfield 80, 3) := by decide +kernel
theorem dX12_passes_22 : decode cX12_passes 22 = .ok (.iconst 0, 1) := by decide +kernel
theorem dX12_passes_23 : decode cX12_passes 23 = .ok (.ireturn, 1) := by decide +kernel
theorem dX12_sign_0 : decode cX12_sign 0 = .ok (.aload_n 0, 1) := by decide +kernel
theorem dX12_sign_1 : decode cX12_sign 1 = .ok (.invokevirtual 93, 3) := by decide +kernel
theorem dX12_sign_4 : decode cX12_sign 4 = .ok (.aload_n 0, 1) := by decide +kernel
theorem dX12_sign_5 : decode cX12_sign 5 = .ok (.iload_n 1, 1) := by decide +kernel
theorem dX12_sign_6 : decode cX12_sign 6 = .ok (.iload_n 1, 1) := by decide +kernel
theorem dX12_sign_7 : decode cX12_sign 7 = .ok (.invokevirtual 86, 3) := by decide +kernel
theorem dX12_sign_10 : decode cX12_sign 10 = .ok (.ifCond .ne 5, 3) := by decide +kernel
theorem dX12_sign_13 : decode cX12_sign 13 = .ok (.iconst 0, 1) := by decide +kernel
theorem dX12_sign_14 : decode cX12_sign 14 = .ok (.ireturn, 1) := by decide +kernel
theorem dX12_sign_15 : decode cX12_sign 15 = .ok (.aload_n 0, 1) := by decide +kernel
theorem dX12_sign_16 : decode cX12_sign 16 = .ok (.dup, 1) := by decide +kernel
theorem dX12_sign_17 : decode cX12_sign 17 = .ok (.getfield 80, 3) := by decide +kernel
theorem dX12_sign_20 : decode cX12_sign 20 = .ok (.iconst 1, 1) := by decide +kernel
theorem dX12_sign_21 : decode cX12_sign 21 = .ok (.iadd, 1) := by decide +kernel
theorem dX12_sign_22 : decode cX12_sign 22 = .ok (.putfield 80, 3) := by decide +kernel
theorem dX12_sign_25 : decode cX12_sign 25 = .ok (.iconst 1, 1) := by decide +kernel
theorem dX12_sign_26 : decode cX12_sign 26 = .ok (.ireturn, 1) := by decide +kernel
theorem dX12_number_0 : decode cX12_number 0 = .ok (.aload_n 0, 1) := by decide +kernel
theorem dX12_number_1 : decode cX12_number 1 = .ok (.invokevirtual 93, 3) := by decide +kernel
theorem dX12_number_4 : decode cX12_number 4 = .ok (.iconst 0, 1) := by decide +kernel
theorem dX12_number_5 : decode cX12_number 5 = .ok (.istore_n 3, 1) := by decide +kernel
theorem dX12_number_6 : decode cX12_number 6 = .ok (.aload_n 0, 1) := by decide +kernel
theorem dX12_number_7 : decode cX12_number 7 = .ok (.bipush 48, 2) := by decide +kernel
theorem dX12_number_9 : decode cX12_number 9 = .ok (.bipush 57, 2) := by decide +kernel
theorem dX12_number_11 : decode cX12_number 11 = .ok (.invokevirtual 86, 3) := by decide +kernel
theorem dX12_number_14 : decode cX12_number 14 = .ok (.ifCond .eq 51, 3) := by decide +kernel
theorem dX12_number_17 : decode cX12_number 17 = .ok (.aload_n 0, 1) := by decide +kernel
theorem dX12_number_18 : decode cX12_number 18 = .ok (.getfield 80, 3) := by decide +kernel
theorem dX12_number_21 : decode cX12_number 21 = .ok (.aload_n 0, 1) := by decide +kernel
theorem dX12_number_22 : decode cX12_number 22 = .ok (.getfield 90, 3) := by decide +kernel
theorem dX12_number_25 : decode cX12_number 25 = .ok (.isub, 1) := by decide +kernel
theorem dX12_number_26 : decode cX12_number 26 = .ok (.iconst 3, 1) := by decide +kernel
theorem dX12_number_27 : decode cX12_number 27 = .ok (.if_icmp .ge 23, 3) := by decide +kernel
theorem dX12_number_30 : decode cX12_number 30 = .ok (.bipush 10, 2) := by decide +kernel
theorem dX12_number_32 : decode cX12_number 32 = .ok (.iload_n 3, 1) := by decide +kernel
theorem dX12_number_33 : decode cX12_number 33 = .ok (.imul, 1) := by decide +kernel
theorem dX12_number_34 : decode cX12_number 34 = .ok (.aload_n 0, 1) := by decide +kernel
theorem dX12_number_35 : decode cX12_number 35 = .ok (.getfield 29, 3) := by decide +kernel
theorem dX12_number_38 : decode cX12_number 38 = .ok (.aload_n 0, 1) := by decide +kernel
theorem dX12_number_39 : decode cX12_number 39 = .ok (.getfield 80, 3) := by decide +kernel
theorem dX12_number_42 : decode cX12_number 42 = .ok (.baload, 1) := by decide +kernel
theorem dX12_number_43 : decode cX12_number 43 = .ok (.iadd, 1) := by decide +kernel
theorem dX12_number_44 : decode cX12_number 44 = .ok (.bipush 48, 2) := by decide +kernel
theorem dX12_number_46 : decode cX12_number 46 = .ok (.isub, 1) := by decide +kernel
theorem dX12_number_47 : decode cX12_number 47 = .ok (.goto 4, 3) := by decide +kernel
theorem dX12_number_50 : decode cX12_number 50 = .ok (.iload_n 3, 1) := by decide +kernel
theorem dX12_number_51 : decode cX12_number 51 = .ok (.istore_n 3, 1) := by decide +kernel
theorem dX12_number_52 : decode cX12_number 52 = .ok (.aload_n 0, 1) := by decide +kernel
theorem dX12_number_53 : decode cX12_number 53 = .ok (.dup, 1) := by decide +kernel
theorem dX12_number_54 : decode cX12_number 54 = .ok (.getfield 80, 3) := by decide +kernel
theorem dX12_number_57 : decode cX12_number 57 = .ok (.iconst 1, 1) := by decide +kernel
theorem dX12_number_58 : decode cX12_number 58 = .ok (.iadd, 1) := by decide +kernel
theorem dX12_number_59 : decode cX12_number 59 = .ok (.putfield 80, 3) := by decide +kernel
theorem dX12_number_62 : decode cX12_number 62 = .ok (.goto (-56), 3) := by decide +kernel
theorem dX12_number_65 : decode cX12_number 65 = .ok (.aload_n 0, 1) := by decide +kernel
theorem dX12_number_66 : decode cX12_number 66 = .ok (.getfield 80, 3) := by decide +kernel
theorem dX12_number_69 : decode cX12_number 69 = .ok (.aload_n 0, 1) := by decide +kernel
theorem dX12_number_70 : decode cX12_number 70 = .ok (.getfield 90, 3) := by decide +kernel
theorem dX12_number_73 : decode cX12_number 73 = .ok (.if_icmp .eq 26, 3) := by decide +kernel
theorem dX12_number_76 : decode cX12_number 76 = .ok (.aload_n 0, 1) := by decide +kernel
theorem dX12_number_77 : decode cX12_number 77 = .ok (.getfield 80, 3) := by decide +kernel
theorem dX12_number_80 : decode cX12_number 80 = .ok (.aload_n 0, 1) := by decide +kernel
theorem dX12_number_81 : decode cX12_number 81 = .ok (.getfield 90, 3) := by decide +kernel
theorem dX12_number_84 : decode cX12_number 84 = .ok (.isub, 1) := by decide +kernel
theorem dX12_number_85 : decode cX12_number 85 = .ok (.iconst 3, 1) := by decide +kernel
theorem dX12_number_86 : decode cX12_number 86 = .ok (.if_icmp .gt 13, 3) := by decide +kernel
theorem dX12_number_89 : decode cX12_number 89 = .ok (.iload_n 3, 1) := by decide +kernel
theorem dX12_number_90 : decode cX12_number 90 = .ok (.iload_n 1, 1) := by decide +kernel
theorem dX12_number_91 : decode cX12_number 91 = .ok (.if_icmp .lt 8, 3) := by decide +kernel
theorem dX12_number_94 : decode cX12_number 94 = .ok (.iload_n 3, 1) := by decide +kernel
theorem dX12_number_95 : decode cX12_number 95 = .ok (.iload_n 2, 1) := by decide +kernel
theorem dX12_number_96 : decode cX12_number 96 = .ok (.if_icmp .le 7, 3) := by decide +kernel
theorem dX12_number_99 : decode cX12_number 99 = .ok (.iconst (-1), 1) := by decide +kernel
theorem dX12_number_100 : decode cX12_number 100 = .ok (.goto 4, 3) := by decide +kernel
theorem dX12_number_103 : decode cX12_number 103 = .ok (.iload_n 3, 1) := by decide +kernel
theorem dX12_number_104 : decode cX12_number 104 = .ok (.ireturn, 1) := by decide +kernel
theorem dX12_behind_0 : decode cX12_behind 0 = .ok (.aload_n 0, 1) := by decide +kernel
theorem dX12_behind_1 : decode cX12_behind 1 = .ok (.invokevirtual 106, 3) := by decide +kernel
theorem dX12_behind_4 : decode cX12_behind 4 = .ok (.aload_n 0, 1) := by decide +kernel
theorem dX12_behind_5 : decode cX12_behind 5 = .ok (.aload_n 1, 1) := by decide +kernel
theorem dX12_behind_6 : decode cX12_behind 6 = .ok (.invokevirtual 109, 3) := by decide +kernel
theorem dX12_behind_9 : decode cX12_behind 9 = .ok (.ifCond .eq 12, 3) := by decide +kernel
theorem dX12_behind_12 : decode cX12_behind 12 = .ok (.aload_n 0, 1) := by decide +kernel
theorem dX12_behind_13 : decode cX12_behind 13 = .ok (.iload_n 2, 1) := by decide +kernel
theorem dX12_behind_14 : decode cX12_behind 14 = .ok (.iload_n 3, 1) := by decide +kernel
theorem dX12_behind_15 : decode cX12_behind 15 = .ok (.invokevirtual 113, 3) := by decide +kernel
theorem dX12_behind_18 : decode cX12_behind 18 = .ok (.goto 4, 3) := by decide +kernel
theorem dX12_behind_21 : decode cX12_behind 21 = .ok (.iconst (-1), 1) := by decide +kernel
theorem dX12_behind_22 : decode cX12_behind 22 = .ok (.ireturn, 1) := by decide +kernel
theorem dX12_fault_0 : decode cX12_fault 0 = .ok (.aload_n 0, 1) := by decide +kernel
theorem dX12_fault_1 : decode cX12_fault 1 = .ok (.iconst 0, 1) := by decide +kernel
theorem dX12_fault_2 : decode cX12_fault 2 = .ok (.putfield 3, 3) := by decide +kernel
theorem dX12_fault_5 : decode cX12_fault 5 = .ok (.aload_n 0, 1) := by decide +kernel
theorem dX12_fault_6 : decode cX12_fault 6 = .ok (.getfield 33, 3) := by decide +kernel
theorem dX12_fault_9 : decode cX12_fault 9 = .ok (.ireturn, 1) := by decide +kernel
theorem dX12_why_0 : decode cX12_why 0 = .ok (.aload_n 0, 1) := by decide +kernel
theorem dX12_why_1 : decode cX12_why 1 = .ok (.iconst 0, 1) := by decide +kernel
theorem dX12_why_2 : decode cX12_why 2 = .ok (.putfield 3, 3) := by decide +kernel
theorem dX12_why_5 : decode cX12_why 5 = .ok (.aload_n 0, 1) := by decide +kernel
theorem dX12_why_6 : decode cX12_why 6 = .ok (.getfield 116, 3) := by decide +kernel
theorem dX12_why_9 : decode cX12_why 9 = .ok (.ireturn, 1) := by decide +kernel
theorem dX12_uses_0 : decode cX12_uses 0 = .ok (.aload_n 0, 1) := by decide +kernel
theorem dX12_uses_1 : decode cX12_uses 1 = .ok (.iconst 0, 1) := by decide +kernel
theorem dX12_uses_2 : decode cX12_uses 2 = .ok (.putfield 3, 3) := by decide +kernel
theorem dX12_uses_5 : decode cX12_uses 5 = .ok (.aload_n 0, 1) := by decide +kernel
theorem dX12_uses_6 : decode cX12_uses 6 = .ok (.aload_n 0, 1) := by decide +kernel
theorem dX12_uses_7 : decode cX12_uses 7 = .ok (.getfield 77, 3) := by decide +kernel
theorem dX12_uses_10 : decode cX12_uses 10 = .ok (.putfield 83, 3) := by decide +kernel
theorem dX12_uses_13 : decode cX12_uses 13 = .ok (.aload_n 0, 1) := by decide +kernel
theorem dX12_uses_14 : decode cX12_uses 14 = .ok (.iconst 0, 1) := by decide +kernel
theorem dX12_uses_15 : decode cX12_uses 15 = .ok (.putfield 77, 3) := by decide +kernel
theorem dX12_uses_18 : decode cX12_uses 18 = .ok (.aload_n 0, 1) := by decide +kernel
theorem dX12_uses_19 : decode cX12_uses 19 = .ok (.iconst 0, 1) := by decide +kernel
theorem dX12_uses_20 : decode cX12_uses 20 = .ok (.putfield 80, 3) := by decide +kernel
theorem dX12_uses_23 : decode cX12_uses 23 = .ok (.return_, 1) := by decide +kernel
theorem dX12_readNumber_0 : decode cX12_readNumber 0 = .ok (.aload_n 0, 1) := by decide +kernel
theorem dX12_readNumber_1 : decode cX12_readNumber 1 = .ok (.iload_n 2, 1) := by decide +kernel
theorem dX12_readNumber_2 : decode cX12_readNumber 2 = .ok (.iload_n 3, 1) := by decide +kernel
theorem dX12_readNumber_3 : decode cX12_readNumber 3 = .ok (.invokevirtual 113, 3) := by decide +kernel
theorem dX12_readNumber_6 : decode cX12_readNumber 6 = .ok (.istore 4, 2) := by decide +kernel
theorem dX12_readNumber_8 : decode cX12_readNumber 8 = .ok (.aload_n 0, 1) := by decide +kernel
theorem dX12_readNumber_9 : decode cX12_readNumber 9 = .ok (.getfield 13, 3) := by decide +kernel
theorem dX12_readNumber_12 : decode cX12_readNumber 12 = .ok (.iload_n 1, 1) := by decide +kernel
theorem dX12_readNumber_13 : decode cX12_readNumber 13 = .ok (.iload 4, 2) := by decide +kernel
theorem dX12_readNumber_15 : decode cX12_readNumber 15 = .ok (.ifCond .ge 12, 3) := by decide +kernel
theorem dX12_readNumber_18 : decode cX12_readNumber 18 = .ok (.aload_n 0, 1) := by decide +kernel
theorem dX12_readNumber_19 : decode cX12_readNumber 19 = .ok (.getfield 13, 3) := by decide +kernel
theorem dX12_readNumber_22 : decode cX12_readNumber 22 = .ok (.iload_n 1, 1) := by decide +kernel
theorem dX12_readNumber_23 : decode cX12_readNumber 23 = .ok (.iaload, 1) := by decide +kernel
theorem dX12_readNumber_24 : decode cX12_readNumber 24 = .ok (.goto 5, 3) := by decide +kernel
theorem dX12_readNumber_27 : decode cX12_readNumber 27 = .ok (.iload 4, 2) := by decide +kernel
theorem dX12_readNumber_29 : decode cX12_readNumber 29 = .ok (.iastore, 1) := by decide +kernel
theorem dX12_readNumber_30 : decode cX12_readNumber 30 = .ok (.iload 4, 2) := by decide +kernel
theorem dX12_readNumber_32 : decode cX12_readNumber 32 = .ok (.ifCond .lt 7, 3) := by decide +kernel
theorem dX12_readNumber_35 : decode cX12_readNumber 35 = .ok (.iconst 1, 1) := by decide +kernel
theorem dX12_readNumber_36 : decode cX12_readNumber 36 = .ok (.goto 4, 3) := by decide +kernel
theorem dX12_readNumber_39 : decode cX12_readNumber 39 = .ok (.iconst 0, 1) := by decide +kernel
theorem dX12_readNumber_40 : decode cX12_readNumber 40 = .ok (.ireturn, 1) := by decide +kernel
theorem dX12_readJob_0 : decode cX12_readJob 0 = .ok (.aload_n 0, 1) := by decide +kernel
theorem dX12_readJob_1 : decode cX12_readJob 1 = .ok (.invokevirtual 119, 3) := by decide +kernel
theorem dX12_readJob_4 : decode cX12_readJob 4 = .ok (.bipush 24, 2) := by decide +kernel
theorem dX12_readJob_6 : decode cX12_readJob 6 = .ok (.if_icmp .ne 5, 3) := by decide +kernel
theorem dX12_readJob_9 : decode cX12_readJob 9 = .ok (.iconst 0, 1) := by decide +kernel
theorem dX12_readJob_10 : decode cX12_readJob 10 = .ok (.ireturn, 1) := by decide +kernel
theorem dX12_readJob_11 : decode cX12_readJob 11 = .ok (.aload_n 0, 1) := by decide +kernel
theorem dX12_readJob_12 : decode cX12_readJob 12 = .ok (.ldc 122, 2) := by decide +kernel
theorem dX12_readJob_14 : decode cX12_readJob 14 = .ok (.iconst 0, 1) := by decide +kernel
theorem dX12_readJob_15 : decode cX12_readJob 15 = .ok (.iconst 5, 1) := by decide +kernel
theorem dX12_readJob_16 : decode cX12_readJob 16 = .ok (.invokevirtual 124, 3) := by decide +kernel
theorem dX12_readJob_19 : decode cX12_readJob 19 = .ok (.istore_n 1, 1) := by decide +kernel
theorem dX12_readJob_20 : decode cX12_readJob 20 = .ok (.iload_n 1, 1) := by decide +kernel
theorem dX12_readJob_21 : decode cX12_readJob 21 = .ok (.ifCond .ge 7, 3) := by decide +kernel
theorem dX12_readJob_24 : decode cX12_readJob 24 = .ok (.iconst (-1), 1) := by decide +kernel
theorem dX12_readJob_25 : decode cX12_readJob 25 = .ok (.goto 12, 3) := by decide +kernel
theorem dX12_readJob_28 : decode cX12_readJob 28 = .ok (.aload_n 0, 1) := by decide +kernel
theorem dX12_readJob_29 : decode cX12_readJob 29 = .ok (.ldc 128, 2) := by decide +kernel
theorem dX12_readJob_31 : decode cX12_readJob 31 = .ok (.iconst 0, 1) := by decide +kernel
theorem dX12_readJob_32 : decode cX12_readJob 32 = .ok (.bipush 9, 2) := by decide +kernel
theorem dX12_readJob_34 : decode cX12_readJob 34 = .ok (.invokevirtual 124, 3) := by decide +kernel
theorem dX12_readJob_37 : decode cX12_readJob 37 = .ok (.istore_n 2, 1) := by decide +kernel
theorem dX12_readJob_38 : decode cX12_readJob 38 = .ok (.iload_n 2, 1) := by decide +kernel
theorem dX12_readJob_39 : decode cX12_readJob 39 = .ok (.ifCond .ge 7, 3) := by decide +kernel
theorem dX12_readJob_42 : decode cX12_readJob 42 = .ok (.iconst (-1), 1) := by decide +kernel
theorem dX12_readJob_43 : decode cX12_readJob 43 = .ok (.goto 12, 3) := by decide +kernel
theorem dX12_readJob_46 : decode cX12_readJob 46 = .ok (.aload_n 0, 1) := by decide +kernel
theorem dX12_readJob_47 : decode cX12_readJob 47 = .ok (.ldc 130, 2) := by decide +kernel
theorem dX12_readJob_49 : decode cX12_readJob 49 = .ok (.iconst 1, 1) := by decide +kernel
theorem dX12_readJob_50 : decode cX12_readJob 50 = .ok (.bipush 9, 2) := by decide +kernel
theorem dX12_readJob_52 : decode cX12_readJob 52 = .ok (.invokevirtual 124, 3) := by decide +kernel
theorem dX12_readJob_55 : decode cX12_readJob 55 = .ok (.istore_n 3, 1) := by decide +kernel
theorem dX12_readJob_56 : decode cX12_readJob 56 = .ok (.iload_n 3, 1) := by decide +kernel
theorem dX12_readJob_57 : decode cX12_readJob 57 = .ok (.ifCond .ge 5, 3) := by decide +kernel
theorem dX12_readJob_60 : decode cX12_readJob 60 = .ok (.iconst 0, 1) := by decide +kernel
theorem dX12_readJob_61 : decode cX12_readJob 61 = .ok (.ireturn, 1) := by decide +kernel
theorem dX12_readJob_62 : decode cX12_readJob 62 = .ok (.aload_n 0, 1) := by decide +kernel
theorem dX12_readJob_63 : decode cX12_readJob 63 = .ok (.ldc 132, 2) := by decide +kernel
theorem dX12_readJob_65 : decode cX12_readJob 65 = .ok (.invokevirtual 133, 3) := by decide +kernel
theorem dX12_readJob_68 : decode cX12_readJob 68 = .ok (.ifCond .eq 13, 3) := by decide +kernel
theorem dX12_readJob_71 : decode cX12_readJob 71 = .ok (.aload_n 0, 1) := by decide +kernel
theorem dX12_readJob_72 : decode cX12_readJob 72 = .ok (.iconst 0, 1) := by decide +kernel
theorem dX12_readJob_73 : decode cX12_readJob 73 = .ok (.bipush 99, 2) := by decide +kernel
theorem dX12_readJob_75 : decode cX12_readJob 75 = .ok (.invokevirtual 113, 3) := by decide +kernel
theorem dX12_readJob_78 : decode cX12_readJob 78 = .ok (.goto 4, 3) := by decide +kernel
theorem dX12_readJob_81 : decode cX12_readJob 81 = .ok (.iconst 0, 1) := by decide +kernel
theorem dX12_readJob_82 : decode cX12_readJob 82 = .ok (.istore 4, 2) := by decide +kernel
theorem dX12_readJob_84 : decode cX12_readJob 84 = .ok (.iload 4, 2) := by decide +kernel
theorem dX12_readJob_86 : decode cX12_readJob 86 = .ok (.ifCond .ge 5, 3) := by decide +kernel
theorem dX12_readJob_89 : decode cX12_readJob 89 = .ok (.iconst 0, 1) := by decide +kernel
theorem dX12_readJob_90 : decode cX12_readJob 90 = .ok (.ireturn, 1) := by decide +kernel
theorem dX12_readJob_91 : decode cX12_readJob 91 = .ok (.aload_n 0, 1) := by decide +kernel
theorem dX12_readJob_92 : decode cX12_readJob 92 = .ok (.iconst 3, 1) := by decide +kernel
theorem dX12_readJob_93 : decode cX12_readJob 93 = .ok (.iconst 1, 1) := by decide +kernel
theorem dX12_readJob_94 : decode cX12_readJob 94 = .ok (.iload_n 1, 1) := by decide +kernel
theorem dX12_readJob_95 : decode cX12_readJob 95 = .ok (.iload_n 2, 1) := by decide +kernel
theorem dX12_readJob_96 : decode cX12_readJob 96 = .ok (.iload_n 3, 1) := by decide +kernel
theorem dX12_readJob_97 : decode cX12_readJob 97 = .ok (.aload_n 0, 1) := by decide +kernel
theorem dX12_readJob_98 : decode cX12_readJob 98 = .ok (.getfield 13, 3) := by decide +kernel
theorem dX12_readJob_101 : decode cX12_readJob 101 = .ok (.iconst 3, 1) := by decide +kernel
theorem dX12_readJob_102 : decode cX12_readJob 102 = .ok (.iaload, 1) := by decide +kernel
theorem dX12_readJob_103 : decode cX12_readJob 103 = .ok (.iload 4, 2) := by decide +kernel
theorem dX12_readJob_105 : decode cX12_readJob 105 = .ok (.iadd, 1) := by decide +kernel
theorem dX12_readJob_106 : decode cX12_readJob 106 = .ok (.invokevirtual 136, 3) := by decide +kernel
theorem dX12_readJob_109 : decode cX12_readJob 109 = .ok (.pop, 1) := by decide +kernel
theorem dX12_readJob_110 : decode cX12_readJob 110 = .ok (.iconst 1, 1) := by decide +kernel
theorem dX12_readJob_111 : decode cX12_readJob 111 = .ok (.ireturn, 1) := by decide +kernel
theorem dX12_readSession_0 : decode cX12_readSession 0 = .ok (.aload_n 0, 1) := by decide +kernel
theorem dX12_readSession_1 : decode cX12_readSession 1 = .ok (.getfield 13, 3) := by decide +kernel
theorem dX12_readSession_4 : decode cX12_readSession 4 = .ok (.iconst 0, 1) := by decide +kernel
theorem dX12_readSession_5 : decode cX12_readSession 5 = .ok (.iaload, 1) := by decide +kernel
theorem dX12_readSession_6 : decode cX12_readSession 6 = .ok (.istore_n 1, 1) := by decide +kernel
theorem dX12_readSession_7 : decode cX12_readSession 7 = .ok (.iload_n 1, 1) := by decide +kernel
theorem dX12_readSession_8 : decode cX12_readSession 8 = .ok (.iconst 4, 1) := by decide +kernel
theorem dX12_readSession_9 : decode cX12_readSession 9 = .ok (.if_icmp .ne 5, 3) := by decide +kernel
theorem dX12_readSession_12 : decode cX12_readSession 12 = .ok (.iconst 0, 1) := by decide +kernel
theorem dX12_readSession_13 : decode cX12_readSession 13 = .ok (.ireturn, 1) := by decide +kernel
theorem dX12_readSession_14 : decode cX12_readSession 14 = .ok (.aload_n 0, 1) := by decide +kernel
theorem dX12_readSession_15 : decode cX12_readSession 15 = .ok (.ldc 140, 2) := by decide +kernel
theorem dX12_readSession_17 : decode cX12_readSession 17 = .ok (.invokevirtual 133, 3) := by decide +kernel
theorem dX12_readSession_20 : decode cX12_readSession 20 = .ok (.istore_n 2, 1) := by decide +kernel
theorem dX12_readSession_21 : decode cX12_readSession 21 = .ok (.iload_n 2, 1) := by decide +kernel
theorem dX12_readSession_22 : decode cX12_readSession 22 = .ok (.ifCond .ne 16, 3) := by decide +kernel
theorem dX12_readSession_25 : decode cX12_readSession 25 = .ok (.aload_n 0, 1) := by decide +kernel
theorem dX12_readSession_26 : decode cX12_readSession 26 = .ok (.ldc 142, 2) := by decide +kernel
theorem dX12_readSession_28 : decode cX12_readSession 28 = .ok (.invokevirtual 133, 3) := by decide +kernel
theorem dX12_readSession_31 : decode cX12_readSession 31 = .ok (.ifCond .eq 7, 3) := by decide +kernel
theorem dX12_readSession_34 : decode cX12_readSession 34 = .ok (.iconst 1, 1) := by decide +kernel
theorem dX12_readSession_35 : decode cX12_readSession 35 = .ok (.goto 4, 3) := by decide +kernel
theorem dX12_readSession_38 : decode cX12_readSession 38 = .ok (.iconst 0, 1) := by decide +kernel
theorem dX12_readSession_39 : decode cX12_readSession 39 = .ok (.istore_n 3, 1) := by decide +kernel
theorem dX12_readSession_40 : decode cX12_readSession 40 = .ok (.iload_n 2, 1) := by decide +kernel
theorem dX12_readSession_41 : decode cX12_readSession 41 = .ok (.ifCond .ne 7, 3) := by decide +kernel
theorem dX12_readSession_44 : decode cX12_readSession 44 = .ok (.iload_n 3, 1) := by decide +kernel
theorem dX12_readSession_45 : decode cX12_readSession 45 = .ok (.ifCond .eq 13, 3) := by decide +kernel
theorem dX12_readSession_48 : decode cX12_readSession 48 = .ok (.aload_n 0, 1) := by decide +kernel
theorem dX12_readSession_49 : decode cX12_readSession 49 = .ok (.iconst 0, 1) := by decide +kernel
theorem dX12_readSession_50 : decode cX12_readSession 50 = .ok (.bipush 9, 2) := by decide +kernel
theorem dX12_readSession_52 : decode cX12_readSession 52 = .ok (.invokevirtual 113, 3) := by decide +kernel
theorem dX12_readSession_55 : decode cX12_readSession 55 = .ok (.goto 4, 3) := by decide +kernel
theorem dX12_readSession_58 : decode cX12_readSession 58 = .ok (.iconst 0, 1) := by decide +kernel
theorem dX12_readSession_59 : decode cX12_readSession 59 = .ok (.istore 4, 2) := by decide +kernel
theorem dX12_readSession_61 : decode cX12_readSession 61 = .ok (.iload 4, 2) := by decide +kernel
theorem dX12_readSession_63 : decode cX12_readSession 63 = .ok (.ifCond .ge 5, 3) := by decide +kernel
theorem dX12_readSession_66 : decode cX12_readSession 66 = .ok (.iconst 0, 1) := by decide +kernel
theorem dX12_readSession_67 : decode cX12_readSession 67 = .ok (.ireturn, 1) := by decide +kernel
theorem dX12_readSession_68 : decode cX12_readSession 68 = .ok (.iconst 0, 1) := by decide +kernel
theorem dX12_readSession_69 : decode cX12_readSession 69 = .ok (.istore 5, 2) := by decide +kernel
theorem dX12_readSession_71 : decode cX12_readSession 71 = .ok (.iload 5, 2) := by decide +kernel
theorem dX12_readSession_73 : decode cX12_readSession 73 = .ok (.bipush 27, 2) := by decide +kernel
theorem dX12_readSession_75 : decode cX12_readSession 75 = .ok (.if_icmp .ge 21, 3) := by decide +kernel
theorem dX12_readSession_78 : decode cX12_readSession 78 = .ok (.aload_n 0, 1) := by decide +kernel
theorem dX12_readSession_79 : decode cX12_readSession 79 = .ok (.getfield 13, 3) := by decide +kernel
theorem dX12_readSession_82 : decode cX12_readSession 82 = .ok (.iload_n 1, 1) := by decide +kernel
theorem dX12_readSession_83 : decode cX12_readSession 83 = .ok (.iload 5, 2) := by decide +kernel
theorem dX12_readSession_85 : decode cX12_readSession 85 = .ok (.invokestatic 63, 3) := by decide +kernel
theorem dX12_readSession_88 : decode cX12_readSession 88 = .ok (.iconst 0, 1) := by decide +kernel
theorem dX12_readSession_89 : decode cX12_readSession 89 = .ok (.iastore, 1) := by decide +kernel
theorem dX12_readSession_90 : decode cX12_readSession 90 = .ok (.iinc 5 1, 3) := by decide +kernel
theorem dX12_readSession_93 : decode cX12_readSession 93 = .ok (.goto (-22), 3) := by decide +kernel
theorem dX12_readSession_96 : decode cX12_readSession 96 = .ok (.aload_n 0, 1) := by decide +kernel
theorem dX12_readSession_97 : decode cX12_readSession 97 = .ok (.getfield 13, 3) := by decide +kernel
theorem dX12_readSession_100 : decode cX12_readSession 100 = .ok (.iload_n 1, 1) := by decide +kernel
theorem dX12_readSession_101 : decode cX12_readSession 101 = .ok (.iconst 0, 1) := by decide +kernel
theorem dX12_readSession_102 : decode cX12_readSession 102 = .ok (.invokestatic 63, 3) := by decide +kernel
theorem dX12_readSession_105 : decode cX12_readSession 105 = .ok (.iload_n 3, 1) := by decide +kernel
theorem dX12_readSession_106 : decode cX12_readSession 106 = .ok (.ifCond .eq 9, 3) := by decide +kernel
theorem dX12_readSession_109 : decode cX12_readSession 109 = .ok (.iload 4, 2) := by decide +kernel
theorem dX12_readSession_111 : decode cX12_readSession 111 = .ok (.ineg, 1) := by decide +kernel
theorem dX12_readSession_112 : decode cX12_readSession 112 = .ok (.goto 5, 3) := by decide +kernel
theorem dX12_readSession_115 : decode cX12_readSession 115 = .ok (.iload 4, 2) := by decide +kernel
theorem dX12_readSession_117 : decode cX12_readSession 117 = .ok (.iastore, 1) := by decide +kernel
theorem dX12_readSession_118 : decode cX12_readSession 118 = .ok (.aload_n 0, 1) := by decide +kernel
theorem dX12_readSession_119 : decode cX12_readSession 119 = .ok (.getfield 13, 3) := by decide +kernel
theorem dX12_readSession_122 : decode cX12_readSession 122 = .ok (.iload_n 1, 1) := by decide +kernel
theorem dX12_readSession_123 : decode cX12_readSession 123 = .ok (.iconst 1, 1) := by decide +kernel
theorem dX12_readSession_124 : decode cX12_readSession 124 = .ok (.invokestatic 63, 3) := by decide +kernel
theorem dX12_readSession_127 : decode cX12_readSession 127 = .ok (.iconst 5, 1) := by decide +kernel
theorem dX12_readSession_128 : decode cX12_readSession 128 = .ok (.iastore, 1) := by decide +kernel
theorem dX12_readSession_129 : decode cX12_readSession 129 = .ok (.aload_n 0, 1) := by decide +kernel
theorem dX12_readSession_130 : decode cX12_readSession 130 = .ok (.getfield 13, 3) := by decide +kernel
theorem dX12_readSession_133 : decode cX12_readSession 133 = .ok (.iload_n 1, 1) := by decide +kernel
theorem dX12_readSession_134 : decode cX12_readSession 134 = .ok (.iconst 4, 1) := by decide +kernel
theorem dX12_readSession_135 : decode cX12_readSession 135 = .ok (.invokestatic 63, 3) := by decide +kernel
theorem dX12_readSession_138 : decode cX12_readSession 138 = .ok (.iconst 1, 1) := by decide +kernel
theorem dX12_readSession_139 : decode cX12_readSession 139 = .ok (.iastore, 1) := by decide +kernel
theorem dX12_readSession_140 : decode cX12_readSession 140 = .ok (.aload_n 0, 1) := by decide +kernel
theorem dX12_readSession_141 : decode cX12_readSession 141 = .ok (.getfield 13, 3) := by decide +kernel
theorem dX12_readSession_144 : decode cX12_readSession 144 = .ok (.iconst 0, 1) := by decide +kernel
theorem dX12_readSession_145 : decode cX12_readSession 145 = .ok (.dup2, 1) := by decide +kernel
theorem dX12_readSession_146 : decode cX12_readSession 146 = .ok (.iaload, 1) := by decide +kernel
theorem dX12_readSession_147 : decode cX12_readSession 147 = .ok (.iconst 1, 1) := by decide +kernel
theorem dX12_readSession_148 : decode cX12_readSession 148 = .ok (.iadd, 1) := by decide +kernel
theorem dX12_readSession_149 : decode cX12_readSession 149 = .ok (.iastore, 1) := by decide +kernel
theorem dX12_readSession_150 : decode cX12_readSession 150 = .ok (.iconst 1, 1) := by decide +kernel
theorem dX12_readSession_151 : decode cX12_readSession 151 = .ok (.ireturn, 1) := by decide +kernel
theorem dX12_readParallel_0 : decode cX12_readParallel 0 = .ok (.aload_n 0, 1) := by decide +kernel
theorem dX12_readParallel_1 : decode cX12_readParallel 1 = .ok (.iconst 0, 1) := by decide +kernel
theorem dX12_readParallel_2 : decode cX12_readParallel 2 = .ok (.iconst 5, 1) := by decide +kernel
theorem dX12_readParallel_3 : decode cX12_readParallel 3 = .ok (.invokevirtual 113, 3) := by decide +kernel
theorem dX12_readParallel_6 : decode cX12_readParallel 6 = .ok (.istore_n 1, 1) := by decide +kernel
theorem dX12_readParallel_7 : decode cX12_readParallel 7 = .ok (.iload_n 1, 1) := by decide +kernel
theorem dX12_readParallel_8 : decode cX12_readParallel 8 = .ok (.ifCond .lt 20, 3) := by decide +kernel
theorem dX12_readParallel_11 : decode cX12_readParallel 11 = .ok (.aload_n 0, 1) := by decide +kernel
theorem dX12_readParallel_12 : decode cX12_readParallel 12 = .ok (.bipush 15, 2) := by decide +kernel
theorem dX12_readParallel_14 : decode cX12_readParallel 14 = .ok (.iload_n 1, 1) := by decide +kernel
theorem dX12_readParallel_15 : decode cX12_readParallel 15 = .ok (.iadd, 1) := by decide +kernel
theorem dX12_readParallel_16 : decode cX12_readParallel 16 = .ok (.iconst 1, 1) := by decide +kernel
theorem dX12_readParallel_17 : decode cX12_readParallel 17 = .ok (.iconst 4, 1) := by decide +kernel
theorem dX12_readParallel_18 : decode cX12_readParallel 18 = .ok (.invokevirtual 144, 3) := by decide +kernel
theorem dX12_readParallel_21 : decode cX12_readParallel 21 = .ok (.ifCond .eq 7, 3) := by decide +kernel
theorem dX12_readParallel_24 : decode cX12_readParallel 24 = .ok (.iconst 1, 1) := by decide +kernel
theorem dX12_readParallel_25 : decode cX12_readParallel 25 = .ok (.goto 4, 3) := by decide +kernel
theorem dX12_readParallel_28 : decode cX12_readParallel 28 = .ok (.iconst 0, 1) := by decide +kernel
theorem dX12_readParallel_29 : decode cX12_readParallel 29 = .ok (.ireturn, 1) := by decide +kernel
theorem dX12_readPlan_0 : decode cX12_readPlan 0 = .ok (.aload_n 0, 1) := by decide +kernel
theorem dX12_readPlan_1 : decode cX12_readPlan 1 = .ok (.getfield 13, 3) := by decide +kernel
theorem dX12_readPlan_4 : decode cX12_readPlan 4 = .ok (.iconst 1, 1) := by decide +kernel
theorem dX12_readPlan_5 : decode cX12_readPlan 5 = .ok (.iaload, 1) := by decide +kernel
theorem dX12_readPlan_6 : decode cX12_readPlan 6 = .ok (.istore_n 1, 1) := by decide +kernel
theorem dX12_readPlan_7 : decode cX12_readPlan 7 = .ok (.iload_n 1, 1) := by decide +kernel
theorem dX12_readPlan_8 : decode cX12_readPlan 8 = .ok (.iconst 4, 1) := by decide +kernel
theorem dX12_readPlan_9 : decode cX12_readPlan 9 = .ok (.if_icmp .ne 5, 3) := by decide +kernel
theorem dX12_readPlan_12 : decode cX12_readPlan 12 = .ok (.iconst 0, 1) := by decide +kernel
theorem dX12_readPlan_13 : decode cX12_readPlan 13 = .ok (.ireturn, 1) := by decide +kernel
theorem dX12_readPlan_14 : decode cX12_readPlan 14 = .ok (.aload_n 0, 1) := by decide +kernel
theorem dX12_readPlan_15 : decode cX12_readPlan 15 = .ok (.iconst 1, 1) := by decide +kernel
theorem dX12_readPlan_16 : decode cX12_readPlan 16 = .ok (.bipush 60, 2) := by decide +kernel
theorem dX12_readPlan_18 : decode cX12_readPlan 18 = .ok (.invokevirtual 113, 3) := by decide +kernel
theorem dX12_readPlan_21 : decode cX12_readPlan 21 = .ok (.istore_n 2, 1) := by decide +kernel
theorem dX12_readPlan_22 : decode cX12_readPlan 22 = .ok (.iload_n 2, 1) := by decide +kernel
theorem dX12_readPlan_23 : decode cX12_readPlan 23 = .ok (.ifCond .ge 7, 3) := by decide +kernel
theorem dX12_readPlan_26 : decode cX12_readPlan 26 = .ok (.iconst (-1), 1) := by decide +kernel
theorem dX12_readPlan_27 : decode cX12_readPlan 27 = .ok (.goto 12, 3) := by decide +kernel
theorem dX12_readPlan_30 : decode cX12_readPlan 30 = .ok (.aload_n 0, 1) := by decide +kernel
theorem dX12_readPlan_31 : decode cX12_readPlan 31 = .ok (.ldc 147, 2) := by decide +kernel
theorem dX12_readPlan_33 : decode cX12_readPlan 33 = .ok (.iconst 0, 1) := by decide +kernel
theorem dX12_readPlan_34 : decode cX12_readPlan 34 = .ok (.bipush 59, 2) := by decide +kernel
theorem dX12_readPlan_36 : decode cX12_readPlan 36 = .ok (.invokevirtual 124, 3) := by decide +kernel
theorem dX12_readPlan_39 : decode cX12_readPlan 39 = .ok (.istore_n 3, 1) := by decide +kernel
theorem dX12_readPlan_40 : decode cX12_readPlan 40 = .ok (.iload_n 3, 1) := by decide +kernel
theorem dX12_readPlan_41 : decode cX12_readPlan 41 = .ok (.ifCond .ge 7, 3) := by decide +kernel
theorem dX12_readPlan_44 : decode cX12_readPlan 44 = .ok (.iconst (-1), 1) := by decide +kernel
theorem dX12_readPlan_45 : decode cX12_readPlan 45 = .ok (.goto 11, 3) := by decide +kernel
theorem dX12_readPlan_48 : decode cX12_readPlan 48 = .ok (.aload_n 0, 1) := by decide +kernel
theorem dX12_readPlan_49 : decode cX12_readPlan 49 = .ok (.ldc 122, 2) := by decide +kernel
theorem dX12_readPlan_51 : decode cX12_readPlan 51 = .ok (.iconst 0, 1) := by decide +kernel
theorem dX12_readPlan_52 : decode cX12_readPlan 52 = .ok (.iconst 5, 1) := by decide +kernel
theorem dX12_readPlan_53 : decode cX12_readPlan 53 = .ok (.invokevirtual 124, 3) := by decide +kernel
theorem dX12_readPlan_56 : decode cX12_readPlan 56 = .ok (.istore 4, 2) := by decide +kernel
theorem dX12_readPlan_58 : decode cX12_readPlan 58 = .ok (.iload 4, 2) := by decide +kernel
theorem dX12_readPlan_60 : decode cX12_readPlan 60 = .ok (.ifCond .ge 7, 3) := by decide +kernel
theorem dX12_readPlan_63 : decode cX12_readPlan 63 = .ok (.iconst (-1), 1) := by decide +kernel
theorem dX12_readPlan_64 : decode cX12_readPlan 64 = .ok (.goto 12, 3) := by decide +kernel
theorem dX12_readPlan_67 : decode cX12_readPlan 67 = .ok (.aload_n 0, 1) := by decide +kernel
theorem dX12_readPlan_68 : decode cX12_readPlan 68 = .ok (.ldc 128, 2) := by decide +kernel
theorem dX12_readPlan_70 : decode cX12_readPlan 70 = .ok (.iconst 0, 1) := by decide +kernel
theorem dX12_readPlan_71 : decode cX12_readPlan 71 = .ok (.bipush 9, 2) := by decide +kernel
theorem dX12_readPlan_73 : decode cX12_readPlan 73 = .ok (.invokevirtual 124, 3) := by decide +kernel
theorem dX12_readPlan_76 : decode cX12_readPlan 76 = .ok (.istore 5, 2) := by decide +kernel
theorem dX12_readPlan_78 : decode cX12_readPlan 78 = .ok (.iload 5, 2) := by decide +kernel
theorem dX12_readPlan_80 : decode cX12_readPlan 80 = .ok (.ifCond .ge 7, 3) := by decide +kernel
theorem dX12_readPlan_83 : decode cX12_readPlan 83 = .ok (.iconst (-1), 1) := by decide +kernel
theorem dX12_readPlan_84 : decode cX12_readPlan 84 = .ok (.goto 12, 3) := by decide +kernel
theorem dX12_readPlan_87 : decode cX12_readPlan 87 = .ok (.aload_n 0, 1) := by decide +kernel
theorem dX12_readPlan_88 : decode cX12_readPlan 88 = .ok (.ldc 130, 2) := by decide +kernel
theorem dX12_readPlan_90 : decode cX12_readPlan 90 = .ok (.iconst 1, 1) := by decide +kernel
theorem dX12_readPlan_91 : decode cX12_readPlan 91 = .ok (.bipush 9, 2) := by decide +kernel
theorem dX12_readPlan_93 : decode cX12_readPlan 93 = .ok (.invokevirtual 124, 3) := by decide +kernel
theorem dX12_readPlan_96 : decode cX12_readPlan 96 = .ok (.istore 6, 2) := by decide +kernel
theorem dX12_readPlan_98 : decode cX12_readPlan 98 = .ok (.iload 6, 2) := by decide +kernel
theorem dX12_readPlan_100 : decode cX12_readPlan 100 = .ok (.ifCond .ge 5, 3) := by decide +kernel
theorem dX12_readPlan_103 : decode cX12_readPlan 103 = .ok (.iconst 0, 1) := by decide +kernel
theorem dX12_readPlan_104 : decode cX12_readPlan 104 = .ok (.ireturn, 1) := by decide +kernel
theorem dX12_readPlan_105 : decode cX12_readPlan 105 = .ok (.aload_n 0, 1) := by decide +kernel
theorem dX12_readPlan_106 : decode cX12_readPlan 106 = .ok (.ldc 149, 2) := by decide +kernel
theorem dX12_readPlan_108 : decode cX12_readPlan 108 = .ok (.invokevirtual 133, 3) := by decide +kernel
theorem dX12_readPlan_111 : decode cX12_readPlan 111 = .ok (.ifCond .eq 7, 3) := by decide +kernel
theorem dX12_readPlan_114 : decode cX12_readPlan 114 = .ok (.iconst 1, 1) := by decide +kernel
theorem dX12_readPlan_115 : decode cX12_readPlan 115 = .ok (.goto 17, 3) := by decide +kernel
theorem dX12_readPlan_118 : decode cX12_readPlan 118 = .ok (.aload_n 0, 1) := by decide +kernel
theorem dX12_readPlan_119 : decode cX12_readPlan 119 = .ok (.ldc 151, 2) := by decide +kernel
theorem dX12_readPlan_121 : decode cX12_readPlan 121 = .ok (.invokevirtual 133, 3) := by decide +kernel
theorem dX12_readPlan_124 : decode cX12_readPlan 124 = .ok (.ifCond .eq 7, 3) := by decide +kernel
theorem dX12_readPlan_127 : decode cX12_readPlan 127 = .ok (.iconst 2, 1) := by decide +kernel
theorem dX12_readPlan_128 : decode cX12_readPlan 128 = .ok (.goto 4, 3) := by decide +kernel
theorem dX12_readPlan_131 : decode cX12_readPlan 131 = .ok (.iconst 0, 1) := by decide +kernel
theorem dX12_readPlan_132 : decode cX12_readPlan 132 = .ok (.istore 7, 2) := by decide +kernel
theorem dX12_readPlan_134 : decode cX12_readPlan 134 = .ok (.iload 7, 2) := by decide +kernel
theorem dX12_readPlan_136 : decode cX12_readPlan 136 = .ok (.iconst 2, 1) := by decide +kernel
theorem dX12_readPlan_137 : decode cX12_readPlan 137 = .ok (.if_icmp .ne 13, 3) := by decide +kernel
theorem dX12_readPlan_140 : decode cX12_readPlan 140 = .ok (.aload_n 0, 1) := by decide +kernel
theorem dX12_readPlan_141 : decode cX12_readPlan 141 = .ok (.iconst 0, 1) := by decide +kernel
theorem dX12_readPlan_142 : decode cX12_readPlan 142 = .ok (.bipush 9, 2) := by decide +kernel
theorem dX12_readPlan_144 : decode cX12_readPlan 144 = .ok (.invokevirtual 113, 3) := by decide +kernel
theorem dX12_readPlan_147 : decode cX12_readPlan 147 = .ok (.goto 4, 3) := by decide +kernel
theorem dX12_readPlan_150 : decode cX12_readPlan 150 = .ok (.iconst 0, 1) := by decide +kernel
theorem dX12_readPlan_151 : decode cX12_readPlan 151 = .ok (.istore 8, 2) := by decide +kernel
theorem dX12_readPlan_153 : decode cX12_readPlan 153 = .ok (.iload 8, 2) := by decide +kernel
theorem dX12_readPlan_155 : decode cX12_readPlan 155 = .ok (.ifCond .ge 5, 3) := by decide +kernel
theorem dX12_readPlan_158 : decode cX12_readPlan 158 = .ok (.iconst 0, 1) := by decide +kernel
theorem dX12_readPlan_159 : decode cX12_readPlan 159 = .ok (.ireturn, 1) := by decide +kernel
theorem dX12_readPlan_160 : decode cX12_readPlan 160 = .ok (.aload_n 0, 1) := by decide +kernel
theorem dX12_readPlan_161 : decode cX12_readPlan 161 = .ok (.getfield 13, 3) := by decide +kernel
theorem dX12_readPlan_164 : decode cX12_readPlan 164 = .ok (.iload_n 1, 1) := by decide +kernel
theorem dX12_readPlan_165 : decode cX12_readPlan 165 = .ok (.iconst 0, 1) := by decide +kernel
theorem dX12_readPlan_166 : decode cX12_readPlan 166 = .ok (.invokestatic 153, 3) := by decide +kernel
theorem dX12_readPlan_169 : decode cX12_readPlan 169 = .ok (.iload_n 2, 1) := by decide +kernel
theorem dX12_readPlan_170 : decode cX12_readPlan 170 = .ok (.iastore, 1) := by decide +kernel
theorem dX12_readPlan_171 : decode cX12_readPlan 171 = .ok (.aload_n 0, 1) := by decide +kernel
theorem dX12_readPlan_172 : decode cX12_readPlan 172 = .ok (.getfield 13, 3) := by decide +kernel
theorem dX12_readPlan_175 : decode cX12_readPlan 175 = .ok (.iload_n 1, 1) := by decide +kernel
theorem dX12_readPlan_176 : decode cX12_readPlan 176 = .ok (.iconst 1, 1) := by decide +kernel
theorem dX12_readPlan_177 : decode cX12_readPlan 177 = .ok (.invokestatic 153, 3) := by decide +kernel
theorem dX12_readPlan_180 : decode cX12_readPlan 180 = .ok (.iload_n 3, 1) := by decide +kernel
theorem dX12_readPlan_181 : decode cX12_readPlan 181 = .ok (.iastore, 1) := by decide +kernel
theorem dX12_readPlan_182 : decode cX12_readPlan 182 = .ok (.aload_n 0, 1) := by decide +kernel
theorem dX12_readPlan_183 : decode cX12_readPlan 183 = .ok (.getfield 13, 3) := by decide +kernel
theorem dX12_readPlan_186 : decode cX12_readPlan 186 = .ok (.iload_n 1, 1) := by decide +kernel
theorem dX12_readPlan_187 : decode cX12_readPlan 187 = .ok (.iconst 2, 1) := by decide +kernel
theorem dX12_readPlan_188 : decode cX12_readPlan 188 = .ok (.invokestatic 153, 3) := by decide +kernel
theorem dX12_readPlan_191 : decode cX12_readPlan 191 = .ok (.iload 4, 2) := by decide +kernel
theorem dX12_readPlan_193 : decode cX12_readPlan 193 = .ok (.iastore, 1) := by decide +kernel
theorem dX12_readPlan_194 : decode cX12_readPlan 194 = .ok (.aload_n 0, 1) := by decide +kernel
theorem dX12_readPlan_195 : decode cX12_readPlan 195 = .ok (.getfield 13, 3) := by decide +kernel
theorem dX12_readPlan_198 : decode cX12_readPlan 198 = .ok (.iload_n 1, 1) := by decide +kernel
theorem dX12_readPlan_199 : decode cX12_readPlan 199 = .ok (.iconst 3, 1) := by decide +kernel
theorem dX12_readPlan_200 : decode cX12_readPlan 200 = .ok (.invokestatic 153, 3) := by decide +kernel
theorem dX12_readPlan_203 : decode cX12_readPlan 203 = .ok (.iload 5, 2) := by decide +kernel
theorem dX12_readPlan_205 : decode cX12_readPlan 205 = .ok (.iastore, 1) := by decide +kernel
theorem dX12_readPlan_206 : decode cX12_readPlan 206 = .ok (.aload_n 0, 1) := by decide +kernel
theorem dX12_readPlan_207 : decode cX12_readPlan 207 = .ok (.getfield 13, 3) := by decide +kernel
theorem dX12_readPlan_210 : decode cX12_readPlan 210 = .ok (.iload_n 1, 1) := by decide +kernel
theorem dX12_readPlan_211 : decode cX12_readPlan 211 = .ok (.iconst 4, 1) := by decide +kernel
theorem dX12_readPlan_212 : decode cX12_readPlan 212 = .ok (.invokestatic 153, 3) := by decide +kernel
theorem dX12_readPlan_215 : decode cX12_readPlan 215 = .ok (.iload 6, 2) := by decide +kernel
theorem dX12_readPlan_217 : decode cX12_readPlan 217 = .ok (.iastore, 1) := by decide +kernel
theorem dX12_readPlan_218 : decode cX12_readPlan 218 = .ok (.aload_n 0, 1) := by decide +kernel
theorem dX12_readPlan_219 : decode cX12_readPlan 219 = .ok (.getfield 13, 3) := by decide +kernel
theorem dX12_readPlan_222 : decode cX12_readPlan 222 = .ok (.iload_n 1, 1) := by decide +kernel
theorem dX12_readPlan_223 : decode cX12_readPlan 223 = .ok (.iconst 5, 1) := by decide +kernel
theorem dX12_readPlan_224 : decode cX12_readPlan 224 = .ok (.invokestatic 153, 3) := by decide +kernel
theorem dX12_readPlan_227 : decode cX12_readPlan 227 = .ok (.iload 7, 2) := by decide +kernel
theorem dX12_readPlan_229 : decode cX12_readPlan 229 = .ok (.iastore, 1) := by decide +kernel
theorem dX12_readPlan_230 : decode cX12_readPlan 230 = .ok (.aload_n 0, 1) := by decide +kernel
theorem dX12_readPlan_231 : decode cX12_readPlan 231 = .ok (.getfield 13, 3) := by decide +kernel
theorem dX12_readPlan_234 : decode cX12_readPlan 234 = .ok (.iload_n 1, 1) := by decide +kernel
theorem dX12_readPlan_235 : decode cX12_readPlan 235 = .ok (.bipush 6, 2) := by decide +kernel
theorem dX12_readPlan_237 : decode cX12_readPlan 237 = .ok (.invokestatic 153, 3) := by decide +kernel
theorem dX12_readPlan_240 : decode cX12_readPlan 240 = .ok (.iload 8, 2) := by decide +kernel
theorem dX12_readPlan_242 : decode cX12_readPlan 242 = .ok (.iastore, 1) := by decide +kernel
theorem dX12_readPlan_243 : decode cX12_readPlan 243 = .ok (.aload_n 0, 1) := by decide +kernel
theorem dX12_readPlan_244 : decode cX12_readPlan 244 = .ok (.getfield 13, 3) := by decide +kernel
theorem dX12_readPlan_247 : decode cX12_readPlan 247 = .ok (.iload_n 1, 1) := by decide +kernel
theorem dX12_readPlan_248 : decode cX12_readPlan 248 = .ok (.bipush 7, 2) := by decide +kernel
theorem dX12_readPlan_250 : decode cX12_readPlan 250 = .ok (.invokestatic 153, 3) := by decide +kernel
theorem dX12_readPlan_253 : decode cX12_readPlan 253 = .ok (.aload_n 0, 1) := by decide +kernel
theorem dX12_readPlan_254 : decode cX12_readPlan 254 = .ok (.iload_n 1, 1) := by decide +kernel
theorem dX12_readPlan_255 : decode cX12_readPlan 255 = .ok (.invokevirtual 156, 3) := by decide +kernel
theorem dX12_readPlan_258 : decode cX12_readPlan 258 = .ok (.iastore, 1) := by decide +kernel
theorem dX12_readPlan_259 : decode cX12_readPlan 259 = .ok (.aload_n 0, 1) := by decide +kernel
theorem dX12_readPlan_260 : decode cX12_readPlan 260 = .ok (.getfield 13, 3) := by decide +kernel
theorem dX12_readPlan_263 : decode cX12_readPlan 263 = .ok (.iconst 1, 1) := by decide +kernel
theorem dX12_readPlan_264 : decode cX12_readPlan 264 = .ok (.dup2, 1) := by decide +kernel
theorem dX12_readPlan_265 : decode cX12_readPlan 265 = .ok (.iaload, 1) := by decide +kernel
theorem dX12_readPlan_266 : decode cX12_readPlan 266 = .ok (.iconst 1, 1) := by decide +kernel
theorem dX12_readPlan_267 : decode cX12_readPlan 267 = .ok (.iadd, 1) := by decide +kernel
theorem dX12_readPlan_268 : decode cX12_readPlan 268 = .ok (.iastore, 1) := by decide +kernel
theorem dX12_readPlan_269 : decode cX12_readPlan 269 = .ok (.iconst 1, 1) := by decide +kernel
theorem dX12_readPlan_270 : decode cX12_readPlan 270 = .ok (.ireturn, 1) := by decide +kernel
theorem dX12_readTableLine_0 : decode cX12_readTableLine 0 = .ok (.aload_n 0, 1) := by decide +kernel
theorem dX12_readTableLine_1 : decode cX12_readTableLine 1 = .ok (.ldc 159, 2) := by decide +kernel
theorem dX12_readTableLine_3 : decode cX12_readTableLine 3 = .ok (.invokevirtual 109, 3) := by decide +kernel
theorem dX12_readTableLine_6 : decode cX12_readTableLine 6 = .ok (.ifCond .eq 8, 3) := by decide +kernel
theorem dX12_readTableLine_9 : decode cX12_readTableLine 9 = .ok (.aload_n 0, 1) := by decide +kernel
theorem dX12_readTableLine_10 : decode cX12_readTableLine 10 = .ok (.invokevirtual 161, 3) := by decide +kernel
theorem dX12_readTableLine_13 : decode cX12_readTableLine 13 = .ok (.ireturn, 1) := by decide +kernel
theorem dX12_readTableLine_14 : decode cX12_readTableLine 14 = .ok (.aload_n 0, 1) := by decide +kernel
theorem dX12_readTableLine_15 : decode cX12_readTableLine 15 = .ok (.ldc 165, 2) := by decide +kernel
theorem dX12_readTableLine_17 : decode cX12_readTableLine 17 = .ok (.invokevirtual 109, 3) := by decide +kernel
theorem dX12_readTableLine_20 : decode cX12_readTableLine 20 = .ok (.ifCond .eq 8, 3) := by decide +kernel
theorem dX12_readTableLine_23 : decode cX12_readTableLine 23 = .ok (.aload_n 0, 1) := by decide +kernel
theorem dX12_readTableLine_24 : decode cX12_readTableLine 24 = .ok (.invokevirtual 167, 3) := by decide +kernel
theorem dX12_readTableLine_27 : decode cX12_readTableLine 27 = .ok (.ireturn, 1) := by decide +kernel
theorem dX12_readTableLine_28 : decode cX12_readTableLine 28 = .ok (.aload_n 0, 1) := by decide +kernel
theorem dX12_readTableLine_29 : decode cX12_readTableLine 29 = .ok (.ldc 170, 2) := by decide +kernel
theorem dX12_readTableLine_31 : decode cX12_readTableLine 31 = .ok (.invokevirtual 109, 3) := by decide +kernel
theorem dX12_readTableLine_34 : decode cX12_readTableLine 34 = .ok (.ifCond .eq 8, 3) := by decide +kernel
theorem dX12_readTableLine_37 : decode cX12_readTableLine 37 = .ok (.aload_n 0, 1) := by decide +kernel
theorem dX12_readTableLine_38 : decode cX12_readTableLine 38 = .ok (.invokevirtual 172, 3) := by decide +kernel
theorem dX12_readTableLine_41 : decode cX12_readTableLine 41 = .ok (.ireturn, 1) := by decide +kernel
theorem dX12_readTableLine_42 : decode cX12_readTableLine 42 = .ok (.aload_n 0, 1) := by decide +kernel
theorem dX12_readTableLine_43 : decode cX12_readTableLine 43 = .ok (.ldc 175, 2) := by decide +kernel
theorem dX12_readTableLine_45 : decode cX12_readTableLine 45 = .ok (.invokevirtual 109, 3) := by decide +kernel
theorem dX12_readTableLine_48 : decode cX12_readTableLine 48 = .ok (.ifCond .eq 8, 3) := by decide +kernel
theorem dX12_readTableLine_51 : decode cX12_readTableLine 51 = .ok (.aload_n 0, 1) := by decide +kernel
theorem dX12_readTableLine_52 : decode cX12_readTableLine 52 = .ok (.invokevirtual 177, 3) := by decide +kernel
theorem dX12_readTableLine_55 : decode cX12_readTableLine 55 = .ok (.ireturn, 1) := by decide +kernel
theorem dX12_readTableLine_56 : decode cX12_readTableLine 56 = .ok (.aload_n 0, 1) := by decide +kernel
theorem dX12_readTableLine_57 : decode cX12_readTableLine 57 = .ok (.ldc 180, 2) := by decide +kernel
theorem dX12_readTableLine_59 : decode cX12_readTableLine 59 = .ok (.invokevirtual 109, 3) := by decide +kernel
theorem dX12_readTableLine_62 : decode cX12_readTableLine 62 = .ok (.ifCond .eq 13, 3) := by decide +kernel
theorem dX12_readTableLine_65 : decode cX12_readTableLine 65 = .ok (.aload_n 0, 1) := by decide +kernel
theorem dX12_readTableLine_66 : decode cX12_readTableLine 66 = .ok (.bipush 9, 2) := by decide +kernel
theorem dX12_readTableLine_68 : decode cX12_readTableLine 68 = .ok (.iconst 1, 1) := by decide +kernel
theorem dX12_readTableLine_69 : decode cX12_readTableLine 69 = .ok (.bipush 60, 2) := by decide +kernel
theorem dX12_readTableLine_71 : decode cX12_readTableLine 71 = .ok (.invokevirtual 144, 3) := by decide +kernel
theorem dX12_readTableLine_74 : decode cX12_readTableLine 74 = .ok (.ireturn, 1) := by decide +kernel
theorem dX12_readTableLine_75 : decode cX12_readTableLine 75 = .ok (.aload_n 0, 1) := by decide +kernel
theorem dX12_readTableLine_76 : decode cX12_readTableLine 76 = .ok (.ldc 182, 2) := by decide +kernel
theorem dX12_readTableLine_78 : decode cX12_readTableLine 78 = .ok (.invokevirtual 109, 3) := by decide +kernel
theorem dX12_readTableLine_81 : decode cX12_readTableLine 81 = .ok (.ifCond .eq 13, 3) := by decide +kernel
theorem dX12_readTableLine_84 : decode cX12_readTableLine 84 = .ok (.aload_n 0, 1) := by decide +kernel
theorem dX12_readTableLine_85 : decode cX12_readTableLine 85 = .ok (.bipush 10, 2) := by decide +kernel
theorem dX12_readTableLine_87 : decode cX12_readTableLine 87 = .ok (.iconst 1, 1) := by decide +kernel
theorem dX12_readTableLine_88 : decode cX12_readTableLine 88 = .ok (.bipush 9, 2) := by decide +kernel
theorem dX12_readTableLine_90 : decode cX12_readTableLine 90 = .ok (.invokevirtual 144, 3) := by decide +kernel
theorem dX12_readTableLine_93 : decode cX12_readTableLine 93 = .ok (.ireturn, 1) := by decide +kernel
theorem dX12_readTableLine_94 : decode cX12_readTableLine 94 = .ok (.aload_n 0, 1) := by decide +kernel
theorem dX12_readTableLine_95 : decode cX12_readTableLine 95 = .ok (.ldc 184, 2) := by decide +kernel
theorem dX12_readTableLine_97 : decode cX12_readTableLine 97 = .ok (.invokevirtual 109, 3) := by decide +kernel
theorem dX12_readTableLine_100 : decode cX12_readTableLine 100 = .ok (.ifCond .eq 13, 3) := by decide +kernel
theorem dX12_readTableLine_103 : decode cX12_readTableLine 103 = .ok (.aload_n 0, 1) := by decide +kernel
theorem dX12_readTableLine_104 : decode cX12_readTableLine 104 = .ok (.bipush 11, 2) := by decide +kernel
theorem dX12_readTableLine_106 : decode cX12_readTableLine 106 = .ok (.iconst 1, 1) := by decide +kernel
theorem dX12_readTableLine_107 : decode cX12_readTableLine 107 = .ok (.bipush 99, 2) := by decide +kernel
theorem dX12_readTableLine_109 : decode cX12_readTableLine 109 = .ok (.invokevirtual 144, 3) := by decide +kernel
theorem dX12_readTableLine_112 : decode cX12_readTableLine 112 = .ok (.ireturn, 1) := by decide +kernel
theorem dX12_readTableLine_113 : decode cX12_readTableLine 113 = .ok (.aload_n 0, 1) := by decide +kernel
theorem dX12_readTableLine_114 : decode cX12_readTableLine 114 = .ok (.ldc 186, 2) := by decide +kernel
theorem dX12_readTableLine_116 : decode cX12_readTableLine 116 = .ok (.invokevirtual 109, 3) := by decide +kernel
theorem dX12_readTableLine_119 : decode cX12_readTableLine 119 = .ok (.ifCond .eq 13, 3) := by decide +kernel
theorem dX12_readTableLine_122 : decode cX12_readTableLine 122 = .ok (.aload_n 0, 1) := by decide +kernel
theorem dX12_readTableLine_123 : decode cX12_readTableLine 123 = .ok (.bipush 12, 2) := by decide +kernel
theorem dX12_readTableLine_125 : decode cX12_readTableLine 125 = .ok (.iconst 0, 1) := by decide +kernel
theorem dX12_readTableLine_126 : decode cX12_readTableLine 126 = .ok (.bipush 9, 2) := by decide +kernel
theorem dX12_readTableLine_128 : decode cX12_readTableLine 128 = .ok (.invokevirtual 144, 3) := by decide +kernel
theorem dX12_readTableLine_131 : decode cX12_readTableLine 131 = .ok (.ireturn, 1) := by decide +kernel
theorem dX12_readTableLine_132 : decode cX12_readTableLine 132 = .ok (.aload_n 0, 1) := by decide +kernel
theorem dX12_readTableLine_133 : decode cX12_readTableLine 133 = .ok (.ldc 188, 2) := by decide +kernel
theorem dX12_readTableLine_135 : decode cX12_readTableLine 135 = .ok (.invokevirtual 109, 3) := by decide +kernel
theorem dX12_readTableLine_138 : decode cX12_readTableLine 138 = .ok (.ifCond .eq 19, 3) := by decide +kernel
theorem dX12_readTableLine_141 : decode cX12_readTableLine 141 = .ok (.aload_n 0, 1) := by decide +kernel
theorem dX12_readTableLine_142 : decode cX12_readTableLine 142 = .ok (.bipush 13, 2) := by decide +kernel
theorem dX12_readTableLine_144 : decode cX12_readTableLine 144 = .ok (.iconst 1, 1) := by decide +kernel
theorem dX12_readTableLine_145 : decode cX12_readTableLine 145 = .ok (.bipush 9, 2) := by decide +kernel
theorem dX12_readTableLine_147 : decode cX12_readTableLine 147 = .ok (.invokevirtual 144, 3) := by decide +kernel
theorem dX12_readTableLine_150 : decode cX12_readTableLine 150 = .ok (.ifCond .eq 7, 3) := by decide +kernel
theorem dX12_readTableLine_153 : decode cX12_readTableLine 153 = .ok (.iconst 1, 1) := by decide +kernel
theorem dX12_readTableLine_154 : decode cX12_readTableLine 154 = .ok (.goto 4, 3) := by decide +kernel
theorem dX12_readTableLine_157 : decode cX12_readTableLine 157 = .ok (.iconst 0, 1) := by decide +kernel
theorem dX12_readTableLine_158 : decode cX12_readTableLine 158 = .ok (.ireturn, 1) := by decide +kernel
theorem dX12_readTable_0 : decode cX12_readTable 0 = .ok (.aload_n 0, 1) := by decide +kernel
theorem dX12_readTable_1 : decode cX12_readTable 1 = .ok (.invokevirtual 93, 3) := by decide +kernel
theorem dX12_readTable_4 : decode cX12_readTable 4 = .ok (.aload_n 0, 1) := by decide +kernel
theorem dX12_readTable_5 : decode cX12_readTable 5 = .ok (.getfield 80, 3) := by decide +kernel
theorem dX12_readTable_8 : decode cX12_readTable 8 = .ok (.aload_n 0, 1) := by decide +kernel
theorem dX12_readTable_9 : decode cX12_readTable 9 = .ok (.getfield 83, 3) := by decide +kernel
theorem dX12_readTable_12 : decode cX12_readTable 12 = .ok (.if_icmp .ne 5, 3) := by decide +kernel
theorem dX12_readTable_15 : decode cX12_readTable 15 = .ok (.iconst 1, 1) := by decide +kernel
theorem dX12_readTable_16 : decode cX12_readTable 16 = .ok (.ireturn, 1) := by decide +kernel
theorem dX12_readTable_17 : decode cX12_readTable 17 = .ok (.iconst 0, 1) := by decide +kernel
theorem dX12_readTable_18 : decode cX12_readTable 18 = .ok (.istore_n 1, 1) := by decide +kernel
theorem dX12_readTable_19 : decode cX12_readTable 19 = .ok (.aload_n 0, 1) := by decide +kernel
theorem dX12_readTable_20 : decode cX12_readTable 20 = .ok (.invokevirtual 106, 3) := by decide +kernel
theorem dX12_readTable_23 : decode cX12_readTable 23 = .ok (.iload_n 1, 1) := by decide +kernel
theorem dX12_readTable_24 : decode cX12_readTable 24 = .ok (.bipush 14, 2) := by decide +kernel
theorem dX12_readTable_26 : decode cX12_readTable 26 = .ok (.if_icmp .eq 10, 3) := by decide +kernel
theorem dX12_readTable_29 : decode cX12_readTable 29 = .ok (.aload_n 0, 1) := by decide +kernel
theorem dX12_readTable_30 : decode cX12_readTable 30 = .ok (.invokevirtual 190, 3) := by decide +kernel
theorem dX12_readTable_33 : decode cX12_readTable 33 = .ok (.ifCond .ne 5, 3) := by decide +kernel
theorem dX12_readTable_36 : decode cX12_readTable 36 = .ok (.iconst 0, 1) := by decide +kernel
theorem dX12_readTable_37 : decode cX12_readTable 37 = .ok (.ireturn, 1) := by decide +kernel
theorem dX12_readTable_38 : decode cX12_readTable 38 = .ok (.aload_n 0, 1) := by decide +kernel
theorem dX12_readTable_39 : decode cX12_readTable 39 = .ok (.invokevirtual 93, 3) := by decide +kernel
theorem dX12_readTable_42 : decode cX12_readTable 42 = .ok (.aload_n 0, 1) := by decide +kernel
theorem dX12_readTable_43 : decode cX12_readTable 43 = .ok (.getfield 80, 3) := by decide +kernel
theorem dX12_readTable_46 : decode cX12_readTable 46 = .ok (.aload_n 0, 1) := by decide +kernel
theorem dX12_readTable_47 : decode cX12_readTable 47 = .ok (.getfield 83, 3) := by decide +kernel
theorem dX12_readTable_50 : decode cX12_readTable 50 = .ok (.if_icmp .ne 5, 3) := by decide +kernel
theorem dX12_readTable_53 : decode cX12_readTable 53 = .ok (.iconst 1, 1) := by decide +kernel
theorem dX12_readTable_54 : decode cX12_readTable 54 = .ok (.ireturn, 1) := by decide +kernel
theorem dX12_readTable_55 : decode cX12_readTable 55 = .ok (.aload_n 0, 1) := by decide +kernel
theorem dX12_readTable_56 : decode cX12_readTable 56 = .ok (.bipush 59, 2) := by decide +kernel
theorem dX12_readTable_58 : decode cX12_readTable 58 = .ok (.bipush 59, 2) := by decide +kernel
theorem dX12_readTable_60 : decode cX12_readTable 60 = .ok (.invokevirtual 86, 3) := by decide +kernel
theorem dX12_readTable_63 : decode cX12_readTable 63 = .ok (.ifCond .ne 5, 3) := by decide +kernel
theorem dX12_readTable_66 : decode cX12_readTable 66 = .ok (.iconst 0, 1) := by decide +kernel
theorem dX12_readTable_67 : decode cX12_readTable 67 = .ok (.ireturn, 1) := by decide +kernel
theorem dX12_readTable_68 : decode cX12_readTable 68 = .ok (.aload_n 0, 1) := by decide +kernel
theorem dX12_readTable_69 : decode cX12_readTable 69 = .ok (.dup, 1) := by decide +kernel
theorem dX12_readTable_70 : decode cX12_readTable 70 = .ok (.getfield 80, 3) := by decide +kernel
theorem dX12_readTable_73 : decode cX12_readTable 73 = .ok (.iconst 1, 1) := by decide +kernel
theorem dX12_readTable_74 : decode cX12_readTable 74 = .ok (.iadd, 1) := by decide +kernel
theorem dX12_readTable_75 : decode cX12_readTable 75 = .ok (.putfield 80, 3) := by decide +kernel
theorem dX12_readTable_78 : decode cX12_readTable 78 = .ok (.iinc 1 1, 3) := by decide +kernel
theorem dX12_readTable_81 : decode cX12_readTable 81 = .ok (.goto (-62), 3) := by decide +kernel
theorem dX12_table_0 : decode cX12_table 0 = .ok (.aload_n 0, 1) := by decide +kernel
theorem dX12_table_1 : decode cX12_table 1 = .ok (.invokevirtual 193, 3) := by decide +kernel
theorem dX12_table_4 : decode cX12_table 4 = .ok (.iconst 0, 1) := by decide +kernel
theorem dX12_table_5 : decode cX12_table 5 = .ok (.istore_n 1, 1) := by decide +kernel
theorem dX12_table_6 : decode cX12_table 6 = .ok (.iload_n 1, 1) := by decide +kernel
theorem dX12_table_7 : decode cX12_table 7 = .ok (.sipush 1589, 3) := by decide +kernel
theorem dX12_table_10 : decode cX12_table 10 = .ok (.if_icmp .ge 21, 3) := by decide +kernel
theorem dX12_table_13 : decode cX12_table 13 = .ok (.aload_n 0, 1) := by decide +kernel
theorem dX12_table_14 : decode cX12_table 14 = .ok (.getfield 20, 3) := by decide +kernel
theorem dX12_table_17 : decode cX12_table 17 = .ok (.iload_n 1, 1) := by decide +kernel
theorem dX12_table_18 : decode cX12_table 18 = .ok (.aload_n 0, 1) := by decide +kernel
theorem dX12_table_19 : decode cX12_table 19 = .ok (.getfield 13, 3) := by decide +kernel
theorem dX12_table_22 : decode cX12_table 22 = .ok (.iload_n 1, 1) := by decide +kernel
theorem dX12_table_23 : decode cX12_table 23 = .ok (.iaload, 1) := by decide +kernel
theorem dX12_table_24 : decode cX12_table 24 = .ok (.iastore, 1) := by decide +kernel
theorem dX12_table_25 : decode cX12_table 25 = .ok (.iinc 1 1, 3) := by decide +kernel
theorem dX12_table_28 : decode cX12_table 28 = .ok (.goto (-22), 3) := by decide +kernel
theorem dX12_table_31 : decode cX12_table 31 = .ok (.aload_n 0, 1) := by decide +kernel
theorem dX12_table_32 : decode cX12_table 32 = .ok (.invokevirtual 196, 3) := by decide +kernel
theorem dX12_table_35 : decode cX12_table 35 = .ok (.istore_n 1, 1) := by decide +kernel
theorem dX12_table_36 : decode cX12_table 36 = .ok (.aload_n 0, 1) := by decide +kernel
theorem dX12_table_37 : decode cX12_table 37 = .ok (.iload_n 1, 1) := by decide +kernel
theorem dX12_table_38 : decode cX12_table 38 = .ok (.ifCond .eq 7, 3) := by decide +kernel
theorem dX12_table_41 : decode cX12_table 41 = .ok (.iconst (-1), 1) := by decide +kernel
theorem dX12_table_42 : decode cX12_table 42 = .ok (.goto 7, 3) := by decide +kernel
theorem dX12_table_45 : decode cX12_table 45 = .ok (.aload_n 0, 1) := by decide +kernel
theorem dX12_table_46 : decode cX12_table 46 = .ok (.getfield 90, 3) := by decide +kernel
theorem dX12_table_49 : decode cX12_table 49 = .ok (.putfield 33, 3) := by decide +kernel
theorem dX12_table_52 : decode cX12_table 52 = .ok (.aload_n 0, 1) := by decide +kernel
theorem dX12_table_53 : decode cX12_table 53 = .ok (.iload_n 1, 1) := by decide +kernel
theorem dX12_table_54 : decode cX12_table 54 = .ok (.ifCond .ne 7, 3) := by decide +kernel
theorem dX12_table_57 : decode cX12_table 57 = .ok (.iconst 1, 1) := by decide +kernel
theorem dX12_table_58 : decode cX12_table 58 = .ok (.goto 4, 3) := by decide +kernel
theorem dX12_table_61 : decode cX12_table 61 = .ok (.iconst 0, 1) := by decide +kernel
theorem dX12_table_62 : decode cX12_table 62 = .ok (.iconst 1, 1) := by decide +kernel
theorem dX12_table_63 : decode cX12_table 63 = .ok (.invokevirtual 199, 3) := by decide +kernel
theorem dX12_table_66 : decode cX12_table 66 = .ok (.ifCond .ne 27, 3) := by decide +kernel
theorem dX12_table_69 : decode cX12_table 69 = .ok (.aload_n 0, 1) := by decide +kernel
theorem dX12_table_70 : decode cX12_table 70 = .ok (.aload_n 0, 1) := by decide +kernel
theorem dX12_table_71 : decode cX12_table 71 = .ok (.getfield 13, 3) := by decide +kernel
theorem dX12_table_74 : decode cX12_table 74 = .ok (.iconst 2, 1) := by decide +kernel
theorem dX12_table_75 : decode cX12_table 75 = .ok (.iaload, 1) := by decide +kernel
theorem dX12_table_76 : decode cX12_table 76 = .ok (.bipush 12, 2) := by decide +kernel
theorem dX12_table_78 : decode cX12_table 78 = .ok (.if_icmp .ne 7, 3) := by decide +kernel
theorem dX12_table_81 : decode cX12_table 81 = .ok (.iconst 1, 1) := by decide +kernel
theorem dX12_table_82 : decode cX12_table 82 = .ok (.goto 4, 3) := by decide +kernel
theorem dX12_table_85 : decode cX12_table 85 = .ok (.iconst 0, 1) := by decide +kernel
theorem dX12_table_86 : decode cX12_table 86 = .ok (.iconst 2, 1) := by decide +kernel
theorem dX12_table_87 : decode cX12_table 87 = .ok (.invokevirtual 199, 3) := by decide +kernel
theorem dX12_table_90 : decode cX12_table 90 = .ok (.ifCond .eq 32, 3) := by decide +kernel
theorem dX12_table_93 : decode cX12_table 93 = .ok (.iconst 0, 1) := by decide +kernel
theorem dX12_table_94 : decode cX12_table 94 = .ok (.istore_n 2, 1) := by decide +kernel
theorem dX12_table_95 : decode cX12_table 95 = .ok (.iload_n 2, 1) := by decide +kernel
theorem dX12_table_96 : decode cX12_table 96 = .ok (.sipush 1589, 3) := by decide +kernel
theorem dX12_table_99 : decode cX12_table 99 = .ok (.if_icmp .ge 21, 3) := by decide +kernel
theorem dX12_table_102 : decode cX12_table 102 = .ok (.aload_n 0, 1) := by decide +kernel
theorem dX12_table_103 : decode cX12_table 103 = .ok (.getfield 13, 3) := by decide +kernel
theorem dX12_table_106 : decode cX12_table 106 = .ok (.iload_n 2, 1) := by decide +kernel
theorem dX12_table_107 : decode cX12_table 107 = .ok (.aload_n 0, 1) := by decide +kernel
theorem dX12_table_108 : decode cX12_table 108 = .ok (.getfield 20, 3) := by decide +kernel
theorem dX12_table_111 : decode cX12_table 111 = .ok (.iload_n 2, 1) := by decide +kernel
theorem dX12_table_112 : decode cX12_table 112 = .ok (.iaload, 1) := by decide +kernel
theorem dX12_table_113 : decode cX12_table 113 = .ok (.iastore, 1) := by decide +kernel
theorem dX12_table_114 : decode cX12_table 114 = .ok (.iinc 2 1, 3) := by decide +kernel
theorem dX12_table_117 : decode cX12_table 117 = .ok (.goto (-22), 3) := by decide +kernel
theorem dX12_table_120 : decode cX12_table 120 = .ok (.iconst 0, 1) := by decide +kernel
theorem dX12_table_121 : decode cX12_table 121 = .ok (.ireturn, 1) := by decide +kernel
theorem dX12_table_122 : decode cX12_table 122 = .ok (.aload_n 0, 1) := by decide +kernel
theorem dX12_table_123 : decode cX12_table 123 = .ok (.getfield 13, 3) := by decide +kernel
theorem dX12_table_126 : decode cX12_table 126 = .ok (.iconst 2, 1) := by decide +kernel
theorem dX12_table_127 : decode cX12_table 127 = .ok (.dup2, 1) := by decide +kernel
theorem dX12_table_128 : decode cX12_table 128 = .ok (.iaload, 1) := by decide +kernel
theorem dX12_table_129 : decode cX12_table 129 = .ok (.iconst 1, 1) := by decide +kernel
theorem dX12_table_130 : decode cX12_table 130 = .ok (.iadd, 1) := by decide +kernel
theorem dX12_table_131 : decode cX12_table 131 = .ok (.iastore, 1) := by decide +kernel
theorem dX12_table_132 : decode cX12_table 132 = .ok (.aload_n 0, 1) := by decide +kernel
theorem dX12_table_133 : decode cX12_table 133 = .ok (.getfield 13, 3) := by decide +kernel
theorem dX12_table_136 : decode cX12_table 136 = .ok (.iconst 2, 1) := by decide +kernel
theorem dX12_table_137 : decode cX12_table 137 = .ok (.iaload, 1) := by decide +kernel
theorem dX12_table_138 : decode cX12_table 138 = .ok (.ireturn, 1) := by decide +kernel
theorem dX12_columnRead_0 : decode cX12_columnRead 0 = .ok (.aload_n 0, 1) := by decide +kernel
theorem dX12_columnRead_1 : decode cX12_columnRead 1 = .ok (.invokevirtual 106, 3) := by decide +kernel
theorem dX12_columnRead_4 : decode cX12_columnRead 4 = .ok (.aload_n 0, 1) := by decide +kernel
theorem dX12_columnRead_5 : decode cX12_columnRead 5 = .ok (.ldc 203, 2) := by decide +kernel
theorem dX12_columnRead_7 : decode cX12_columnRead 7 = .ok (.invokevirtual 109, 3) := by decide +kernel
theorem dX12_columnRead_10 : decode cX12_columnRead 10 = .ok (.ifCond .eq 5, 3) := by decide +kernel
theorem dX12_columnRead_13 : decode cX12_columnRead 13 = .ok (.iconst 0, 1) := by decide +kernel
theorem dX12_columnRead_14 : decode cX12_columnRead 14 = .ok (.ireturn, 1) := by decide +kernel
theorem dX12_columnRead_15 : decode cX12_columnRead 15 = .ok (.aload_n 0, 1) := by decide +kernel
theorem dX12_columnRead_16 : decode cX12_columnRead 16 = .ok (.ldc 122, 2) := by decide +kernel
theorem dX12_columnRead_18 : decode cX12_columnRead 18 = .ok (.invokevirtual 109, 3) := by decide +kernel
theorem dX12_columnRead_21 : decode cX12_columnRead 21 = .ok (.ifCond .eq 5, 3) := by decide +kernel
theorem dX12_columnRead_24 : decode cX12_columnRead 24 = .ok (.iconst 1, 1) := by decide +kernel
theorem dX12_columnRead_25 : decode cX12_columnRead 25 = .ok (.ireturn, 1) := by decide +kernel
theorem dX12_columnRead_26 : decode cX12_columnRead 26 = .ok (.aload_n 0, 1) := by decide +kernel
theorem dX12_columnRead_27 : decode cX12_columnRead 27 = .ok (.ldc 128, 2) := by decide +kernel
theorem dX12_columnRead_29 : decode cX12_columnRead 29 = .ok (.invokevirtual 109, 3) := by decide +kernel
theorem dX12_columnRead_32 : decode cX12_columnRead 32 = .ok (.ifCond .eq 5, 3) := by decide +kernel
theorem dX12_columnRead_35 : decode cX12_columnRead 35 = .ok (.iconst 2, 1) := by decide +kernel
theorem dX12_columnRead_36 : decode cX12_columnRead 36 = .ok (.ireturn, 1) := by decide +kernel
theorem dX12_columnRead_37 : decode cX12_columnRead 37 = .ok (.aload_n 0, 1) := by decide +kernel
theorem dX12_columnRead_38 : decode cX12_columnRead 38 = .ok (.ldc 130, 2) := by decide +kernel
theorem dX12_columnRead_40 : decode cX12_columnRead 40 = .ok (.invokevirtual 109, 3) := by decide +kernel
theorem dX12_columnRead_43 : decode cX12_columnRead 43 = .ok (.ifCond .eq 5, 3) := by decide +kernel
theorem dX12_columnRead_46 : decode cX12_columnRead 46 = .ok (.iconst 3, 1) := by decide +kernel
theorem dX12_columnRead_47 : decode cX12_columnRead 47 = .ok (.ireturn, 1) := by decide +kernel
theorem dX12_columnRead_48 : decode cX12_columnRead 48 = .ok (.aload_n 0, 1) := by decide +kernel
theorem dX12_columnRead_49 : decode cX12_columnRead 49 = .ok (.ldc 204, 2) := by decide +kernel
theorem dX12_columnRead_51 : decode cX12_columnRead 51 = .ok (.invokevirtual 109, 3) := by decide +kernel
theorem dX12_columnRead_54 : decode cX12_columnRead 54 = .ok (.ifCond .eq 5, 3) := by decide +kernel
theorem dX12_columnRead_57 : decode cX12_columnRead 57 = .ok (.iconst 4, 1) := by decide +kernel
theorem dX12_columnRead_58 : decode cX12_columnRead 58 = .ok (.ireturn, 1) := by decide +kernel
theorem dX12_columnRead_59 : decode cX12_columnRead 59 = .ok (.aload_n 0, 1) := by decide +kernel
theorem dX12_columnRead_60 : decode cX12_columnRead 60 = .ok (.ldc 206, 2) := by decide +kernel
theorem dX12_columnRead_62 : decode cX12_columnRead 62 = .ok (.invokevirtual 109, 3) := by decide +kernel
theorem dX12_columnRead_65 : decode cX12_columnRead 65 = .ok (.ifCond .eq 5, 3) := by decide +kernel
theorem dX12_columnRead_68 : decode cX12_columnRead 68 = .ok (.iconst 5, 1) := by decide +kernel
theorem dX12_columnRead_69 : decode cX12_columnRead 69 = .ok (.ireturn, 1) := by decide +kernel
theorem dX12_columnRead_70 : decode cX12_columnRead 70 = .ok (.aload_n 0, 1) := by decide +kernel
theorem dX12_columnRead_71 : decode cX12_columnRead 71 = .ok (.ldc 208, 2) := by decide +kernel
theorem dX12_columnRead_73 : decode cX12_columnRead 73 = .ok (.invokevirtual 109, 3) := by decide +kernel
theorem dX12_columnRead_76 : decode cX12_columnRead 76 = .ok (.ifCond .eq 6, 3) := by decide +kernel
theorem dX12_columnRead_79 : decode cX12_columnRead 79 = .ok (.bipush 6, 2) := by decide +kernel
theorem dX12_columnRead_81 : decode cX12_columnRead 81 = .ok (.ireturn, 1) := by decide +kernel
theorem dX12_columnRead_82 : decode cX12_columnRead 82 = .ok (.aload_n 0, 1) := by decide +kernel
theorem dX12_columnRead_83 : decode cX12_columnRead 83 = .ok (.ldc 210, 2) := by decide +kernel
theorem dX12_columnRead_85 : decode cX12_columnRead 85 = .ok (.invokevirtual 109, 3) := by decide +kernel
theorem dX12_columnRead_88 : decode cX12_columnRead 88 = .ok (.ifCond .eq 8, 3) := by decide +kernel
theorem dX12_columnRead_91 : decode cX12_columnRead 91 = .ok (.bipush 7, 2) := by decide +kernel
theorem dX12_columnRead_93 : decode cX12_columnRead 93 = .ok (.goto 4, 3) := by decide +kernel
theorem dX12_columnRead_96 : decode cX12_columnRead 96 = .ok (.iconst (-1), 1) := by decide +kernel
theorem dX12_columnRead_97 : decode cX12_columnRead 97 = .ok (.ireturn, 1) := by decide +kernel
theorem dX12_signRead_0 : decode cX12_signRead 0 = .ok (.aload_n 0, 1) := by decide +kernel
theorem dX12_signRead_1 : decode cX12_signRead 1 = .ok (.bipush 61, 2) := by decide +kernel
theorem dX12_signRead_3 : decode cX12_signRead 3 = .ok (.invokevirtual 212, 3) := by decide +kernel
theorem dX12_signRead_6 : decode cX12_signRead 6 = .ok (.ifCond .eq 7, 3) := by decide +kernel
theorem dX12_signRead_9 : decode cX12_signRead 9 = .ok (.iconst 0, 1) := by decide +kernel
theorem dX12_signRead_10 : decode cX12_signRead 10 = .ok (.goto 43, 3) := by decide +kernel
theorem dX12_signRead_13 : decode cX12_signRead 13 = .ok (.aload_n 0, 1) := by decide +kernel
theorem dX12_signRead_14 : decode cX12_signRead 14 = .ok (.bipush 33, 2) := by decide +kernel
theorem dX12_signRead_16 : decode cX12_signRead 16 = .ok (.invokevirtual 212, 3) := by decide +kernel
theorem dX12_signRead_19 : decode cX12_signRead 19 = .ok (.ifCond .eq 7, 3) := by decide +kernel
theorem dX12_signRead_22 : decode cX12_signRead 22 = .ok (.iconst 1, 1) := by decide +kernel
theorem dX12_signRead_23 : decode cX12_signRead 23 = .ok (.goto 30, 3) := by decide +kernel
theorem dX12_signRead_26 : decode cX12_signRead 26 = .ok (.aload_n 0, 1) := by decide +kernel
theorem dX12_signRead_27 : decode cX12_signRead 27 = .ok (.bipush 60, 2) := by decide +kernel
theorem dX12_signRead_29 : decode cX12_signRead 29 = .ok (.invokevirtual 212, 3) := by decide +kernel
theorem dX12_signRead_32 : decode cX12_signRead 32 = .ok (.ifCond .eq 7, 3) := by decide +kernel
theorem dX12_signRead_35 : decode cX12_signRead 35 = .ok (.iconst 2, 1) := by decide +kernel
theorem dX12_signRead_36 : decode cX12_signRead 36 = .ok (.goto 17, 3) := by decide +kernel
theorem dX12_signRead_39 : decode cX12_signRead 39 = .ok (.aload_n 0, 1) := by decide +kernel
theorem dX12_signRead_40 : decode cX12_signRead 40 = .ok (.bipush 62, 2) := by decide +kernel
theorem dX12_signRead_42 : decode cX12_signRead 42 = .ok (.invokevirtual 212, 3) := by decide +kernel
theorem dX12_signRead_45 : decode cX12_signRead 45 = .ok (.ifCond .eq 7, 3) := by decide +kernel
theorem dX12_signRead_48 : decode cX12_signRead 48 = .ok (.iconst 3, 1) := by decide +kernel
theorem dX12_signRead_49 : decode cX12_signRead 49 = .ok (.goto 4, 3) := by decide +kernel
theorem dX12_signRead_52 : decode cX12_signRead 52 = .ok (.iconst (-1), 1) := by decide +kernel
theorem dX12_signRead_53 : decode cX12_signRead 53 = .ok (.ireturn, 1) := by decide +kernel
theorem dX12_readTerm_0 : decode cX12_readTerm 0 = .ok (.aload_n 0, 1) := by decide +kernel
theorem dX12_readTerm_1 : decode cX12_readTerm 1 = .ok (.getfield 26, 3) := by decide +kernel
theorem dX12_readTerm_4 : decode cX12_readTerm 4 = .ok (.iconst 1, 1) := by decide +kernel
theorem dX12_readTerm_5 : decode cX12_readTerm 5 = .ok (.iaload, 1) := by decide +kernel
theorem dX12_readTerm_6 : decode cX12_readTerm 6 = .ok (.istore_n 1, 1) := by decide +kernel
theorem dX12_readTerm_7 : decode cX12_readTerm 7 = .ok (.iconst 2, 1) := by decide +kernel
theorem dX12_readTerm_8 : decode cX12_readTerm 8 = .ok (.iconst 3, 1) := by decide +kernel
theorem dX12_readTerm_9 : decode cX12_readTerm 9 = .ok (.iload_n 1, 1) := by decide +kernel
theorem dX12_readTerm_10 : decode cX12_readTerm 10 = .ok (.imul, 1) := by decide +kernel
theorem dX12_readTerm_11 : decode cX12_readTerm 11 = .ok (.iadd, 1) := by decide +kernel
theorem dX12_readTerm_12 : decode cX12_readTerm 12 = .ok (.istore_n 2, 1) := by decide +kernel
theorem dX12_readTerm_13 : decode cX12_readTerm 13 = .ok (.aload_n 0, 1) := by decide +kernel
theorem dX12_readTerm_14 : decode cX12_readTerm 14 = .ok (.invokevirtual 215, 3) := by decide +kernel
theorem dX12_readTerm_17 : decode cX12_readTerm 17 = .ok (.istore_n 3, 1) := by decide +kernel
theorem dX12_readTerm_18 : decode cX12_readTerm 18 = .ok (.iload_n 1, 1) := by decide +kernel
theorem dX12_readTerm_19 : decode cX12_readTerm 19 = .ok (.iconst 4, 1) := by decide +kernel
theorem dX12_readTerm_20 : decode cX12_readTerm 20 = .ok (.if_icmp .eq 7, 3) := by decide +kernel
theorem dX12_readTerm_23 : decode cX12_readTerm 23 = .ok (.iload_n 3, 1) := by decide +kernel
theorem dX12_readTerm_24 : decode cX12_readTerm 24 = .ok (.ifCond .ge 5, 3) := by decide +kernel
theorem dX12_readTerm_27 : decode cX12_readTerm 27 = .ok (.iconst 0, 1) := by decide +kernel
theorem dX12_readTerm_28 : decode cX12_readTerm 28 = .ok (.ireturn, 1) := by decide +kernel
theorem dX12_readTerm_29 : decode cX12_readTerm 29 = .ok (.aload_n 0, 1) := by decide +kernel
theorem dX12_readTerm_30 : decode cX12_readTerm 30 = .ok (.invokevirtual 218, 3) := by decide +kernel
theorem dX12_readTerm_33 : decode cX12_readTerm 33 = .ok (.istore 4, 2) := by decide +kernel
theorem dX12_readTerm_35 : decode cX12_readTerm 35 = .ok (.iload 4, 2) := by decide +kernel
theorem dX12_readTerm_37 : decode cX12_readTerm 37 = .ok (.ifCond .ge 7, 3) := by decide +kernel
theorem dX12_readTerm_40 : decode cX12_readTerm 40 = .ok (.iconst (-1), 1) := by decide +kernel
theorem dX12_readTerm_41 : decode cX12_readTerm 41 = .ok (.goto 11, 3) := by decide +kernel
theorem dX12_readTerm_44 : decode cX12_readTerm 44 = .ok (.aload_n 0, 1) := by decide +kernel
theorem dX12_readTerm_45 : decode cX12_readTerm 45 = .ok (.iconst 0, 1) := by decide +kernel
theorem dX12_readTerm_46 : decode cX12_readTerm 46 = .ok (.sipush 999, 3) := by decide +kernel
theorem dX12_readTerm_49 : decode cX12_readTerm 49 = .ok (.invokevirtual 113, 3) := by decide +kernel
theorem dX12_readTerm_52 : decode cX12_readTerm 52 = .ok (.istore 5, 2) := by decide +kernel
theorem dX12_readTerm_54 : decode cX12_readTerm 54 = .ok (.iload 5, 2) := by decide +kernel
theorem dX12_readTerm_56 : decode cX12_readTerm 56 = .ok (.ifCond .ge 5, 3) := by decide +kernel
theorem dX12_readTerm_59 : decode cX12_readTerm 59 = .ok (.iconst 0, 1) := by decide +kernel
theorem dX12_readTerm_60 : decode cX12_readTerm 60 = .ok (.ireturn, 1) := by decide +kernel
theorem dX12_readTerm_61 : decode cX12_readTerm 61 = .ok (.aload_n 0, 1) := by decide +kernel
theorem dX12_readTerm_62 : decode cX12_readTerm 62 = .ok (.getfield 26, 3) := by decide +kernel
theorem dX12_readTerm_65 : decode cX12_readTerm 65 = .ok (.iload_n 2, 1) := by decide +kernel
theorem dX12_readTerm_66 : decode cX12_readTerm 66 = .ok (.iload_n 3, 1) := by decide +kernel
theorem dX12_readTerm_67 : decode cX12_readTerm 67 = .ok (.iastore, 1) := by decide +kernel
theorem dX12_readTerm_68 : decode cX12_readTerm 68 = .ok (.aload_n 0, 1) := by decide +kernel
theorem dX12_readTerm_69 : decode cX12_readTerm 69 = .ok (.getfield 26, 3) := by decide +kernel
theorem dX12_readTerm_72 : decode cX12_readTerm 72 = .ok (.iload_n 2, 1) := by decide +kernel
theorem dX12_readTerm_73 : decode cX12_readTerm 73 = .ok (.iconst 1, 1) := by decide +kernel
theorem dX12_readTerm_74 : decode cX12_readTerm 74 = .ok (.iadd, 1) := by decide +kernel
theorem dX12_readTerm_75 : decode cX12_readTerm 75 = .ok (.iload 4, 2) := by decide +kernel
theorem dX12_readTerm_77 : decode cX12_readTerm 77 = .ok (.iastore, 1) := by decide +kernel
theorem dX12_readTerm_78 : decode cX12_readTerm 78 = .ok (.aload_n 0, 1) := by decide +kernel
theorem dX12_readTerm_79 : decode cX12_readTerm 79 = .ok (.getfield 26, 3) := by decide +kernel
theorem dX12_readTerm_82 : decode cX12_readTerm 82 = .ok (.iload_n 2, 1) := by decide +kernel
theorem dX12_readTerm_83 : decode cX12_readTerm 83 = .ok (.iconst 2, 1) := by decide +kernel
theorem dX12_readTerm_84 : decode cX12_readTerm 84 = .ok (.iadd, 1) := by decide +kernel
theorem dX12_readTerm_85 : decode cX12_readTerm 85 = .ok (.iload 5, 2) := by decide +kernel
theorem dX12_readTerm_87 : decode cX12_readTerm 87 = .ok (.iastore, 1) := by decide +kernel
theorem dX12_readTerm_88 : decode cX12_readTerm 88 = .ok (.aload_n 0, 1) := by decide +kernel
theorem dX12_readTerm_89 : decode cX12_readTerm 89 = .ok (.getfield 26, 3) := by decide +kernel
theorem dX12_readTerm_92 : decode cX12_readTerm 92 = .ok (.iconst 1, 1) := by decide +kernel
theorem dX12_readTerm_93 : decode cX12_readTerm 93 = .ok (.dup2, 1) := by decide +kernel
theorem dX12_readTerm_94 : decode cX12_readTerm 94 = .ok (.iaload, 1) := by decide +kernel
theorem dX12_readTerm_95 : decode cX12_readTerm 95 = .ok (.iconst 1, 1) := by decide +kernel
theorem dX12_readTerm_96 : decode cX12_readTerm 96 = .ok (.iadd, 1) := by decide +kernel
theorem dX12_readTerm_97 : decode cX12_readTerm 97 = .ok (.iastore, 1) := by decide +kernel
theorem dX12_readTerm_98 : decode cX12_readTerm 98 = .ok (.iconst 1, 1) := by decide +kernel
theorem dX12_readTerm_99 : decode cX12_readTerm 99 = .ok (.ireturn, 1) := by decide +kernel
theorem dX12_readKey_0 : decode cX12_readKey 0 = .ok (.aload_n 0, 1) := by decide +kernel
theorem dX12_readKey_1 : decode cX12_readKey 1 = .ok (.getfield 26, 3) := by decide +kernel
theorem dX12_readKey_4 : decode cX12_readKey 4 = .ok (.bipush 14, 2) := by decide +kernel
theorem dX12_readKey_6 : decode cX12_readKey 6 = .ok (.iaload, 1) := by decide +kernel
theorem dX12_readKey_7 : decode cX12_readKey 7 = .ok (.istore_n 1, 1) := by decide +kernel
theorem dX12_readKey_8 : decode cX12_readKey 8 = .ok (.bipush 15, 2) := by decide +kernel
theorem dX12_readKey_10 : decode cX12_readKey 10 = .ok (.iconst 2, 1) := by decide +kernel
theorem dX12_readKey_11 : decode cX12_readKey 11 = .ok (.iload_n 1, 1) := by decide +kernel
theorem dX12_readKey_12 : decode cX12_readKey 12 = .ok (.imul, 1) := by decide +kernel
theorem dX12_readKey_13 : decode cX12_readKey 13 = .ok (.iadd, 1) := by decide +kernel
theorem dX12_readKey_14 : decode cX12_readKey 14 = .ok (.istore_n 2, 1) := by decide +kernel
theorem dX12_readKey_15 : decode cX12_readKey 15 = .ok (.aload_n 0, 1) := by decide +kernel
theorem dX12_readKey_16 : decode cX12_readKey 16 = .ok (.invokevirtual 215, 3) := by decide +kernel
theorem dX12_readKey_19 : decode cX12_readKey 19 = .ok (.istore_n 3, 1) := by decide +kernel
theorem dX12_readKey_20 : decode cX12_readKey 20 = .ok (.iload_n 1, 1) := by decide +kernel
theorem dX12_readKey_21 : decode cX12_readKey 21 = .ok (.iconst 4, 1) := by decide +kernel
theorem dX12_readKey_22 : decode cX12_readKey 22 = .ok (.if_icmp .eq 7, 3) := by decide +kernel
theorem dX12_readKey_25 : decode cX12_readKey 25 = .ok (.iload_n 3, 1) := by decide +kernel
theorem dX12_readKey_26 : decode cX12_readKey 26 = .ok (.ifCond .ge 5, 3) := by decide +kernel
theorem dX12_readKey_29 : decode cX12_readKey 29 = .ok (.iconst 0, 1) := by decide +kernel
theorem dX12_readKey_30 : decode cX12_readKey 30 = .ok (.ireturn, 1) := by decide +kernel
theorem dX12_readKey_31 : decode cX12_readKey 31 = .ok (.aload_n 0, 1) := by decide +kernel
theorem dX12_readKey_32 : decode cX12_readKey 32 = .ok (.getfield 26, 3) := by decide +kernel
theorem dX12_readKey_35 : decode cX12_readKey 35 = .ok (.iload_n 2, 1) := by decide +kernel
theorem dX12_readKey_36 : decode cX12_readKey 36 = .ok (.iload_n 3, 1) := by decide +kernel
theorem dX12_readKey_37 : decode cX12_readKey 37 = .ok (.iastore, 1) := by decide +kernel
theorem dX12_readKey_38 : decode cX12_readKey 38 = .ok (.aload_n 0, 1) := by decide +kernel
theorem dX12_readKey_39 : decode cX12_readKey 39 = .ok (.getfield 26, 3) := by decide +kernel
theorem dX12_readKey_42 : decode cX12_readKey 42 = .ok (.iload_n 2, 1) := by decide +kernel
theorem dX12_readKey_43 : decode cX12_readKey 43 = .ok (.iconst 1, 1) := by decide +kernel
theorem dX12_readKey_44 : decode cX12_readKey 44 = .ok (.iadd, 1) := by decide +kernel
theorem dX12_readKey_45 : decode cX12_readKey 45 = .ok (.aload_n 0, 1) := by decide +kernel
theorem dX12_readKey_46 : decode cX12_readKey 46 = .ok (.ldc 221, 2) := by decide +kernel
theorem dX12_readKey_48 : decode cX12_readKey 48 = .ok (.invokevirtual 133, 3) := by decide +kernel
theorem dX12_readKey_51 : decode cX12_readKey 51 = .ok (.ifCond .eq 7, 3) := by decide +kernel
theorem dX12_readKey_54 : decode cX12_readKey 54 = .ok (.iconst 1, 1) := by decide +kernel
theorem dX12_readKey_55 : decode cX12_readKey 55 = .ok (.goto 4, 3) := by decide +kernel
theorem dX12_readKey_58 : decode cX12_readKey 58 = .ok (.iconst 0, 1) := by decide +kernel
theorem dX12_readKey_59 : decode cX12_readKey 59 = .ok (.iastore, 1) := by decide +kernel
theorem dX12_readKey_60 : decode cX12_readKey 60 = .ok (.aload_n 0, 1) := by decide +kernel
theorem dX12_readKey_61 : decode cX12_readKey 61 = .ok (.getfield 26, 3) := by decide +kernel
theorem dX12_readKey_64 : decode cX12_readKey 64 = .ok (.bipush 14, 2) := by decide +kernel
theorem dX12_readKey_66 : decode cX12_readKey 66 = .ok (.dup2, 1) := by decide +kernel
theorem dX12_readKey_67 : decode cX12_readKey 67 = .ok (.iaload, 1) := by decide +kernel
theorem dX12_readKey_68 : decode cX12_readKey 68 = .ok (.iconst 1, 1) := by decide +kernel
theorem dX12_readKey_69 : decode cX12_readKey 69 = .ok (.iadd, 1) := by decide +kernel
theorem dX12_readKey_70 : decode cX12_readKey 70 = .ok (.iastore, 1) := by decide +kernel
theorem dX12_readKey_71 : decode cX12_readKey 71 = .ok (.iconst 1, 1) := by decide +kernel
theorem dX12_readKey_72 : decode cX12_readKey 72 = .ok (.ireturn, 1) := by decide +kernel
theorem dX12_readTerms_0 : decode cX12_readTerms 0 = .ok (.aload_n 0, 1) := by decide +kernel
theorem dX12_readTerms_1 : decode cX12_readTerms 1 = .ok (.invokevirtual 223, 3) := by decide +kernel
theorem dX12_readTerms_4 : decode cX12_readTerms 4 = .ok (.ifCond .ne 5, 3) := by decide +kernel
theorem dX12_readTerms_7 : decode cX12_readTerms 7 = .ok (.iconst 0, 1) := by decide +kernel
theorem dX12_readTerms_8 : decode cX12_readTerms 8 = .ok (.ireturn, 1) := by decide +kernel
theorem dX12_readTerms_9 : decode cX12_readTerms 9 = .ok (.aload_n 0, 1) := by decide +kernel
theorem dX12_readTerms_10 : decode cX12_readTerms 10 = .ok (.ldc 226, 2) := by decide +kernel
theorem dX12_readTerms_12 : decode cX12_readTerms 12 = .ok (.invokevirtual 133, 3) := by decide +kernel
theorem dX12_readTerms_15 : decode cX12_readTerms 15 = .ok (.ifCond .ne (-15), 3) := by decide +kernel
theorem dX12_readTerms_18 : decode cX12_readTerms 18 = .ok (.iconst 1, 1) := by decide +kernel
theorem dX12_readTerms_19 : decode cX12_readTerms 19 = .ok (.ireturn, 1) := by decide +kernel
theorem dX12_readKeys_0 : decode cX12_readKeys 0 = .ok (.aload_n 0, 1) := by decide +kernel
theorem dX12_readKeys_1 : decode cX12_readKeys 1 = .ok (.invokevirtual 106, 3) := by decide +kernel
theorem dX12_readKeys_4 : decode cX12_readKeys 4 = .ok (.aload_n 0, 1) := by decide +kernel
theorem dX12_readKeys_5 : decode cX12_readKeys 5 = .ok (.ldc 228, 2) := by decide +kernel
theorem dX12_readKeys_7 : decode cX12_readKeys 7 = .ok (.invokevirtual 109, 3) := by decide +kernel
theorem dX12_readKeys_10 : decode cX12_readKeys 10 = .ok (.ifCond .ne 5, 3) := by decide +kernel
theorem dX12_readKeys_13 : decode cX12_readKeys 13 = .ok (.iconst 0, 1) := by decide +kernel
theorem dX12_readKeys_14 : decode cX12_readKeys 14 = .ok (.ireturn, 1) := by decide +kernel
theorem dX12_readKeys_15 : decode cX12_readKeys 15 = .ok (.aload_n 0, 1) := by decide +kernel
theorem dX12_readKeys_16 : decode cX12_readKeys 16 = .ok (.invokevirtual 230, 3) := by decide +kernel
theorem dX12_readKeys_19 : decode cX12_readKeys 19 = .ok (.ifCond .ne 5, 3) := by decide +kernel
theorem dX12_readKeys_22 : decode cX12_readKeys 22 = .ok (.iconst 0, 1) := by decide +kernel
theorem dX12_readKeys_23 : decode cX12_readKeys 23 = .ok (.ireturn, 1) := by decide +kernel
theorem dX12_readKeys_24 : decode cX12_readKeys 24 = .ok (.aload_n 0, 1) := by decide +kernel
theorem dX12_readKeys_25 : decode cX12_readKeys 25 = .ok (.bipush 44, 2) := by decide +kernel
theorem dX12_readKeys_27 : decode cX12_readKeys 27 = .ok (.invokevirtual 212, 3) := by decide +kernel
theorem dX12_readKeys_30 : decode cX12_readKeys 30 = .ok (.ifCond .ne (-15), 3) := by decide +kernel
theorem dX12_readKeys_33 : decode cX12_readKeys 33 = .ok (.iconst 1, 1) := by decide +kernel
theorem dX12_readKeys_34 : decode cX12_readKeys 34 = .ok (.ireturn, 1) := by decide +kernel
theorem dX12_readQuery_0 : decode cX12_readQuery 0 = .ok (.iconst 0, 1) := by decide +kernel
theorem dX12_readQuery_1 : decode cX12_readQuery 1 = .ok (.istore_n 1, 1) := by decide +kernel
theorem dX12_readQuery_2 : decode cX12_readQuery 2 = .ok (.iload_n 1, 1) := by decide +kernel
theorem dX12_readQuery_3 : decode cX12_readQuery 3 = .ok (.bipush 23, 2) := by decide +kernel
theorem dX12_readQuery_5 : decode cX12_readQuery 5 = .ok (.if_icmp .ge 16, 3) := by decide +kernel
theorem dX12_readQuery_8 : decode cX12_readQuery 8 = .ok (.aload_n 0, 1) := by decide +kernel
theorem dX12_readQuery_9 : decode cX12_readQuery 9 = .ok (.getfield 26, 3) := by decide +kernel
theorem dX12_readQuery_12 : decode cX12_readQuery 12 = .ok (.iload_n 1, 1) := by decide +kernel
theorem dX12_readQuery_13 : decode cX12_readQuery 13 = .ok (.iconst 0, 1) := by decide +kernel
theorem dX12_readQuery_14 : decode cX12_readQuery 14 = .ok (.iastore, 1) := by decide +kernel
theorem dX12_readQuery_15 : decode cX12_readQuery 15 = .ok (.iinc 1 1, 3) := by decide +kernel
theorem dX12_readQuery_18 : decode cX12_readQuery 18 = .ok (.goto (-16), 3) := by decide +kernel
theorem dX12_readQuery_21 : decode cX12_readQuery 21 = .ok (.aload_n 0, 1) := by decide +kernel
theorem dX12_readQuery_22 : decode cX12_readQuery 22 = .ok (.getfield 26, 3) := by decide +kernel
theorem dX12_readQuery_25 : decode cX12_readQuery 25 = .ok (.iconst 0, 1) := by decide +kernel
theorem dX12_readQuery_26 : decode cX12_readQuery 26 = .ok (.aload_n 0, 1) := by decide +kernel
theorem dX12_readQuery_27 : decode cX12_readQuery 27 = .ok (.ldc 233, 2) := by decide +kernel
theorem dX12_readQuery_29 : decode cX12_readQuery 29 = .ok (.iconst 1, 1) := by decide +kernel
theorem dX12_readQuery_30 : decode cX12_readQuery 30 = .ok (.bipush 6, 2) := by decide +kernel
theorem dX12_readQuery_32 : decode cX12_readQuery 32 = .ok (.invokevirtual 124, 3) := by decide +kernel
theorem dX12_readQuery_35 : decode cX12_readQuery 35 = .ok (.iastore, 1) := by decide +kernel
theorem dX12_readQuery_36 : decode cX12_readQuery 36 = .ok (.aload_n 0, 1) := by decide +kernel
theorem dX12_readQuery_37 : decode cX12_readQuery 37 = .ok (.getfield 26, 3) := by decide +kernel
theorem dX12_readQuery_40 : decode cX12_readQuery 40 = .ok (.iconst 0, 1) := by decide +kernel
theorem dX12_readQuery_41 : decode cX12_readQuery 41 = .ok (.iaload, 1) := by decide +kernel
theorem dX12_readQuery_42 : decode cX12_readQuery 42 = .ok (.ifCond .ge 5, 3) := by decide +kernel
theorem dX12_readQuery_45 : decode cX12_readQuery 45 = .ok (.iconst 0, 1) := by decide +kernel
theorem dX12_readQuery_46 : decode cX12_readQuery 46 = .ok (.ireturn, 1) := by decide +kernel
theorem dX12_readQuery_47 : decode cX12_readQuery 47 = .ok (.aload_n 0, 1) := by decide +kernel
theorem dX12_readQuery_48 : decode cX12_readQuery 48 = .ok (.ldc 235, 2) := by decide +kernel
theorem dX12_readQuery_50 : decode cX12_readQuery 50 = .ok (.invokevirtual 133, 3) := by decide +kernel
theorem dX12_readQuery_53 : decode cX12_readQuery 53 = .ok (.ifCond .eq 12, 3) := by decide +kernel
theorem dX12_readQuery_56 : decode cX12_readQuery 56 = .ok (.aload_n 0, 1) := by decide +kernel
theorem dX12_readQuery_57 : decode cX12_readQuery 57 = .ok (.invokevirtual 237, 3) := by decide +kernel
theorem dX12_readQuery_60 : decode cX12_readQuery 60 = .ok (.ifCond .ne 5, 3) := by decide +kernel
theorem dX12_readQuery_63 : decode cX12_readQuery 63 = .ok (.iconst 0, 1) := by decide +kernel
theorem dX12_readQuery_64 : decode cX12_readQuery 64 = .ok (.ireturn, 1) := by decide +kernel
theorem dX12_readQuery_65 : decode cX12_readQuery 65 = .ok (.aload_n 0, 1) := by decide +kernel
theorem dX12_readQuery_66 : decode cX12_readQuery 66 = .ok (.ldc 240, 2) := by decide +kernel
theorem dX12_readQuery_68 : decode cX12_readQuery 68 = .ok (.invokevirtual 133, 3) := by decide +kernel
theorem dX12_readQuery_71 : decode cX12_readQuery 71 = .ok (.ifCond .eq 12, 3) := by decide +kernel
theorem dX12_readQuery_74 : decode cX12_readQuery 74 = .ok (.aload_n 0, 1) := by decide +kernel
theorem dX12_readQuery_75 : decode cX12_readQuery 75 = .ok (.invokevirtual 242, 3) := by decide +kernel
theorem dX12_readQuery_78 : decode cX12_readQuery 78 = .ok (.ifCond .ne 5, 3) := by decide +kernel
theorem dX12_readQuery_81 : decode cX12_readQuery 81 = .ok (.iconst 0, 1) := by decide +kernel
theorem dX12_readQuery_82 : decode cX12_readQuery 82 = .ok (.ireturn, 1) := by decide +kernel
theorem dX12_readQuery_83 : decode cX12_readQuery 83 = .ok (.aload_n 0, 1) := by decide +kernel
theorem dX12_readQuery_84 : decode cX12_readQuery 84 = .ok (.invokevirtual 93, 3) := by decide +kernel
theorem dX12_readQuery_87 : decode cX12_readQuery 87 = .ok (.aload_n 0, 1) := by decide +kernel
theorem dX12_readQuery_88 : decode cX12_readQuery 88 = .ok (.getfield 80, 3) := by decide +kernel
theorem dX12_readQuery_91 : decode cX12_readQuery 91 = .ok (.aload_n 0, 1) := by decide +kernel
theorem dX12_readQuery_92 : decode cX12_readQuery 92 = .ok (.getfield 83, 3) := by decide +kernel
theorem dX12_readQuery_95 : decode cX12_readQuery 95 = .ok (.if_icmp .ne 7, 3) := by decide +kernel
theorem dX12_readQuery_98 : decode cX12_readQuery 98 = .ok (.iconst 1, 1) := by decide +kernel
theorem dX12_readQuery_99 : decode cX12_readQuery 99 = .ok (.goto 4, 3) := by decide +kernel
theorem dX12_readQuery_102 : decode cX12_readQuery 102 = .ok (.iconst 0, 1) := by decide +kernel
theorem dX12_readQuery_103 : decode cX12_readQuery 103 = .ok (.ireturn, 1) := by decide +kernel
theorem dX12_query_0 : decode cX12_query 0 = .ok (.aload_n 0, 1) := by decide +kernel
theorem dX12_query_1 : decode cX12_query 1 = .ok (.invokevirtual 193, 3) := by decide +kernel
theorem dX12_query_4 : decode cX12_query 4 = .ok (.aload_n 0, 1) := by decide +kernel
theorem dX12_query_5 : decode cX12_query 5 = .ok (.aload_n 0, 1) := by decide +kernel
theorem dX12_query_6 : decode cX12_query 6 = .ok (.iload_n 1, 1) := by decide +kernel
theorem dX12_query_7 : decode cX12_query 7 = .ok (.invokevirtual 245, 3) := by decide +kernel
theorem dX12_query_10 : decode cX12_query 10 = .ok (.iconst 1, 1) := by decide +kernel
theorem dX12_query_11 : decode cX12_query 11 = .ok (.invokevirtual 199, 3) := by decide +kernel
theorem dX12_query_14 : decode cX12_query 14 = .ok (.ifCond .eq 5, 3) := by decide +kernel
theorem dX12_query_17 : decode cX12_query 17 = .ok (.iconst 0, 1) := by decide +kernel
theorem dX12_query_18 : decode cX12_query 18 = .ok (.ireturn, 1) := by decide +kernel
theorem dX12_query_19 : decode cX12_query 19 = .ok (.aload_n 0, 1) := by decide +kernel
theorem dX12_query_20 : decode cX12_query 20 = .ok (.invokevirtual 248, 3) := by decide +kernel
theorem dX12_query_23 : decode cX12_query 23 = .ok (.istore_n 2, 1) := by decide +kernel
theorem dX12_query_24 : decode cX12_query 24 = .ok (.aload_n 0, 1) := by decide +kernel
theorem dX12_query_25 : decode cX12_query 25 = .ok (.iload_n 2, 1) := by decide +kernel
theorem dX12_query_26 : decode cX12_query 26 = .ok (.ifCond .eq 7, 3) := by decide +kernel
theorem dX12_query_29 : decode cX12_query 29 = .ok (.iconst (-1), 1) := by decide +kernel
theorem dX12_query_30 : decode cX12_query 30 = .ok (.goto 7, 3) := by decide +kernel
theorem dX12_query_33 : decode cX12_query 33 = .ok (.aload_n 0, 1) := by decide +kernel
theorem dX12_query_34 : decode cX12_query 34 = .ok (.getfield 90, 3) := by decide +kernel
theorem dX12_query_37 : decode cX12_query 37 = .ok (.putfield 33, 3) := by decide +kernel
theorem dX12_query_40 : decode cX12_query 40 = .ok (.aload_n 0, 1) := by decide +kernel
theorem dX12_query_41 : decode cX12_query 41 = .ok (.iload_n 2, 1) := by decide +kernel
theorem dX12_query_42 : decode cX12_query 42 = .ok (.ifCond .ne 7, 3) := by decide +kernel
theorem dX12_query_45 : decode cX12_query 45 = .ok (.iconst 1, 1) := by decide +kernel
theorem dX12_query_46 : decode cX12_query 46 = .ok (.goto 4, 3) := by decide +kernel
theorem dX12_query_49 : decode cX12_query 49 = .ok (.iconst 0, 1) := by decide +kernel
theorem dX12_query_50 : decode cX12_query 50 = .ok (.iconst 2, 1) := by decide +kernel
theorem dX12_query_51 : decode cX12_query 51 = .ok (.invokevirtual 199, 3) := by decide +kernel
theorem dX12_query_54 : decode cX12_query 54 = .ok (.ifCond .eq 5, 3) := by decide +kernel
theorem dX12_query_57 : decode cX12_query 57 = .ok (.iconst 0, 1) := by decide +kernel
theorem dX12_query_58 : decode cX12_query 58 = .ok (.ireturn, 1) := by decide +kernel
theorem dX12_query_59 : decode cX12_query 59 = .ok (.iconst 0, 1) := by decide +kernel
theorem dX12_query_60 : decode cX12_query 60 = .ok (.istore_n 3, 1) := by decide +kernel
theorem dX12_query_61 : decode cX12_query 61 = .ok (.iload_n 3, 1) := by decide +kernel
theorem dX12_query_62 : decode cX12_query 62 = .ok (.bipush 23, 2) := by decide +kernel
theorem dX12_query_64 : decode cX12_query 64 = .ok (.if_icmp .ge 27, 3) := by decide +kernel
theorem dX12_query_67 : decode cX12_query 67 = .ok (.aload_n 0, 1) := by decide +kernel
theorem dX12_query_68 : decode cX12_query 68 = .ok (.getfield 13, 3) := by decide +kernel
theorem dX12_query_71 : decode cX12_query 71 = .ok (.iload_n 1, 1) := by decide +kernel
theorem dX12_query_72 : decode cX12_query 72 = .ok (.iconst 4, 1) := by decide +kernel
theorem dX12_query_73 : decode cX12_query 73 = .ok (.iload_n 3, 1) := by decide +kernel
theorem dX12_query_74 : decode cX12_query 74 = .ok (.iadd, 1) := by decide +kernel
theorem dX12_query_75 : decode cX12_query 75 = .ok (.invokestatic 63, 3) := by decide +kernel
theorem dX12_query_78 : decode cX12_query 78 = .ok (.aload_n 0, 1) := by decide +kernel
theorem dX12_query_79 : decode cX12_query 79 = .ok (.getfield 26, 3) := by decide +kernel
theorem dX12_query_82 : decode cX12_query 82 = .ok (.iload_n 3, 1) := by decide +kernel
theorem dX12_query_83 : decode cX12_query 83 = .ok (.iaload, 1) := by decide +kernel
theorem dX12_query_84 : decode cX12_query 84 = .ok (.iastore, 1) := by decide +kernel
theorem dX12_query_85 : decode cX12_query 85 = .ok (.iinc 3 1, 3) := by decide +kernel
theorem dX12_query_88 : decode cX12_query 88 = .ok (.goto (-27), 3) := by decide +kernel
theorem dX12_query_91 : decode cX12_query 91 = .ok (.aload_n 0, 1) := by decide +kernel
theorem dX12_query_92 : decode cX12_query 92 = .ok (.getfield 26, 3) := by decide +kernel
theorem dX12_query_95 : decode cX12_query 95 = .ok (.iconst 0, 1) := by decide +kernel
theorem dX12_query_96 : decode cX12_query 96 = .ok (.iaload, 1) := by decide +kernel
theorem dX12_query_97 : decode cX12_query 97 = .ok (.ireturn, 1) := by decide +kernel
theorem dX12_lockedBy_0 : decode cX12_lockedBy 0 = .ok (.iconst 0, 1) := by decide +kernel
theorem dX12_lockedBy_1 : decode cX12_lockedBy 1 = .ok (.istore_n 2, 1) := by decide +kernel
theorem dX12_lockedBy_2 : decode cX12_lockedBy 2 = .ok (.iconst 0, 1) := by decide +kernel
theorem dX12_lockedBy_3 : decode cX12_lockedBy 3 = .ok (.istore_n 3, 1) := by decide +kernel
theorem dX12_lockedBy_4 : decode cX12_lockedBy 4 = .ok (.iload_n 3, 1) := by decide +kernel
theorem dX12_lockedBy_5 : decode cX12_lockedBy 5 = .ok (.bipush 24, 2) := by decide +kernel
theorem dX12_lockedBy_7 : decode cX12_lockedBy 7 = .ok (.if_icmp .ge 35, 3) := by decide +kernel
theorem dX12_lockedBy_10 : decode cX12_lockedBy 10 = .ok (.iload_n 2, 1) := by decide +kernel
theorem dX12_lockedBy_11 : decode cX12_lockedBy 11 = .ok (.aload_n 0, 1) := by decide +kernel
theorem dX12_lockedBy_12 : decode cX12_lockedBy 12 = .ok (.iload_n 3, 1) := by decide +kernel
theorem dX12_lockedBy_13 : decode cX12_lockedBy 13 = .ok (.invokevirtual 59, 3) := by decide +kernel
theorem dX12_lockedBy_16 : decode cX12_lockedBy 16 = .ok (.iconst (-1), 1) := by decide +kernel
theorem dX12_lockedBy_17 : decode cX12_lockedBy 17 = .ok (.if_icmp .eq 16, 3) := by decide +kernel
theorem dX12_lockedBy_20 : decode cX12_lockedBy 20 = .ok (.aload_n 0, 1) := by decide +kernel
theorem dX12_lockedBy_21 : decode cX12_lockedBy 21 = .ok (.iload_n 3, 1) := by decide +kernel
theorem dX12_lockedBy_22 : decode cX12_lockedBy 22 = .ok (.invokevirtual 70, 3) := by decide +kernel
theorem dX12_lockedBy_25 : decode cX12_lockedBy 25 = .ok (.iload_n 1, 1) := by decide +kernel
theorem dX12_lockedBy_26 : decode cX12_lockedBy 26 = .ok (.if_icmp .ne 7, 3) := by decide +kernel
theorem dX12_lockedBy_29 : decode cX12_lockedBy 29 = .ok (.iconst 1, 1) := by decide +kernel
theorem dX12_lockedBy_30 : decode cX12_lockedBy 30 = .ok (.goto 4, 3) := by decide +kernel
theorem dX12_lockedBy_33 : decode cX12_lockedBy 33 = .ok (.iconst 0, 1) := by decide +kernel
theorem dX12_lockedBy_34 : decode cX12_lockedBy 34 = .ok (.iadd, 1) := by decide +kernel
theorem dX12_lockedBy_35 : decode cX12_lockedBy 35 = .ok (.istore_n 2, 1) := by decide +kernel
theorem dX12_lockedBy_36 : decode cX12_lockedBy 36 = .ok (.iinc 3 1, 3) := by decide +kernel
theorem dX12_lockedBy_39 : decode cX12_lockedBy 39 = .ok (.goto (-35), 3) := by decide +kernel
theorem dX12_lockedBy_42 : decode cX12_lockedBy 42 = .ok (.iload_n 2, 1) := by decide +kernel
theorem dX12_lockedBy_43 : decode cX12_lockedBy 43 = .ok (.ireturn, 1) := by decide +kernel
theorem dX12_opened_0 : decode cX12_opened 0 = .ok (.iconst 0, 1) := by decide +kernel
theorem dX12_opened_1 : decode cX12_opened 1 = .ok (.istore_n 1, 1) := by decide +kernel
theorem dX12_opened_2 : decode cX12_opened 2 = .ok (.iconst 0, 1) := by decide +kernel
theorem dX12_opened_3 : decode cX12_opened 3 = .ok (.istore_n 2, 1) := by decide +kernel
theorem dX12_opened_4 : decode cX12_opened 4 = .ok (.iload_n 2, 1) := by decide +kernel
theorem dX12_opened_5 : decode cX12_opened 5 = .ok (.aload_n 0, 1) := by decide +kernel
theorem dX12_opened_6 : decode cX12_opened 6 = .ok (.getfield 13, 3) := by decide +kernel
theorem dX12_opened_9 : decode cX12_opened 9 = .ok (.iconst 0, 1) := by decide +kernel
theorem dX12_opened_10 : decode cX12_opened 10 = .ok (.iaload, 1) := by decide +kernel
theorem dX12_opened_11 : decode cX12_opened 11 = .ok (.if_icmp .ge 25, 3) := by decide +kernel
theorem dX12_opened_14 : decode cX12_opened 14 = .ok (.iload_n 1, 1) := by decide +kernel
theorem dX12_opened_15 : decode cX12_opened 15 = .ok (.aload_n 0, 1) := by decide +kernel
theorem dX12_opened_16 : decode cX12_opened 16 = .ok (.iload_n 2, 1) := by decide +kernel
theorem dX12_opened_17 : decode cX12_opened 17 = .ok (.invokevirtual 251, 3) := by decide +kernel
theorem dX12_opened_20 : decode cX12_opened 20 = .ok (.ifCond .eq 7, 3) := by decide +kernel
theorem dX12_opened_23 : decode cX12_opened 23 = .ok (.iconst 1, 1) := by decide +kernel
theorem dX12_opened_24 : decode cX12_opened 24 = .ok (.goto 4, 3) := by decide +kernel
theorem dX12_opened_27 : decode cX12_opened 27 = .ok (.iconst 0, 1) := by decide +kernel
theorem dX12_opened_28 : decode cX12_opened 28 = .ok (.iadd, 1) := by decide +kernel
theorem dX12_opened_29 : decode cX12_opened 29 = .ok (.istore_n 1, 1) := by decide +kernel
theorem dX12_opened_30 : decode cX12_opened 30 = .ok (.iinc 2 1, 3) := by decide +kernel
theorem dX12_opened_33 : decode cX12_opened 33 = .ok (.goto (-29), 3) := by decide +kernel
theorem dX12_opened_36 : decode cX12_opened 36 = .ok (.iload_n 1, 1) := by decide +kernel
theorem dX12_opened_37 : decode cX12_opened 37 = .ok (.ireturn, 1) := by decide +kernel
theorem dX12_locks_0 : decode cX12_locks 0 = .ok (.aload_n 0, 1) := by decide +kernel
theorem dX12_locks_1 : decode cX12_locks 1 = .ok (.iload_n 1, 1) := by decide +kernel
theorem dX12_locks_2 : decode cX12_locks 2 = .ok (.invokevirtual 70, 3) := by decide +kernel
theorem dX12_locks_5 : decode cX12_locks 5 = .ok (.iload_n 2, 1) := by decide +kernel
theorem dX12_locks_6 : decode cX12_locks 6 = .ok (.if_icmp .eq 20, 3) := by decide +kernel
theorem dX12_locks_9 : decode cX12_locks 9 = .ok (.aload_n 0, 1) := by decide +kernel
theorem dX12_locks_10 : decode cX12_locks 10 = .ok (.iload_n 1, 1) := by decide +kernel
theorem dX12_locks_11 : decode cX12_locks 11 = .ok (.iconst 3, 1) := by decide +kernel
theorem dX12_locks_12 : decode cX12_locks 12 = .ok (.invokestatic 51, 3) := by decide +kernel
theorem dX12_locks_15 : decode cX12_locks 15 = .ok (.iload_n 1, 1) := by decide +kernel
theorem dX12_locks_16 : decode cX12_locks 16 = .ok (.bipush 25, 2) := by decide +kernel
theorem dX12_locks_18 : decode cX12_locks 18 = .ok (.invokestatic 51, 3) := by decide +kernel
theorem dX12_locks_21 : decode cX12_locks 21 = .ok (.bipush 22, 2) := by decide +kernel
theorem dX12_locks_23 : decode cX12_locks 23 = .ok (.invokevirtual 254, 3) := by decide +kernel
theorem dX12_locks_26 : decode cX12_locks 26 = .ok (.aload_n 0, 1) := by decide +kernel
theorem dX12_locks_27 : decode cX12_locks 27 = .ok (.getfield 13, 3) := by decide +kernel
theorem dX12_locks_30 : decode cX12_locks 30 = .ok (.iload_n 1, 1) := by decide +kernel
theorem dX12_locks_31 : decode cX12_locks 31 = .ok (.iconst 2, 1) := by decide +kernel
theorem dX12_locks_32 : decode cX12_locks 32 = .ok (.invokestatic 51, 3) := by decide +kernel
theorem dX12_locks_35 : decode cX12_locks 35 = .ok (.iload_n 2, 1) := by decide +kernel
theorem dX12_locks_36 : decode cX12_locks 36 = .ok (.iastore, 1) := by decide +kernel
theorem dX12_locks_37 : decode cX12_locks 37 = .ok (.iload_n 1, 1) := by decide +kernel
theorem dX12_locks_38 : decode cX12_locks 38 = .ok (.bipush 25, 2) := by decide +kernel
theorem dX12_locks_40 : decode cX12_locks 40 = .ok (.invokestatic 51, 3) := by decide +kernel
theorem dX12_locks_43 : decode cX12_locks 43 = .ok (.ireturn, 1) := by decide +kernel
theorem dX12_frees_0 : decode cX12_frees 0 = .ok (.aload_n 0, 1) := by decide +kernel
theorem dX12_frees_1 : decode cX12_frees 1 = .ok (.getfield 13, 3) := by decide +kernel
theorem dX12_frees_4 : decode cX12_frees 4 = .ok (.iload_n 1, 1) := by decide +kernel
theorem dX12_frees_5 : decode cX12_frees 5 = .ok (.iconst 2, 1) := by decide +kernel
theorem dX12_frees_6 : decode cX12_frees 6 = .ok (.invokestatic 51, 3) := by decide +kernel
theorem dX12_frees_9 : decode cX12_frees 9 = .ok (.iconst (-1), 1) := by decide +kernel
theorem dX12_frees_10 : decode cX12_frees 10 = .ok (.iastore, 1) := by decide +kernel
theorem dX12_frees_11 : decode cX12_frees 11 = .ok (.aload_n 0, 1) := by decide +kernel
theorem dX12_frees_12 : decode cX12_frees 12 = .ok (.iload_n 1, 1) := by decide +kernel
theorem dX12_frees_13 : decode cX12_frees 13 = .ok (.invokevirtual 73, 3) := by decide +kernel
theorem dX12_frees_16 : decode cX12_frees 16 = .ok (.ifCond .ne 14, 3) := by decide +kernel
theorem dX12_frees_19 : decode cX12_frees 19 = .ok (.aload_n 0, 1) := by decide +kernel
theorem dX12_frees_20 : decode cX12_frees 20 = .ok (.getfield 13, 3) := by decide +kernel
theorem dX12_frees_23 : decode cX12_frees 23 = .ok (.iload_n 1, 1) := by decide +kernel
theorem dX12_frees_24 : decode cX12_frees 24 = .ok (.iconst 0, 1) := by decide +kernel
theorem dX12_frees_25 : decode cX12_frees 25 = .ok (.invokestatic 51, 3) := by decide +kernel
theorem dX12_frees_28 : decode cX12_frees 28 = .ok (.iconst (-1), 1) := by decide +kernel
theorem dX12_frees_29 : decode cX12_frees 29 = .ok (.iastore, 1) := by decide +kernel
theorem dX12_frees_30 : decode cX12_frees 30 = .ok (.return_, 1) := by decide +kernel
theorem dX12_isTold_0 : decode cX12_isTold 0 = .ok (.sipush 299, 3) := by decide +kernel
theorem dX12_isTold_3 : decode cX12_isTold 3 = .ok (.istore_n 2, 1) := by decide +kernel
theorem dX12_isTold_4 : decode cX12_isTold 4 = .ok (.iload_n 2, 1) := by decide +kernel
theorem dX12_isTold_5 : decode cX12_isTold 5 = .ok (.iconst 5, 1) := by decide +kernel
theorem dX12_isTold_6 : decode cX12_isTold 6 = .ok (.if_icmp .lt 31, 3) := by decide +kernel
theorem dX12_isTold_9 : decode cX12_isTold 9 = .ok (.aload_n 0, 1) := by decide +kernel
theorem dX12_isTold_10 : decode cX12_isTold 10 = .ok (.getfield 13, 3) := by decide +kernel
theorem dX12_isTold_13 : decode cX12_isTold 13 = .ok (.sipush 1289, 3) := by decide +kernel
theorem dX12_isTold_16 : decode cX12_isTold 16 = .ok (.iload_n 2, 1) := by decide +kernel
theorem dX12_isTold_17 : decode cX12_isTold 17 = .ok (.iadd, 1) := by decide +kernel
theorem dX12_isTold_18 : decode cX12_isTold 18 = .ok (.aload_n 0, 1) := by decide +kernel
theorem dX12_isTold_19 : decode cX12_isTold 19 = .ok (.getfield 13, 3) := by decide +kernel
theorem dX12_isTold_22 : decode cX12_isTold 22 = .ok (.sipush 1289, 3) := by decide +kernel
theorem dX12_isTold_25 : decode cX12_isTold 25 = .ok (.iload_n 2, 1) := by decide +kernel
theorem dX12_isTold_26 : decode cX12_isTold 26 = .ok (.iadd, 1) := by decide +kernel
theorem dX12_isTold_27 : decode cX12_isTold 27 = .ok (.iconst 5, 1) := by decide +kernel
theorem dX12_isTold_28 : decode cX12_isTold 28 = .ok (.isub, 1) := by decide +kernel
theorem dX12_isTold_29 : decode cX12_isTold 29 = .ok (.iaload, 1) := by decide +kernel
theorem dX12_isTold_30 : decode cX12_isTold 30 = .ok (.iastore, 1) := by decide +kernel
theorem dX12_isTold_31 : decode cX12_isTold 31 = .ok (.iinc 2 (-1), 3) := by decide +kernel
theorem dX12_isTold_34 : decode cX12_isTold 34 = .ok (.goto (-30), 3) := by decide +kernel
theorem dX12_isTold_37 : decode cX12_isTold 37 = .ok (.iload_n 1, 1) := by decide +kernel
theorem dX12_isTold_38 : decode cX12_isTold 38 = .ok (.iconst 3, 1) := by decide +kernel
theorem dX12_isTold_39 : decode cX12_isTold 39 = .ok (.invokestatic 51, 3) := by decide +kernel
theorem dX12_isTold_42 : decode cX12_isTold 42 = .ok (.istore_n 2, 1) := by decide +kernel
theorem dX12_isTold_43 : decode cX12_isTold 43 = .ok (.aload_n 0, 1) := by decide +kernel
theorem dX12_isTold_44 : decode cX12_isTold 44 = .ok (.getfield 13, 3) := by decide +kernel
theorem dX12_isTold_47 : decode cX12_isTold 47 = .ok (.sipush 1289, 3) := by decide +kernel
theorem dX12_isTold_50 : decode cX12_isTold 50 = .ok (.aload_n 0, 1) := by decide +kernel
theorem dX12_isTold_51 : decode cX12_isTold 51 = .ok (.getfield 13, 3) := by decide +kernel
theorem dX12_isTold_54 : decode cX12_isTold 54 = .ok (.iconst 3, 1) := by decide +kernel
theorem dX12_isTold_55 : decode cX12_isTold 55 = .ok (.iaload, 1) := by decide +kernel
theorem dX12_isTold_56 : decode cX12_isTold 56 = .ok (.iastore, 1) := by decide +kernel
theorem dX12_isTold_57 : decode cX12_isTold 57 = .ok (.aload_n 0, 1) := by decide +kernel
theorem dX12_isTold_58 : decode cX12_isTold 58 = .ok (.getfield 13, 3) := by decide +kernel
theorem dX12_isTold_61 : decode cX12_isTold 61 = .ok (.sipush 1290, 3) := by decide +kernel
theorem dX12_isTold_64 : decode cX12_isTold 64 = .ok (.aload_n 0, 1) := by decide +kernel
theorem dX12_isTold_65 : decode cX12_isTold 65 = .ok (.iload_n 1, 1) := by decide +kernel
theorem dX12_isTold_66 : decode cX12_isTold 66 = .ok (.invokevirtual 59, 3) := by decide +kernel
theorem dX12_isTold_69 : decode cX12_isTold 69 = .ok (.iastore, 1) := by decide +kernel
theorem dX12_isTold_70 : decode cX12_isTold 70 = .ok (.aload_n 0, 1) := by decide +kernel
theorem dX12_isTold_71 : decode cX12_isTold 71 = .ok (.getfield 13, 3) := by decide +kernel
theorem dX12_isTold_74 : decode cX12_isTold 74 = .ok (.sipush 1291, 3) := by decide +kernel
theorem dX12_isTold_77 : decode cX12_isTold 77 = .ok (.aload_n 0, 1) := by decide +kernel
theorem dX12_isTold_78 : decode cX12_isTold 78 = .ok (.getfield 13, 3) := by decide +kernel
theorem dX12_isTold_81 : decode cX12_isTold 81 = .ok (.iload_n 2, 1) := by decide +kernel
theorem dX12_isTold_82 : decode cX12_isTold 82 = .ok (.iconst 3, 1) := by decide +kernel
theorem dX12_isTold_83 : decode cX12_isTold 83 = .ok (.iadd, 1) := by decide +kernel
theorem dX12_isTold_84 : decode cX12_isTold 84 = .ok (.iaload, 1) := by decide +kernel
theorem dX12_isTold_85 : decode cX12_isTold 85 = .ok (.iastore, 1) := by decide +kernel
theorem dX12_isTold_86 : decode cX12_isTold 86 = .ok (.aload_n 0, 1) := by decide +kernel
theorem dX12_isTold_87 : decode cX12_isTold 87 = .ok (.getfield 13, 3) := by decide +kernel
theorem dX12_isTold_90 : decode cX12_isTold 90 = .ok (.sipush 1292, 3) := by decide +kernel
theorem dX12_isTold_93 : decode cX12_isTold 93 = .ok (.aload_n 0, 1) := by decide +kernel
theorem dX12_isTold_94 : decode cX12_isTold 94 = .ok (.getfield 13, 3) := by decide +kernel
theorem dX12_isTold_97 : decode cX12_isTold 97 = .ok (.iload_n 2, 1) := by decide +kernel
theorem dX12_isTold_98 : decode cX12_isTold 98 = .ok (.bipush 8, 2) := by decide +kernel
theorem dX12_isTold_100 : decode cX12_isTold 100 = .ok (.iadd, 1) := by decide +kernel
theorem dX12_isTold_101 : decode cX12_isTold 101 = .ok (.iaload, 1) := by decide +kernel
theorem dX12_isTold_102 : decode cX12_isTold 102 = .ok (.iastore, 1) := by decide +kernel
theorem dX12_isTold_103 : decode cX12_isTold 103 = .ok (.aload_n 0, 1) := by decide +kernel
theorem dX12_isTold_104 : decode cX12_isTold 104 = .ok (.getfield 13, 3) := by decide +kernel
theorem dX12_isTold_107 : decode cX12_isTold 107 = .ok (.sipush 1293, 3) := by decide +kernel
theorem dX12_isTold_110 : decode cX12_isTold 110 = .ok (.aload_n 0, 1) := by decide +kernel
theorem dX12_isTold_111 : decode cX12_isTold 111 = .ok (.getfield 13, 3) := by decide +kernel
theorem dX12_isTold_114 : decode cX12_isTold 114 = .ok (.iload_n 2, 1) := by decide +kernel
theorem dX12_isTold_115 : decode cX12_isTold 115 = .ok (.bipush 9, 2) := by decide +kernel
theorem dX12_isTold_117 : decode cX12_isTold 117 = .ok (.iadd, 1) := by decide +kernel
theorem dX12_isTold_118 : decode cX12_isTold 118 = .ok (.iaload, 1) := by decide +kernel
theorem dX12_isTold_119 : decode cX12_isTold 119 = .ok (.iastore, 1) := by decide +kernel
theorem dX12_isTold_120 : decode cX12_isTold 120 = .ok (.aload_n 0, 1) := by decide +kernel
theorem dX12_isTold_121 : decode cX12_isTold 121 = .ok (.getfield 13, 3) := by decide +kernel
theorem dX12_isTold_124 : decode cX12_isTold 124 = .ok (.bipush 14, 2) := by decide +kernel
theorem dX12_isTold_126 : decode cX12_isTold 126 = .ok (.bipush 60, 2) := by decide +kernel
theorem dX12_isTold_128 : decode cX12_isTold 128 = .ok (.aload_n 0, 1) := by decide +kernel
theorem dX12_isTold_129 : decode cX12_isTold 129 = .ok (.getfield 13, 3) := by decide +kernel
theorem dX12_isTold_132 : decode cX12_isTold 132 = .ok (.bipush 14, 2) := by decide +kernel
theorem dX12_isTold_134 : decode cX12_isTold 134 = .ok (.iaload, 1) := by decide +kernel
theorem dX12_isTold_135 : decode cX12_isTold 135 = .ok (.iconst 1, 1) := by decide +kernel
theorem dX12_isTold_136 : decode cX12_isTold 136 = .ok (.iadd, 1) := by decide +kernel
theorem dX12_isTold_137 : decode cX12_isTold 137 = .ok (.invokestatic 258, 3) := by decide +kernel
theorem dX12_isTold_140 : decode cX12_isTold 140 = .ok (.iastore, 1) := by decide +kernel
theorem dX12_isTold_141 : decode cX12_isTold 141 = .ok (.return_, 1) := by decide +kernel
theorem dX12_isCommitted_0 : decode cX12_isCommitted 0 = .ok (.iconst 0, 1) := by decide +kernel
theorem dX12_isCommitted_1 : decode cX12_isCommitted 1 = .ok (.istore_n 2, 1) := by decide +kernel
theorem dX12_isCommitted_2 : decode cX12_isCommitted 2 = .ok (.aload_n 0, 1) := by decide +kernel
theorem dX12_isCommitted_3 : decode cX12_isCommitted 3 = .ok (.iconst (-1), 1) := by decide +kernel
theorem dX12_isCommitted_4 : decode cX12_isCommitted 4 = .ok (.invokevirtual 263, 3) := by decide +kernel
theorem dX12_isCommitted_7 : decode cX12_isCommitted 7 = .ok (.istore_n 3, 1) := by decide +kernel
theorem dX12_isCommitted_8 : decode cX12_isCommitted 8 = .ok (.iload_n 3, 1) := by decide +kernel
theorem dX12_isCommitted_9 : decode cX12_isCommitted 9 = .ok (.iconst (-1), 1) := by decide +kernel
theorem dX12_isCommitted_10 : decode cX12_isCommitted 10 = .ok (.if_icmp .eq 69, 3) := by decide +kernel
theorem dX12_isCommitted_13 : decode cX12_isCommitted 13 = .ok (.aload_n 0, 1) := by decide +kernel
theorem dX12_isCommitted_14 : decode cX12_isCommitted 14 = .ok (.iload_n 3, 1) := by decide +kernel
theorem dX12_isCommitted_15 : decode cX12_isCommitted 15 = .ok (.invokevirtual 70, 3) := by decide +kernel
theorem dX12_isCommitted_18 : decode cX12_isCommitted 18 = .ok (.iload_n 1, 1) := by decide +kernel
theorem dX12_isCommitted_19 : decode cX12_isCommitted 19 = .ok (.if_icmp .eq 6, 3) := by decide +kernel
theorem dX12_isCommitted_22 : decode cX12_isCommitted 22 = .ok (.goto 44, 3) := by decide +kernel
theorem dX12_isCommitted_25 : decode cX12_isCommitted 25 = .ok (.aload_n 0, 1) := by decide +kernel
theorem dX12_isCommitted_26 : decode cX12_isCommitted 26 = .ok (.iload_n 3, 1) := by decide +kernel
theorem dX12_isCommitted_27 : decode cX12_isCommitted 27 = .ok (.bipush 25, 2) := by decide +kernel
theorem dX12_isCommitted_29 : decode cX12_isCommitted 29 = .ok (.invokestatic 51, 3) := by decide +kernel
theorem dX12_isCommitted_32 : decode cX12_isCommitted 32 = .ok (.iload_n 3, 1) := by decide +kernel
theorem dX12_isCommitted_33 : decode cX12_isCommitted 33 = .ok (.iconst 3, 1) := by decide +kernel
theorem dX12_isCommitted_34 : decode cX12_isCommitted 34 = .ok (.invokestatic 51, 3) := by decide +kernel
theorem dX12_isCommitted_37 : decode cX12_isCommitted 37 = .ok (.bipush 22, 2) := by decide +kernel
theorem dX12_isCommitted_39 : decode cX12_isCommitted 39 = .ok (.invokevirtual 254, 3) := by decide +kernel
theorem dX12_isCommitted_42 : decode cX12_isCommitted 42 = .ok (.aload_n 0, 1) := by decide +kernel
theorem dX12_isCommitted_43 : decode cX12_isCommitted 43 = .ok (.getfield 13, 3) := by decide +kernel
theorem dX12_isCommitted_46 : decode cX12_isCommitted 46 = .ok (.iload_n 3, 1) := by decide +kernel
theorem dX12_isCommitted_47 : decode cX12_isCommitted 47 = .ok (.iconst 1, 1) := by decide +kernel
theorem dX12_isCommitted_48 : decode cX12_isCommitted 48 = .ok (.invokestatic 51, 3) := by decide +kernel
theorem dX12_isCommitted_51 : decode cX12_isCommitted 51 = .ok (.iconst 1, 1) := by decide +kernel
theorem dX12_isCommitted_52 : decode cX12_isCommitted 52 = .ok (.iastore, 1) := by decide +kernel
theorem dX12_isCommitted_53 : decode cX12_isCommitted 53 = .ok (.aload_n 0, 1) := by decide +kernel
theorem dX12_isCommitted_54 : decode cX12_isCommitted 54 = .ok (.iload_n 3, 1) := by decide +kernel
theorem dX12_isCommitted_55 : decode cX12_isCommitted 55 = .ok (.invokevirtual 266, 3) := by decide +kernel
theorem dX12_isCommitted_58 : decode cX12_isCommitted 58 = .ok (.aload_n 0, 1) := by decide +kernel
theorem dX12_isCommitted_59 : decode cX12_isCommitted 59 = .ok (.iload_n 3, 1) := by decide +kernel
theorem dX12_isCommitted_60 : decode cX12_isCommitted 60 = .ok (.invokevirtual 270, 3) := by decide +kernel
theorem dX12_isCommitted_63 : decode cX12_isCommitted 63 = .ok (.iinc 2 1, 3) := by decide +kernel
theorem dX12_isCommitted_66 : decode cX12_isCommitted 66 = .ok (.aload_n 0, 1) := by decide +kernel
theorem dX12_isCommitted_67 : decode cX12_isCommitted 67 = .ok (.aload_n 0, 1) := by decide +kernel
theorem dX12_isCommitted_68 : decode cX12_isCommitted 68 = .ok (.iload_n 3, 1) := by decide +kernel
theorem dX12_isCommitted_69 : decode cX12_isCommitted 69 = .ok (.invokevirtual 59, 3) := by decide +kernel
theorem dX12_isCommitted_72 : decode cX12_isCommitted 72 = .ok (.invokevirtual 263, 3) := by decide +kernel
theorem dX12_isCommitted_75 : decode cX12_isCommitted 75 = .ok (.istore_n 3, 1) := by decide +kernel
theorem dX12_isCommitted_76 : decode cX12_isCommitted 76 = .ok (.goto (-68), 3) := by decide +kernel
theorem dX12_isCommitted_79 : decode cX12_isCommitted 79 = .ok (.aload_n 0, 1) := by decide +kernel
theorem dX12_isCommitted_80 : decode cX12_isCommitted 80 = .ok (.getfield 13, 3) := by decide +kernel
theorem dX12_isCommitted_83 : decode cX12_isCommitted 83 = .ok (.iload_n 1, 1) := by decide +kernel
theorem dX12_isCommitted_84 : decode cX12_isCommitted 84 = .ok (.iconst 2, 1) := by decide +kernel
theorem dX12_isCommitted_85 : decode cX12_isCommitted 85 = .ok (.invokestatic 63, 3) := by decide +kernel
theorem dX12_isCommitted_88 : decode cX12_isCommitted 88 = .ok (.iconst 0, 1) := by decide +kernel
theorem dX12_isCommitted_89 : decode cX12_isCommitted 89 = .ok (.iastore, 1) := by decide +kernel
theorem dX12_isCommitted_90 : decode cX12_isCommitted 90 = .ok (.aload_n 0, 1) := by decide +kernel
theorem dX12_isCommitted_91 : decode cX12_isCommitted 91 = .ok (.getfield 13, 3) := by decide +kernel
theorem dX12_isCommitted_94 : decode cX12_isCommitted 94 = .ok (.iload_n 1, 1) := by decide +kernel
theorem dX12_isCommitted_95 : decode cX12_isCommitted 95 = .ok (.iconst 3, 1) := by decide +kernel
theorem dX12_isCommitted_96 : decode cX12_isCommitted 96 = .ok (.invokestatic 63, 3) := by decide +kernel
theorem dX12_isCommitted_99 : decode cX12_isCommitted 99 = .ok (.iconst 0, 1) := by decide +kernel
theorem dX12_isCommitted_100 : decode cX12_isCommitted 100 = .ok (.iastore, 1) := by decide +kernel
theorem dX12_isCommitted_101 : decode cX12_isCommitted 101 = .ok (.iload_n 2, 1) := by decide +kernel
theorem dX12_isCommitted_102 : decode cX12_isCommitted 102 = .ok (.ireturn, 1) := by decide +kernel
theorem dX12_isDone_0 : decode cX12_isDone 0 = .ok (.aload_n 0, 1) := by decide +kernel
theorem dX12_isDone_1 : decode cX12_isDone 1 = .ok (.iload_n 1, 1) := by decide +kernel
theorem dX12_isDone_2 : decode cX12_isDone 2 = .ok (.invokevirtual 251, 3) := by decide +kernel
theorem dX12_isDone_5 : decode cX12_isDone 5 = .ok (.ifCond .ne 9, 3) := by decide +kernel
theorem dX12_isDone_8 : decode cX12_isDone 8 = .ok (.aload_n 0, 1) := by decide +kernel
theorem dX12_isDone_9 : decode cX12_isDone 9 = .ok (.iload_n 1, 1) := by decide +kernel
theorem dX12_isDone_10 : decode cX12_isDone 10 = .ok (.invokevirtual 273, 3) := by decide +kernel
theorem dX12_isDone_13 : decode cX12_isDone 13 = .ok (.pop, 1) := by decide +kernel
theorem dX12_isDone_14 : decode cX12_isDone 14 = .ok (.return_, 1) := by decide +kernel
theorem dX12_refuses_0 : decode cX12_refuses 0 = .ok (.aload_n 0, 1) := by decide +kernel
theorem dX12_refuses_1 : decode cX12_refuses 1 = .ok (.iload_n 1, 1) := by decide +kernel
theorem dX12_refuses_2 : decode cX12_refuses 2 = .ok (.putfield 116, 3) := by decide +kernel
theorem dX12_refuses_5 : decode cX12_refuses 5 = .ok (.aload_n 0, 1) := by decide +kernel
theorem dX12_refuses_6 : decode cX12_refuses 6 = .ok (.iload_n 1, 1) := by decide +kernel
theorem dX12_refuses_7 : decode cX12_refuses 7 = .ok (.ifCond .eq 7, 3) := by decide +kernel
theorem dX12_refuses_10 : decode cX12_refuses 10 = .ok (.iconst 1, 1) := by decide +kernel
theorem dX12_refuses_11 : decode cX12_refuses 11 = .ok (.goto 4, 3) := by decide +kernel
theorem dX12_refuses_14 : decode cX12_refuses 14 = .ok (.iconst 0, 1) := by decide +kernel
theorem dX12_refuses_15 : decode cX12_refuses 15 = .ok (.iload_n 2, 1) := by decide +kernel
theorem dX12_refuses_16 : decode cX12_refuses 16 = .ok (.invokevirtual 199, 3) := by decide +kernel
theorem dX12_refuses_19 : decode cX12_refuses 19 = .ok (.ireturn, 1) := by decide +kernel
theorem dX12_begin_0 : decode cX12_begin 0 = .ok (.aload_n 0, 1) := by decide +kernel
theorem dX12_begin_1 : decode cX12_begin 1 = .ok (.iconst 0, 1) := by decide +kernel
theorem dX12_begin_2 : decode cX12_begin 2 = .ok (.putfield 3, 3) := by decide +kernel
theorem dX12_begin_5 : decode cX12_begin 5 = .ok (.aload_n 0, 1) := by decide +kernel
theorem dX12_begin_6 : decode cX12_begin 6 = .ok (.aload_n 0, 1) := by decide +kernel
theorem dX12_begin_7 : decode cX12_begin 7 = .ok (.iload_n 1, 1) := by decide +kernel
theorem dX12_begin_8 : decode cX12_begin 8 = .ok (.invokevirtual 245, 3) := by decide +kernel
theorem dX12_begin_11 : decode cX12_begin 11 = .ok (.iconst 1, 1) := by decide +kernel
theorem dX12_begin_12 : decode cX12_begin 12 = .ok (.invokevirtual 199, 3) := by decide +kernel
theorem dX12_begin_15 : decode cX12_begin 15 = .ok (.ifCond .ne 24, 3) := by decide +kernel
theorem dX12_begin_18 : decode cX12_begin 18 = .ok (.aload_n 0, 1) := by decide +kernel
theorem dX12_begin_19 : decode cX12_begin 19 = .ok (.aload_n 0, 1) := by decide +kernel
theorem dX12_begin_20 : decode cX12_begin 20 = .ok (.iload_n 1, 1) := by decide +kernel
theorem dX12_begin_21 : decode cX12_begin 21 = .ok (.invokevirtual 251, 3) := by decide +kernel
theorem dX12_begin_24 : decode cX12_begin 24 = .ok (.ifCond .eq 7, 3) := by decide +kernel
theorem dX12_begin_27 : decode cX12_begin 27 = .ok (.iconst 1, 1) := by decide +kernel
theorem dX12_begin_28 : decode cX12_begin 28 = .ok (.goto 4, 3) := by decide +kernel
theorem dX12_begin_31 : decode cX12_begin 31 = .ok (.iconst 0, 1) := by decide +kernel
theorem dX12_begin_32 : decode cX12_begin 32 = .ok (.iconst 2, 1) := by decide +kernel
theorem dX12_begin_33 : decode cX12_begin 33 = .ok (.invokevirtual 276, 3) := by decide +kernel
theorem dX12_begin_36 : decode cX12_begin 36 = .ok (.ifCond .eq 5, 3) := by decide +kernel
theorem dX12_begin_39 : decode cX12_begin 39 = .ok (.iconst 0, 1) := by decide +kernel
theorem dX12_begin_40 : decode cX12_begin 40 = .ok (.ireturn, 1) := by decide +kernel
theorem dX12_begin_41 : decode cX12_begin 41 = .ok (.aload_n 0, 1) := by decide +kernel
theorem dX12_begin_42 : decode cX12_begin 42 = .ok (.getfield 13, 3) := by decide +kernel
theorem dX12_begin_45 : decode cX12_begin 45 = .ok (.iload_n 1, 1) := by decide +kernel
theorem dX12_begin_46 : decode cX12_begin 46 = .ok (.iconst 2, 1) := by decide +kernel
theorem dX12_begin_47 : decode cX12_begin 47 = .ok (.invokestatic 63, 3) := by decide +kernel
theorem dX12_begin_50 : decode cX12_begin 50 = .ok (.iconst 1, 1) := by decide +kernel
theorem dX12_begin_51 : decode cX12_begin 51 = .ok (.iastore, 1) := by decide +kernel
theorem dX12_begin_52 : decode cX12_begin 52 = .ok (.aload_n 0, 1) := by decide +kernel
theorem dX12_begin_53 : decode cX12_begin 53 = .ok (.getfield 13, 3) := by decide +kernel
theorem dX12_begin_56 : decode cX12_begin 56 = .ok (.iload_n 1, 1) := by decide +kernel
theorem dX12_begin_57 : decode cX12_begin 57 = .ok (.iconst 3, 1) := by decide +kernel
theorem dX12_begin_58 : decode cX12_begin 58 = .ok (.invokestatic 63, 3) := by decide +kernel
theorem dX12_begin_61 : decode cX12_begin 61 = .ok (.iconst 0, 1) := by decide +kernel
theorem dX12_begin_62 : decode cX12_begin 62 = .ok (.iastore, 1) := by decide +kernel
theorem dX12_begin_63 : decode cX12_begin 63 = .ok (.aload_n 0, 1) := by decide +kernel
theorem dX12_begin_64 : decode cX12_begin 64 = .ok (.invokevirtual 279, 3) := by decide +kernel
theorem dX12_begin_67 : decode cX12_begin 67 = .ok (.ireturn, 1) := by decide +kernel
theorem dX12_saveAt_0 : decode cX12_saveAt 0 = .ok (.sipush 1589, 3) := by decide +kernel
theorem dX12_saveAt_3 : decode cX12_saveAt 3 = .ok (.sipush 552, 3) := by decide +kernel
theorem dX12_saveAt_6 : decode cX12_saveAt 6 = .ok (.iconst 4, 1) := by decide +kernel
theorem dX12_saveAt_7 : decode cX12_saveAt 7 = .ok (.iload_n 0, 1) := by decide +kernel
theorem dX12_saveAt_8 : decode cX12_saveAt 8 = .ok (.imul, 1) := by decide +kernel
theorem dX12_saveAt_9 : decode cX12_saveAt 9 = .ok (.iload_n 1, 1) := by decide +kernel
theorem dX12_saveAt_10 : decode cX12_saveAt 10 = .ok (.iadd, 1) := by decide +kernel
theorem dX12_saveAt_11 : decode cX12_saveAt 11 = .ok (.imul, 1) := by decide +kernel
theorem dX12_saveAt_12 : decode cX12_saveAt 12 = .ok (.iadd, 1) := by decide +kernel
theorem dX12_saveAt_13 : decode cX12_saveAt 13 = .ok (.bipush 23, 2) := by decide +kernel
theorem dX12_saveAt_15 : decode cX12_saveAt 15 = .ok (.iload_n 2, 1) := by decide +kernel
theorem dX12_saveAt_16 : decode cX12_saveAt 16 = .ok (.imul, 1) := by decide +kernel
theorem dX12_saveAt_17 : decode cX12_saveAt 17 = .ok (.iadd, 1) := by decide +kernel
theorem dX12_saveAt_18 : decode cX12_saveAt 18 = .ok (.ireturn, 1) := by decide +kernel
theorem dX12_save_0 : decode cX12_save 0 = .ok (.aload_n 0, 1) := by decide +kernel
theorem dX12_save_1 : decode cX12_save 1 = .ok (.iconst 0, 1) := by decide +kernel
theorem dX12_save_2 : decode cX12_save 2 = .ok (.putfield 3, 3) := by decide +kernel
theorem dX12_save_5 : decode cX12_save 5 = .ok (.aload_n 0, 1) := by decide +kernel
theorem dX12_save_6 : decode cX12_save 6 = .ok (.aload_n 0, 1) := by decide +kernel
theorem dX12_save_7 : decode cX12_save 7 = .ok (.iload_n 1, 1) := by decide +kernel
theorem dX12_save_8 : decode cX12_save 8 = .ok (.invokevirtual 245, 3) := by decide +kernel
theorem dX12_save_11 : decode cX12_save 11 = .ok (.iconst 1, 1) := by decide +kernel
theorem dX12_save_12 : decode cX12_save 12 = .ok (.invokevirtual 199, 3) := by decide +kernel
theorem dX12_save_15 : decode cX12_save 15 = .ok (.ifCond .ne 38, 3) := by decide +kernel
theorem dX12_save_18 : decode cX12_save 18 = .ok (.aload_n 0, 1) := by decide +kernel
theorem dX12_save_19 : decode cX12_save 19 = .ok (.aload_n 0, 1) := by decide +kernel
theorem dX12_save_20 : decode cX12_save 20 = .ok (.iload_n 1, 1) := by decide +kernel
theorem dX12_save_21 : decode cX12_save 21 = .ok (.invokevirtual 251, 3) := by decide +kernel
theorem dX12_save_24 : decode cX12_save 24 = .ok (.ifCond .eq 17, 3) := by decide +kernel
theorem dX12_save_27 : decode cX12_save 27 = .ok (.aload_n 0, 1) := by decide +kernel
theorem dX12_save_28 : decode cX12_save 28 = .ok (.getfield 13, 3) := by decide +kernel
theorem dX12_save_31 : decode cX12_save 31 = .ok (.iload_n 1, 1) := by decide +kernel
theorem dX12_save_32 : decode cX12_save 32 = .ok (.iconst 3, 1) := by decide +kernel
theorem dX12_save_33 : decode cX12_save 33 = .ok (.invokestatic 63, 3) := by decide +kernel
theorem dX12_save_36 : decode cX12_save 36 = .ok (.iaload, 1) := by decide +kernel
theorem dX12_save_37 : decode cX12_save 37 = .ok (.iconst 4, 1) := by decide +kernel
theorem dX12_save_38 : decode cX12_save 38 = .ok (.if_icmp .ne 7, 3) := by decide +kernel
theorem dX12_save_41 : decode cX12_save 41 = .ok (.iconst 1, 1) := by decide +kernel
theorem dX12_save_42 : decode cX12_save 42 = .ok (.goto 4, 3) := by decide +kernel
theorem dX12_save_45 : decode cX12_save 45 = .ok (.iconst 0, 1) := by decide +kernel
theorem dX12_save_46 : decode cX12_save 46 = .ok (.iconst 2, 1) := by decide +kernel
theorem dX12_save_47 : decode cX12_save 47 = .ok (.invokevirtual 276, 3) := by decide +kernel
theorem dX12_save_50 : decode cX12_save 50 = .ok (.ifCond .eq 5, 3) := by decide +kernel
theorem dX12_save_53 : decode cX12_save 53 = .ok (.iconst 0, 1) := by decide +kernel
theorem dX12_save_54 : decode cX12_save 54 = .ok (.ireturn, 1) := by decide +kernel
theorem dX12_save_55 : decode cX12_save 55 = .ok (.aload_n 0, 1) := by decide +kernel
theorem dX12_save_56 : decode cX12_save 56 = .ok (.getfield 13, 3) := by decide +kernel
theorem dX12_save_59 : decode cX12_save 59 = .ok (.iload_n 1, 1) := by decide +kernel
theorem dX12_save_60 : decode cX12_save 60 = .ok (.iconst 3, 1) := by decide +kernel
theorem dX12_save_61 : decode cX12_save 61 = .ok (.invokestatic 63, 3) := by decide +kernel
theorem dX12_save_64 : decode cX12_save 64 = .ok (.iaload, 1) := by decide +kernel
theorem dX12_save_65 : decode cX12_save 65 = .ok (.istore_n 2, 1) := by decide +kernel
theorem dX12_save_66 : decode cX12_save 66 = .ok (.iconst 0, 1) := by decide +kernel
theorem dX12_save_67 : decode cX12_save 67 = .ok (.istore_n 3, 1) := by decide +kernel
theorem dX12_save_68 : decode cX12_save 68 = .ok (.iload_n 3, 1) := by decide +kernel
theorem dX12_save_69 : decode cX12_save 69 = .ok (.bipush 24, 2) := by decide +kernel
theorem dX12_save_71 : decode cX12_save 71 = .ok (.if_icmp .ge 63, 3) := by decide +kernel
theorem dX12_save_74 : decode cX12_save 74 = .ok (.aload_n 0, 1) := by decide +kernel
theorem dX12_save_75 : decode cX12_save 75 = .ok (.getfield 13, 3) := by decide +kernel
theorem dX12_save_78 : decode cX12_save 78 = .ok (.iload_n 1, 1) := by decide +kernel
theorem dX12_save_79 : decode cX12_save 79 = .ok (.iload_n 2, 1) := by decide +kernel
theorem dX12_save_80 : decode cX12_save 80 = .ok (.iload_n 3, 1) := by decide +kernel
theorem dX12_save_81 : decode cX12_save 81 = .ok (.invokestatic 282, 3) := by decide +kernel
theorem dX12_save_84 : decode cX12_save 84 = .ok (.aload_n 0, 1) := by decide +kernel
theorem dX12_save_85 : decode cX12_save 85 = .ok (.iload_n 3, 1) := by decide +kernel
theorem dX12_save_86 : decode cX12_save 86 = .ok (.invokevirtual 59, 3) := by decide +kernel
theorem dX12_save_89 : decode cX12_save 89 = .ok (.iconst (-1), 1) := by decide +kernel
theorem dX12_save_90 : decode cX12_save 90 = .ok (.if_icmp .eq 16, 3) := by decide +kernel
theorem dX12_save_93 : decode cX12_save 93 = .ok (.aload_n 0, 1) := by decide +kernel
theorem dX12_save_94 : decode cX12_save 94 = .ok (.iload_n 3, 1) := by decide +kernel
theorem dX12_save_95 : decode cX12_save 95 = .ok (.invokevirtual 70, 3) := by decide +kernel
theorem dX12_save_98 : decode cX12_save 98 = .ok (.iload_n 1, 1) := by decide +kernel
theorem dX12_save_99 : decode cX12_save 99 = .ok (.if_icmp .ne 7, 3) := by decide +kernel
theorem dX12_save_102 : decode cX12_save 102 = .ok (.iconst 1, 1) := by decide +kernel
theorem dX12_save_103 : decode cX12_save 103 = .ok (.goto 4, 3) := by decide +kernel
theorem dX12_save_106 : decode cX12_save 106 = .ok (.iconst 0, 1) := by decide +kernel
theorem dX12_save_107 : decode cX12_save 107 = .ok (.iastore, 1) := by decide +kernel
theorem dX12_save_108 : decode cX12_save 108 = .ok (.aload_n 0, 1) := by decide +kernel
theorem dX12_save_109 : decode cX12_save 109 = .ok (.iload_n 3, 1) := by decide +kernel
theorem dX12_save_110 : decode cX12_save 110 = .ok (.bipush 25, 2) := by decide +kernel
theorem dX12_save_112 : decode cX12_save 112 = .ok (.invokestatic 51, 3) := by decide +kernel
theorem dX12_save_115 : decode cX12_save 115 = .ok (.iload_n 1, 1) := by decide +kernel
theorem dX12_save_116 : decode cX12_save 116 = .ok (.iload_n 2, 1) := by decide +kernel
theorem dX12_save_117 : decode cX12_save 117 = .ok (.iload_n 3, 1) := by decide +kernel
theorem dX12_save_118 : decode cX12_save 118 = .ok (.invokestatic 282, 3) := by decide +kernel
theorem dX12_save_121 : decode cX12_save 121 = .ok (.iconst 1, 1) := by decide +kernel
theorem dX12_save_122 : decode cX12_save 122 = .ok (.iadd, 1) := by decide +kernel
theorem dX12_save_123 : decode cX12_save 123 = .ok (.bipush 22, 2) := by decide +kernel
theorem dX12_save_125 : decode cX12_save 125 = .ok (.invokevirtual 254, 3) := by decide +kernel
theorem dX12_save_128 : decode cX12_save 128 = .ok (.iinc 3 1, 3) := by decide +kernel
theorem dX12_save_131 : decode cX12_save 131 = .ok (.goto (-63), 3) := by decide +kernel
theorem dX12_save_134 : decode cX12_save 134 = .ok (.aload_n 0, 1) := by decide +kernel
theorem dX12_save_135 : decode cX12_save 135 = .ok (.getfield 13, 3) := by decide +kernel
theorem dX12_save_138 : decode cX12_save 138 = .ok (.iload_n 1, 1) := by decide +kernel
theorem dX12_save_139 : decode cX12_save 139 = .ok (.iconst 3, 1) := by decide +kernel
theorem dX12_save_140 : decode cX12_save 140 = .ok (.invokestatic 63, 3) := by decide +kernel
theorem dX12_save_143 : decode cX12_save 143 = .ok (.iload_n 2, 1) := by decide +kernel
theorem dX12_save_144 : decode cX12_save 144 = .ok (.iconst 1, 1) := by decide +kernel
theorem dX12_save_145 : decode cX12_save 145 = .ok (.iadd, 1) := by decide +kernel
theorem dX12_save_146 : decode cX12_save 146 = .ok (.iastore, 1) := by decide +kernel
theorem dX12_save_147 : decode cX12_save 147 = .ok (.iload_n 2, 1) := by decide +kernel
theorem dX12_save_148 : decode cX12_save 148 = .ok (.ireturn, 1) := by decide +kernel
theorem dX12_undo_0 : decode cX12_undo 0 = .ok (.aload_n 0, 1) := by decide +kernel
theorem dX12_undo_1 : decode cX12_undo 1 = .ok (.iconst 0, 1) := by decide +kernel
theorem dX12_undo_2 : decode cX12_undo 2 = .ok (.putfield 3, 3) := by decide +kernel
theorem dX12_undo_5 : decode cX12_undo 5 = .ok (.aload_n 0, 1) := by decide +kernel
theorem dX12_undo_6 : decode cX12_undo 6 = .ok (.aload_n 0, 1) := by decide +kernel
theorem dX12_undo_7 : decode cX12_undo 7 = .ok (.iload_n 1, 1) := by decide +kernel
theorem dX12_undo_8 : decode cX12_undo 8 = .ok (.invokevirtual 245, 3) := by decide +kernel
theorem dX12_undo_11 : decode cX12_undo 11 = .ok (.iconst 1, 1) := by decide +kernel
theorem dX12_undo_12 : decode cX12_undo 12 = .ok (.invokevirtual 199, 3) := by decide +kernel
theorem dX12_undo_15 : decode cX12_undo 15 = .ok (.ifCond .eq 5, 3) := by decide +kernel
theorem dX12_undo_18 : decode cX12_undo 18 = .ok (.iconst 0, 1) := by decide +kernel
theorem dX12_undo_19 : decode cX12_undo 19 = .ok (.ireturn, 1) := by decide +kernel
theorem dX12_undo_20 : decode cX12_undo 20 = .ok (.aload_n 0, 1) := by decide +kernel
theorem dX12_undo_21 : decode cX12_undo 21 = .ok (.iload_n 1, 1) := by decide +kernel
theorem dX12_undo_22 : decode cX12_undo 22 = .ok (.invokevirtual 251, 3) := by decide +kernel
theorem dX12_undo_25 : decode cX12_undo 25 = .ok (.ifCond .ne 12, 3) := by decide +kernel
theorem dX12_undo_28 : decode cX12_undo 28 = .ok (.aload_n 0, 1) := by decide +kernel
theorem dX12_undo_29 : decode cX12_undo 29 = .ok (.iconst 1, 1) := by decide +kernel
theorem dX12_undo_30 : decode cX12_undo 30 = .ok (.iconst 2, 1) := by decide +kernel
theorem dX12_undo_31 : decode cX12_undo 31 = .ok (.invokevirtual 276, 3) := by decide +kernel
theorem dX12_undo_34 : decode cX12_undo 34 = .ok (.pop, 1) := by decide +kernel
theorem dX12_undo_35 : decode cX12_undo 35 = .ok (.iconst 0, 1) := by decide +kernel
theorem dX12_undo_36 : decode cX12_undo 36 = .ok (.ireturn, 1) := by decide +kernel
theorem dX12_undo_37 : decode cX12_undo 37 = .ok (.aload_n 0, 1) := by decide +kernel
theorem dX12_undo_38 : decode cX12_undo 38 = .ok (.iload_n 2, 1) := by decide +kernel
theorem dX12_undo_39 : decode cX12_undo 39 = .ok (.iconst 0, 1) := by decide +kernel
theorem dX12_undo_40 : decode cX12_undo 40 = .ok (.aload_n 0, 1) := by decide +kernel
theorem dX12_undo_41 : decode cX12_undo 41 = .ok (.getfield 13, 3) := by decide +kernel
theorem dX12_undo_44 : decode cX12_undo 44 = .ok (.iload_n 1, 1) := by decide +kernel
theorem dX12_undo_45 : decode cX12_undo 45 = .ok (.iconst 3, 1) := by decide +kernel
theorem dX12_undo_46 : decode cX12_undo 46 = .ok (.invokestatic 63, 3) := by decide +kernel
theorem dX12_undo_49 : decode cX12_undo 49 = .ok (.iaload, 1) := by decide +kernel
theorem dX12_undo_50 : decode cX12_undo 50 = .ok (.iconst 1, 1) := by decide +kernel
theorem dX12_undo_51 : decode cX12_undo 51 = .ok (.isub, 1) := by decide +kernel
theorem dX12_undo_52 : decode cX12_undo 52 = .ok (.invokestatic 66, 3) := by decide +kernel
theorem dX12_undo_55 : decode cX12_undo 55 = .ok (.ifCond .ne 7, 3) := by decide +kernel
theorem dX12_undo_58 : decode cX12_undo 58 = .ok (.iconst 1, 1) := by decide +kernel
theorem dX12_undo_59 : decode cX12_undo 59 = .ok (.goto 4, 3) := by decide +kernel
theorem dX12_undo_62 : decode cX12_undo 62 = .ok (.iconst 0, 1) := by decide +kernel
theorem dX12_undo_63 : decode cX12_undo 63 = .ok (.iconst 3, 1) := by decide +kernel
theorem dX12_undo_64 : decode cX12_undo 64 = .ok (.invokevirtual 199, 3) := by decide +kernel
theorem dX12_undo_67 : decode cX12_undo 67 = .ok (.ifCond .eq 5, 3) := by decide +kernel
theorem dX12_undo_70 : decode cX12_undo 70 = .ok (.iconst 0, 1) := by decide +kernel
theorem dX12_undo_71 : decode cX12_undo 71 = .ok (.ireturn, 1) := by decide +kernel
theorem dX12_undo_72 : decode cX12_undo 72 = .ok (.aload_n 0, 1) := by decide +kernel
theorem dX12_undo_73 : decode cX12_undo 73 = .ok (.iconst 0, 1) := by decide +kernel
theorem dX12_undo_74 : decode cX12_undo 74 = .ok (.putfield 116, 3) := by decide +kernel
theorem dX12_undo_77 : decode cX12_undo 77 = .ok (.iconst 0, 1) := by decide +kernel
theorem dX12_undo_78 : decode cX12_undo 78 = .ok (.istore_n 3, 1) := by decide +kernel
theorem dX12_undo_79 : decode cX12_undo 79 = .ok (.iconst 0, 1) := by decide +kernel
theorem dX12_undo_80 : decode cX12_undo 80 = .ok (.istore 4, 2) := by decide +kernel
theorem dX12_undo_82 : decode cX12_undo 82 = .ok (.iload 4, 2) := by decide +kernel
theorem dX12_undo_84 : decode cX12_undo 84 = .ok (.bipush 24, 2) := by decide +kernel
theorem dX12_undo_86 : decode cX12_undo 86 = .ok (.if_icmp .ge 82, 3) := by decide +kernel
theorem dX12_undo_89 : decode cX12_undo 89 = .ok (.aload_n 0, 1) := by decide +kernel
theorem dX12_undo_90 : decode cX12_undo 90 = .ok (.iload 4, 2) := by decide +kernel
theorem dX12_undo_92 : decode cX12_undo 92 = .ok (.invokevirtual 59, 3) := by decide +kernel
theorem dX12_undo_95 : decode cX12_undo 95 = .ok (.iconst (-1), 1) := by decide +kernel
theorem dX12_undo_96 : decode cX12_undo 96 = .ok (.if_icmp .eq 66, 3) := by decide +kernel
theorem dX12_undo_99 : decode cX12_undo 99 = .ok (.aload_n 0, 1) := by decide +kernel
theorem dX12_undo_100 : decode cX12_undo 100 = .ok (.iload 4, 2) := by decide +kernel
theorem dX12_undo_102 : decode cX12_undo 102 = .ok (.invokevirtual 70, 3) := by decide +kernel
theorem dX12_undo_105 : decode cX12_undo 105 = .ok (.iload_n 1, 1) := by decide +kernel
theorem dX12_undo_106 : decode cX12_undo 106 = .ok (.if_icmp .eq 6, 3) := by decide +kernel
theorem dX12_undo_109 : decode cX12_undo 109 = .ok (.goto 53, 3) := by decide +kernel
theorem dX12_undo_112 : decode cX12_undo 112 = .ok (.aload_n 0, 1) := by decide +kernel
theorem dX12_undo_113 : decode cX12_undo 113 = .ok (.getfield 13, 3) := by decide +kernel
theorem dX12_undo_116 : decode cX12_undo 116 = .ok (.iload_n 1, 1) := by decide +kernel
theorem dX12_undo_117 : decode cX12_undo 117 = .ok (.iload_n 2, 1) := by decide +kernel
theorem dX12_undo_118 : decode cX12_undo 118 = .ok (.iload 4, 2) := by decide +kernel
theorem dX12_undo_120 : decode cX12_undo 120 = .ok (.invokestatic 282, 3) := by decide +kernel
theorem dX12_undo_123 : decode cX12_undo 123 = .ok (.iaload, 1) := by decide +kernel
theorem dX12_undo_124 : decode cX12_undo 124 = .ok (.iconst 1, 1) := by decide +kernel
theorem dX12_undo_125 : decode cX12_undo 125 = .ok (.if_icmp .ne 28, 3) := by decide +kernel
theorem dX12_undo_128 : decode cX12_undo 128 = .ok (.aload_n 0, 1) := by decide +kernel
theorem dX12_undo_129 : decode cX12_undo 129 = .ok (.iload_n 1, 1) := by decide +kernel
theorem dX12_undo_130 : decode cX12_undo 130 = .ok (.iload_n 2, 1) := by decide +kernel
theorem dX12_undo_131 : decode cX12_undo 131 = .ok (.iload 4, 2) := by decide +kernel
theorem dX12_undo_133 : decode cX12_undo 133 = .ok (.invokestatic 282, 3) := by decide +kernel
theorem dX12_undo_136 : decode cX12_undo 136 = .ok (.iconst 1, 1) := by decide +kernel
theorem dX12_undo_137 : decode cX12_undo 137 = .ok (.iadd, 1) := by decide +kernel
theorem dX12_undo_138 : decode cX12_undo 138 = .ok (.iload 4, 2) := by decide +kernel
theorem dX12_undo_140 : decode cX12_undo 140 = .ok (.bipush 25, 2) := by decide +kernel
theorem dX12_undo_142 : decode cX12_undo 142 = .ok (.invokestatic 51, 3) := by decide +kernel
theorem dX12_undo_145 : decode cX12_undo 145 = .ok (.bipush 22, 2) := by decide +kernel
theorem dX12_undo_147 : decode cX12_undo 147 = .ok (.invokevirtual 254, 3) := by decide +kernel
theorem dX12_undo_150 : decode cX12_undo 150 = .ok (.goto 12, 3) := by decide +kernel
theorem dX12_undo_153 : decode cX12_undo 153 = .ok (.aload_n 0, 1) := by decide +kernel
theorem dX12_undo_154 : decode cX12_undo 154 = .ok (.iload 4, 2) := by decide +kernel
theorem dX12_undo_156 : decode cX12_undo 156 = .ok (.invokevirtual 266, 3) := by decide +kernel
theorem dX12_undo_159 : decode cX12_undo 159 = .ok (.iinc 3 1, 3) := by decide +kernel
theorem dX12_undo_162 : decode cX12_undo 162 = .ok (.iinc 4 1, 3) := by decide +kernel
theorem dX12_undo_165 : decode cX12_undo 165 = .ok (.goto (-83), 3) := by decide +kernel
theorem dX12_undo_168 : decode cX12_undo 168 = .ok (.aload_n 0, 1) := by decide +kernel
theorem dX12_undo_169 : decode cX12_undo 169 = .ok (.getfield 13, 3) := by decide +kernel
theorem dX12_undo_172 : decode cX12_undo 172 = .ok (.iload_n 1, 1) := by decide +kernel
theorem dX12_undo_173 : decode cX12_undo 173 = .ok (.iconst 3, 1) := by decide +kernel
theorem dX12_undo_174 : decode cX12_undo 174 = .ok (.invokestatic 63, 3) := by decide +kernel
theorem dX12_undo_177 : decode cX12_undo 177 = .ok (.iload_n 2, 1) := by decide +kernel
theorem dX12_undo_178 : decode cX12_undo 178 = .ok (.iconst 1, 1) := by decide +kernel
theorem dX12_undo_179 : decode cX12_undo 179 = .ok (.iadd, 1) := by decide +kernel
theorem dX12_undo_180 : decode cX12_undo 180 = .ok (.iastore, 1) := by decide +kernel
theorem dX12_undo_181 : decode cX12_undo 181 = .ok (.iload_n 3, 1) := by decide +kernel
theorem dX12_undo_182 : decode cX12_undo 182 = .ok (.ireturn, 1) := by decide +kernel
theorem dX12_commit_0 : decode cX12_commit 0 = .ok (.aload_n 0, 1) := by decide +kernel
theorem dX12_commit_1 : decode cX12_commit 1 = .ok (.iconst 0, 1) := by decide +kernel
theorem dX12_commit_2 : decode cX12_commit 2 = .ok (.putfield 3, 3) := by decide +kernel
theorem dX12_commit_5 : decode cX12_commit 5 = .ok (.aload_n 0, 1) := by decide +kernel
theorem dX12_commit_6 : decode cX12_commit 6 = .ok (.aload_n 0, 1) := by decide +kernel
theorem dX12_commit_7 : decode cX12_commit 7 = .ok (.iload_n 1, 1) := by decide +kernel
theorem dX12_commit_8 : decode cX12_commit 8 = .ok (.invokevirtual 245, 3) := by decide +kernel
theorem dX12_commit_11 : decode cX12_commit 11 = .ok (.iconst 1, 1) := by decide +kernel
theorem dX12_commit_12 : decode cX12_commit 12 = .ok (.invokevirtual 199, 3) := by decide +kernel
theorem dX12_commit_15 : decode cX12_commit 15 = .ok (.ifCond .ne 24, 3) := by decide +kernel
theorem dX12_commit_18 : decode cX12_commit 18 = .ok (.aload_n 0, 1) := by decide +kernel
theorem dX12_commit_19 : decode cX12_commit 19 = .ok (.aload_n 0, 1) := by decide +kernel
theorem dX12_commit_20 : decode cX12_commit 20 = .ok (.iload_n 1, 1) := by decide +kernel
theorem dX12_commit_21 : decode cX12_commit 21 = .ok (.invokevirtual 251, 3) := by decide +kernel
theorem dX12_commit_24 : decode cX12_commit 24 = .ok (.ifCond .eq 7, 3) := by decide +kernel
theorem dX12_commit_27 : decode cX12_commit 27 = .ok (.iconst 0, 1) := by decide +kernel
theorem dX12_commit_28 : decode cX12_commit 28 = .ok (.goto 4, 3) := by decide +kernel
theorem dX12_commit_31 : decode cX12_commit 31 = .ok (.iconst 1, 1) := by decide +kernel
theorem dX12_commit_32 : decode cX12_commit 32 = .ok (.iconst 2, 1) := by decide +kernel
theorem dX12_commit_33 : decode cX12_commit 33 = .ok (.invokevirtual 276, 3) := by decide +kernel
theorem dX12_commit_36 : decode cX12_commit 36 = .ok (.ifCond .eq 5, 3) := by decide +kernel
theorem dX12_commit_39 : decode cX12_commit 39 = .ok (.iconst 0, 1) := by decide +kernel
theorem dX12_commit_40 : decode cX12_commit 40 = .ok (.ireturn, 1) := by decide +kernel
theorem dX12_commit_41 : decode cX12_commit 41 = .ok (.aload_n 0, 1) := by decide +kernel
theorem dX12_commit_42 : decode cX12_commit 42 = .ok (.iload_n 1, 1) := by decide +kernel
theorem dX12_commit_43 : decode cX12_commit 43 = .ok (.invokevirtual 273, 3) := by decide +kernel
theorem dX12_commit_46 : decode cX12_commit 46 = .ok (.ireturn, 1) := by decide +kernel
theorem dX12_roll_0 : decode cX12_roll 0 = .ok (.aload_n 0, 1) := by decide +kernel
theorem dX12_roll_1 : decode cX12_roll 1 = .ok (.iconst 0, 1) := by decide +kernel
theorem dX12_roll_2 : decode cX12_roll 2 = .ok (.putfield 3, 3) := by decide +kernel
theorem dX12_roll_5 : decode cX12_roll 5 = .ok (.aload_n 0, 1) := by decide +kernel
theorem dX12_roll_6 : decode cX12_roll 6 = .ok (.aload_n 0, 1) := by decide +kernel
theorem dX12_roll_7 : decode cX12_roll 7 = .ok (.iload_n 1, 1) := by decide +kernel
theorem dX12_roll_8 : decode cX12_roll 8 = .ok (.invokevirtual 245, 3) := by decide +kernel
theorem dX12_roll_11 : decode cX12_roll 11 = .ok (.iconst 1, 1) := by decide +kernel
theorem dX12_roll_12 : decode cX12_roll 12 = .ok (.invokevirtual 199, 3) := by decide +kernel
theorem dX12_roll_15 : decode cX12_roll 15 = .ok (.ifCond .ne 24, 3) := by decide +kernel
theorem dX12_roll_18 : decode cX12_roll 18 = .ok (.aload_n 0, 1) := by decide +kernel
theorem dX12_roll_19 : decode cX12_roll 19 = .ok (.aload_n 0, 1) := by decide +kernel
theorem dX12_roll_20 : decode cX12_roll 20 = .ok (.iload_n 1, 1) := by decide +kernel
theorem dX12_roll_21 : decode cX12_roll 21 = .ok (.invokevirtual 251, 3) := by decide +kernel
theorem dX12_roll_24 : decode cX12_roll 24 = .ok (.ifCond .eq 7, 3) := by decide +kernel
theorem dX12_roll_27 : decode cX12_roll 27 = .ok (.iconst 0, 1) := by decide +kernel
theorem dX12_roll_28 : decode cX12_roll 28 = .ok (.goto 4, 3) := by decide +kernel
theorem dX12_roll_31 : decode cX12_roll 31 = .ok (.iconst 1, 1) := by decide +kernel
theorem dX12_roll_32 : decode cX12_roll 32 = .ok (.iconst 2, 1) := by decide +kernel
theorem dX12_roll_33 : decode cX12_roll 33 = .ok (.invokevirtual 276, 3) := by decide +kernel
theorem dX12_roll_36 : decode cX12_roll 36 = .ok (.ifCond .eq 5, 3) := by decide +kernel
theorem dX12_roll_39 : decode cX12_roll 39 = .ok (.iconst 0, 1) := by decide +kernel
theorem dX12_roll_40 : decode cX12_roll 40 = .ok (.ireturn, 1) := by decide +kernel
theorem dX12_roll_41 : decode cX12_roll 41 = .ok (.aload_n 0, 1) := by decide +kernel
theorem dX12_roll_42 : decode cX12_roll 42 = .ok (.iload_n 1, 1) := by decide +kernel
theorem dX12_roll_43 : decode cX12_roll 43 = .ok (.invokevirtual 286, 3) := by decide +kernel
theorem dX12_roll_46 : decode cX12_roll 46 = .ok (.istore_n 2, 1) := by decide +kernel
theorem dX12_roll_47 : decode cX12_roll 47 = .ok (.iconst 0, 1) := by decide +kernel
theorem dX12_roll_48 : decode cX12_roll 48 = .ok (.istore_n 3, 1) := by decide +kernel
theorem dX12_roll_49 : decode cX12_roll 49 = .ok (.iload_n 3, 1) := by decide +kernel
theorem dX12_roll_50 : decode cX12_roll 50 = .ok (.bipush 24, 2) := by decide +kernel
theorem dX12_roll_52 : decode cX12_roll 52 = .ok (.if_icmp .ge 32, 3) := by decide +kernel
theorem dX12_roll_55 : decode cX12_roll 55 = .ok (.aload_n 0, 1) := by decide +kernel
theorem dX12_roll_56 : decode cX12_roll 56 = .ok (.iload_n 3, 1) := by decide +kernel
theorem dX12_roll_57 : decode cX12_roll 57 = .ok (.invokevirtual 59, 3) := by decide +kernel
theorem dX12_roll_60 : decode cX12_roll 60 = .ok (.iconst (-1), 1) := by decide +kernel
theorem dX12_roll_61 : decode cX12_roll 61 = .ok (.if_icmp .eq 17, 3) := by decide +kernel
theorem dX12_roll_64 : decode cX12_roll 64 = .ok (.aload_n 0, 1) := by decide +kernel
theorem dX12_roll_65 : decode cX12_roll 65 = .ok (.iload_n 3, 1) := by decide +kernel
theorem dX12_roll_66 : decode cX12_roll 66 = .ok (.invokevirtual 70, 3) := by decide +kernel
theorem dX12_roll_69 : decode cX12_roll 69 = .ok (.iload_n 1, 1) := by decide +kernel
theorem dX12_roll_70 : decode cX12_roll 70 = .ok (.if_icmp .ne 8, 3) := by decide +kernel
theorem dX12_roll_73 : decode cX12_roll 73 = .ok (.aload_n 0, 1) := by decide +kernel
theorem dX12_roll_74 : decode cX12_roll 74 = .ok (.iload_n 3, 1) := by decide +kernel
theorem dX12_roll_75 : decode cX12_roll 75 = .ok (.invokevirtual 266, 3) := by decide +kernel
theorem dX12_roll_78 : decode cX12_roll 78 = .ok (.iinc 3 1, 3) := by decide +kernel
theorem dX12_roll_81 : decode cX12_roll 81 = .ok (.goto (-32), 3) := by decide +kernel
theorem dX12_roll_84 : decode cX12_roll 84 = .ok (.aload_n 0, 1) := by decide +kernel
theorem dX12_roll_85 : decode cX12_roll 85 = .ok (.getfield 13, 3) := by decide +kernel
theorem dX12_roll_88 : decode cX12_roll 88 = .ok (.iload_n 1, 1) := by decide +kernel
theorem dX12_roll_89 : decode cX12_roll 89 = .ok (.iconst 2, 1) := by decide +kernel
theorem dX12_roll_90 : decode cX12_roll 90 = .ok (.invokestatic 63, 3) := by decide +kernel
theorem dX12_roll_93 : decode cX12_roll 93 = .ok (.iconst 0, 1) := by decide +kernel
theorem dX12_roll_94 : decode cX12_roll 94 = .ok (.iastore, 1) := by decide +kernel
theorem dX12_roll_95 : decode cX12_roll 95 = .ok (.aload_n 0, 1) := by decide +kernel
theorem dX12_roll_96 : decode cX12_roll 96 = .ok (.getfield 13, 3) := by decide +kernel
theorem dX12_roll_99 : decode cX12_roll 99 = .ok (.iload_n 1, 1) := by decide +kernel
theorem dX12_roll_100 : decode cX12_roll 100 = .ok (.iconst 3, 1) := by decide +kernel
theorem dX12_roll_101 : decode cX12_roll 101 = .ok (.invokestatic 63, 3) := by decide +kernel
theorem dX12_roll_104 : decode cX12_roll 104 = .ok (.iconst 0, 1) := by decide +kernel
theorem dX12_roll_105 : decode cX12_roll 105 = .ok (.iastore, 1) := by decide +kernel
theorem dX12_roll_106 : decode cX12_roll 106 = .ok (.iload_n 2, 1) := by decide +kernel
theorem dX12_roll_107 : decode cX12_roll 107 = .ok (.ireturn, 1) := by decide +kernel
theorem dX12_isOf_0 : decode cX12_isOf 0 = .ok (.aload_n 0, 1) := by decide +kernel
theorem dX12_isOf_1 : decode cX12_isOf 1 = .ok (.iload_n 1, 1) := by decide +kernel
theorem dX12_isOf_2 : decode cX12_isOf 2 = .ok (.invokevirtual 59, 3) := by decide +kernel
theorem dX12_isOf_5 : decode cX12_isOf 5 = .ok (.iconst (-1), 1) := by decide +kernel
theorem dX12_isOf_6 : decode cX12_isOf 6 = .ok (.if_icmp .eq 23, 3) := by decide +kernel
theorem dX12_isOf_9 : decode cX12_isOf 9 = .ok (.aload_n 0, 1) := by decide +kernel
theorem dX12_isOf_10 : decode cX12_isOf 10 = .ok (.getfield 13, 3) := by decide +kernel
theorem dX12_isOf_13 : decode cX12_isOf 13 = .ok (.aload_n 0, 1) := by decide +kernel
theorem dX12_isOf_14 : decode cX12_isOf 14 = .ok (.iload_n 1, 1) := by decide +kernel
theorem dX12_isOf_15 : decode cX12_isOf 15 = .ok (.invokevirtual 289, 3) := by decide +kernel
theorem dX12_isOf_18 : decode cX12_isOf 18 = .ok (.iconst 0, 1) := by decide +kernel
theorem dX12_isOf_19 : decode cX12_isOf 19 = .ok (.iadd, 1) := by decide +kernel
theorem dX12_isOf_20 : decode cX12_isOf 20 = .ok (.iaload, 1) := by decide +kernel
theorem dX12_isOf_21 : decode cX12_isOf 21 = .ok (.iload_n 2, 1) := by decide +kernel
theorem dX12_isOf_22 : decode cX12_isOf 22 = .ok (.if_icmp .ne 7, 3) := by decide +kernel
theorem dX12_isOf_25 : decode cX12_isOf 25 = .ok (.iconst 1, 1) := by decide +kernel
theorem dX12_isOf_26 : decode cX12_isOf 26 = .ok (.goto 4, 3) := by decide +kernel
theorem dX12_isOf_29 : decode cX12_isOf 29 = .ok (.iconst 0, 1) := by decide +kernel
theorem dX12_isOf_30 : decode cX12_isOf 30 = .ok (.ireturn, 1) := by decide +kernel
theorem dX12_isState_0 : decode cX12_isState 0 = .ok (.iload_n 1, 1) := by decide +kernel
theorem dX12_isState_1 : decode cX12_isState 1 = .ok (.iconst (-1), 1) := by decide +kernel
theorem dX12_isState_2 : decode cX12_isState 2 = .ok (.if_icmp .eq 19, 3) := by decide +kernel
theorem dX12_isState_5 : decode cX12_isState 5 = .ok (.aload_n 0, 1) := by decide +kernel
theorem dX12_isState_6 : decode cX12_isState 6 = .ok (.getfield 13, 3) := by decide +kernel
theorem dX12_isState_9 : decode cX12_isState 9 = .ok (.iload_n 1, 1) := by decide +kernel
theorem dX12_isState_10 : decode cX12_isState 10 = .ok (.iconst 3, 1) := by decide +kernel
theorem dX12_isState_11 : decode cX12_isState 11 = .ok (.iadd, 1) := by decide +kernel
theorem dX12_isState_12 : decode cX12_isState 12 = .ok (.iaload, 1) := by decide +kernel
theorem dX12_isState_13 : decode cX12_isState 13 = .ok (.iload_n 2, 1) := by decide +kernel
theorem dX12_isState_14 : decode cX12_isState 14 = .ok (.if_icmp .ne 7, 3) := by decide +kernel
theorem dX12_isState_17 : decode cX12_isState 17 = .ok (.iconst 1, 1) := by decide +kernel
theorem dX12_isState_18 : decode cX12_isState 18 = .ok (.goto 4, 3) := by decide +kernel
theorem dX12_isState_21 : decode cX12_isState 21 = .ok (.iconst 0, 1) := by decide +kernel
theorem dX12_isState_22 : decode cX12_isState 22 = .ok (.ireturn, 1) := by decide +kernel
theorem dX12_hasLesser_0 : decode cX12_hasLesser 0 = .ok (.iconst 0, 1) := by decide +kernel
theorem dX12_hasLesser_1 : decode cX12_hasLesser 1 = .ok (.istore_n 3, 1) := by decide +kernel
theorem dX12_hasLesser_2 : decode cX12_hasLesser 2 = .ok (.aload_n 0, 1) := by decide +kernel
theorem dX12_hasLesser_3 : decode cX12_hasLesser 3 = .ok (.getfield 13, 3) := by decide +kernel
theorem dX12_hasLesser_6 : decode cX12_hasLesser 6 = .ok (.aload_n 0, 1) := by decide +kernel
theorem dX12_hasLesser_7 : decode cX12_hasLesser 7 = .ok (.iload_n 1, 1) := by decide +kernel
theorem dX12_hasLesser_8 : decode cX12_hasLesser 8 = .ok (.invokevirtual 289, 3) := by decide +kernel
theorem dX12_hasLesser_11 : decode cX12_hasLesser 11 = .ok (.iconst 0, 1) := by decide +kernel
theorem dX12_hasLesser_12 : decode cX12_hasLesser 12 = .ok (.iadd, 1) := by decide +kernel
theorem dX12_hasLesser_13 : decode cX12_hasLesser 13 = .ok (.iaload, 1) := by decide +kernel
theorem dX12_hasLesser_14 : decode cX12_hasLesser 14 = .ok (.istore 4, 2) := by decide +kernel
theorem dX12_hasLesser_16 : decode cX12_hasLesser 16 = .ok (.iconst 0, 1) := by decide +kernel
theorem dX12_hasLesser_17 : decode cX12_hasLesser 17 = .ok (.istore 5, 2) := by decide +kernel
theorem dX12_hasLesser_19 : decode cX12_hasLesser 19 = .ok (.iload 5, 2) := by decide +kernel
theorem dX12_hasLesser_21 : decode cX12_hasLesser 21 = .ok (.bipush 24, 2) := by decide +kernel
theorem dX12_hasLesser_23 : decode cX12_hasLesser 23 = .ok (.if_icmp .ge 59, 3) := by decide +kernel
theorem dX12_hasLesser_26 : decode cX12_hasLesser 26 = .ok (.iload_n 3, 1) := by decide +kernel
theorem dX12_hasLesser_27 : decode cX12_hasLesser 27 = .ok (.ifCond .ne 55, 3) := by decide +kernel
theorem dX12_hasLesser_30 : decode cX12_hasLesser 30 = .ok (.aload_n 0, 1) := by decide +kernel
theorem dX12_hasLesser_31 : decode cX12_hasLesser 31 = .ok (.iload 5, 2) := by decide +kernel
theorem dX12_hasLesser_33 : decode cX12_hasLesser 33 = .ok (.iload 4, 2) := by decide +kernel
theorem dX12_hasLesser_35 : decode cX12_hasLesser 35 = .ok (.invokevirtual 292, 3) := by decide +kernel
theorem dX12_hasLesser_38 : decode cX12_hasLesser 38 = .ok (.ifCond .eq 36, 3) := by decide +kernel
theorem dX12_hasLesser_41 : decode cX12_hasLesser 41 = .ok (.aload_n 0, 1) := by decide +kernel
theorem dX12_hasLesser_42 : decode cX12_hasLesser 42 = .ok (.iload 5, 2) := by decide +kernel
theorem dX12_hasLesser_44 : decode cX12_hasLesser 44 = .ok (.invokevirtual 59, 3) := by decide +kernel
theorem dX12_hasLesser_47 : decode cX12_hasLesser 47 = .ok (.aload_n 0, 1) := by decide +kernel
theorem dX12_hasLesser_48 : decode cX12_hasLesser 48 = .ok (.iload_n 1, 1) := by decide +kernel
theorem dX12_hasLesser_49 : decode cX12_hasLesser 49 = .ok (.invokevirtual 59, 3) := by decide +kernel
theorem dX12_hasLesser_52 : decode cX12_hasLesser 52 = .ok (.if_icmp .ge 22, 3) := by decide +kernel
theorem dX12_hasLesser_55 : decode cX12_hasLesser 55 = .ok (.aload_n 0, 1) := by decide +kernel
theorem dX12_hasLesser_56 : decode cX12_hasLesser 56 = .ok (.aload_n 0, 1) := by decide +kernel
theorem dX12_hasLesser_57 : decode cX12_hasLesser 57 = .ok (.iload 5, 2) := by decide +kernel
theorem dX12_hasLesser_59 : decode cX12_hasLesser 59 = .ok (.iload_n 2, 1) := by decide +kernel
theorem dX12_hasLesser_60 : decode cX12_hasLesser 60 = .ok (.invokevirtual 295, 3) := by decide +kernel
theorem dX12_hasLesser_63 : decode cX12_hasLesser 63 = .ok (.iconst 0, 1) := by decide +kernel
theorem dX12_hasLesser_64 : decode cX12_hasLesser 64 = .ok (.invokevirtual 298, 3) := by decide +kernel
theorem dX12_hasLesser_67 : decode cX12_hasLesser 67 = .ok (.ifCond .eq 7, 3) := by decide +kernel
theorem dX12_hasLesser_70 : decode cX12_hasLesser 70 = .ok (.iconst 1, 1) := by decide +kernel
theorem dX12_hasLesser_71 : decode cX12_hasLesser 71 = .ok (.goto 4, 3) := by decide +kernel
theorem dX12_hasLesser_74 : decode cX12_hasLesser 74 = .ok (.iconst 0, 1) := by decide +kernel
theorem dX12_hasLesser_75 : decode cX12_hasLesser 75 = .ok (.istore_n 3, 1) := by decide +kernel
theorem dX12_hasLesser_76 : decode cX12_hasLesser 76 = .ok (.iinc 5 1, 3) := by decide +kernel
theorem dX12_hasLesser_79 : decode cX12_hasLesser 79 = .ok (.goto (-60), 3) := by decide +kernel
theorem dX12_hasLesser_82 : decode cX12_hasLesser 82 = .ok (.iload_n 3, 1) := by decide +kernel
theorem dX12_hasLesser_83 : decode cX12_hasLesser 83 = .ok (.ireturn, 1) := by decide +kernel
theorem dX12_isFull_0 : decode cX12_isFull 0 = .ok (.aload_n 0, 1) := by decide +kernel
theorem dX12_isFull_1 : decode cX12_isFull 1 = .ok (.getfield 13, 3) := by decide +kernel
theorem dX12_isFull_4 : decode cX12_isFull 4 = .ok (.aload_n 0, 1) := by decide +kernel
theorem dX12_isFull_5 : decode cX12_isFull 5 = .ok (.iload_n 1, 1) := by decide +kernel
theorem dX12_isFull_6 : decode cX12_isFull 6 = .ok (.invokevirtual 289, 3) := by decide +kernel
theorem dX12_isFull_9 : decode cX12_isFull 9 = .ok (.iconst 0, 1) := by decide +kernel
theorem dX12_isFull_10 : decode cX12_isFull 10 = .ok (.iadd, 1) := by decide +kernel
theorem dX12_isFull_11 : decode cX12_isFull 11 = .ok (.iaload, 1) := by decide +kernel
theorem dX12_isFull_12 : decode cX12_isFull 12 = .ok (.istore_n 3, 1) := by decide +kernel
theorem dX12_isFull_13 : decode cX12_isFull 13 = .ok (.iconst 0, 1) := by decide +kernel
theorem dX12_isFull_14 : decode cX12_isFull 14 = .ok (.istore 4, 2) := by decide +kernel
theorem dX12_isFull_16 : decode cX12_isFull 16 = .ok (.iconst 0, 1) := by decide +kernel
theorem dX12_isFull_17 : decode cX12_isFull 17 = .ok (.istore 5, 2) := by decide +kernel
theorem dX12_isFull_19 : decode cX12_isFull 19 = .ok (.iload 5, 2) := by decide +kernel
theorem dX12_isFull_21 : decode cX12_isFull 21 = .ok (.bipush 24, 2) := by decide +kernel
theorem dX12_isFull_23 : decode cX12_isFull 23 = .ok (.if_icmp .ge 54, 3) := by decide +kernel
theorem dX12_isFull_26 : decode cX12_isFull 26 = .ok (.iload 4, 2) := by decide +kernel
theorem dX12_isFull_28 : decode cX12_isFull 28 = .ok (.aload_n 0, 1) := by decide +kernel
theorem dX12_isFull_29 : decode cX12_isFull 29 = .ok (.iload 5, 2) := by decide +kernel
theorem dX12_isFull_31 : decode cX12_isFull 31 = .ok (.iload_n 3, 1) := by decide +kernel
theorem dX12_isFull_32 : decode cX12_isFull 32 = .ok (.invokevirtual 292, 3) := by decide +kernel
theorem dX12_isFull_35 : decode cX12_isFull 35 = .ok (.ifCond .eq 32, 3) := by decide +kernel
theorem dX12_isFull_38 : decode cX12_isFull 38 = .ok (.aload_n 0, 1) := by decide +kernel
theorem dX12_isFull_39 : decode cX12_isFull 39 = .ok (.iload 5, 2) := by decide +kernel
theorem dX12_isFull_41 : decode cX12_isFull 41 = .ok (.iload_n 2, 1) := by decide +kernel
theorem dX12_isFull_42 : decode cX12_isFull 42 = .ok (.invokevirtual 301, 3) := by decide +kernel
theorem dX12_isFull_45 : decode cX12_isFull 45 = .ok (.ifCond .ne 18, 3) := by decide +kernel
theorem dX12_isFull_48 : decode cX12_isFull 48 = .ok (.aload_n 0, 1) := by decide +kernel
theorem dX12_isFull_49 : decode cX12_isFull 49 = .ok (.aload_n 0, 1) := by decide +kernel
theorem dX12_isFull_50 : decode cX12_isFull 50 = .ok (.iload 5, 2) := by decide +kernel
theorem dX12_isFull_52 : decode cX12_isFull 52 = .ok (.iload_n 2, 1) := by decide +kernel
theorem dX12_isFull_53 : decode cX12_isFull 53 = .ok (.invokevirtual 295, 3) := by decide +kernel
theorem dX12_isFull_56 : decode cX12_isFull 56 = .ok (.iconst 1, 1) := by decide +kernel
theorem dX12_isFull_57 : decode cX12_isFull 57 = .ok (.invokevirtual 298, 3) := by decide +kernel
theorem dX12_isFull_60 : decode cX12_isFull 60 = .ok (.ifCond .eq 7, 3) := by decide +kernel
theorem dX12_isFull_63 : decode cX12_isFull 63 = .ok (.iconst 1, 1) := by decide +kernel
theorem dX12_isFull_64 : decode cX12_isFull 64 = .ok (.goto 4, 3) := by decide +kernel
theorem dX12_isFull_67 : decode cX12_isFull 67 = .ok (.iconst 0, 1) := by decide +kernel
theorem dX12_isFull_68 : decode cX12_isFull 68 = .ok (.iadd, 1) := by decide +kernel
theorem dX12_isFull_69 : decode cX12_isFull 69 = .ok (.istore 4, 2) := by decide +kernel
theorem dX12_isFull_71 : decode cX12_isFull 71 = .ok (.iinc 5 1, 3) := by decide +kernel
theorem dX12_isFull_74 : decode cX12_isFull 74 = .ok (.goto (-55), 3) := by decide +kernel
theorem dX12_isFull_77 : decode cX12_isFull 77 = .ok (.iload 4, 2) := by decide +kernel
theorem dX12_isFull_79 : decode cX12_isFull 79 = .ok (.aload_n 0, 1) := by decide +kernel
theorem dX12_isFull_80 : decode cX12_isFull 80 = .ok (.getfield 13, 3) := by decide +kernel
theorem dX12_isFull_83 : decode cX12_isFull 83 = .ok (.bipush 15, 2) := by decide +kernel
theorem dX12_isFull_85 : decode cX12_isFull 85 = .ok (.iload_n 3, 1) := by decide +kernel
theorem dX12_isFull_86 : decode cX12_isFull 86 = .ok (.iadd, 1) := by decide +kernel
theorem dX12_isFull_87 : decode cX12_isFull 87 = .ok (.iaload, 1) := by decide +kernel
theorem dX12_isFull_88 : decode cX12_isFull 88 = .ok (.if_icmp .lt 7, 3) := by decide +kernel
theorem dX12_isFull_91 : decode cX12_isFull 91 = .ok (.iconst 1, 1) := by decide +kernel
theorem dX12_isFull_92 : decode cX12_isFull 92 = .ok (.goto 4, 3) := by decide +kernel
theorem dX12_isFull_95 : decode cX12_isFull 95 = .ok (.iconst 0, 1) := by decide +kernel
theorem dX12_isFull_96 : decode cX12_isFull 96 = .ok (.ireturn, 1) := by decide +kernel
theorem dX12_mayBeClaimed_0 : decode cX12_mayBeClaimed 0 = .ok (.aload_n 0, 1) := by decide +kernel
theorem dX12_mayBeClaimed_1 : decode cX12_mayBeClaimed 1 = .ok (.iload_n 1, 1) := by decide +kernel
theorem dX12_mayBeClaimed_2 : decode cX12_mayBeClaimed 2 = .ok (.iload_n 2, 1) := by decide +kernel
theorem dX12_mayBeClaimed_3 : decode cX12_mayBeClaimed 3 = .ok (.invokevirtual 295, 3) := by decide +kernel
theorem dX12_mayBeClaimed_6 : decode cX12_mayBeClaimed 6 = .ok (.istore_n 3, 1) := by decide +kernel
theorem dX12_mayBeClaimed_7 : decode cX12_mayBeClaimed 7 = .ok (.aload_n 0, 1) := by decide +kernel
theorem dX12_mayBeClaimed_8 : decode cX12_mayBeClaimed 8 = .ok (.iload_n 3, 1) := by decide +kernel
theorem dX12_mayBeClaimed_9 : decode cX12_mayBeClaimed 9 = .ok (.iconst 0, 1) := by decide +kernel
theorem dX12_mayBeClaimed_10 : decode cX12_mayBeClaimed 10 = .ok (.invokevirtual 298, 3) := by decide +kernel
theorem dX12_mayBeClaimed_13 : decode cX12_mayBeClaimed 13 = .ok (.ifCond .eq 51, 3) := by decide +kernel
theorem dX12_mayBeClaimed_16 : decode cX12_mayBeClaimed 16 = .ok (.aload_n 0, 1) := by decide +kernel
theorem dX12_mayBeClaimed_17 : decode cX12_mayBeClaimed 17 = .ok (.iload_n 1, 1) := by decide +kernel
theorem dX12_mayBeClaimed_18 : decode cX12_mayBeClaimed 18 = .ok (.iload_n 2, 1) := by decide +kernel
theorem dX12_mayBeClaimed_19 : decode cX12_mayBeClaimed 19 = .ok (.invokevirtual 301, 3) := by decide +kernel
theorem dX12_mayBeClaimed_22 : decode cX12_mayBeClaimed 22 = .ok (.ifCond .ne 42, 3) := by decide +kernel
theorem dX12_mayBeClaimed_25 : decode cX12_mayBeClaimed 25 = .ok (.aload_n 0, 1) := by decide +kernel
theorem dX12_mayBeClaimed_26 : decode cX12_mayBeClaimed 26 = .ok (.getfield 13, 3) := by decide +kernel
theorem dX12_mayBeClaimed_29 : decode cX12_mayBeClaimed 29 = .ok (.iload_n 3, 1) := by decide +kernel
theorem dX12_mayBeClaimed_30 : decode cX12_mayBeClaimed 30 = .ok (.iconst 5, 1) := by decide +kernel
theorem dX12_mayBeClaimed_31 : decode cX12_mayBeClaimed 31 = .ok (.iadd, 1) := by decide +kernel
theorem dX12_mayBeClaimed_32 : decode cX12_mayBeClaimed 32 = .ok (.iaload, 1) := by decide +kernel
theorem dX12_mayBeClaimed_33 : decode cX12_mayBeClaimed 33 = .ok (.aload_n 0, 1) := by decide +kernel
theorem dX12_mayBeClaimed_34 : decode cX12_mayBeClaimed 34 = .ok (.getfield 13, 3) := by decide +kernel
theorem dX12_mayBeClaimed_37 : decode cX12_mayBeClaimed 37 = .ok (.iconst 3, 1) := by decide +kernel
theorem dX12_mayBeClaimed_38 : decode cX12_mayBeClaimed 38 = .ok (.iaload, 1) := by decide +kernel
theorem dX12_mayBeClaimed_39 : decode cX12_mayBeClaimed 39 = .ok (.if_icmp .gt 25, 3) := by decide +kernel
theorem dX12_mayBeClaimed_42 : decode cX12_mayBeClaimed 42 = .ok (.aload_n 0, 1) := by decide +kernel
theorem dX12_mayBeClaimed_43 : decode cX12_mayBeClaimed 43 = .ok (.iload_n 1, 1) := by decide +kernel
theorem dX12_mayBeClaimed_44 : decode cX12_mayBeClaimed 44 = .ok (.iload_n 2, 1) := by decide +kernel
theorem dX12_mayBeClaimed_45 : decode cX12_mayBeClaimed 45 = .ok (.invokevirtual 304, 3) := by decide +kernel
theorem dX12_mayBeClaimed_48 : decode cX12_mayBeClaimed 48 = .ok (.ifCond .ne 16, 3) := by decide +kernel
theorem dX12_mayBeClaimed_51 : decode cX12_mayBeClaimed 51 = .ok (.aload_n 0, 1) := by decide +kernel
theorem dX12_mayBeClaimed_52 : decode cX12_mayBeClaimed 52 = .ok (.iload_n 1, 1) := by decide +kernel
theorem dX12_mayBeClaimed_53 : decode cX12_mayBeClaimed 53 = .ok (.iload_n 2, 1) := by decide +kernel
theorem dX12_mayBeClaimed_54 : decode cX12_mayBeClaimed 54 = .ok (.invokevirtual 307, 3) := by decide +kernel
theorem dX12_mayBeClaimed_57 : decode cX12_mayBeClaimed 57 = .ok (.ifCond .ne 7, 3) := by decide +kernel
theorem dX12_mayBeClaimed_60 : decode cX12_mayBeClaimed 60 = .ok (.iconst 1, 1) := by decide +kernel
theorem dX12_mayBeClaimed_61 : decode cX12_mayBeClaimed 61 = .ok (.goto 4, 3) := by decide +kernel
theorem dX12_mayBeClaimed_64 : decode cX12_mayBeClaimed 64 = .ok (.iconst 0, 1) := by decide +kernel
theorem dX12_mayBeClaimed_65 : decode cX12_mayBeClaimed 65 = .ok (.ireturn, 1) := by decide +kernel
theorem dX12_columnOf_0 : decode cX12_columnOf 0 = .ok (.aload_n 0, 1) := by decide +kernel
theorem dX12_columnOf_1 : decode cX12_columnOf 1 = .ok (.iload_n 1, 1) := by decide +kernel
theorem dX12_columnOf_2 : decode cX12_columnOf 2 = .ok (.iload_n 2, 1) := by decide +kernel
theorem dX12_columnOf_3 : decode cX12_columnOf 3 = .ok (.invokevirtual 295, 3) := by decide +kernel
theorem dX12_columnOf_6 : decode cX12_columnOf 6 = .ok (.istore 4, 2) := by decide +kernel
theorem dX12_columnOf_8 : decode cX12_columnOf 8 = .ok (.iload_n 3, 1) := by decide +kernel
theorem dX12_columnOf_9 : decode cX12_columnOf 9 = .ok (.tableswitch 124 0 6 #[43, 49, 59, 69, 79, 90, 107], 43) := by decide +kernel
theorem dX12_columnOf_52 : decode cX12_columnOf 52 = .ok (.aload_n 0, 1) := by decide +kernel
theorem dX12_columnOf_53 : decode cX12_columnOf 53 = .ok (.iload_n 1, 1) := by decide +kernel
theorem dX12_columnOf_54 : decode cX12_columnOf 54 = .ok (.invokevirtual 59, 3) := by decide +kernel
theorem dX12_columnOf_57 : decode cX12_columnOf 57 = .ok (.ireturn, 1) := by decide +kernel
theorem dX12_columnOf_58 : decode cX12_columnOf 58 = .ok (.aload_n 0, 1) := by decide +kernel
theorem dX12_columnOf_59 : decode cX12_columnOf 59 = .ok (.getfield 13, 3) := by decide +kernel
theorem dX12_columnOf_62 : decode cX12_columnOf 62 = .ok (.iload 4, 2) := by decide +kernel
theorem dX12_columnOf_64 : decode cX12_columnOf 64 = .ok (.iconst 0, 1) := by decide +kernel
theorem dX12_columnOf_65 : decode cX12_columnOf 65 = .ok (.iadd, 1) := by decide +kernel
theorem dX12_columnOf_66 : decode cX12_columnOf 66 = .ok (.iaload, 1) := by decide +kernel
theorem dX12_columnOf_67 : decode cX12_columnOf 67 = .ok (.ireturn, 1) := by decide +kernel
theorem dX12_columnOf_68 : decode cX12_columnOf 68 = .ok (.aload_n 0, 1) := by decide +kernel
theorem dX12_columnOf_69 : decode cX12_columnOf 69 = .ok (.getfield 13, 3) := by decide +kernel
theorem dX12_columnOf_72 : decode cX12_columnOf 72 = .ok (.iload 4, 2) := by decide +kernel
theorem dX12_columnOf_74 : decode cX12_columnOf 74 = .ok (.iconst 1, 1) := by decide +kernel
theorem dX12_columnOf_75 : decode cX12_columnOf 75 = .ok (.iadd, 1) := by decide +kernel
theorem dX12_columnOf_76 : decode cX12_columnOf 76 = .ok (.iaload, 1) := by decide +kernel
theorem dX12_columnOf_77 : decode cX12_columnOf 77 = .ok (.ireturn, 1) := by decide +kernel
theorem dX12_columnOf_78 : decode cX12_columnOf 78 = .ok (.aload_n 0, 1) := by decide +kernel
theorem dX12_columnOf_79 : decode cX12_columnOf 79 = .ok (.getfield 13, 3) := by decide +kernel
theorem dX12_columnOf_82 : decode cX12_columnOf 82 = .ok (.iload 4, 2) := by decide +kernel
theorem dX12_columnOf_84 : decode cX12_columnOf 84 = .ok (.iconst 2, 1) := by decide +kernel
theorem dX12_columnOf_85 : decode cX12_columnOf 85 = .ok (.iadd, 1) := by decide +kernel
theorem dX12_columnOf_86 : decode cX12_columnOf 86 = .ok (.iaload, 1) := by decide +kernel
theorem dX12_columnOf_87 : decode cX12_columnOf 87 = .ok (.ireturn, 1) := by decide +kernel
theorem dX12_columnOf_88 : decode cX12_columnOf 88 = .ok (.aload_n 0, 1) := by decide +kernel
theorem dX12_columnOf_89 : decode cX12_columnOf 89 = .ok (.getfield 13, 3) := by decide +kernel
theorem dX12_columnOf_92 : decode cX12_columnOf 92 = .ok (.iload 4, 2) := by decide +kernel
theorem dX12_columnOf_94 : decode cX12_columnOf 94 = .ok (.bipush 6, 2) := by decide +kernel
theorem dX12_columnOf_96 : decode cX12_columnOf 96 = .ok (.iadd, 1) := by decide +kernel
theorem dX12_columnOf_97 : decode cX12_columnOf 97 = .ok (.iaload, 1) := by decide +kernel
theorem dX12_columnOf_98 : decode cX12_columnOf 98 = .ok (.ireturn, 1) := by decide +kernel
theorem dX12_columnOf_99 : decode cX12_columnOf 99 = .ok (.aload_n 0, 1) := by decide +kernel
theorem dX12_columnOf_100 : decode cX12_columnOf 100 = .ok (.getfield 13, 3) := by decide +kernel
theorem dX12_columnOf_103 : decode cX12_columnOf 103 = .ok (.iconst 3, 1) := by decide +kernel
theorem dX12_columnOf_104 : decode cX12_columnOf 104 = .ok (.iaload, 1) := by decide +kernel
theorem dX12_columnOf_105 : decode cX12_columnOf 105 = .ok (.aload_n 0, 1) := by decide +kernel
theorem dX12_columnOf_106 : decode cX12_columnOf 106 = .ok (.getfield 13, 3) := by decide +kernel
theorem dX12_columnOf_109 : decode cX12_columnOf 109 = .ok (.iload 4, 2) := by decide +kernel
theorem dX12_columnOf_111 : decode cX12_columnOf 111 = .ok (.iconst 4, 1) := by decide +kernel
theorem dX12_columnOf_112 : decode cX12_columnOf 112 = .ok (.iadd, 1) := by decide +kernel
theorem dX12_columnOf_113 : decode cX12_columnOf 113 = .ok (.iaload, 1) := by decide +kernel
theorem dX12_columnOf_114 : decode cX12_columnOf 114 = .ok (.isub, 1) := by decide +kernel
theorem dX12_columnOf_115 : decode cX12_columnOf 115 = .ok (.ireturn, 1) := by decide +kernel
theorem dX12_columnOf_116 : decode cX12_columnOf 116 = .ok (.aload_n 0, 1) := by decide +kernel
theorem dX12_columnOf_117 : decode cX12_columnOf 117 = .ok (.getfield 13, 3) := by decide +kernel
theorem dX12_columnOf_120 : decode cX12_columnOf 120 = .ok (.iconst 3, 1) := by decide +kernel
theorem dX12_columnOf_121 : decode cX12_columnOf 121 = .ok (.iaload, 1) := by decide +kernel
theorem dX12_columnOf_122 : decode cX12_columnOf 122 = .ok (.aload_n 0, 1) := by decide +kernel
theorem dX12_columnOf_123 : decode cX12_columnOf 123 = .ok (.getfield 13, 3) := by decide +kernel
theorem dX12_columnOf_126 : decode cX12_columnOf 126 = .ok (.iload 4, 2) := by decide +kernel
theorem dX12_columnOf_128 : decode cX12_columnOf 128 = .ok (.iconst 5, 1) := by decide +kernel
theorem dX12_columnOf_129 : decode cX12_columnOf 129 = .ok (.iadd, 1) := by decide +kernel
theorem dX12_columnOf_130 : decode cX12_columnOf 130 = .ok (.iaload, 1) := by decide +kernel
theorem dX12_columnOf_131 : decode cX12_columnOf 131 = .ok (.isub, 1) := by decide +kernel
theorem dX12_columnOf_132 : decode cX12_columnOf 132 = .ok (.ireturn, 1) := by decide +kernel
theorem dX12_columnOf_133 : decode cX12_columnOf 133 = .ok (.aload_n 0, 1) := by decide +kernel
theorem dX12_columnOf_134 : decode cX12_columnOf 134 = .ok (.getfield 13, 3) := by decide +kernel
theorem dX12_columnOf_137 : decode cX12_columnOf 137 = .ok (.iload 4, 2) := by decide +kernel
theorem dX12_columnOf_139 : decode cX12_columnOf 139 = .ok (.iconst 0, 1) := by decide +kernel
theorem dX12_columnOf_140 : decode cX12_columnOf 140 = .ok (.iadd, 1) := by decide +kernel
theorem dX12_columnOf_141 : decode cX12_columnOf 141 = .ok (.iaload, 1) := by decide +kernel
theorem dX12_columnOf_142 : decode cX12_columnOf 142 = .ok (.bipush 6, 2) := by decide +kernel
theorem dX12_columnOf_144 : decode cX12_columnOf 144 = .ok (.iadd, 1) := by decide +kernel
theorem dX12_columnOf_145 : decode cX12_columnOf 145 = .ok (.iconst 1, 1) := by decide +kernel
theorem dX12_columnOf_146 : decode cX12_columnOf 146 = .ok (.isub, 1) := by decide +kernel
theorem dX12_columnOf_147 : decode cX12_columnOf 147 = .ok (.aload_n 0, 1) := by decide +kernel
theorem dX12_columnOf_148 : decode cX12_columnOf 148 = .ok (.getfield 13, 3) := by decide +kernel
theorem dX12_columnOf_151 : decode cX12_columnOf 151 = .ok (.iload_n 2, 1) := by decide +kernel
theorem dX12_columnOf_152 : decode cX12_columnOf 152 = .ok (.iconst 1, 1) := by decide +kernel
theorem dX12_columnOf_153 : decode cX12_columnOf 153 = .ok (.invokestatic 63, 3) := by decide +kernel
theorem dX12_columnOf_156 : decode cX12_columnOf 156 = .ok (.iaload, 1) := by decide +kernel
theorem dX12_columnOf_157 : decode cX12_columnOf 157 = .ok (.isub, 1) := by decide +kernel
theorem dX12_columnOf_158 : decode cX12_columnOf 158 = .ok (.bipush 6, 2) := by decide +kernel
theorem dX12_columnOf_160 : decode cX12_columnOf 160 = .ok (.irem, 1) := by decide +kernel
theorem dX12_columnOf_161 : decode cX12_columnOf 161 = .ok (.ireturn, 1) := by decide +kernel
theorem dX12_isAsAsked_0 : decode cX12_isAsAsked 0 = .ok (.iconst 1, 1) := by decide +kernel
theorem dX12_isAsAsked_1 : decode cX12_isAsAsked 1 = .ok (.istore_n 3, 1) := by decide +kernel
theorem dX12_isAsAsked_2 : decode cX12_isAsAsked 2 = .ok (.iconst 0, 1) := by decide +kernel
theorem dX12_isAsAsked_3 : decode cX12_isAsAsked 3 = .ok (.istore 4, 2) := by decide +kernel
theorem dX12_isAsAsked_5 : decode cX12_isAsAsked 5 = .ok (.iload 4, 2) := by decide +kernel
theorem dX12_isAsAsked_7 : decode cX12_isAsAsked 7 = .ok (.aload_n 0, 1) := by decide +kernel
theorem dX12_isAsAsked_8 : decode cX12_isAsAsked 8 = .ok (.getfield 13, 3) := by decide +kernel
theorem dX12_isAsAsked_11 : decode cX12_isAsAsked 11 = .ok (.iload_n 2, 1) := by decide +kernel
theorem dX12_isAsAsked_12 : decode cX12_isAsAsked 12 = .ok (.iconst 5, 1) := by decide +kernel
theorem dX12_isAsAsked_13 : decode cX12_isAsAsked 13 = .ok (.invokestatic 63, 3) := by decide +kernel
theorem dX12_isAsAsked_16 : decode cX12_isAsAsked 16 = .ok (.iaload, 1) := by decide +kernel
theorem dX12_isAsAsked_17 : decode cX12_isAsAsked 17 = .ok (.if_icmp .ge 138, 3) := by decide +kernel
theorem dX12_isAsAsked_20 : decode cX12_isAsAsked 20 = .ok (.iload_n 3, 1) := by decide +kernel
theorem dX12_isAsAsked_21 : decode cX12_isAsAsked 21 = .ok (.ifCond .eq 134, 3) := by decide +kernel
theorem dX12_isAsAsked_24 : decode cX12_isAsAsked 24 = .ok (.iload_n 2, 1) := by decide +kernel
theorem dX12_isAsAsked_25 : decode cX12_isAsAsked 25 = .ok (.bipush 6, 2) := by decide +kernel
theorem dX12_isAsAsked_27 : decode cX12_isAsAsked 27 = .ok (.iconst 3, 1) := by decide +kernel
theorem dX12_isAsAsked_28 : decode cX12_isAsAsked 28 = .ok (.iload 4, 2) := by decide +kernel
theorem dX12_isAsAsked_30 : decode cX12_isAsAsked 30 = .ok (.imul, 1) := by decide +kernel
theorem dX12_isAsAsked_31 : decode cX12_isAsAsked 31 = .ok (.iadd, 1) := by decide +kernel
theorem dX12_isAsAsked_32 : decode cX12_isAsAsked 32 = .ok (.invokestatic 63, 3) := by decide +kernel
theorem dX12_isAsAsked_35 : decode cX12_isAsAsked 35 = .ok (.istore 5, 2) := by decide +kernel
theorem dX12_isAsAsked_37 : decode cX12_isAsAsked 37 = .ok (.aload_n 0, 1) := by decide +kernel
theorem dX12_isAsAsked_38 : decode cX12_isAsAsked 38 = .ok (.iload_n 1, 1) := by decide +kernel
theorem dX12_isAsAsked_39 : decode cX12_isAsAsked 39 = .ok (.iload_n 2, 1) := by decide +kernel
theorem dX12_isAsAsked_40 : decode cX12_isAsAsked 40 = .ok (.aload_n 0, 1) := by decide +kernel
theorem dX12_isAsAsked_41 : decode cX12_isAsAsked 41 = .ok (.getfield 13, 3) := by decide +kernel
theorem dX12_isAsAsked_44 : decode cX12_isAsAsked 44 = .ok (.iload 5, 2) := by decide +kernel
theorem dX12_isAsAsked_46 : decode cX12_isAsAsked 46 = .ok (.iaload, 1) := by decide +kernel
theorem dX12_isAsAsked_47 : decode cX12_isAsAsked 47 = .ok (.invokevirtual 310, 3) := by decide +kernel
theorem dX12_isAsAsked_50 : decode cX12_isAsAsked 50 = .ok (.istore 6, 2) := by decide +kernel
theorem dX12_isAsAsked_52 : decode cX12_isAsAsked 52 = .ok (.aload_n 0, 1) := by decide +kernel
theorem dX12_isAsAsked_53 : decode cX12_isAsAsked 53 = .ok (.getfield 13, 3) := by decide +kernel
theorem dX12_isAsAsked_56 : decode cX12_isAsAsked 56 = .ok (.iload 5, 2) := by decide +kernel
theorem dX12_isAsAsked_58 : decode cX12_isAsAsked 58 = .ok (.iconst 2, 1) := by decide +kernel
theorem dX12_isAsAsked_59 : decode cX12_isAsAsked 59 = .ok (.iadd, 1) := by decide +kernel
theorem dX12_isAsAsked_60 : decode cX12_isAsAsked 60 = .ok (.iaload, 1) := by decide +kernel
theorem dX12_isAsAsked_61 : decode cX12_isAsAsked 61 = .ok (.istore 7, 2) := by decide +kernel
theorem dX12_isAsAsked_63 : decode cX12_isAsAsked 63 = .ok (.aload_n 0, 1) := by decide +kernel
theorem dX12_isAsAsked_64 : decode cX12_isAsAsked 64 = .ok (.getfield 13, 3) := by decide +kernel
theorem dX12_isAsAsked_67 : decode cX12_isAsAsked 67 = .ok (.iload 5, 2) := by decide +kernel
theorem dX12_isAsAsked_69 : decode cX12_isAsAsked 69 = .ok (.iconst 1, 1) := by decide +kernel
theorem dX12_isAsAsked_70 : decode cX12_isAsAsked 70 = .ok (.iadd, 1) := by decide +kernel
theorem dX12_isAsAsked_71 : decode cX12_isAsAsked 71 = .ok (.iaload, 1) := by decide +kernel
theorem dX12_isAsAsked_72 : decode cX12_isAsAsked 72 = .ok (.istore 8, 2) := by decide +kernel
theorem dX12_isAsAsked_74 : decode cX12_isAsAsked 74 = .ok (.iload 8, 2) := by decide +kernel
theorem dX12_isAsAsked_76 : decode cX12_isAsAsked 76 = .ok (.ifCond .ne 18, 3) := by decide +kernel
theorem dX12_isAsAsked_79 : decode cX12_isAsAsked 79 = .ok (.iload 6, 2) := by decide +kernel
theorem dX12_isAsAsked_81 : decode cX12_isAsAsked 81 = .ok (.iload 7, 2) := by decide +kernel
theorem dX12_isAsAsked_83 : decode cX12_isAsAsked 83 = .ok (.if_icmp .ne 7, 3) := by decide +kernel
theorem dX12_isAsAsked_86 : decode cX12_isAsAsked 86 = .ok (.iconst 1, 1) := by decide +kernel
theorem dX12_isAsAsked_87 : decode cX12_isAsAsked 87 = .ok (.goto 61, 3) := by decide +kernel
theorem dX12_isAsAsked_90 : decode cX12_isAsAsked 90 = .ok (.iconst 0, 1) := by decide +kernel
theorem dX12_isAsAsked_91 : decode cX12_isAsAsked 91 = .ok (.goto 57, 3) := by decide +kernel
theorem dX12_isAsAsked_94 : decode cX12_isAsAsked 94 = .ok (.iload 8, 2) := by decide +kernel
theorem dX12_isAsAsked_96 : decode cX12_isAsAsked 96 = .ok (.iconst 1, 1) := by decide +kernel
theorem dX12_isAsAsked_97 : decode cX12_isAsAsked 97 = .ok (.if_icmp .ne 18, 3) := by decide +kernel
theorem dX12_isAsAsked_100 : decode cX12_isAsAsked 100 = .ok (.iload 6, 2) := by decide +kernel
theorem dX12_isAsAsked_102 : decode cX12_isAsAsked 102 = .ok (.iload 7, 2) := by decide +kernel
theorem dX12_isAsAsked_104 : decode cX12_isAsAsked 104 = .ok (.if_icmp .eq 7, 3) := by decide +kernel
theorem dX12_isAsAsked_107 : decode cX12_isAsAsked 107 = .ok (.iconst 1, 1) := by decide +kernel
theorem dX12_isAsAsked_108 : decode cX12_isAsAsked 108 = .ok (.goto 40, 3) := by decide +kernel
theorem dX12_isAsAsked_111 : decode cX12_isAsAsked 111 = .ok (.iconst 0, 1) := by decide +kernel
theorem dX12_isAsAsked_112 : decode cX12_isAsAsked 112 = .ok (.goto 36, 3) := by decide +kernel
theorem dX12_isAsAsked_115 : decode cX12_isAsAsked 115 = .ok (.iload 8, 2) := by decide +kernel
theorem dX12_isAsAsked_117 : decode cX12_isAsAsked 117 = .ok (.iconst 2, 1) := by decide +kernel
theorem dX12_isAsAsked_118 : decode cX12_isAsAsked 118 = .ok (.if_icmp .ne 18, 3) := by decide +kernel
theorem dX12_isAsAsked_121 : decode cX12_isAsAsked 121 = .ok (.iload 6, 2) := by decide +kernel
theorem dX12_isAsAsked_123 : decode cX12_isAsAsked 123 = .ok (.iload 7, 2) := by decide +kernel
theorem dX12_isAsAsked_125 : decode cX12_isAsAsked 125 = .ok (.if_icmp .ge 7, 3) := by decide +kernel
theorem dX12_isAsAsked_128 : decode cX12_isAsAsked 128 = .ok (.iconst 1, 1) := by decide +kernel
theorem dX12_isAsAsked_129 : decode cX12_isAsAsked 129 = .ok (.goto 19, 3) := by decide +kernel
theorem dX12_isAsAsked_132 : decode cX12_isAsAsked 132 = .ok (.iconst 0, 1) := by decide +kernel
theorem dX12_isAsAsked_133 : decode cX12_isAsAsked 133 = .ok (.goto 15, 3) := by decide +kernel
theorem dX12_isAsAsked_136 : decode cX12_isAsAsked 136 = .ok (.iload 6, 2) := by decide +kernel
theorem dX12_isAsAsked_138 : decode cX12_isAsAsked 138 = .ok (.iload 7, 2) := by decide +kernel
theorem dX12_isAsAsked_140 : decode cX12_isAsAsked 140 = .ok (.if_icmp .le 7, 3) := by decide +kernel
theorem dX12_isAsAsked_143 : decode cX12_isAsAsked 143 = .ok (.iconst 1, 1) := by decide +kernel
theorem dX12_isAsAsked_144 : decode cX12_isAsAsked 144 = .ok (.goto 4, 3) := by decide +kernel
theorem dX12_isAsAsked_147 : decode cX12_isAsAsked 147 = .ok (.iconst 0, 1) := by decide +kernel
theorem dX12_isAsAsked_148 : decode cX12_isAsAsked 148 = .ok (.istore_n 3, 1) := by decide +kernel
theorem dX12_isAsAsked_149 : decode cX12_isAsAsked 149 = .ok (.iinc 4 1, 3) := by decide +kernel
theorem dX12_isAsAsked_152 : decode cX12_isAsAsked 152 = .ok (.goto (-147), 3) := by decide +kernel
theorem dX12_isAsAsked_155 : decode cX12_isAsAsked 155 = .ok (.iload_n 3, 1) := by decide +kernel
theorem dX12_isAsAsked_156 : decode cX12_isAsAsked 156 = .ok (.ireturn, 1) := by decide +kernel
theorem dX12_isAhead_0 : decode cX12_isAhead 0 = .ok (.iconst 0, 1) := by decide +kernel
theorem dX12_isAhead_1 : decode cX12_isAhead 1 = .ok (.istore 4, 2) := by decide +kernel
theorem dX12_isAhead_3 : decode cX12_isAhead 3 = .ok (.iload 4, 2) := by decide +kernel
theorem dX12_isAhead_5 : decode cX12_isAhead 5 = .ok (.aload_n 0, 1) := by decide +kernel
theorem dX12_isAhead_6 : decode cX12_isAhead 6 = .ok (.getfield 13, 3) := by decide +kernel
theorem dX12_isAhead_9 : decode cX12_isAhead 9 = .ok (.iload_n 3, 1) := by decide +kernel
theorem dX12_isAhead_10 : decode cX12_isAhead 10 = .ok (.bipush 18, 2) := by decide +kernel
theorem dX12_isAhead_12 : decode cX12_isAhead 12 = .ok (.invokestatic 63, 3) := by decide +kernel
theorem dX12_isAhead_15 : decode cX12_isAhead 15 = .ok (.iaload, 1) := by decide +kernel
theorem dX12_isAhead_16 : decode cX12_isAhead 16 = .ok (.if_icmp .ge 97, 3) := by decide +kernel
theorem dX12_isAhead_19 : decode cX12_isAhead 19 = .ok (.iload_n 3, 1) := by decide +kernel
theorem dX12_isAhead_20 : decode cX12_isAhead 20 = .ok (.bipush 19, 2) := by decide +kernel
theorem dX12_isAhead_22 : decode cX12_isAhead 22 = .ok (.iconst 2, 1) := by decide +kernel
theorem dX12_isAhead_23 : decode cX12_isAhead 23 = .ok (.iload 4, 2) := by decide +kernel
theorem dX12_isAhead_25 : decode cX12_isAhead 25 = .ok (.imul, 1) := by decide +kernel
theorem dX12_isAhead_26 : decode cX12_isAhead 26 = .ok (.iadd, 1) := by decide +kernel
theorem dX12_isAhead_27 : decode cX12_isAhead 27 = .ok (.invokestatic 63, 3) := by decide +kernel
theorem dX12_isAhead_30 : decode cX12_isAhead 30 = .ok (.istore 5, 2) := by decide +kernel
theorem dX12_isAhead_32 : decode cX12_isAhead 32 = .ok (.aload_n 0, 1) := by decide +kernel
theorem dX12_isAhead_33 : decode cX12_isAhead 33 = .ok (.iload_n 1, 1) := by decide +kernel
theorem dX12_isAhead_34 : decode cX12_isAhead 34 = .ok (.iload_n 3, 1) := by decide +kernel
theorem dX12_isAhead_35 : decode cX12_isAhead 35 = .ok (.aload_n 0, 1) := by decide +kernel
theorem dX12_isAhead_36 : decode cX12_isAhead 36 = .ok (.getfield 13, 3) := by decide +kernel
theorem dX12_isAhead_39 : decode cX12_isAhead 39 = .ok (.iload 5, 2) := by decide +kernel
theorem dX12_isAhead_41 : decode cX12_isAhead 41 = .ok (.iaload, 1) := by decide +kernel
theorem dX12_isAhead_42 : decode cX12_isAhead 42 = .ok (.invokevirtual 310, 3) := by decide +kernel
theorem dX12_isAhead_45 : decode cX12_isAhead 45 = .ok (.istore 6, 2) := by decide +kernel
theorem dX12_isAhead_47 : decode cX12_isAhead 47 = .ok (.aload_n 0, 1) := by decide +kernel
theorem dX12_isAhead_48 : decode cX12_isAhead 48 = .ok (.iload_n 2, 1) := by decide +kernel
theorem dX12_isAhead_49 : decode cX12_isAhead 49 = .ok (.iload_n 3, 1) := by decide +kernel
theorem dX12_isAhead_50 : decode cX12_isAhead 50 = .ok (.aload_n 0, 1) := by decide +kernel
theorem dX12_isAhead_51 : decode cX12_isAhead 51 = .ok (.getfield 13, 3) := by decide +kernel
theorem dX12_isAhead_54 : decode cX12_isAhead 54 = .ok (.iload 5, 2) := by decide +kernel
theorem dX12_isAhead_56 : decode cX12_isAhead 56 = .ok (.iaload, 1) := by decide +kernel
theorem dX12_isAhead_57 : decode cX12_isAhead 57 = .ok (.invokevirtual 310, 3) := by decide +kernel
theorem dX12_isAhead_60 : decode cX12_isAhead 60 = .ok (.istore 7, 2) := by decide +kernel
theorem dX12_isAhead_62 : decode cX12_isAhead 62 = .ok (.iload 6, 2) := by decide +kernel
theorem dX12_isAhead_64 : decode cX12_isAhead 64 = .ok (.iload 7, 2) := by decide +kernel
theorem dX12_isAhead_66 : decode cX12_isAhead 66 = .ok (.if_icmp .eq 41, 3) := by decide +kernel
theorem dX12_isAhead_69 : decode cX12_isAhead 69 = .ok (.iload 6, 2) := by decide +kernel
theorem dX12_isAhead_71 : decode cX12_isAhead 71 = .ok (.iload 7, 2) := by decide +kernel
theorem dX12_isAhead_73 : decode cX12_isAhead 73 = .ok (.if_icmp .ge 7, 3) := by decide +kernel
theorem dX12_isAhead_76 : decode cX12_isAhead 76 = .ok (.iconst 1, 1) := by decide +kernel
theorem dX12_isAhead_77 : decode cX12_isAhead 77 = .ok (.goto 4, 3) := by decide +kernel
theorem dX12_isAhead_80 : decode cX12_isAhead 80 = .ok (.iconst 0, 1) := by decide +kernel
theorem dX12_isAhead_81 : decode cX12_isAhead 81 = .ok (.aload_n 0, 1) := by decide +kernel
theorem dX12_isAhead_82 : decode cX12_isAhead 82 = .ok (.getfield 13, 3) := by decide +kernel
theorem dX12_isAhead_85 : decode cX12_isAhead 85 = .ok (.iload 5, 2) := by decide +kernel
theorem dX12_isAhead_87 : decode cX12_isAhead 87 = .ok (.iconst 1, 1) := by decide +kernel
theorem dX12_isAhead_88 : decode cX12_isAhead 88 = .ok (.iadd, 1) := by decide +kernel
theorem dX12_isAhead_89 : decode cX12_isAhead 89 = .ok (.iaload, 1) := by decide +kernel
theorem dX12_isAhead_90 : decode cX12_isAhead 90 = .ok (.ifCond .ne 7, 3) := by decide +kernel
theorem dX12_isAhead_93 : decode cX12_isAhead 93 = .ok (.iconst 1, 1) := by decide +kernel
theorem dX12_isAhead_94 : decode cX12_isAhead 94 = .ok (.goto 4, 3) := by decide +kernel
theorem dX12_isAhead_97 : decode cX12_isAhead 97 = .ok (.iconst 0, 1) := by decide +kernel
theorem dX12_isAhead_98 : decode cX12_isAhead 98 = .ok (.if_icmp .ne 7, 3) := by decide +kernel
theorem dX12_isAhead_101 : decode cX12_isAhead 101 = .ok (.iconst 1, 1) := by decide +kernel
theorem dX12_isAhead_102 : decode cX12_isAhead 102 = .ok (.goto 4, 3) := by decide +kernel
theorem dX12_isAhead_105 : decode cX12_isAhead 105 = .ok (.iconst 0, 1) := by decide +kernel
theorem dX12_isAhead_106 : decode cX12_isAhead 106 = .ok (.ireturn, 1) := by decide +kernel
theorem dX12_isAhead_107 : decode cX12_isAhead 107 = .ok (.iinc 4 1, 3) := by decide +kernel
theorem dX12_isAhead_110 : decode cX12_isAhead 110 = .ok (.goto (-107), 3) := by decide +kernel
theorem dX12_isAhead_113 : decode cX12_isAhead 113 = .ok (.aload_n 0, 1) := by decide +kernel
theorem dX12_isAhead_114 : decode cX12_isAhead 114 = .ok (.iload_n 1, 1) := by decide +kernel
theorem dX12_isAhead_115 : decode cX12_isAhead 115 = .ok (.invokevirtual 59, 3) := by decide +kernel
theorem dX12_isAhead_118 : decode cX12_isAhead 118 = .ok (.aload_n 0, 1) := by decide +kernel
theorem dX12_isAhead_119 : decode cX12_isAhead 119 = .ok (.iload_n 2, 1) := by decide +kernel
theorem dX12_isAhead_120 : decode cX12_isAhead 120 = .ok (.invokevirtual 59, 3) := by decide +kernel
theorem dX12_isAhead_123 : decode cX12_isAhead 123 = .ok (.if_icmp .ge 7, 3) := by decide +kernel
theorem dX12_isAhead_126 : decode cX12_isAhead 126 = .ok (.iconst 1, 1) := by decide +kernel
theorem dX12_isAhead_127 : decode cX12_isAhead 127 = .ok (.goto 4, 3) := by decide +kernel
theorem dX12_isAhead_130 : decode cX12_isAhead 130 = .ok (.iconst 0, 1) := by decide +kernel
theorem dX12_isAhead_131 : decode cX12_isAhead 131 = .ok (.ireturn, 1) := by decide +kernel
theorem dX12_firstFor_0 : decode cX12_firstFor 0 = .ok (.iconst (-1), 1) := by decide +kernel
theorem dX12_firstFor_1 : decode cX12_firstFor 1 = .ok (.istore_n 2, 1) := by decide +kernel
theorem dX12_firstFor_2 : decode cX12_firstFor 2 = .ok (.iconst 0, 1) := by decide +kernel
theorem dX12_firstFor_3 : decode cX12_firstFor 3 = .ok (.istore_n 3, 1) := by decide +kernel
theorem dX12_firstFor_4 : decode cX12_firstFor 4 = .ok (.iload_n 3, 1) := by decide +kernel
theorem dX12_firstFor_5 : decode cX12_firstFor 5 = .ok (.bipush 24, 2) := by decide +kernel
theorem dX12_firstFor_7 : decode cX12_firstFor 7 = .ok (.if_icmp .ge 44, 3) := by decide +kernel
theorem dX12_firstFor_10 : decode cX12_firstFor 10 = .ok (.aload_n 0, 1) := by decide +kernel
theorem dX12_firstFor_11 : decode cX12_firstFor 11 = .ok (.iload_n 3, 1) := by decide +kernel
theorem dX12_firstFor_12 : decode cX12_firstFor 12 = .ok (.iload_n 1, 1) := by decide +kernel
theorem dX12_firstFor_13 : decode cX12_firstFor 13 = .ok (.invokevirtual 313, 3) := by decide +kernel
theorem dX12_firstFor_16 : decode cX12_firstFor 16 = .ok (.ifCond .eq 29, 3) := by decide +kernel
theorem dX12_firstFor_19 : decode cX12_firstFor 19 = .ok (.aload_n 0, 1) := by decide +kernel
theorem dX12_firstFor_20 : decode cX12_firstFor 20 = .ok (.iload_n 3, 1) := by decide +kernel
theorem dX12_firstFor_21 : decode cX12_firstFor 21 = .ok (.iload_n 1, 1) := by decide +kernel
theorem dX12_firstFor_22 : decode cX12_firstFor 22 = .ok (.invokevirtual 316, 3) := by decide +kernel
theorem dX12_firstFor_25 : decode cX12_firstFor 25 = .ok (.ifCond .eq 20, 3) := by decide +kernel
theorem dX12_firstFor_28 : decode cX12_firstFor 28 = .ok (.iload_n 2, 1) := by decide +kernel
theorem dX12_firstFor_29 : decode cX12_firstFor 29 = .ok (.iconst (-1), 1) := by decide +kernel
theorem dX12_firstFor_30 : decode cX12_firstFor 30 = .ok (.if_icmp .eq 13, 3) := by decide +kernel
theorem dX12_firstFor_33 : decode cX12_firstFor 33 = .ok (.aload_n 0, 1) := by decide +kernel
theorem dX12_firstFor_34 : decode cX12_firstFor 34 = .ok (.iload_n 3, 1) := by decide +kernel
theorem dX12_firstFor_35 : decode cX12_firstFor 35 = .ok (.iload_n 2, 1) := by decide +kernel
theorem dX12_firstFor_36 : decode cX12_firstFor 36 = .ok (.iload_n 1, 1) := by decide +kernel
theorem dX12_firstFor_37 : decode cX12_firstFor 37 = .ok (.invokevirtual 319, 3) := by decide +kernel
theorem dX12_firstFor_40 : decode cX12_firstFor 40 = .ok (.ifCond .eq 5, 3) := by decide +kernel
theorem dX12_firstFor_43 : decode cX12_firstFor 43 = .ok (.iload_n 3, 1) := by decide +kernel
theorem dX12_firstFor_44 : decode cX12_firstFor 44 = .ok (.istore_n 2, 1) := by decide +kernel
theorem dX12_firstFor_45 : decode cX12_firstFor 45 = .ok (.iinc 3 1, 3) := by decide +kernel
theorem dX12_firstFor_48 : decode cX12_firstFor 48 = .ok (.goto (-44), 3) := by decide +kernel
theorem dX12_firstFor_51 : decode cX12_firstFor 51 = .ok (.iload_n 2, 1) := by decide +kernel
theorem dX12_firstFor_52 : decode cX12_firstFor 52 = .ok (.ireturn, 1) := by decide +kernel
theorem dX12_claims_0 : decode cX12_claims 0 = .ok (.iconst 0, 1) := by decide +kernel
theorem dX12_claims_1 : decode cX12_claims 1 = .ok (.istore_n 2, 1) := by decide +kernel
theorem dX12_claims_2 : decode cX12_claims 2 = .ok (.aload_n 0, 1) := by decide +kernel
theorem dX12_claims_3 : decode cX12_claims 3 = .ok (.getfield 13, 3) := by decide +kernel
theorem dX12_claims_6 : decode cX12_claims 6 = .ok (.iload_n 1, 1) := by decide +kernel
theorem dX12_claims_7 : decode cX12_claims 7 = .ok (.iconst 4, 1) := by decide +kernel
theorem dX12_claims_8 : decode cX12_claims 8 = .ok (.invokestatic 63, 3) := by decide +kernel
theorem dX12_claims_11 : decode cX12_claims 11 = .ok (.iaload, 1) := by decide +kernel
theorem dX12_claims_12 : decode cX12_claims 12 = .ok (.istore_n 3, 1) := by decide +kernel
theorem dX12_claims_13 : decode cX12_claims 13 = .ok (.aload_n 0, 1) := by decide +kernel
theorem dX12_claims_14 : decode cX12_claims 14 = .ok (.iload_n 1, 1) := by decide +kernel
theorem dX12_claims_15 : decode cX12_claims 15 = .ok (.invokevirtual 322, 3) := by decide +kernel
theorem dX12_claims_18 : decode cX12_claims 18 = .ok (.istore 4, 2) := by decide +kernel
theorem dX12_claims_20 : decode cX12_claims 20 = .ok (.iload 4, 2) := by decide +kernel
theorem dX12_claims_22 : decode cX12_claims 22 = .ok (.iconst (-1), 1) := by decide +kernel
theorem dX12_claims_23 : decode cX12_claims 23 = .ok (.if_icmp .eq 128, 3) := by decide +kernel
theorem dX12_claims_26 : decode cX12_claims 26 = .ok (.iload_n 2, 1) := by decide +kernel
theorem dX12_claims_27 : decode cX12_claims 27 = .ok (.iload_n 3, 1) := by decide +kernel
theorem dX12_claims_28 : decode cX12_claims 28 = .ok (.if_icmp .ge 123, 3) := by decide +kernel
theorem dX12_claims_31 : decode cX12_claims 31 = .ok (.aload_n 0, 1) := by decide +kernel
theorem dX12_claims_32 : decode cX12_claims 32 = .ok (.iload 4, 2) := by decide +kernel
theorem dX12_claims_34 : decode cX12_claims 34 = .ok (.iload_n 1, 1) := by decide +kernel
theorem dX12_claims_35 : decode cX12_claims 35 = .ok (.invokevirtual 325, 3) := by decide +kernel
theorem dX12_claims_38 : decode cX12_claims 38 = .ok (.istore 5, 2) := by decide +kernel
theorem dX12_claims_40 : decode cX12_claims 40 = .ok (.aload_n 0, 1) := by decide +kernel
theorem dX12_claims_41 : decode cX12_claims 41 = .ok (.getfield 13, 3) := by decide +kernel
theorem dX12_claims_44 : decode cX12_claims 44 = .ok (.iconst 5, 1) := by decide +kernel
theorem dX12_claims_45 : decode cX12_claims 45 = .ok (.dup2, 1) := by decide +kernel
theorem dX12_claims_46 : decode cX12_claims 46 = .ok (.iaload, 1) := by decide +kernel
theorem dX12_claims_47 : decode cX12_claims 47 = .ok (.iconst 1, 1) := by decide +kernel
theorem dX12_claims_48 : decode cX12_claims 48 = .ok (.iadd, 1) := by decide +kernel
theorem dX12_claims_49 : decode cX12_claims 49 = .ok (.iastore, 1) := by decide +kernel
theorem dX12_claims_50 : decode cX12_claims 50 = .ok (.aload_n 0, 1) := by decide +kernel
theorem dX12_claims_51 : decode cX12_claims 51 = .ok (.getfield 13, 3) := by decide +kernel
theorem dX12_claims_54 : decode cX12_claims 54 = .ok (.iload 5, 2) := by decide +kernel
theorem dX12_claims_56 : decode cX12_claims 56 = .ok (.iconst 3, 1) := by decide +kernel
theorem dX12_claims_57 : decode cX12_claims 57 = .ok (.iadd, 1) := by decide +kernel
theorem dX12_claims_58 : decode cX12_claims 58 = .ok (.iconst 1, 1) := by decide +kernel
theorem dX12_claims_59 : decode cX12_claims 59 = .ok (.iastore, 1) := by decide +kernel
theorem dX12_claims_60 : decode cX12_claims 60 = .ok (.aload_n 0, 1) := by decide +kernel
theorem dX12_claims_61 : decode cX12_claims 61 = .ok (.getfield 13, 3) := by decide +kernel
theorem dX12_claims_64 : decode cX12_claims 64 = .ok (.iload 5, 2) := by decide +kernel
theorem dX12_claims_66 : decode cX12_claims 66 = .ok (.bipush 9, 2) := by decide +kernel
theorem dX12_claims_68 : decode cX12_claims 68 = .ok (.iadd, 1) := by decide +kernel
theorem dX12_claims_69 : decode cX12_claims 69 = .ok (.iload_n 1, 1) := by decide +kernel
theorem dX12_claims_70 : decode cX12_claims 70 = .ok (.iastore, 1) := by decide +kernel
theorem dX12_claims_71 : decode cX12_claims 71 = .ok (.aload_n 0, 1) := by decide +kernel
theorem dX12_claims_72 : decode cX12_claims 72 = .ok (.getfield 13, 3) := by decide +kernel
theorem dX12_claims_75 : decode cX12_claims 75 = .ok (.iload 5, 2) := by decide +kernel
theorem dX12_claims_77 : decode cX12_claims 77 = .ok (.bipush 8, 2) := by decide +kernel
theorem dX12_claims_79 : decode cX12_claims 79 = .ok (.iadd, 1) := by decide +kernel
theorem dX12_claims_80 : decode cX12_claims 80 = .ok (.aload_n 0, 1) := by decide +kernel
theorem dX12_claims_81 : decode cX12_claims 81 = .ok (.getfield 13, 3) := by decide +kernel
theorem dX12_claims_84 : decode cX12_claims 84 = .ok (.iconst 5, 1) := by decide +kernel
theorem dX12_claims_85 : decode cX12_claims 85 = .ok (.iaload, 1) := by decide +kernel
theorem dX12_claims_86 : decode cX12_claims 86 = .ok (.iastore, 1) := by decide +kernel
theorem dX12_claims_87 : decode cX12_claims 87 = .ok (.aload_n 0, 1) := by decide +kernel
theorem dX12_claims_88 : decode cX12_claims 88 = .ok (.getfield 13, 3) := by decide +kernel
theorem dX12_claims_91 : decode cX12_claims 91 = .ok (.iload 5, 2) := by decide +kernel
theorem dX12_claims_93 : decode cX12_claims 93 = .ok (.bipush 10, 2) := by decide +kernel
theorem dX12_claims_95 : decode cX12_claims 95 = .ok (.iadd, 1) := by decide +kernel
theorem dX12_claims_96 : decode cX12_claims 96 = .ok (.aload_n 0, 1) := by decide +kernel
theorem dX12_claims_97 : decode cX12_claims 97 = .ok (.getfield 13, 3) := by decide +kernel
theorem dX12_claims_100 : decode cX12_claims 100 = .ok (.iconst 3, 1) := by decide +kernel
theorem dX12_claims_101 : decode cX12_claims 101 = .ok (.iaload, 1) := by decide +kernel
theorem dX12_claims_102 : decode cX12_claims 102 = .ok (.aload_n 0, 1) := by decide +kernel
theorem dX12_claims_103 : decode cX12_claims 103 = .ok (.getfield 13, 3) := by decide +kernel
theorem dX12_claims_106 : decode cX12_claims 106 = .ok (.bipush 9, 2) := by decide +kernel
theorem dX12_claims_108 : decode cX12_claims 108 = .ok (.iaload, 1) := by decide +kernel
theorem dX12_claims_109 : decode cX12_claims 109 = .ok (.iadd, 1) := by decide +kernel
theorem dX12_claims_110 : decode cX12_claims 110 = .ok (.iastore, 1) := by decide +kernel
theorem dX12_claims_111 : decode cX12_claims 111 = .ok (.aload_n 0, 1) := by decide +kernel
theorem dX12_claims_112 : decode cX12_claims 112 = .ok (.getfield 13, 3) := by decide +kernel
theorem dX12_claims_115 : decode cX12_claims 115 = .ok (.iload_n 1, 1) := by decide +kernel
theorem dX12_claims_116 : decode cX12_claims 116 = .ok (.iconst 1, 1) := by decide +kernel
theorem dX12_claims_117 : decode cX12_claims 117 = .ok (.invokestatic 63, 3) := by decide +kernel
theorem dX12_claims_120 : decode cX12_claims 120 = .ok (.aload_n 0, 1) := by decide +kernel
theorem dX12_claims_121 : decode cX12_claims 121 = .ok (.getfield 13, 3) := by decide +kernel
theorem dX12_claims_124 : decode cX12_claims 124 = .ok (.iload 5, 2) := by decide +kernel
theorem dX12_claims_126 : decode cX12_claims 126 = .ok (.iconst 0, 1) := by decide +kernel
theorem dX12_claims_127 : decode cX12_claims 127 = .ok (.iadd, 1) := by decide +kernel
theorem dX12_claims_128 : decode cX12_claims 128 = .ok (.iaload, 1) := by decide +kernel
theorem dX12_claims_129 : decode cX12_claims 129 = .ok (.iastore, 1) := by decide +kernel
theorem dX12_claims_130 : decode cX12_claims 130 = .ok (.aload_n 0, 1) := by decide +kernel
theorem dX12_claims_131 : decode cX12_claims 131 = .ok (.getfield 39, 3) := by decide +kernel
theorem dX12_claims_134 : decode cX12_claims 134 = .ok (.iload_n 2, 1) := by decide +kernel
theorem dX12_claims_135 : decode cX12_claims 135 = .ok (.iload 4, 2) := by decide +kernel
theorem dX12_claims_137 : decode cX12_claims 137 = .ok (.iastore, 1) := by decide +kernel
theorem dX12_claims_138 : decode cX12_claims 138 = .ok (.iinc 2 1, 3) := by decide +kernel
theorem dX12_claims_141 : decode cX12_claims 141 = .ok (.aload_n 0, 1) := by decide +kernel
theorem dX12_claims_142 : decode cX12_claims 142 = .ok (.iload_n 1, 1) := by decide +kernel
theorem dX12_claims_143 : decode cX12_claims 143 = .ok (.invokevirtual 322, 3) := by decide +kernel
theorem dX12_claims_146 : decode cX12_claims 146 = .ok (.istore 4, 2) := by decide +kernel
theorem dX12_claims_148 : decode cX12_claims 148 = .ok (.goto (-128), 3) := by decide +kernel
theorem dX12_claims_151 : decode cX12_claims 151 = .ok (.iload_n 2, 1) := by decide +kernel
theorem dX12_claims_152 : decode cX12_claims 152 = .ok (.ireturn, 1) := by decide +kernel
theorem dX12_claim_0 : decode cX12_claim 0 = .ok (.aload_n 0, 1) := by decide +kernel
theorem dX12_claim_1 : decode cX12_claim 1 = .ok (.iconst 0, 1) := by decide +kernel
theorem dX12_claim_2 : decode cX12_claim 2 = .ok (.putfield 3, 3) := by decide +kernel
theorem dX12_claim_5 : decode cX12_claim 5 = .ok (.aload_n 0, 1) := by decide +kernel
theorem dX12_claim_6 : decode cX12_claim 6 = .ok (.aload_n 0, 1) := by decide +kernel
theorem dX12_claim_7 : decode cX12_claim 7 = .ok (.iload_n 1, 1) := by decide +kernel
theorem dX12_claim_8 : decode cX12_claim 8 = .ok (.invokevirtual 245, 3) := by decide +kernel
theorem dX12_claim_11 : decode cX12_claim 11 = .ok (.iconst 1, 1) := by decide +kernel
theorem dX12_claim_12 : decode cX12_claim 12 = .ok (.invokevirtual 199, 3) := by decide +kernel
theorem dX12_claim_15 : decode cX12_claim 15 = .ok (.ifCond .eq 5, 3) := by decide +kernel
theorem dX12_claim_18 : decode cX12_claim 18 = .ok (.iconst 0, 1) := by decide +kernel
theorem dX12_claim_19 : decode cX12_claim 19 = .ok (.ireturn, 1) := by decide +kernel
theorem dX12_claim_20 : decode cX12_claim 20 = .ok (.aload_n 0, 1) := by decide +kernel
theorem dX12_claim_21 : decode cX12_claim 21 = .ok (.iload_n 1, 1) := by decide +kernel
theorem dX12_claim_22 : decode cX12_claim 22 = .ok (.invokevirtual 328, 3) := by decide +kernel
theorem dX12_claim_25 : decode cX12_claim 25 = .ok (.istore_n 2, 1) := by decide +kernel
theorem dX12_claim_26 : decode cX12_claim 26 = .ok (.aload_n 0, 1) := by decide +kernel
theorem dX12_claim_27 : decode cX12_claim 27 = .ok (.iload_n 1, 1) := by decide +kernel
theorem dX12_claim_28 : decode cX12_claim 28 = .ok (.invokevirtual 331, 3) := by decide +kernel
theorem dX12_claim_31 : decode cX12_claim 31 = .ok (.iload_n 2, 1) := by decide +kernel
theorem dX12_claim_32 : decode cX12_claim 32 = .ok (.ireturn, 1) := by decide +kernel
theorem dX12_bars_0 : decode cX12_bars 0 = .ok (.aload_n 0, 1) := by decide +kernel
theorem dX12_bars_1 : decode cX12_bars 1 = .ok (.iload_n 1, 1) := by decide +kernel
theorem dX12_bars_2 : decode cX12_bars 2 = .ok (.iload_n 2, 1) := by decide +kernel
theorem dX12_bars_3 : decode cX12_bars 3 = .ok (.invokevirtual 301, 3) := by decide +kernel
theorem dX12_bars_6 : decode cX12_bars 6 = .ok (.ifCond .eq 5, 3) := by decide +kernel
theorem dX12_bars_9 : decode cX12_bars 9 = .ok (.iconst 2, 1) := by decide +kernel
theorem dX12_bars_10 : decode cX12_bars 10 = .ok (.ireturn, 1) := by decide +kernel
theorem dX12_bars_11 : decode cX12_bars 11 = .ok (.aload_n 0, 1) := by decide +kernel
theorem dX12_bars_12 : decode cX12_bars 12 = .ok (.iload_n 1, 1) := by decide +kernel
theorem dX12_bars_13 : decode cX12_bars 13 = .ok (.iload_n 2, 1) := by decide +kernel
theorem dX12_bars_14 : decode cX12_bars 14 = .ok (.invokevirtual 295, 3) := by decide +kernel
theorem dX12_bars_17 : decode cX12_bars 17 = .ok (.istore 4, 2) := by decide +kernel
theorem dX12_bars_19 : decode cX12_bars 19 = .ok (.aload_n 0, 1) := by decide +kernel
theorem dX12_bars_20 : decode cX12_bars 20 = .ok (.getfield 13, 3) := by decide +kernel
theorem dX12_bars_23 : decode cX12_bars 23 = .ok (.iload 4, 2) := by decide +kernel
theorem dX12_bars_25 : decode cX12_bars 25 = .ok (.iconst 3, 1) := by decide +kernel
theorem dX12_bars_26 : decode cX12_bars 26 = .ok (.iadd, 1) := by decide +kernel
theorem dX12_bars_27 : decode cX12_bars 27 = .ok (.iaload, 1) := by decide +kernel
theorem dX12_bars_28 : decode cX12_bars 28 = .ok (.iconst 1, 1) := by decide +kernel
theorem dX12_bars_29 : decode cX12_bars 29 = .ok (.if_icmp .ne 31, 3) := by decide +kernel
theorem dX12_bars_32 : decode cX12_bars 32 = .ok (.aload_n 0, 1) := by decide +kernel
theorem dX12_bars_33 : decode cX12_bars 33 = .ok (.getfield 13, 3) := by decide +kernel
theorem dX12_bars_36 : decode cX12_bars 36 = .ok (.iload 4, 2) := by decide +kernel
theorem dX12_bars_38 : decode cX12_bars 38 = .ok (.bipush 8, 2) := by decide +kernel
theorem dX12_bars_40 : decode cX12_bars 40 = .ok (.iadd, 1) := by decide +kernel
theorem dX12_bars_41 : decode cX12_bars 41 = .ok (.iaload, 1) := by decide +kernel
theorem dX12_bars_42 : decode cX12_bars 42 = .ok (.iload_n 3, 1) := by decide +kernel
theorem dX12_bars_43 : decode cX12_bars 43 = .ok (.if_icmp .ne 17, 3) := by decide +kernel
theorem dX12_bars_46 : decode cX12_bars 46 = .ok (.aload_n 0, 1) := by decide +kernel
theorem dX12_bars_47 : decode cX12_bars 47 = .ok (.getfield 13, 3) := by decide +kernel
theorem dX12_bars_50 : decode cX12_bars 50 = .ok (.iload 4, 2) := by decide +kernel
theorem dX12_bars_52 : decode cX12_bars 52 = .ok (.bipush 9, 2) := by decide +kernel
theorem dX12_bars_54 : decode cX12_bars 54 = .ok (.iadd, 1) := by decide +kernel
theorem dX12_bars_55 : decode cX12_bars 55 = .ok (.iaload, 1) := by decide +kernel
theorem dX12_bars_56 : decode cX12_bars 56 = .ok (.iload_n 2, 1) := by decide +kernel
theorem dX12_bars_57 : decode cX12_bars 57 = .ok (.if_icmp .eq 5, 3) := by decide +kernel
theorem dX12_bars_60 : decode cX12_bars 60 = .ok (.iconst 3, 1) := by decide +kernel
theorem dX12_bars_61 : decode cX12_bars 61 = .ok (.ireturn, 1) := by decide +kernel
theorem dX12_bars_62 : decode cX12_bars 62 = .ok (.aload_n 0, 1) := by decide +kernel
theorem dX12_bars_63 : decode cX12_bars 63 = .ok (.getfield 13, 3) := by decide +kernel
theorem dX12_bars_66 : decode cX12_bars 66 = .ok (.iload 4, 2) := by decide +kernel
theorem dX12_bars_68 : decode cX12_bars 68 = .ok (.bipush 10, 2) := by decide +kernel
theorem dX12_bars_70 : decode cX12_bars 70 = .ok (.iadd, 1) := by decide +kernel
theorem dX12_bars_71 : decode cX12_bars 71 = .ok (.iaload, 1) := by decide +kernel
theorem dX12_bars_72 : decode cX12_bars 72 = .ok (.aload_n 0, 1) := by decide +kernel
theorem dX12_bars_73 : decode cX12_bars 73 = .ok (.getfield 13, 3) := by decide +kernel
theorem dX12_bars_76 : decode cX12_bars 76 = .ok (.iconst 3, 1) := by decide +kernel
theorem dX12_bars_77 : decode cX12_bars 77 = .ok (.iaload, 1) := by decide +kernel
theorem dX12_bars_78 : decode cX12_bars 78 = .ok (.if_icmp .ge 7, 3) := by decide +kernel
theorem dX12_bars_81 : decode cX12_bars 81 = .ok (.iconst 4, 1) := by decide +kernel
theorem dX12_bars_82 : decode cX12_bars 82 = .ok (.goto 4, 3) := by decide +kernel
theorem dX12_bars_85 : decode cX12_bars 85 = .ok (.iconst 0, 1) := by decide +kernel
theorem dX12_bars_86 : decode cX12_bars 86 = .ok (.ireturn, 1) := by decide +kernel
theorem dX12_jobFor_0 : decode cX12_jobFor 0 = .ok (.aload_n 0, 1) := by decide +kernel
theorem dX12_jobFor_1 : decode cX12_jobFor 1 = .ok (.iconst 0, 1) := by decide +kernel
theorem dX12_jobFor_2 : decode cX12_jobFor 2 = .ok (.putfield 3, 3) := by decide +kernel
theorem dX12_jobFor_5 : decode cX12_jobFor 5 = .ok (.aload_n 0, 1) := by decide +kernel
theorem dX12_jobFor_6 : decode cX12_jobFor 6 = .ok (.iload_n 2, 1) := by decide +kernel
theorem dX12_jobFor_7 : decode cX12_jobFor 7 = .ok (.invokevirtual 334, 3) := by decide +kernel
theorem dX12_jobFor_10 : decode cX12_jobFor 10 = .ok (.istore_n 3, 1) := by decide +kernel
theorem dX12_jobFor_11 : decode cX12_jobFor 11 = .ok (.iload_n 3, 1) := by decide +kernel
theorem dX12_jobFor_12 : decode cX12_jobFor 12 = .ok (.iconst (-1), 1) := by decide +kernel
theorem dX12_jobFor_13 : decode cX12_jobFor 13 = .ok (.if_icmp .eq 30, 3) := by decide +kernel
theorem dX12_jobFor_16 : decode cX12_jobFor 16 = .ok (.iload_n 1, 1) := by decide +kernel
theorem dX12_jobFor_17 : decode cX12_jobFor 17 = .ok (.iconst (-1), 1) := by decide +kernel
theorem dX12_jobFor_18 : decode cX12_jobFor 18 = .ok (.if_icmp .eq 11, 3) := by decide +kernel
theorem dX12_jobFor_21 : decode cX12_jobFor 21 = .ok (.aload_n 0, 1) := by decide +kernel
theorem dX12_jobFor_22 : decode cX12_jobFor 22 = .ok (.iload_n 1, 1) := by decide +kernel
theorem dX12_jobFor_23 : decode cX12_jobFor 23 = .ok (.invokevirtual 245, 3) := by decide +kernel
theorem dX12_jobFor_26 : decode cX12_jobFor 26 = .ok (.ifCond .ne 17, 3) := by decide +kernel
theorem dX12_jobFor_29 : decode cX12_jobFor 29 = .ok (.aload_n 0, 1) := by decide +kernel
theorem dX12_jobFor_30 : decode cX12_jobFor 30 = .ok (.iload_n 3, 1) := by decide +kernel
theorem dX12_jobFor_31 : decode cX12_jobFor 31 = .ok (.iload_n 1, 1) := by decide +kernel
theorem dX12_jobFor_32 : decode cX12_jobFor 32 = .ok (.invokevirtual 295, 3) := by decide +kernel
theorem dX12_jobFor_35 : decode cX12_jobFor 35 = .ok (.iconst (-1), 1) := by decide +kernel
theorem dX12_jobFor_36 : decode cX12_jobFor 36 = .ok (.if_icmp .eq 7, 3) := by decide +kernel
theorem dX12_jobFor_39 : decode cX12_jobFor 39 = .ok (.iconst 1, 1) := by decide +kernel
theorem dX12_jobFor_40 : decode cX12_jobFor 40 = .ok (.goto 4, 3) := by decide +kernel
theorem dX12_jobFor_43 : decode cX12_jobFor 43 = .ok (.iconst 0, 1) := by decide +kernel
theorem dX12_jobFor_44 : decode cX12_jobFor 44 = .ok (.istore 4, 2) := by decide +kernel
theorem dX12_jobFor_46 : decode cX12_jobFor 46 = .ok (.aload_n 0, 1) := by decide +kernel
theorem dX12_jobFor_47 : decode cX12_jobFor 47 = .ok (.iload 4, 2) := by decide +kernel
theorem dX12_jobFor_49 : decode cX12_jobFor 49 = .ok (.ifCond .ne 7, 3) := by decide +kernel
theorem dX12_jobFor_52 : decode cX12_jobFor 52 = .ok (.iconst 1, 1) := by decide +kernel
theorem dX12_jobFor_53 : decode cX12_jobFor 53 = .ok (.goto 4, 3) := by decide +kernel
theorem dX12_jobFor_56 : decode cX12_jobFor 56 = .ok (.iconst 0, 1) := by decide +kernel
theorem dX12_jobFor_57 : decode cX12_jobFor 57 = .ok (.iconst 1, 1) := by decide +kernel
theorem dX12_jobFor_58 : decode cX12_jobFor 58 = .ok (.invokevirtual 199, 3) := by decide +kernel
theorem dX12_jobFor_61 : decode cX12_jobFor 61 = .ok (.ifCond .eq 7, 3) := by decide +kernel
theorem dX12_jobFor_64 : decode cX12_jobFor 64 = .ok (.iconst (-1), 1) := by decide +kernel
theorem dX12_jobFor_65 : decode cX12_jobFor 65 = .ok (.goto 4, 3) := by decide +kernel
theorem dX12_jobFor_68 : decode cX12_jobFor 68 = .ok (.iload_n 3, 1) := by decide +kernel
theorem dX12_jobFor_69 : decode cX12_jobFor 69 = .ok (.ireturn, 1) := by decide +kernel
theorem dX12_ownJobFor_0 : decode cX12_ownJobFor 0 = .ok (.aload_n 0, 1) := by decide +kernel
theorem dX12_ownJobFor_1 : decode cX12_ownJobFor 1 = .ok (.iload_n 1, 1) := by decide +kernel
theorem dX12_ownJobFor_2 : decode cX12_ownJobFor 2 = .ok (.iload_n 2, 1) := by decide +kernel
theorem dX12_ownJobFor_3 : decode cX12_ownJobFor 3 = .ok (.invokevirtual 337, 3) := by decide +kernel
theorem dX12_ownJobFor_6 : decode cX12_ownJobFor 6 = .ok (.istore_n 3, 1) := by decide +kernel
theorem dX12_ownJobFor_7 : decode cX12_ownJobFor 7 = .ok (.aload_n 0, 1) := by decide +kernel
theorem dX12_ownJobFor_8 : decode cX12_ownJobFor 8 = .ok (.iload_n 1, 1) := by decide +kernel
theorem dX12_ownJobFor_9 : decode cX12_ownJobFor 9 = .ok (.iconst (-1), 1) := by decide +kernel
theorem dX12_ownJobFor_10 : decode cX12_ownJobFor 10 = .ok (.if_icmp .ne 7, 3) := by decide +kernel
theorem dX12_ownJobFor_13 : decode cX12_ownJobFor 13 = .ok (.iconst 1, 1) := by decide +kernel
theorem dX12_ownJobFor_14 : decode cX12_ownJobFor 14 = .ok (.goto 4, 3) := by decide +kernel
theorem dX12_ownJobFor_17 : decode cX12_ownJobFor 17 = .ok (.iconst 0, 1) := by decide +kernel
theorem dX12_ownJobFor_18 : decode cX12_ownJobFor 18 = .ok (.iconst 1, 1) := by decide +kernel
theorem dX12_ownJobFor_19 : decode cX12_ownJobFor 19 = .ok (.invokevirtual 199, 3) := by decide +kernel
theorem dX12_ownJobFor_22 : decode cX12_ownJobFor 22 = .ok (.ifCond .eq 7, 3) := by decide +kernel
theorem dX12_ownJobFor_25 : decode cX12_ownJobFor 25 = .ok (.iconst (-1), 1) := by decide +kernel
theorem dX12_ownJobFor_26 : decode cX12_ownJobFor 26 = .ok (.goto 4, 3) := by decide +kernel
theorem dX12_ownJobFor_29 : decode cX12_ownJobFor 29 = .ok (.iload_n 3, 1) := by decide +kernel
theorem dX12_ownJobFor_30 : decode cX12_ownJobFor 30 = .ok (.ireturn, 1) := by decide +kernel
theorem dX12_renew_0 : decode cX12_renew 0 = .ok (.aload_n 0, 1) := by decide +kernel
theorem dX12_renew_1 : decode cX12_renew 1 = .ok (.iload_n 1, 1) := by decide +kernel
theorem dX12_renew_2 : decode cX12_renew 2 = .ok (.iload_n 2, 1) := by decide +kernel
theorem dX12_renew_3 : decode cX12_renew 3 = .ok (.invokevirtual 340, 3) := by decide +kernel
theorem dX12_renew_6 : decode cX12_renew 6 = .ok (.istore 4, 2) := by decide +kernel
theorem dX12_renew_8 : decode cX12_renew 8 = .ok (.iload 4, 2) := by decide +kernel
theorem dX12_renew_10 : decode cX12_renew 10 = .ok (.iconst (-1), 1) := by decide +kernel
theorem dX12_renew_11 : decode cX12_renew 11 = .ok (.if_icmp .eq 19, 3) := by decide +kernel
theorem dX12_renew_14 : decode cX12_renew 14 = .ok (.aload_n 0, 1) := by decide +kernel
theorem dX12_renew_15 : decode cX12_renew 15 = .ok (.aload_n 0, 1) := by decide +kernel
theorem dX12_renew_16 : decode cX12_renew 16 = .ok (.iload 4, 2) := by decide +kernel
theorem dX12_renew_18 : decode cX12_renew 18 = .ok (.iload_n 1, 1) := by decide +kernel
theorem dX12_renew_19 : decode cX12_renew 19 = .ok (.iload_n 3, 1) := by decide +kernel
theorem dX12_renew_20 : decode cX12_renew 20 = .ok (.invokevirtual 343, 3) := by decide +kernel
theorem dX12_renew_23 : decode cX12_renew 23 = .ok (.iconst 2, 1) := by decide +kernel
theorem dX12_renew_24 : decode cX12_renew 24 = .ok (.invokevirtual 276, 3) := by decide +kernel
theorem dX12_renew_27 : decode cX12_renew 27 = .ok (.ifCond .eq 5, 3) := by decide +kernel
theorem dX12_renew_30 : decode cX12_renew 30 = .ok (.iconst 0, 1) := by decide +kernel
theorem dX12_renew_31 : decode cX12_renew 31 = .ok (.ireturn, 1) := by decide +kernel
theorem dX12_renew_32 : decode cX12_renew 32 = .ok (.aload_n 0, 1) := by decide +kernel
theorem dX12_renew_33 : decode cX12_renew 33 = .ok (.iload 4, 2) := by decide +kernel
theorem dX12_renew_35 : decode cX12_renew 35 = .ok (.iload_n 1, 1) := by decide +kernel
theorem dX12_renew_36 : decode cX12_renew 36 = .ok (.invokevirtual 325, 3) := by decide +kernel
theorem dX12_renew_39 : decode cX12_renew 39 = .ok (.istore 5, 2) := by decide +kernel
theorem dX12_renew_41 : decode cX12_renew 41 = .ok (.aload_n 0, 1) := by decide +kernel
theorem dX12_renew_42 : decode cX12_renew 42 = .ok (.getfield 13, 3) := by decide +kernel
theorem dX12_renew_45 : decode cX12_renew 45 = .ok (.iload 5, 2) := by decide +kernel
theorem dX12_renew_47 : decode cX12_renew 47 = .ok (.bipush 10, 2) := by decide +kernel
theorem dX12_renew_49 : decode cX12_renew 49 = .ok (.iadd, 1) := by decide +kernel
theorem dX12_renew_50 : decode cX12_renew 50 = .ok (.aload_n 0, 1) := by decide +kernel
theorem dX12_renew_51 : decode cX12_renew 51 = .ok (.getfield 13, 3) := by decide +kernel
theorem dX12_renew_54 : decode cX12_renew 54 = .ok (.iconst 3, 1) := by decide +kernel
theorem dX12_renew_55 : decode cX12_renew 55 = .ok (.iaload, 1) := by decide +kernel
theorem dX12_renew_56 : decode cX12_renew 56 = .ok (.aload_n 0, 1) := by decide +kernel
theorem dX12_renew_57 : decode cX12_renew 57 = .ok (.getfield 13, 3) := by decide +kernel
theorem dX12_renew_60 : decode cX12_renew 60 = .ok (.bipush 9, 2) := by decide +kernel
theorem dX12_renew_62 : decode cX12_renew 62 = .ok (.iaload, 1) := by decide +kernel
theorem dX12_renew_63 : decode cX12_renew 63 = .ok (.iadd, 1) := by decide +kernel
theorem dX12_renew_64 : decode cX12_renew 64 = .ok (.iastore, 1) := by decide +kernel
theorem dX12_renew_65 : decode cX12_renew 65 = .ok (.aload_n 0, 1) := by decide +kernel
theorem dX12_renew_66 : decode cX12_renew 66 = .ok (.getfield 13, 3) := by decide +kernel
theorem dX12_renew_69 : decode cX12_renew 69 = .ok (.iload 5, 2) := by decide +kernel
theorem dX12_renew_71 : decode cX12_renew 71 = .ok (.bipush 10, 2) := by decide +kernel
theorem dX12_renew_73 : decode cX12_renew 73 = .ok (.iadd, 1) := by decide +kernel
theorem dX12_renew_74 : decode cX12_renew 74 = .ok (.iaload, 1) := by decide +kernel
theorem dX12_renew_75 : decode cX12_renew 75 = .ok (.istore 6, 2) := by decide +kernel
theorem dX12_renew_77 : decode cX12_renew 77 = .ok (.aload_n 0, 1) := by decide +kernel
theorem dX12_renew_78 : decode cX12_renew 78 = .ok (.iload_n 1, 1) := by decide +kernel
theorem dX12_renew_79 : decode cX12_renew 79 = .ok (.invokevirtual 331, 3) := by decide +kernel
theorem dX12_renew_82 : decode cX12_renew 82 = .ok (.iload 6, 2) := by decide +kernel
theorem dX12_renew_84 : decode cX12_renew 84 = .ok (.ireturn, 1) := by decide +kernel
theorem dX12_finish_0 : decode cX12_finish 0 = .ok (.aload_n 0, 1) := by decide +kernel
theorem dX12_finish_1 : decode cX12_finish 1 = .ok (.iload_n 1, 1) := by decide +kernel
theorem dX12_finish_2 : decode cX12_finish 2 = .ok (.iload_n 2, 1) := by decide +kernel
theorem dX12_finish_3 : decode cX12_finish 3 = .ok (.invokevirtual 340, 3) := by decide +kernel
theorem dX12_finish_6 : decode cX12_finish 6 = .ok (.istore 4, 2) := by decide +kernel
theorem dX12_finish_8 : decode cX12_finish 8 = .ok (.iload 4, 2) := by decide +kernel
theorem dX12_finish_10 : decode cX12_finish 10 = .ok (.iconst (-1), 1) := by decide +kernel
theorem dX12_finish_11 : decode cX12_finish 11 = .ok (.if_icmp .eq 19, 3) := by decide +kernel
theorem dX12_finish_14 : decode cX12_finish 14 = .ok (.aload_n 0, 1) := by decide +kernel
theorem dX12_finish_15 : decode cX12_finish 15 = .ok (.aload_n 0, 1) := by decide +kernel
theorem dX12_finish_16 : decode cX12_finish 16 = .ok (.iload 4, 2) := by decide +kernel
theorem dX12_finish_18 : decode cX12_finish 18 = .ok (.iload_n 1, 1) := by decide +kernel
theorem dX12_finish_19 : decode cX12_finish 19 = .ok (.iload_n 3, 1) := by decide +kernel
theorem dX12_finish_20 : decode cX12_finish 20 = .ok (.invokevirtual 343, 3) := by decide +kernel
theorem dX12_finish_23 : decode cX12_finish 23 = .ok (.iconst 2, 1) := by decide +kernel
theorem dX12_finish_24 : decode cX12_finish 24 = .ok (.invokevirtual 276, 3) := by decide +kernel
theorem dX12_finish_27 : decode cX12_finish 27 = .ok (.ifCond .eq 5, 3) := by decide +kernel
theorem dX12_finish_30 : decode cX12_finish 30 = .ok (.iconst 0, 1) := by decide +kernel
theorem dX12_finish_31 : decode cX12_finish 31 = .ok (.ireturn, 1) := by decide +kernel
theorem dX12_finish_32 : decode cX12_finish 32 = .ok (.aload_n 0, 1) := by decide +kernel
theorem dX12_finish_33 : decode cX12_finish 33 = .ok (.iload 4, 2) := by decide +kernel
theorem dX12_finish_35 : decode cX12_finish 35 = .ok (.iload_n 1, 1) := by decide +kernel
theorem dX12_finish_36 : decode cX12_finish 36 = .ok (.invokevirtual 325, 3) := by decide +kernel
theorem dX12_finish_39 : decode cX12_finish 39 = .ok (.istore 5, 2) := by decide +kernel
theorem dX12_finish_41 : decode cX12_finish 41 = .ok (.aload_n 0, 1) := by decide +kernel
theorem dX12_finish_42 : decode cX12_finish 42 = .ok (.getfield 13, 3) := by decide +kernel
theorem dX12_finish_45 : decode cX12_finish 45 = .ok (.iload 5, 2) := by decide +kernel
theorem dX12_finish_47 : decode cX12_finish 47 = .ok (.iconst 3, 1) := by decide +kernel
theorem dX12_finish_48 : decode cX12_finish 48 = .ok (.iadd, 1) := by decide +kernel
theorem dX12_finish_49 : decode cX12_finish 49 = .ok (.iconst 2, 1) := by decide +kernel
theorem dX12_finish_50 : decode cX12_finish 50 = .ok (.iastore, 1) := by decide +kernel
theorem dX12_finish_51 : decode cX12_finish 51 = .ok (.aload_n 0, 1) := by decide +kernel
theorem dX12_finish_52 : decode cX12_finish 52 = .ok (.getfield 13, 3) := by decide +kernel
theorem dX12_finish_55 : decode cX12_finish 55 = .ok (.iload 5, 2) := by decide +kernel
theorem dX12_finish_57 : decode cX12_finish 57 = .ok (.bipush 6, 2) := by decide +kernel
theorem dX12_finish_59 : decode cX12_finish 59 = .ok (.iadd, 1) := by decide +kernel
theorem dX12_finish_60 : decode cX12_finish 60 = .ok (.iaload, 1) := by decide +kernel
theorem dX12_finish_61 : decode cX12_finish 61 = .ok (.istore 6, 2) := by decide +kernel
theorem dX12_finish_63 : decode cX12_finish 63 = .ok (.aload_n 0, 1) := by decide +kernel
theorem dX12_finish_64 : decode cX12_finish 64 = .ok (.iload_n 1, 1) := by decide +kernel
theorem dX12_finish_65 : decode cX12_finish 65 = .ok (.invokevirtual 331, 3) := by decide +kernel
theorem dX12_finish_68 : decode cX12_finish 68 = .ok (.iload 6, 2) := by decide +kernel
theorem dX12_finish_70 : decode cX12_finish 70 = .ok (.ireturn, 1) := by decide +kernel
theorem dX12_waitOf_0 : decode cX12_waitOf 0 = .ok (.aload_n 0, 1) := by decide +kernel
theorem dX12_waitOf_1 : decode cX12_waitOf 1 = .ok (.getfield 13, 3) := by decide +kernel
theorem dX12_waitOf_4 : decode cX12_waitOf 4 = .ok (.bipush 10, 2) := by decide +kernel
theorem dX12_waitOf_6 : decode cX12_waitOf 6 = .ok (.iaload, 1) := by decide +kernel
theorem dX12_waitOf_7 : decode cX12_waitOf 7 = .ok (.istore_n 3, 1) := by decide +kernel
theorem dX12_waitOf_8 : decode cX12_waitOf 8 = .ok (.iconst 1, 1) := by decide +kernel
theorem dX12_waitOf_9 : decode cX12_waitOf 9 = .ok (.istore 4, 2) := by decide +kernel
theorem dX12_waitOf_11 : decode cX12_waitOf 11 = .ok (.iload 4, 2) := by decide +kernel
theorem dX12_waitOf_13 : decode cX12_waitOf 13 = .ok (.iload_n 2, 1) := by decide +kernel
theorem dX12_waitOf_14 : decode cX12_waitOf 14 = .ok (.if_icmp .ge 20, 3) := by decide +kernel
theorem dX12_waitOf_17 : decode cX12_waitOf 17 = .ok (.iload_n 3, 1) := by decide +kernel
theorem dX12_waitOf_18 : decode cX12_waitOf 18 = .ok (.ldc_w 346, 3) := by decide +kernel
theorem dX12_waitOf_21 : decode cX12_waitOf 21 = .ok (.if_icmp .ge 13, 3) := by decide +kernel
theorem dX12_waitOf_24 : decode cX12_waitOf 24 = .ok (.iload_n 3, 1) := by decide +kernel
theorem dX12_waitOf_25 : decode cX12_waitOf 25 = .ok (.iconst 2, 1) := by decide +kernel
theorem dX12_waitOf_26 : decode cX12_waitOf 26 = .ok (.imul, 1) := by decide +kernel
theorem dX12_waitOf_27 : decode cX12_waitOf 27 = .ok (.istore_n 3, 1) := by decide +kernel
theorem dX12_waitOf_28 : decode cX12_waitOf 28 = .ok (.iinc 4 1, 3) := by decide +kernel
theorem dX12_waitOf_31 : decode cX12_waitOf 31 = .ok (.goto (-20), 3) := by decide +kernel
theorem dX12_waitOf_34 : decode cX12_waitOf 34 = .ok (.aload_n 0, 1) := by decide +kernel
theorem dX12_waitOf_35 : decode cX12_waitOf 35 = .ok (.getfield 13, 3) := by decide +kernel
theorem dX12_waitOf_38 : decode cX12_waitOf 38 = .ok (.bipush 11, 2) := by decide +kernel
theorem dX12_waitOf_40 : decode cX12_waitOf 40 = .ok (.iaload, 1) := by decide +kernel
theorem dX12_waitOf_41 : decode cX12_waitOf 41 = .ok (.iload_n 3, 1) := by decide +kernel
theorem dX12_waitOf_42 : decode cX12_waitOf 42 = .ok (.invokestatic 258, 3) := by decide +kernel
theorem dX12_waitOf_45 : decode cX12_waitOf 45 = .ok (.bipush 7, 2) := by decide +kernel
theorem dX12_waitOf_47 : decode cX12_waitOf 47 = .ok (.iload_n 1, 1) := by decide +kernel
theorem dX12_waitOf_48 : decode cX12_waitOf 48 = .ok (.imul, 1) := by decide +kernel
theorem dX12_waitOf_49 : decode cX12_waitOf 49 = .ok (.iconst 3, 1) := by decide +kernel
theorem dX12_waitOf_50 : decode cX12_waitOf 50 = .ok (.iload_n 2, 1) := by decide +kernel
theorem dX12_waitOf_51 : decode cX12_waitOf 51 = .ok (.imul, 1) := by decide +kernel
theorem dX12_waitOf_52 : decode cX12_waitOf 52 = .ok (.iadd, 1) := by decide +kernel
theorem dX12_waitOf_53 : decode cX12_waitOf 53 = .ok (.aload_n 0, 1) := by decide +kernel
theorem dX12_waitOf_54 : decode cX12_waitOf 54 = .ok (.getfield 13, 3) := by decide +kernel
theorem dX12_waitOf_57 : decode cX12_waitOf 57 = .ok (.bipush 12, 2) := by decide +kernel
theorem dX12_waitOf_59 : decode cX12_waitOf 59 = .ok (.iaload, 1) := by decide +kernel
theorem dX12_waitOf_60 : decode cX12_waitOf 60 = .ok (.iconst 1, 1) := by decide +kernel
theorem dX12_waitOf_61 : decode cX12_waitOf 61 = .ok (.iadd, 1) := by decide +kernel
theorem dX12_waitOf_62 : decode cX12_waitOf 62 = .ok (.irem, 1) := by decide +kernel
theorem dX12_waitOf_63 : decode cX12_waitOf 63 = .ok (.iadd, 1) := by decide +kernel
theorem dX12_waitOf_64 : decode cX12_waitOf 64 = .ok (.ireturn, 1) := by decide +kernel
theorem dX12_failsBy_0 : decode cX12_failsBy 0 = .ok (.aload_n 0, 1) := by decide +kernel
theorem dX12_failsBy_1 : decode cX12_failsBy 1 = .ok (.getfield 13, 3) := by decide +kernel
theorem dX12_failsBy_4 : decode cX12_failsBy 4 = .ok (.iload_n 2, 1) := by decide +kernel
theorem dX12_failsBy_5 : decode cX12_failsBy 5 = .ok (.bipush 6, 2) := by decide +kernel
theorem dX12_failsBy_7 : decode cX12_failsBy 7 = .ok (.iadd, 1) := by decide +kernel
theorem dX12_failsBy_8 : decode cX12_failsBy 8 = .ok (.dup2, 1) := by decide +kernel
theorem dX12_failsBy_9 : decode cX12_failsBy 9 = .ok (.iaload, 1) := by decide +kernel
theorem dX12_failsBy_10 : decode cX12_failsBy 10 = .ok (.iconst 1, 1) := by decide +kernel
theorem dX12_failsBy_11 : decode cX12_failsBy 11 = .ok (.iadd, 1) := by decide +kernel
theorem dX12_failsBy_12 : decode cX12_failsBy 12 = .ok (.iastore, 1) := by decide +kernel
theorem dX12_failsBy_13 : decode cX12_failsBy 13 = .ok (.bipush 8, 2) := by decide +kernel
theorem dX12_failsBy_15 : decode cX12_failsBy 15 = .ok (.istore 4, 2) := by decide +kernel
theorem dX12_failsBy_17 : decode cX12_failsBy 17 = .ok (.iload 4, 2) := by decide +kernel
theorem dX12_failsBy_19 : decode cX12_failsBy 19 = .ok (.ifCond .le 35, 3) := by decide +kernel
theorem dX12_failsBy_22 : decode cX12_failsBy 22 = .ok (.aload_n 0, 1) := by decide +kernel
theorem dX12_failsBy_23 : decode cX12_failsBy 23 = .ok (.getfield 13, 3) := by decide +kernel
theorem dX12_failsBy_26 : decode cX12_failsBy 26 = .ok (.iload_n 2, 1) := by decide +kernel
theorem dX12_failsBy_27 : decode cX12_failsBy 27 = .ok (.bipush 13, 2) := by decide +kernel
theorem dX12_failsBy_29 : decode cX12_failsBy 29 = .ok (.iadd, 1) := by decide +kernel
theorem dX12_failsBy_30 : decode cX12_failsBy 30 = .ok (.iload 4, 2) := by decide +kernel
theorem dX12_failsBy_32 : decode cX12_failsBy 32 = .ok (.iadd, 1) := by decide +kernel
theorem dX12_failsBy_33 : decode cX12_failsBy 33 = .ok (.aload_n 0, 1) := by decide +kernel
theorem dX12_failsBy_34 : decode cX12_failsBy 34 = .ok (.getfield 13, 3) := by decide +kernel
theorem dX12_failsBy_37 : decode cX12_failsBy 37 = .ok (.iload_n 2, 1) := by decide +kernel
theorem dX12_failsBy_38 : decode cX12_failsBy 38 = .ok (.bipush 13, 2) := by decide +kernel
theorem dX12_failsBy_40 : decode cX12_failsBy 40 = .ok (.iadd, 1) := by decide +kernel
theorem dX12_failsBy_41 : decode cX12_failsBy 41 = .ok (.iload 4, 2) := by decide +kernel
theorem dX12_failsBy_43 : decode cX12_failsBy 43 = .ok (.iadd, 1) := by decide +kernel
theorem dX12_failsBy_44 : decode cX12_failsBy 44 = .ok (.iconst 1, 1) := by decide +kernel
theorem dX12_failsBy_45 : decode cX12_failsBy 45 = .ok (.isub, 1) := by decide +kernel
theorem dX12_failsBy_46 : decode cX12_failsBy 46 = .ok (.iaload, 1) := by decide +kernel
theorem dX12_failsBy_47 : decode cX12_failsBy 47 = .ok (.iastore, 1) := by decide +kernel
theorem dX12_failsBy_48 : decode cX12_failsBy 48 = .ok (.iinc 4 (-1), 3) := by decide +kernel
theorem dX12_failsBy_51 : decode cX12_failsBy 51 = .ok (.goto (-34), 3) := by decide +kernel
theorem dX12_failsBy_54 : decode cX12_failsBy 54 = .ok (.aload_n 0, 1) := by decide +kernel
theorem dX12_failsBy_55 : decode cX12_failsBy 55 = .ok (.getfield 13, 3) := by decide +kernel
theorem dX12_failsBy_58 : decode cX12_failsBy 58 = .ok (.iload_n 2, 1) := by decide +kernel
theorem dX12_failsBy_59 : decode cX12_failsBy 59 = .ok (.bipush 13, 2) := by decide +kernel
theorem dX12_failsBy_61 : decode cX12_failsBy 61 = .ok (.iadd, 1) := by decide +kernel
theorem dX12_failsBy_62 : decode cX12_failsBy 62 = .ok (.iload_n 3, 1) := by decide +kernel
theorem dX12_failsBy_63 : decode cX12_failsBy 63 = .ok (.iastore, 1) := by decide +kernel
theorem dX12_failsBy_64 : decode cX12_failsBy 64 = .ok (.aload_n 0, 1) := by decide +kernel
theorem dX12_failsBy_65 : decode cX12_failsBy 65 = .ok (.getfield 13, 3) := by decide +kernel
theorem dX12_failsBy_68 : decode cX12_failsBy 68 = .ok (.iload_n 2, 1) := by decide +kernel
theorem dX12_failsBy_69 : decode cX12_failsBy 69 = .ok (.bipush 7, 2) := by decide +kernel
theorem dX12_failsBy_71 : decode cX12_failsBy 71 = .ok (.iadd, 1) := by decide +kernel
theorem dX12_failsBy_72 : decode cX12_failsBy 72 = .ok (.bipush 9, 2) := by decide +kernel
theorem dX12_failsBy_74 : decode cX12_failsBy 74 = .ok (.aload_n 0, 1) := by decide +kernel
theorem dX12_failsBy_75 : decode cX12_failsBy 75 = .ok (.getfield 13, 3) := by decide +kernel
theorem dX12_failsBy_78 : decode cX12_failsBy 78 = .ok (.iload_n 2, 1) := by decide +kernel
theorem dX12_failsBy_79 : decode cX12_failsBy 79 = .ok (.bipush 7, 2) := by decide +kernel
theorem dX12_failsBy_81 : decode cX12_failsBy 81 = .ok (.iadd, 1) := by decide +kernel
theorem dX12_failsBy_82 : decode cX12_failsBy 82 = .ok (.iaload, 1) := by decide +kernel
theorem dX12_failsBy_83 : decode cX12_failsBy 83 = .ok (.iconst 1, 1) := by decide +kernel
theorem dX12_failsBy_84 : decode cX12_failsBy 84 = .ok (.iadd, 1) := by decide +kernel
theorem dX12_failsBy_85 : decode cX12_failsBy 85 = .ok (.invokestatic 258, 3) := by decide +kernel
theorem dX12_failsBy_88 : decode cX12_failsBy 88 = .ok (.iastore, 1) := by decide +kernel
theorem dX12_failsBy_89 : decode cX12_failsBy 89 = .ok (.iload_n 3, 1) := by decide +kernel
theorem dX12_failsBy_90 : decode cX12_failsBy 90 = .ok (.iconst 5, 1) := by decide +kernel
theorem dX12_failsBy_91 : decode cX12_failsBy 91 = .ok (.if_icmp .eq 22, 3) := by decide +kernel
theorem dX12_failsBy_94 : decode cX12_failsBy 94 = .ok (.aload_n 0, 1) := by decide +kernel
theorem dX12_failsBy_95 : decode cX12_failsBy 95 = .ok (.getfield 13, 3) := by decide +kernel
theorem dX12_failsBy_98 : decode cX12_failsBy 98 = .ok (.iload_n 2, 1) := by decide +kernel
theorem dX12_failsBy_99 : decode cX12_failsBy 99 = .ok (.bipush 6, 2) := by decide +kernel
theorem dX12_failsBy_101 : decode cX12_failsBy 101 = .ok (.iadd, 1) := by decide +kernel
theorem dX12_failsBy_102 : decode cX12_failsBy 102 = .ok (.iaload, 1) := by decide +kernel
theorem dX12_failsBy_103 : decode cX12_failsBy 103 = .ok (.aload_n 0, 1) := by decide +kernel
theorem dX12_failsBy_104 : decode cX12_failsBy 104 = .ok (.getfield 13, 3) := by decide +kernel
theorem dX12_failsBy_107 : decode cX12_failsBy 107 = .ok (.bipush 13, 2) := by decide +kernel
theorem dX12_failsBy_109 : decode cX12_failsBy 109 = .ok (.iaload, 1) := by decide +kernel
theorem dX12_failsBy_110 : decode cX12_failsBy 110 = .ok (.if_icmp .lt 7, 3) := by decide +kernel
theorem dX12_failsBy_113 : decode cX12_failsBy 113 = .ok (.iconst 1, 1) := by decide +kernel
theorem dX12_failsBy_114 : decode cX12_failsBy 114 = .ok (.goto 4, 3) := by decide +kernel
theorem dX12_failsBy_117 : decode cX12_failsBy 117 = .ok (.iconst 0, 1) := by decide +kernel
theorem dX12_failsBy_118 : decode cX12_failsBy 118 = .ok (.istore 4, 2) := by decide +kernel
theorem dX12_failsBy_120 : decode cX12_failsBy 120 = .ok (.aload_n 0, 1) := by decide +kernel
theorem dX12_failsBy_121 : decode cX12_failsBy 121 = .ok (.getfield 13, 3) := by decide +kernel
theorem dX12_failsBy_124 : decode cX12_failsBy 124 = .ok (.iload_n 2, 1) := by decide +kernel
theorem dX12_failsBy_125 : decode cX12_failsBy 125 = .ok (.iconst 3, 1) := by decide +kernel
theorem dX12_failsBy_126 : decode cX12_failsBy 126 = .ok (.iadd, 1) := by decide +kernel
theorem dX12_failsBy_127 : decode cX12_failsBy 127 = .ok (.iload 4, 2) := by decide +kernel
theorem dX12_failsBy_129 : decode cX12_failsBy 129 = .ok (.ifCond .eq 7, 3) := by decide +kernel
theorem dX12_failsBy_132 : decode cX12_failsBy 132 = .ok (.iconst 3, 1) := by decide +kernel
theorem dX12_failsBy_133 : decode cX12_failsBy 133 = .ok (.goto 4, 3) := by decide +kernel
theorem dX12_failsBy_136 : decode cX12_failsBy 136 = .ok (.iconst 0, 1) := by decide +kernel
theorem dX12_failsBy_137 : decode cX12_failsBy 137 = .ok (.iastore, 1) := by decide +kernel
theorem dX12_failsBy_138 : decode cX12_failsBy 138 = .ok (.iload 4, 2) := by decide +kernel
theorem dX12_failsBy_140 : decode cX12_failsBy 140 = .ok (.ifCond .ne 36, 3) := by decide +kernel
theorem dX12_failsBy_143 : decode cX12_failsBy 143 = .ok (.aload_n 0, 1) := by decide +kernel
theorem dX12_failsBy_144 : decode cX12_failsBy 144 = .ok (.getfield 13, 3) := by decide +kernel
theorem dX12_failsBy_147 : decode cX12_failsBy 147 = .ok (.iload_n 2, 1) := by decide +kernel
theorem dX12_failsBy_148 : decode cX12_failsBy 148 = .ok (.iconst 5, 1) := by decide +kernel
theorem dX12_failsBy_149 : decode cX12_failsBy 149 = .ok (.iadd, 1) := by decide +kernel
theorem dX12_failsBy_150 : decode cX12_failsBy 150 = .ok (.aload_n 0, 1) := by decide +kernel
theorem dX12_failsBy_151 : decode cX12_failsBy 151 = .ok (.getfield 13, 3) := by decide +kernel
theorem dX12_failsBy_154 : decode cX12_failsBy 154 = .ok (.iconst 3, 1) := by decide +kernel
theorem dX12_failsBy_155 : decode cX12_failsBy 155 = .ok (.iaload, 1) := by decide +kernel
theorem dX12_failsBy_156 : decode cX12_failsBy 156 = .ok (.aload_n 0, 1) := by decide +kernel
theorem dX12_failsBy_157 : decode cX12_failsBy 157 = .ok (.aload_n 0, 1) := by decide +kernel
theorem dX12_failsBy_158 : decode cX12_failsBy 158 = .ok (.iload_n 1, 1) := by decide +kernel
theorem dX12_failsBy_159 : decode cX12_failsBy 159 = .ok (.invokevirtual 59, 3) := by decide +kernel
theorem dX12_failsBy_162 : decode cX12_failsBy 162 = .ok (.aload_n 0, 1) := by decide +kernel
theorem dX12_failsBy_163 : decode cX12_failsBy 163 = .ok (.getfield 13, 3) := by decide +kernel
theorem dX12_failsBy_166 : decode cX12_failsBy 166 = .ok (.iload_n 2, 1) := by decide +kernel
theorem dX12_failsBy_167 : decode cX12_failsBy 167 = .ok (.bipush 6, 2) := by decide +kernel
theorem dX12_failsBy_169 : decode cX12_failsBy 169 = .ok (.iadd, 1) := by decide +kernel
theorem dX12_failsBy_170 : decode cX12_failsBy 170 = .ok (.iaload, 1) := by decide +kernel
theorem dX12_failsBy_171 : decode cX12_failsBy 171 = .ok (.invokevirtual 347, 3) := by decide +kernel
theorem dX12_failsBy_174 : decode cX12_failsBy 174 = .ok (.iadd, 1) := by decide +kernel
theorem dX12_failsBy_175 : decode cX12_failsBy 175 = .ok (.iastore, 1) := by decide +kernel
theorem dX12_failsBy_176 : decode cX12_failsBy 176 = .ok (.return_, 1) := by decide +kernel
theorem dX12_fail_0 : decode cX12_fail 0 = .ok (.aload_n 0, 1) := by decide +kernel
theorem dX12_fail_1 : decode cX12_fail 1 = .ok (.iload_n 1, 1) := by decide +kernel
theorem dX12_fail_2 : decode cX12_fail 2 = .ok (.iload_n 2, 1) := by decide +kernel
theorem dX12_fail_3 : decode cX12_fail 3 = .ok (.invokevirtual 340, 3) := by decide +kernel
theorem dX12_fail_6 : decode cX12_fail 6 = .ok (.istore 5, 2) := by decide +kernel
theorem dX12_fail_8 : decode cX12_fail 8 = .ok (.iload 5, 2) := by decide +kernel
theorem dX12_fail_10 : decode cX12_fail 10 = .ok (.iconst (-1), 1) := by decide +kernel
theorem dX12_fail_11 : decode cX12_fail 11 = .ok (.if_icmp .eq 42, 3) := by decide +kernel
theorem dX12_fail_14 : decode cX12_fail 14 = .ok (.aload_n 0, 1) := by decide +kernel
theorem dX12_fail_15 : decode cX12_fail 15 = .ok (.iload 4, 2) := by decide +kernel
theorem dX12_fail_17 : decode cX12_fail 17 = .ok (.iconst 0, 1) := by decide +kernel
theorem dX12_fail_18 : decode cX12_fail 18 = .ok (.iconst 5, 1) := by decide +kernel
theorem dX12_fail_19 : decode cX12_fail 19 = .ok (.invokestatic 66, 3) := by decide +kernel
theorem dX12_fail_22 : decode cX12_fail 22 = .ok (.ifCond .ne 7, 3) := by decide +kernel
theorem dX12_fail_25 : decode cX12_fail 25 = .ok (.iconst 1, 1) := by decide +kernel
theorem dX12_fail_26 : decode cX12_fail 26 = .ok (.goto 4, 3) := by decide +kernel
theorem dX12_fail_29 : decode cX12_fail 29 = .ok (.iconst 0, 1) := by decide +kernel
theorem dX12_fail_30 : decode cX12_fail 30 = .ok (.iconst 2, 1) := by decide +kernel
theorem dX12_fail_31 : decode cX12_fail 31 = .ok (.invokevirtual 199, 3) := by decide +kernel
theorem dX12_fail_34 : decode cX12_fail 34 = .ok (.ifCond .ne 19, 3) := by decide +kernel
theorem dX12_fail_37 : decode cX12_fail 37 = .ok (.aload_n 0, 1) := by decide +kernel
theorem dX12_fail_38 : decode cX12_fail 38 = .ok (.aload_n 0, 1) := by decide +kernel
theorem dX12_fail_39 : decode cX12_fail 39 = .ok (.iload 5, 2) := by decide +kernel
theorem dX12_fail_41 : decode cX12_fail 41 = .ok (.iload_n 1, 1) := by decide +kernel
theorem dX12_fail_42 : decode cX12_fail 42 = .ok (.iload_n 3, 1) := by decide +kernel
theorem dX12_fail_43 : decode cX12_fail 43 = .ok (.invokevirtual 343, 3) := by decide +kernel
theorem dX12_fail_46 : decode cX12_fail 46 = .ok (.iconst 3, 1) := by decide +kernel
theorem dX12_fail_47 : decode cX12_fail 47 = .ok (.invokevirtual 276, 3) := by decide +kernel
theorem dX12_fail_50 : decode cX12_fail 50 = .ok (.ifCond .eq 5, 3) := by decide +kernel
theorem dX12_fail_53 : decode cX12_fail 53 = .ok (.iconst 0, 1) := by decide +kernel
theorem dX12_fail_54 : decode cX12_fail 54 = .ok (.ireturn, 1) := by decide +kernel
theorem dX12_fail_55 : decode cX12_fail 55 = .ok (.aload_n 0, 1) := by decide +kernel
theorem dX12_fail_56 : decode cX12_fail 56 = .ok (.iload 5, 2) := by decide +kernel
theorem dX12_fail_58 : decode cX12_fail 58 = .ok (.iload_n 1, 1) := by decide +kernel
theorem dX12_fail_59 : decode cX12_fail 59 = .ok (.invokevirtual 325, 3) := by decide +kernel
theorem dX12_fail_62 : decode cX12_fail 62 = .ok (.istore 6, 2) := by decide +kernel
theorem dX12_fail_64 : decode cX12_fail 64 = .ok (.aload_n 0, 1) := by decide +kernel
theorem dX12_fail_65 : decode cX12_fail 65 = .ok (.iload 5, 2) := by decide +kernel
theorem dX12_fail_67 : decode cX12_fail 67 = .ok (.iload 6, 2) := by decide +kernel
theorem dX12_fail_69 : decode cX12_fail 69 = .ok (.iload 4, 2) := by decide +kernel
theorem dX12_fail_71 : decode cX12_fail 71 = .ok (.invokevirtual 350, 3) := by decide +kernel
theorem dX12_fail_74 : decode cX12_fail 74 = .ok (.aload_n 0, 1) := by decide +kernel
theorem dX12_fail_75 : decode cX12_fail 75 = .ok (.getfield 13, 3) := by decide +kernel
theorem dX12_fail_78 : decode cX12_fail 78 = .ok (.iload 6, 2) := by decide +kernel
theorem dX12_fail_80 : decode cX12_fail 80 = .ok (.iconst 3, 1) := by decide +kernel
theorem dX12_fail_81 : decode cX12_fail 81 = .ok (.iadd, 1) := by decide +kernel
theorem dX12_fail_82 : decode cX12_fail 82 = .ok (.iaload, 1) := by decide +kernel
theorem dX12_fail_83 : decode cX12_fail 83 = .ok (.istore 7, 2) := by decide +kernel
theorem dX12_fail_85 : decode cX12_fail 85 = .ok (.aload_n 0, 1) := by decide +kernel
theorem dX12_fail_86 : decode cX12_fail 86 = .ok (.iload_n 1, 1) := by decide +kernel
theorem dX12_fail_87 : decode cX12_fail 87 = .ok (.invokevirtual 331, 3) := by decide +kernel
theorem dX12_fail_90 : decode cX12_fail 90 = .ok (.iload 7, 2) := by decide +kernel
theorem dX12_fail_92 : decode cX12_fail 92 = .ok (.ireturn, 1) := by decide +kernel
theorem dX12_give_0 : decode cX12_give 0 = .ok (.aload_n 0, 1) := by decide +kernel
theorem dX12_give_1 : decode cX12_give 1 = .ok (.iload_n 1, 1) := by decide +kernel
theorem dX12_give_2 : decode cX12_give 2 = .ok (.iload_n 2, 1) := by decide +kernel
theorem dX12_give_3 : decode cX12_give 3 = .ok (.invokevirtual 340, 3) := by decide +kernel
theorem dX12_give_6 : decode cX12_give 6 = .ok (.istore 4, 2) := by decide +kernel
theorem dX12_give_8 : decode cX12_give 8 = .ok (.iload 4, 2) := by decide +kernel
theorem dX12_give_10 : decode cX12_give 10 = .ok (.iconst (-1), 1) := by decide +kernel
theorem dX12_give_11 : decode cX12_give 11 = .ok (.if_icmp .eq 19, 3) := by decide +kernel
theorem dX12_give_14 : decode cX12_give 14 = .ok (.aload_n 0, 1) := by decide +kernel
theorem dX12_give_15 : decode cX12_give 15 = .ok (.aload_n 0, 1) := by decide +kernel
theorem dX12_give_16 : decode cX12_give 16 = .ok (.iload 4, 2) := by decide +kernel
theorem dX12_give_18 : decode cX12_give 18 = .ok (.iload_n 1, 1) := by decide +kernel
theorem dX12_give_19 : decode cX12_give 19 = .ok (.iload_n 3, 1) := by decide +kernel
theorem dX12_give_20 : decode cX12_give 20 = .ok (.invokevirtual 343, 3) := by decide +kernel
theorem dX12_give_23 : decode cX12_give 23 = .ok (.iconst 2, 1) := by decide +kernel
theorem dX12_give_24 : decode cX12_give 24 = .ok (.invokevirtual 276, 3) := by decide +kernel
theorem dX12_give_27 : decode cX12_give 27 = .ok (.ifCond .eq 5, 3) := by decide +kernel
theorem dX12_give_30 : decode cX12_give 30 = .ok (.iconst 0, 1) := by decide +kernel
theorem dX12_give_31 : decode cX12_give 31 = .ok (.ireturn, 1) := by decide +kernel
theorem dX12_give_32 : decode cX12_give 32 = .ok (.aload_n 0, 1) := by decide +kernel
theorem dX12_give_33 : decode cX12_give 33 = .ok (.iload 4, 2) := by decide +kernel
theorem dX12_give_35 : decode cX12_give 35 = .ok (.iload_n 1, 1) := by decide +kernel
theorem dX12_give_36 : decode cX12_give 36 = .ok (.invokevirtual 325, 3) := by decide +kernel
theorem dX12_give_39 : decode cX12_give 39 = .ok (.istore 5, 2) := by decide +kernel
theorem dX12_give_41 : decode cX12_give 41 = .ok (.aload_n 0, 1) := by decide +kernel
theorem dX12_give_42 : decode cX12_give 42 = .ok (.getfield 13, 3) := by decide +kernel
theorem dX12_give_45 : decode cX12_give 45 = .ok (.iload 5, 2) := by decide +kernel
theorem dX12_give_47 : decode cX12_give 47 = .ok (.iconst 3, 1) := by decide +kernel
theorem dX12_give_48 : decode cX12_give 48 = .ok (.iadd, 1) := by decide +kernel
theorem dX12_give_49 : decode cX12_give 49 = .ok (.iconst 0, 1) := by decide +kernel
theorem dX12_give_50 : decode cX12_give 50 = .ok (.iastore, 1) := by decide +kernel
theorem dX12_give_51 : decode cX12_give 51 = .ok (.aload_n 0, 1) := by decide +kernel
theorem dX12_give_52 : decode cX12_give 52 = .ok (.getfield 13, 3) := by decide +kernel
theorem dX12_give_55 : decode cX12_give 55 = .ok (.iload 5, 2) := by decide +kernel
theorem dX12_give_57 : decode cX12_give 57 = .ok (.iconst 5, 1) := by decide +kernel
theorem dX12_give_58 : decode cX12_give 58 = .ok (.iadd, 1) := by decide +kernel
theorem dX12_give_59 : decode cX12_give 59 = .ok (.aload_n 0, 1) := by decide +kernel
theorem dX12_give_60 : decode cX12_give 60 = .ok (.getfield 13, 3) := by decide +kernel
theorem dX12_give_63 : decode cX12_give 63 = .ok (.iconst 3, 1) := by decide +kernel
theorem dX12_give_64 : decode cX12_give 64 = .ok (.iaload, 1) := by decide +kernel
theorem dX12_give_65 : decode cX12_give 65 = .ok (.iastore, 1) := by decide +kernel
theorem dX12_give_66 : decode cX12_give 66 = .ok (.aload_n 0, 1) := by decide +kernel
theorem dX12_give_67 : decode cX12_give 67 = .ok (.getfield 13, 3) := by decide +kernel
theorem dX12_give_70 : decode cX12_give 70 = .ok (.iload 5, 2) := by decide +kernel
theorem dX12_give_72 : decode cX12_give 72 = .ok (.bipush 10, 2) := by decide +kernel
theorem dX12_give_74 : decode cX12_give 74 = .ok (.iadd, 1) := by decide +kernel
theorem dX12_give_75 : decode cX12_give 75 = .ok (.iaload, 1) := by decide +kernel
theorem dX12_give_76 : decode cX12_give 76 = .ok (.aload_n 0, 1) := by decide +kernel
theorem dX12_give_77 : decode cX12_give 77 = .ok (.getfield 13, 3) := by decide +kernel
theorem dX12_give_80 : decode cX12_give 80 = .ok (.iconst 3, 1) := by decide +kernel
theorem dX12_give_81 : decode cX12_give 81 = .ok (.iaload, 1) := by decide +kernel
theorem dX12_give_82 : decode cX12_give 82 = .ok (.isub, 1) := by decide +kernel
theorem dX12_give_83 : decode cX12_give 83 = .ok (.istore 6, 2) := by decide +kernel
theorem dX12_give_85 : decode cX12_give 85 = .ok (.aload_n 0, 1) := by decide +kernel
theorem dX12_give_86 : decode cX12_give 86 = .ok (.iload_n 1, 1) := by decide +kernel
theorem dX12_give_87 : decode cX12_give 87 = .ok (.invokevirtual 331, 3) := by decide +kernel
theorem dX12_give_90 : decode cX12_give 90 = .ok (.iload 6, 2) := by decide +kernel
theorem dX12_give_92 : decode cX12_give 92 = .ok (.ireturn, 1) := by decide +kernel
theorem dX12_reap_0 : decode cX12_reap 0 = .ok (.aload_n 0, 1) := by decide +kernel
theorem dX12_reap_1 : decode cX12_reap 1 = .ok (.iconst 0, 1) := by decide +kernel
theorem dX12_reap_2 : decode cX12_reap 2 = .ok (.putfield 3, 3) := by decide +kernel
theorem dX12_reap_5 : decode cX12_reap 5 = .ok (.aload_n 0, 1) := by decide +kernel
theorem dX12_reap_6 : decode cX12_reap 6 = .ok (.aload_n 0, 1) := by decide +kernel
theorem dX12_reap_7 : decode cX12_reap 7 = .ok (.iload_n 1, 1) := by decide +kernel
theorem dX12_reap_8 : decode cX12_reap 8 = .ok (.invokevirtual 245, 3) := by decide +kernel
theorem dX12_reap_11 : decode cX12_reap 11 = .ok (.iconst 1, 1) := by decide +kernel
theorem dX12_reap_12 : decode cX12_reap 12 = .ok (.invokevirtual 199, 3) := by decide +kernel
theorem dX12_reap_15 : decode cX12_reap 15 = .ok (.ifCond .eq 5, 3) := by decide +kernel
theorem dX12_reap_18 : decode cX12_reap 18 = .ok (.iconst 0, 1) := by decide +kernel
theorem dX12_reap_19 : decode cX12_reap 19 = .ok (.ireturn, 1) := by decide +kernel
theorem dX12_reap_20 : decode cX12_reap 20 = .ok (.iconst 0, 1) := by decide +kernel
theorem dX12_reap_21 : decode cX12_reap 21 = .ok (.istore_n 2, 1) := by decide +kernel
theorem dX12_reap_22 : decode cX12_reap 22 = .ok (.aload_n 0, 1) := by decide +kernel
theorem dX12_reap_23 : decode cX12_reap 23 = .ok (.iconst (-1), 1) := by decide +kernel
theorem dX12_reap_24 : decode cX12_reap 24 = .ok (.invokevirtual 263, 3) := by decide +kernel
theorem dX12_reap_27 : decode cX12_reap 27 = .ok (.istore_n 3, 1) := by decide +kernel
theorem dX12_reap_28 : decode cX12_reap 28 = .ok (.iload_n 3, 1) := by decide +kernel
theorem dX12_reap_29 : decode cX12_reap 29 = .ok (.iconst (-1), 1) := by decide +kernel
theorem dX12_reap_30 : decode cX12_reap 30 = .ok (.if_icmp .eq 81, 3) := by decide +kernel
theorem dX12_reap_33 : decode cX12_reap 33 = .ok (.aload_n 0, 1) := by decide +kernel
theorem dX12_reap_34 : decode cX12_reap 34 = .ok (.iload_n 3, 1) := by decide +kernel
theorem dX12_reap_35 : decode cX12_reap 35 = .ok (.iload_n 1, 1) := by decide +kernel
theorem dX12_reap_36 : decode cX12_reap 36 = .ok (.invokevirtual 295, 3) := by decide +kernel
theorem dX12_reap_39 : decode cX12_reap 39 = .ok (.istore 4, 2) := by decide +kernel
theorem dX12_reap_41 : decode cX12_reap 41 = .ok (.aload_n 0, 1) := by decide +kernel
theorem dX12_reap_42 : decode cX12_reap 42 = .ok (.iload 4, 2) := by decide +kernel
theorem dX12_reap_44 : decode cX12_reap 44 = .ok (.iconst 1, 1) := by decide +kernel
theorem dX12_reap_45 : decode cX12_reap 45 = .ok (.invokevirtual 298, 3) := by decide +kernel
theorem dX12_reap_48 : decode cX12_reap 48 = .ok (.ifCond .eq 50, 3) := by decide +kernel
theorem dX12_reap_51 : decode cX12_reap 51 = .ok (.aload_n 0, 1) := by decide +kernel
theorem dX12_reap_52 : decode cX12_reap 52 = .ok (.iload_n 3, 1) := by decide +kernel
theorem dX12_reap_53 : decode cX12_reap 53 = .ok (.iload_n 1, 1) := by decide +kernel
theorem dX12_reap_54 : decode cX12_reap 54 = .ok (.invokevirtual 301, 3) := by decide +kernel
theorem dX12_reap_57 : decode cX12_reap 57 = .ok (.ifCond .ne 41, 3) := by decide +kernel
theorem dX12_reap_60 : decode cX12_reap 60 = .ok (.aload_n 0, 1) := by decide +kernel
theorem dX12_reap_61 : decode cX12_reap 61 = .ok (.getfield 13, 3) := by decide +kernel
theorem dX12_reap_64 : decode cX12_reap 64 = .ok (.iload 4, 2) := by decide +kernel
theorem dX12_reap_66 : decode cX12_reap 66 = .ok (.bipush 10, 2) := by decide +kernel
theorem dX12_reap_68 : decode cX12_reap 68 = .ok (.iadd, 1) := by decide +kernel
theorem dX12_reap_69 : decode cX12_reap 69 = .ok (.iaload, 1) := by decide +kernel
theorem dX12_reap_70 : decode cX12_reap 70 = .ok (.aload_n 0, 1) := by decide +kernel
theorem dX12_reap_71 : decode cX12_reap 71 = .ok (.getfield 13, 3) := by decide +kernel
theorem dX12_reap_74 : decode cX12_reap 74 = .ok (.iconst 3, 1) := by decide +kernel
theorem dX12_reap_75 : decode cX12_reap 75 = .ok (.iaload, 1) := by decide +kernel
theorem dX12_reap_76 : decode cX12_reap 76 = .ok (.if_icmp .lt 6, 3) := by decide +kernel
theorem dX12_reap_79 : decode cX12_reap 79 = .ok (.goto 19, 3) := by decide +kernel
theorem dX12_reap_82 : decode cX12_reap 82 = .ok (.aload_n 0, 1) := by decide +kernel
theorem dX12_reap_83 : decode cX12_reap 83 = .ok (.iload_n 3, 1) := by decide +kernel
theorem dX12_reap_84 : decode cX12_reap 84 = .ok (.aload_n 0, 1) := by decide +kernel
theorem dX12_reap_85 : decode cX12_reap 85 = .ok (.iload_n 3, 1) := by decide +kernel
theorem dX12_reap_86 : decode cX12_reap 86 = .ok (.iload_n 1, 1) := by decide +kernel
theorem dX12_reap_87 : decode cX12_reap 87 = .ok (.invokevirtual 325, 3) := by decide +kernel
theorem dX12_reap_90 : decode cX12_reap 90 = .ok (.bipush 6, 2) := by decide +kernel
theorem dX12_reap_92 : decode cX12_reap 92 = .ok (.invokevirtual 350, 3) := by decide +kernel
theorem dX12_reap_95 : decode cX12_reap 95 = .ok (.iinc 2 1, 3) := by decide +kernel
theorem dX12_reap_98 : decode cX12_reap 98 = .ok (.aload_n 0, 1) := by decide +kernel
theorem dX12_reap_99 : decode cX12_reap 99 = .ok (.aload_n 0, 1) := by decide +kernel
theorem dX12_reap_100 : decode cX12_reap 100 = .ok (.iload_n 3, 1) := by decide +kernel
theorem dX12_reap_101 : decode cX12_reap 101 = .ok (.invokevirtual 59, 3) := by decide +kernel
theorem dX12_reap_104 : decode cX12_reap 104 = .ok (.invokevirtual 263, 3) := by decide +kernel
theorem dX12_reap_107 : decode cX12_reap 107 = .ok (.istore_n 3, 1) := by decide +kernel
theorem dX12_reap_108 : decode cX12_reap 108 = .ok (.goto (-80), 3) := by decide +kernel
theorem dX12_reap_111 : decode cX12_reap 111 = .ok (.aload_n 0, 1) := by decide +kernel
theorem dX12_reap_112 : decode cX12_reap 112 = .ok (.iload_n 1, 1) := by decide +kernel
theorem dX12_reap_113 : decode cX12_reap 113 = .ok (.invokevirtual 331, 3) := by decide +kernel
theorem dX12_reap_116 : decode cX12_reap 116 = .ok (.iload_n 2, 1) := by decide +kernel
theorem dX12_reap_117 : decode cX12_reap 117 = .ok (.ireturn, 1) := by decide +kernel
theorem dX12_retry_0 : decode cX12_retry 0 = .ok (.aload_n 0, 1) := by decide +kernel
theorem dX12_retry_1 : decode cX12_retry 1 = .ok (.iload_n 1, 1) := by decide +kernel
theorem dX12_retry_2 : decode cX12_retry 2 = .ok (.iload_n 2, 1) := by decide +kernel
theorem dX12_retry_3 : decode cX12_retry 3 = .ok (.invokevirtual 340, 3) := by decide +kernel
theorem dX12_retry_6 : decode cX12_retry 6 = .ok (.istore_n 3, 1) := by decide +kernel
theorem dX12_retry_7 : decode cX12_retry 7 = .ok (.iload_n 3, 1) := by decide +kernel
theorem dX12_retry_8 : decode cX12_retry 8 = .ok (.iconst (-1), 1) := by decide +kernel
theorem dX12_retry_9 : decode cX12_retry 9 = .ok (.if_icmp .ne 5, 3) := by decide +kernel
theorem dX12_retry_12 : decode cX12_retry 12 = .ok (.iconst 0, 1) := by decide +kernel
theorem dX12_retry_13 : decode cX12_retry 13 = .ok (.ireturn, 1) := by decide +kernel
theorem dX12_retry_14 : decode cX12_retry 14 = .ok (.aload_n 0, 1) := by decide +kernel
theorem dX12_retry_15 : decode cX12_retry 15 = .ok (.iload_n 3, 1) := by decide +kernel
theorem dX12_retry_16 : decode cX12_retry 16 = .ok (.iload_n 1, 1) := by decide +kernel
theorem dX12_retry_17 : decode cX12_retry 17 = .ok (.invokevirtual 301, 3) := by decide +kernel
theorem dX12_retry_20 : decode cX12_retry 20 = .ok (.ifCond .eq 7, 3) := by decide +kernel
theorem dX12_retry_23 : decode cX12_retry 23 = .ok (.iconst 2, 1) := by decide +kernel
theorem dX12_retry_24 : decode cX12_retry 24 = .ok (.goto 22, 3) := by decide +kernel
theorem dX12_retry_27 : decode cX12_retry 27 = .ok (.aload_n 0, 1) := by decide +kernel
theorem dX12_retry_28 : decode cX12_retry 28 = .ok (.aload_n 0, 1) := by decide +kernel
theorem dX12_retry_29 : decode cX12_retry 29 = .ok (.iload_n 3, 1) := by decide +kernel
theorem dX12_retry_30 : decode cX12_retry 30 = .ok (.iload_n 1, 1) := by decide +kernel
theorem dX12_retry_31 : decode cX12_retry 31 = .ok (.invokevirtual 295, 3) := by decide +kernel
theorem dX12_retry_34 : decode cX12_retry 34 = .ok (.iconst 3, 1) := by decide +kernel
theorem dX12_retry_35 : decode cX12_retry 35 = .ok (.invokevirtual 298, 3) := by decide +kernel
theorem dX12_retry_38 : decode cX12_retry 38 = .ok (.ifCond .eq 7, 3) := by decide +kernel
theorem dX12_retry_41 : decode cX12_retry 41 = .ok (.iconst 0, 1) := by decide +kernel
theorem dX12_retry_42 : decode cX12_retry 42 = .ok (.goto 4, 3) := by decide +kernel
theorem dX12_retry_45 : decode cX12_retry 45 = .ok (.iconst 3, 1) := by decide +kernel
theorem dX12_retry_46 : decode cX12_retry 46 = .ok (.istore 4, 2) := by decide +kernel
theorem dX12_retry_48 : decode cX12_retry 48 = .ok (.aload_n 0, 1) := by decide +kernel
theorem dX12_retry_49 : decode cX12_retry 49 = .ok (.iload 4, 2) := by decide +kernel
theorem dX12_retry_51 : decode cX12_retry 51 = .ok (.iconst 2, 1) := by decide +kernel
theorem dX12_retry_52 : decode cX12_retry 52 = .ok (.invokevirtual 276, 3) := by decide +kernel
theorem dX12_retry_55 : decode cX12_retry 55 = .ok (.ifCond .eq 5, 3) := by decide +kernel
theorem dX12_retry_58 : decode cX12_retry 58 = .ok (.iconst 0, 1) := by decide +kernel
theorem dX12_retry_59 : decode cX12_retry 59 = .ok (.ireturn, 1) := by decide +kernel
theorem dX12_retry_60 : decode cX12_retry 60 = .ok (.aload_n 0, 1) := by decide +kernel
theorem dX12_retry_61 : decode cX12_retry 61 = .ok (.iload_n 3, 1) := by decide +kernel
theorem dX12_retry_62 : decode cX12_retry 62 = .ok (.iload_n 1, 1) := by decide +kernel
theorem dX12_retry_63 : decode cX12_retry 63 = .ok (.invokevirtual 325, 3) := by decide +kernel
theorem dX12_retry_66 : decode cX12_retry 66 = .ok (.istore 5, 2) := by decide +kernel
theorem dX12_retry_68 : decode cX12_retry 68 = .ok (.aload_n 0, 1) := by decide +kernel
theorem dX12_retry_69 : decode cX12_retry 69 = .ok (.getfield 13, 3) := by decide +kernel
theorem dX12_retry_72 : decode cX12_retry 72 = .ok (.iload 5, 2) := by decide +kernel
theorem dX12_retry_74 : decode cX12_retry 74 = .ok (.bipush 6, 2) := by decide +kernel
theorem dX12_retry_76 : decode cX12_retry 76 = .ok (.iadd, 1) := by decide +kernel
theorem dX12_retry_77 : decode cX12_retry 77 = .ok (.iaload, 1) := by decide +kernel
theorem dX12_retry_78 : decode cX12_retry 78 = .ok (.istore 6, 2) := by decide +kernel
theorem dX12_retry_80 : decode cX12_retry 80 = .ok (.aload_n 0, 1) := by decide +kernel
theorem dX12_retry_81 : decode cX12_retry 81 = .ok (.getfield 13, 3) := by decide +kernel
theorem dX12_retry_84 : decode cX12_retry 84 = .ok (.iload 5, 2) := by decide +kernel
theorem dX12_retry_86 : decode cX12_retry 86 = .ok (.iconst 3, 1) := by decide +kernel
theorem dX12_retry_87 : decode cX12_retry 87 = .ok (.iadd, 1) := by decide +kernel
theorem dX12_retry_88 : decode cX12_retry 88 = .ok (.iconst 0, 1) := by decide +kernel
theorem dX12_retry_89 : decode cX12_retry 89 = .ok (.iastore, 1) := by decide +kernel
theorem dX12_retry_90 : decode cX12_retry 90 = .ok (.aload_n 0, 1) := by decide +kernel
theorem dX12_retry_91 : decode cX12_retry 91 = .ok (.getfield 13, 3) := by decide +kernel
theorem dX12_retry_94 : decode cX12_retry 94 = .ok (.iload 5, 2) := by decide +kernel
theorem dX12_retry_96 : decode cX12_retry 96 = .ok (.bipush 6, 2) := by decide +kernel
theorem dX12_retry_98 : decode cX12_retry 98 = .ok (.iadd, 1) := by decide +kernel
theorem dX12_retry_99 : decode cX12_retry 99 = .ok (.iconst 0, 1) := by decide +kernel
theorem dX12_retry_100 : decode cX12_retry 100 = .ok (.iastore, 1) := by decide +kernel
theorem dX12_retry_101 : decode cX12_retry 101 = .ok (.aload_n 0, 1) := by decide +kernel
theorem dX12_retry_102 : decode cX12_retry 102 = .ok (.getfield 13, 3) := by decide +kernel
theorem dX12_retry_105 : decode cX12_retry 105 = .ok (.iload 5, 2) := by decide +kernel
theorem dX12_retry_107 : decode cX12_retry 107 = .ok (.iconst 5, 1) := by decide +kernel
theorem dX12_retry_108 : decode cX12_retry 108 = .ok (.iadd, 1) := by decide +kernel
theorem dX12_retry_109 : decode cX12_retry 109 = .ok (.aload_n 0, 1) := by decide +kernel
theorem dX12_retry_110 : decode cX12_retry 110 = .ok (.getfield 13, 3) := by decide +kernel
theorem dX12_retry_113 : decode cX12_retry 113 = .ok (.iconst 3, 1) := by decide +kernel
theorem dX12_retry_114 : decode cX12_retry 114 = .ok (.iaload, 1) := by decide +kernel
theorem dX12_retry_115 : decode cX12_retry 115 = .ok (.iastore, 1) := by decide +kernel
theorem dX12_retry_116 : decode cX12_retry 116 = .ok (.aload_n 0, 1) := by decide +kernel
theorem dX12_retry_117 : decode cX12_retry 117 = .ok (.iload_n 1, 1) := by decide +kernel
theorem dX12_retry_118 : decode cX12_retry 118 = .ok (.invokevirtual 331, 3) := by decide +kernel
theorem dX12_retry_121 : decode cX12_retry 121 = .ok (.iload 6, 2) := by decide +kernel
theorem dX12_retry_123 : decode cX12_retry 123 = .ok (.ireturn, 1) := by decide +kernel
theorem dX12_bring_0 : decode cX12_bring 0 = .ok (.aload_n 0, 1) := by decide +kernel
theorem dX12_bring_1 : decode cX12_bring 1 = .ok (.iconst 0, 1) := by decide +kernel
theorem dX12_bring_2 : decode cX12_bring 2 = .ok (.putfield 3, 3) := by decide +kernel
theorem dX12_bring_5 : decode cX12_bring 5 = .ok (.aload_n 0, 1) := by decide +kernel
theorem dX12_bring_6 : decode cX12_bring 6 = .ok (.aload_n 0, 1) := by decide +kernel
theorem dX12_bring_7 : decode cX12_bring 7 = .ok (.iload_n 1, 1) := by decide +kernel
theorem dX12_bring_8 : decode cX12_bring 8 = .ok (.invokevirtual 245, 3) := by decide +kernel
theorem dX12_bring_11 : decode cX12_bring 11 = .ok (.ifCond .ne 12, 3) := by decide +kernel
theorem dX12_bring_14 : decode cX12_bring 14 = .ok (.iload_n 2, 1) := by decide +kernel
theorem dX12_bring_15 : decode cX12_bring 15 = .ok (.iconst 0, 1) := by decide +kernel
theorem dX12_bring_16 : decode cX12_bring 16 = .ok (.iconst 5, 1) := by decide +kernel
theorem dX12_bring_17 : decode cX12_bring 17 = .ok (.invokestatic 66, 3) := by decide +kernel
theorem dX12_bring_20 : decode cX12_bring 20 = .ok (.ifCond .ne 7, 3) := by decide +kernel
theorem dX12_bring_23 : decode cX12_bring 23 = .ok (.iconst 1, 1) := by decide +kernel
theorem dX12_bring_24 : decode cX12_bring 24 = .ok (.goto 4, 3) := by decide +kernel
theorem dX12_bring_27 : decode cX12_bring 27 = .ok (.iconst 0, 1) := by decide +kernel
theorem dX12_bring_28 : decode cX12_bring 28 = .ok (.iconst 1, 1) := by decide +kernel
theorem dX12_bring_29 : decode cX12_bring 29 = .ok (.invokevirtual 199, 3) := by decide +kernel
theorem dX12_bring_32 : decode cX12_bring 32 = .ok (.ifCond .ne 59, 3) := by decide +kernel
theorem dX12_bring_35 : decode cX12_bring 35 = .ok (.aload_n 0, 1) := by decide +kernel
theorem dX12_bring_36 : decode cX12_bring 36 = .ok (.iload_n 3, 1) := by decide +kernel
theorem dX12_bring_37 : decode cX12_bring 37 = .ok (.iconst 0, 1) := by decide +kernel
theorem dX12_bring_38 : decode cX12_bring 38 = .ok (.bipush 9, 2) := by decide +kernel
theorem dX12_bring_40 : decode cX12_bring 40 = .ok (.invokestatic 66, 3) := by decide +kernel
theorem dX12_bring_43 : decode cX12_bring 43 = .ok (.ifCond .eq 14, 3) := by decide +kernel
theorem dX12_bring_46 : decode cX12_bring 46 = .ok (.iload 4, 2) := by decide +kernel
theorem dX12_bring_48 : decode cX12_bring 48 = .ok (.iconst 1, 1) := by decide +kernel
theorem dX12_bring_49 : decode cX12_bring 49 = .ok (.bipush 9, 2) := by decide +kernel
theorem dX12_bring_51 : decode cX12_bring 51 = .ok (.invokestatic 66, 3) := by decide +kernel
theorem dX12_bring_54 : decode cX12_bring 54 = .ok (.ifCond .ne 7, 3) := by decide +kernel
theorem dX12_bring_57 : decode cX12_bring 57 = .ok (.iconst 1, 1) := by decide +kernel
theorem dX12_bring_58 : decode cX12_bring 58 = .ok (.goto 4, 3) := by decide +kernel
theorem dX12_bring_61 : decode cX12_bring 61 = .ok (.iconst 0, 1) := by decide +kernel
theorem dX12_bring_62 : decode cX12_bring 62 = .ok (.iconst 2, 1) := by decide +kernel
theorem dX12_bring_63 : decode cX12_bring 63 = .ok (.invokevirtual 199, 3) := by decide +kernel
theorem dX12_bring_66 : decode cX12_bring 66 = .ok (.ifCond .ne 25, 3) := by decide +kernel
theorem dX12_bring_69 : decode cX12_bring 69 = .ok (.aload_n 0, 1) := by decide +kernel
theorem dX12_bring_70 : decode cX12_bring 70 = .ok (.aload_n 0, 1) := by decide +kernel
theorem dX12_bring_71 : decode cX12_bring 71 = .ok (.invokevirtual 119, 3) := by decide +kernel
theorem dX12_bring_74 : decode cX12_bring 74 = .ok (.bipush 24, 2) := by decide +kernel
theorem dX12_bring_76 : decode cX12_bring 76 = .ok (.if_icmp .ne 7, 3) := by decide +kernel
theorem dX12_bring_79 : decode cX12_bring 79 = .ok (.iconst 1, 1) := by decide +kernel
theorem dX12_bring_80 : decode cX12_bring 80 = .ok (.goto 4, 3) := by decide +kernel
theorem dX12_bring_83 : decode cX12_bring 83 = .ok (.iconst 0, 1) := by decide +kernel
theorem dX12_bring_84 : decode cX12_bring 84 = .ok (.iconst 3, 1) := by decide +kernel
theorem dX12_bring_85 : decode cX12_bring 85 = .ok (.invokevirtual 199, 3) := by decide +kernel
theorem dX12_bring_88 : decode cX12_bring 88 = .ok (.ifCond .eq 5, 3) := by decide +kernel
theorem dX12_bring_91 : decode cX12_bring 91 = .ok (.iconst 0, 1) := by decide +kernel
theorem dX12_bring_92 : decode cX12_bring 92 = .ok (.ireturn, 1) := by decide +kernel
theorem dX12_bring_93 : decode cX12_bring 93 = .ok (.aload_n 0, 1) := by decide +kernel
theorem dX12_bring_94 : decode cX12_bring 94 = .ok (.bipush 25, 2) := by decide +kernel
theorem dX12_bring_96 : decode cX12_bring 96 = .ok (.iconst 0, 1) := by decide +kernel
theorem dX12_bring_97 : decode cX12_bring 97 = .ok (.iload_n 2, 1) := by decide +kernel
theorem dX12_bring_98 : decode cX12_bring 98 = .ok (.iload_n 3, 1) := by decide +kernel
theorem dX12_bring_99 : decode cX12_bring 99 = .ok (.iload 4, 2) := by decide +kernel
theorem dX12_bring_101 : decode cX12_bring 101 = .ok (.aload_n 0, 1) := by decide +kernel
theorem dX12_bring_102 : decode cX12_bring 102 = .ok (.getfield 13, 3) := by decide +kernel
theorem dX12_bring_105 : decode cX12_bring 105 = .ok (.iconst 3, 1) := by decide +kernel
theorem dX12_bring_106 : decode cX12_bring 106 = .ok (.iaload, 1) := by decide +kernel
theorem dX12_bring_107 : decode cX12_bring 107 = .ok (.invokevirtual 136, 3) := by decide +kernel
theorem dX12_bring_110 : decode cX12_bring 110 = .ok (.istore 5, 2) := by decide +kernel
theorem dX12_bring_112 : decode cX12_bring 112 = .ok (.aload_n 0, 1) := by decide +kernel
theorem dX12_bring_113 : decode cX12_bring 113 = .ok (.getfield 13, 3) := by decide +kernel
theorem dX12_bring_116 : decode cX12_bring 116 = .ok (.iload 5, 2) := by decide +kernel
theorem dX12_bring_118 : decode cX12_bring 118 = .ok (.iconst 2, 1) := by decide +kernel
theorem dX12_bring_119 : decode cX12_bring 119 = .ok (.invokestatic 51, 3) := by decide +kernel
theorem dX12_bring_122 : decode cX12_bring 122 = .ok (.iload_n 1, 1) := by decide +kernel
theorem dX12_bring_123 : decode cX12_bring 123 = .ok (.iastore, 1) := by decide +kernel
theorem dX12_bring_124 : decode cX12_bring 124 = .ok (.aload_n 0, 1) := by decide +kernel
theorem dX12_bring_125 : decode cX12_bring 125 = .ok (.iload 5, 2) := by decide +kernel
theorem dX12_bring_127 : decode cX12_bring 127 = .ok (.invokevirtual 59, 3) := by decide +kernel
theorem dX12_bring_130 : decode cX12_bring 130 = .ok (.istore 6, 2) := by decide +kernel
theorem dX12_bring_132 : decode cX12_bring 132 = .ok (.aload_n 0, 1) := by decide +kernel
theorem dX12_bring_133 : decode cX12_bring 133 = .ok (.iload_n 1, 1) := by decide +kernel
theorem dX12_bring_134 : decode cX12_bring 134 = .ok (.invokevirtual 331, 3) := by decide +kernel
theorem dX12_bring_137 : decode cX12_bring 137 = .ok (.iload 6, 2) := by decide +kernel
theorem dX12_bring_139 : decode cX12_bring 139 = .ok (.ireturn, 1) := by decide +kernel
theorem dX12_sweep_0 : decode cX12_sweep 0 = .ok (.aload_n 0, 1) := by decide +kernel
theorem dX12_sweep_1 : decode cX12_sweep 1 = .ok (.iconst 0, 1) := by decide +kernel
theorem dX12_sweep_2 : decode cX12_sweep 2 = .ok (.putfield 3, 3) := by decide +kernel
theorem dX12_sweep_5 : decode cX12_sweep 5 = .ok (.iconst 0, 1) := by decide +kernel
theorem dX12_sweep_6 : decode cX12_sweep 6 = .ok (.istore_n 1, 1) := by decide +kernel
theorem dX12_sweep_7 : decode cX12_sweep 7 = .ok (.iconst 0, 1) := by decide +kernel
theorem dX12_sweep_8 : decode cX12_sweep 8 = .ok (.istore_n 2, 1) := by decide +kernel
theorem dX12_sweep_9 : decode cX12_sweep 9 = .ok (.iload_n 2, 1) := by decide +kernel
theorem dX12_sweep_10 : decode cX12_sweep 10 = .ok (.bipush 24, 2) := by decide +kernel
theorem dX12_sweep_12 : decode cX12_sweep 12 = .ok (.if_icmp .ge 59, 3) := by decide +kernel
theorem dX12_sweep_15 : decode cX12_sweep 15 = .ok (.aload_n 0, 1) := by decide +kernel
theorem dX12_sweep_16 : decode cX12_sweep 16 = .ok (.iload_n 2, 1) := by decide +kernel
theorem dX12_sweep_17 : decode cX12_sweep 17 = .ok (.invokevirtual 73, 3) := by decide +kernel
theorem dX12_sweep_20 : decode cX12_sweep 20 = .ok (.ifCond .eq 45, 3) := by decide +kernel
theorem dX12_sweep_23 : decode cX12_sweep 23 = .ok (.aload_n 0, 1) := by decide +kernel
theorem dX12_sweep_24 : decode cX12_sweep 24 = .ok (.iload_n 2, 1) := by decide +kernel
theorem dX12_sweep_25 : decode cX12_sweep 25 = .ok (.invokevirtual 70, 3) := by decide +kernel
theorem dX12_sweep_28 : decode cX12_sweep 28 = .ok (.iconst (-1), 1) := by decide +kernel
theorem dX12_sweep_29 : decode cX12_sweep 29 = .ok (.if_icmp .ne 36, 3) := by decide +kernel
theorem dX12_sweep_32 : decode cX12_sweep 32 = .ok (.aload_n 0, 1) := by decide +kernel
theorem dX12_sweep_33 : decode cX12_sweep 33 = .ok (.getfield 13, 3) := by decide +kernel
theorem dX12_sweep_36 : decode cX12_sweep 36 = .ok (.iload_n 2, 1) := by decide +kernel
theorem dX12_sweep_37 : decode cX12_sweep 37 = .ok (.iconst 3, 1) := by decide +kernel
theorem dX12_sweep_38 : decode cX12_sweep 38 = .ok (.invokestatic 51, 3) := by decide +kernel
theorem dX12_sweep_41 : decode cX12_sweep 41 = .ok (.iconst 3, 1) := by decide +kernel
theorem dX12_sweep_42 : decode cX12_sweep 42 = .ok (.iadd, 1) := by decide +kernel
theorem dX12_sweep_43 : decode cX12_sweep 43 = .ok (.iaload, 1) := by decide +kernel
theorem dX12_sweep_44 : decode cX12_sweep 44 = .ok (.iconst 2, 1) := by decide +kernel
theorem dX12_sweep_45 : decode cX12_sweep 45 = .ok (.if_icmp .eq 6, 3) := by decide +kernel
theorem dX12_sweep_48 : decode cX12_sweep 48 = .ok (.goto 17, 3) := by decide +kernel
theorem dX12_sweep_51 : decode cX12_sweep 51 = .ok (.aload_n 0, 1) := by decide +kernel
theorem dX12_sweep_52 : decode cX12_sweep 52 = .ok (.getfield 13, 3) := by decide +kernel
theorem dX12_sweep_55 : decode cX12_sweep 55 = .ok (.iload_n 2, 1) := by decide +kernel
theorem dX12_sweep_56 : decode cX12_sweep 56 = .ok (.iconst 0, 1) := by decide +kernel
theorem dX12_sweep_57 : decode cX12_sweep 57 = .ok (.invokestatic 51, 3) := by decide +kernel
theorem dX12_sweep_60 : decode cX12_sweep 60 = .ok (.iconst (-1), 1) := by decide +kernel
theorem dX12_sweep_61 : decode cX12_sweep 61 = .ok (.iastore, 1) := by decide +kernel
theorem dX12_sweep_62 : decode cX12_sweep 62 = .ok (.iinc 1 1, 3) := by decide +kernel
theorem dX12_sweep_65 : decode cX12_sweep 65 = .ok (.iinc 2 1, 3) := by decide +kernel
theorem dX12_sweep_68 : decode cX12_sweep 68 = .ok (.goto (-59), 3) := by decide +kernel
theorem dX12_sweep_71 : decode cX12_sweep 71 = .ok (.aload_n 0, 1) := by decide +kernel
theorem dX12_sweep_72 : decode cX12_sweep 72 = .ok (.getfield 13, 3) := by decide +kernel
theorem dX12_sweep_75 : decode cX12_sweep 75 = .ok (.bipush 8, 2) := by decide +kernel
theorem dX12_sweep_77 : decode cX12_sweep 77 = .ok (.dup2, 1) := by decide +kernel
theorem dX12_sweep_78 : decode cX12_sweep 78 = .ok (.iaload, 1) := by decide +kernel
theorem dX12_sweep_79 : decode cX12_sweep 79 = .ok (.iload_n 1, 1) := by decide +kernel
theorem dX12_sweep_80 : decode cX12_sweep 80 = .ok (.iadd, 1) := by decide +kernel
theorem dX12_sweep_81 : decode cX12_sweep 81 = .ok (.iastore, 1) := by decide +kernel
theorem dX12_sweep_82 : decode cX12_sweep 82 = .ok (.iload_n 1, 1) := by decide +kernel
theorem dX12_sweep_83 : decode cX12_sweep 83 = .ok (.ireturn, 1) := by decide +kernel
theorem dX12_timeOf_0 : decode cX12_timeOf 0 = .ok (.aload_n 0, 1) := by decide +kernel
theorem dX12_timeOf_1 : decode cX12_timeOf 1 = .ok (.getfield 13, 3) := by decide +kernel
theorem dX12_timeOf_4 : decode cX12_timeOf 4 = .ok (.iload_n 1, 1) := by decide +kernel
theorem dX12_timeOf_5 : decode cX12_timeOf 5 = .ok (.iconst 1, 1) := by decide +kernel
theorem dX12_timeOf_6 : decode cX12_timeOf 6 = .ok (.invokestatic 153, 3) := by decide +kernel
theorem dX12_timeOf_9 : decode cX12_timeOf 9 = .ok (.iaload, 1) := by decide +kernel
theorem dX12_timeOf_10 : decode cX12_timeOf 10 = .ok (.iload_n 2, 1) := by decide +kernel
theorem dX12_timeOf_11 : decode cX12_timeOf 11 = .ok (.aload_n 0, 1) := by decide +kernel
theorem dX12_timeOf_12 : decode cX12_timeOf 12 = .ok (.getfield 13, 3) := by decide +kernel
theorem dX12_timeOf_15 : decode cX12_timeOf 15 = .ok (.iload_n 1, 1) := by decide +kernel
theorem dX12_timeOf_16 : decode cX12_timeOf 16 = .ok (.iconst 0, 1) := by decide +kernel
theorem dX12_timeOf_17 : decode cX12_timeOf 17 = .ok (.invokestatic 153, 3) := by decide +kernel
theorem dX12_timeOf_20 : decode cX12_timeOf 20 = .ok (.iaload, 1) := by decide +kernel
theorem dX12_timeOf_21 : decode cX12_timeOf 21 = .ok (.imul, 1) := by decide +kernel
theorem dX12_timeOf_22 : decode cX12_timeOf 22 = .ok (.iadd, 1) := by decide +kernel
theorem dX12_timeOf_23 : decode cX12_timeOf 23 = .ok (.ireturn, 1) := by decide +kernel
theorem dX12_slotNow_0 : decode cX12_slotNow 0 = .ok (.aload_n 0, 1) := by decide +kernel
theorem dX12_slotNow_1 : decode cX12_slotNow 1 = .ok (.getfield 13, 3) := by decide +kernel
theorem dX12_slotNow_4 : decode cX12_slotNow 4 = .ok (.iconst 4, 1) := by decide +kernel
theorem dX12_slotNow_5 : decode cX12_slotNow 5 = .ok (.iaload, 1) := by decide +kernel
theorem dX12_slotNow_6 : decode cX12_slotNow 6 = .ok (.aload_n 0, 1) := by decide +kernel
theorem dX12_slotNow_7 : decode cX12_slotNow 7 = .ok (.getfield 13, 3) := by decide +kernel
theorem dX12_slotNow_10 : decode cX12_slotNow 10 = .ok (.iload_n 1, 1) := by decide +kernel
theorem dX12_slotNow_11 : decode cX12_slotNow 11 = .ok (.iconst 1, 1) := by decide +kernel
theorem dX12_slotNow_12 : decode cX12_slotNow 12 = .ok (.invokestatic 153, 3) := by decide +kernel
theorem dX12_slotNow_15 : decode cX12_slotNow 15 = .ok (.iaload, 1) := by decide +kernel
theorem dX12_slotNow_16 : decode cX12_slotNow 16 = .ok (.isub, 1) := by decide +kernel
theorem dX12_slotNow_17 : decode cX12_slotNow 17 = .ok (.istore_n 2, 1) := by decide +kernel
theorem dX12_slotNow_18 : decode cX12_slotNow 18 = .ok (.iload_n 2, 1) := by decide +kernel
theorem dX12_slotNow_19 : decode cX12_slotNow 19 = .ok (.ifCond .ge 7, 3) := by decide +kernel
theorem dX12_slotNow_22 : decode cX12_slotNow 22 = .ok (.iconst (-1), 1) := by decide +kernel
theorem dX12_slotNow_23 : decode cX12_slotNow 23 = .ok (.goto 15, 3) := by decide +kernel
theorem dX12_slotNow_26 : decode cX12_slotNow 26 = .ok (.iload_n 2, 1) := by decide +kernel
theorem dX12_slotNow_27 : decode cX12_slotNow 27 = .ok (.aload_n 0, 1) := by decide +kernel
theorem dX12_slotNow_28 : decode cX12_slotNow 28 = .ok (.getfield 13, 3) := by decide +kernel
theorem dX12_slotNow_31 : decode cX12_slotNow 31 = .ok (.iload_n 1, 1) := by decide +kernel
theorem dX12_slotNow_32 : decode cX12_slotNow 32 = .ok (.iconst 0, 1) := by decide +kernel
theorem dX12_slotNow_33 : decode cX12_slotNow 33 = .ok (.invokestatic 153, 3) := by decide +kernel
theorem dX12_slotNow_36 : decode cX12_slotNow 36 = .ok (.iaload, 1) := by decide +kernel
theorem dX12_slotNow_37 : decode cX12_slotNow 37 = .ok (.idiv, 1) := by decide +kernel
theorem dX12_slotNow_38 : decode cX12_slotNow 38 = .ok (.ireturn, 1) := by decide +kernel
theorem dX12_fires_0 : decode cX12_fires 0 = .ok (.aload_n 0, 1) := by decide +kernel
theorem dX12_fires_1 : decode cX12_fires 1 = .ok (.iconst 3, 1) := by decide +kernel
theorem dX12_fires_2 : decode cX12_fires 2 = .ok (.iconst 1, 1) := by decide +kernel
theorem dX12_fires_3 : decode cX12_fires 3 = .ok (.aload_n 0, 1) := by decide +kernel
theorem dX12_fires_4 : decode cX12_fires 4 = .ok (.getfield 13, 3) := by decide +kernel
theorem dX12_fires_7 : decode cX12_fires 7 = .ok (.iload_n 1, 1) := by decide +kernel
theorem dX12_fires_8 : decode cX12_fires 8 = .ok (.iconst 2, 1) := by decide +kernel
theorem dX12_fires_9 : decode cX12_fires 9 = .ok (.invokestatic 153, 3) := by decide +kernel
theorem dX12_fires_12 : decode cX12_fires 12 = .ok (.iaload, 1) := by decide +kernel
theorem dX12_fires_13 : decode cX12_fires 13 = .ok (.aload_n 0, 1) := by decide +kernel
theorem dX12_fires_14 : decode cX12_fires 14 = .ok (.getfield 13, 3) := by decide +kernel
theorem dX12_fires_17 : decode cX12_fires 17 = .ok (.iload_n 1, 1) := by decide +kernel
theorem dX12_fires_18 : decode cX12_fires 18 = .ok (.iconst 3, 1) := by decide +kernel
theorem dX12_fires_19 : decode cX12_fires 19 = .ok (.invokestatic 153, 3) := by decide +kernel
theorem dX12_fires_22 : decode cX12_fires 22 = .ok (.iaload, 1) := by decide +kernel
theorem dX12_fires_23 : decode cX12_fires 23 = .ok (.aload_n 0, 1) := by decide +kernel
theorem dX12_fires_24 : decode cX12_fires 24 = .ok (.getfield 13, 3) := by decide +kernel
theorem dX12_fires_27 : decode cX12_fires 27 = .ok (.iload_n 1, 1) := by decide +kernel
theorem dX12_fires_28 : decode cX12_fires 28 = .ok (.iconst 4, 1) := by decide +kernel
theorem dX12_fires_29 : decode cX12_fires 29 = .ok (.invokestatic 153, 3) := by decide +kernel
theorem dX12_fires_32 : decode cX12_fires 32 = .ok (.iaload, 1) := by decide +kernel
theorem dX12_fires_33 : decode cX12_fires 33 = .ok (.aload_n 0, 1) := by decide +kernel
theorem dX12_fires_34 : decode cX12_fires 34 = .ok (.getfield 13, 3) := by decide +kernel
theorem dX12_fires_37 : decode cX12_fires 37 = .ok (.iconst 3, 1) := by decide +kernel
theorem dX12_fires_38 : decode cX12_fires 38 = .ok (.iaload, 1) := by decide +kernel
theorem dX12_fires_39 : decode cX12_fires 39 = .ok (.invokevirtual 136, 3) := by decide +kernel
theorem dX12_fires_42 : decode cX12_fires 42 = .ok (.istore_n 3, 1) := by decide +kernel
theorem dX12_fires_43 : decode cX12_fires 43 = .ok (.iload_n 3, 1) := by decide +kernel
theorem dX12_fires_44 : decode cX12_fires 44 = .ok (.iconst (-1), 1) := by decide +kernel
theorem dX12_fires_45 : decode cX12_fires 45 = .ok (.if_icmp .ne 16, 3) := by decide +kernel
theorem dX12_fires_48 : decode cX12_fires 48 = .ok (.aload_n 0, 1) := by decide +kernel
theorem dX12_fires_49 : decode cX12_fires 49 = .ok (.getfield 13, 3) := by decide +kernel
theorem dX12_fires_52 : decode cX12_fires 52 = .ok (.bipush 7, 2) := by decide +kernel
theorem dX12_fires_54 : decode cX12_fires 54 = .ok (.dup2, 1) := by decide +kernel
theorem dX12_fires_55 : decode cX12_fires 55 = .ok (.iaload, 1) := by decide +kernel
theorem dX12_fires_56 : decode cX12_fires 56 = .ok (.iconst 1, 1) := by decide +kernel
theorem dX12_fires_57 : decode cX12_fires 57 = .ok (.iadd, 1) := by decide +kernel
theorem dX12_fires_58 : decode cX12_fires 58 = .ok (.iastore, 1) := by decide +kernel
theorem dX12_fires_59 : decode cX12_fires 59 = .ok (.iconst 0, 1) := by decide +kernel
theorem dX12_fires_60 : decode cX12_fires 60 = .ok (.ireturn, 1) := by decide +kernel
theorem dX12_fires_61 : decode cX12_fires 61 = .ok (.aload_n 0, 1) := by decide +kernel
theorem dX12_fires_62 : decode cX12_fires 62 = .ok (.getfield 13, 3) := by decide +kernel
theorem dX12_fires_65 : decode cX12_fires 65 = .ok (.iload_n 3, 1) := by decide +kernel
theorem dX12_fires_66 : decode cX12_fires 66 = .ok (.iconst 3, 1) := by decide +kernel
theorem dX12_fires_67 : decode cX12_fires 67 = .ok (.invokestatic 51, 3) := by decide +kernel
theorem dX12_fires_70 : decode cX12_fires 70 = .ok (.bipush 11, 2) := by decide +kernel
theorem dX12_fires_72 : decode cX12_fires 72 = .ok (.iadd, 1) := by decide +kernel
theorem dX12_fires_73 : decode cX12_fires 73 = .ok (.iload_n 1, 1) := by decide +kernel
theorem dX12_fires_74 : decode cX12_fires 74 = .ok (.iastore, 1) := by decide +kernel
theorem dX12_fires_75 : decode cX12_fires 75 = .ok (.aload_n 0, 1) := by decide +kernel
theorem dX12_fires_76 : decode cX12_fires 76 = .ok (.getfield 13, 3) := by decide +kernel
theorem dX12_fires_79 : decode cX12_fires 79 = .ok (.iload_n 3, 1) := by decide +kernel
theorem dX12_fires_80 : decode cX12_fires 80 = .ok (.iconst 3, 1) := by decide +kernel
theorem dX12_fires_81 : decode cX12_fires 81 = .ok (.invokestatic 51, 3) := by decide +kernel
theorem dX12_fires_84 : decode cX12_fires 84 = .ok (.bipush 12, 2) := by decide +kernel
theorem dX12_fires_86 : decode cX12_fires 86 = .ok (.iadd, 1) := by decide +kernel
theorem dX12_fires_87 : decode cX12_fires 87 = .ok (.iload_n 2, 1) := by decide +kernel
theorem dX12_fires_88 : decode cX12_fires 88 = .ok (.iastore, 1) := by decide +kernel
theorem dX12_fires_89 : decode cX12_fires 89 = .ok (.iconst 1, 1) := by decide +kernel
theorem dX12_fires_90 : decode cX12_fires 90 = .ok (.ireturn, 1) := by decide +kernel
theorem dX12_looks_0 : decode cX12_looks 0 = .ok (.aload_n 0, 1) := by decide +kernel
theorem dX12_looks_1 : decode cX12_looks 1 = .ok (.iload_n 1, 1) := by decide +kernel
theorem dX12_looks_2 : decode cX12_looks 2 = .ok (.invokevirtual 156, 3) := by decide +kernel
theorem dX12_looks_5 : decode cX12_looks 5 = .ok (.istore_n 2, 1) := by decide +kernel
theorem dX12_looks_6 : decode cX12_looks 6 = .ok (.aload_n 0, 1) := by decide +kernel
theorem dX12_looks_7 : decode cX12_looks 7 = .ok (.getfield 13, 3) := by decide +kernel
theorem dX12_looks_10 : decode cX12_looks 10 = .ok (.iload_n 1, 1) := by decide +kernel
theorem dX12_looks_11 : decode cX12_looks 11 = .ok (.bipush 7, 2) := by decide +kernel
theorem dX12_looks_13 : decode cX12_looks 13 = .ok (.invokestatic 153, 3) := by decide +kernel
theorem dX12_looks_16 : decode cX12_looks 16 = .ok (.iaload, 1) := by decide +kernel
theorem dX12_looks_17 : decode cX12_looks 17 = .ok (.istore_n 3, 1) := by decide +kernel
theorem dX12_looks_18 : decode cX12_looks 18 = .ok (.iload_n 2, 1) := by decide +kernel
theorem dX12_looks_19 : decode cX12_looks 19 = .ok (.iload_n 3, 1) := by decide +kernel
theorem dX12_looks_20 : decode cX12_looks 20 = .ok (.if_icmp .gt 5, 3) := by decide +kernel
theorem dX12_looks_23 : decode cX12_looks 23 = .ok (.iconst 0, 1) := by decide +kernel
theorem dX12_looks_24 : decode cX12_looks 24 = .ok (.ireturn, 1) := by decide +kernel
theorem dX12_looks_25 : decode cX12_looks 25 = .ok (.aload_n 0, 1) := by decide +kernel
theorem dX12_looks_26 : decode cX12_looks 26 = .ok (.getfield 13, 3) := by decide +kernel
theorem dX12_looks_29 : decode cX12_looks 29 = .ok (.iload_n 1, 1) := by decide +kernel
theorem dX12_looks_30 : decode cX12_looks 30 = .ok (.iconst 5, 1) := by decide +kernel
theorem dX12_looks_31 : decode cX12_looks 31 = .ok (.invokestatic 153, 3) := by decide +kernel
theorem dX12_looks_34 : decode cX12_looks 34 = .ok (.iaload, 1) := by decide +kernel
theorem dX12_looks_35 : decode cX12_looks 35 = .ok (.istore 4, 2) := by decide +kernel
theorem dX12_looks_37 : decode cX12_looks 37 = .ok (.iload 4, 2) := by decide +kernel
theorem dX12_looks_39 : decode cX12_looks 39 = .ok (.iconst 1, 1) := by decide +kernel
theorem dX12_looks_40 : decode cX12_looks 40 = .ok (.if_icmp .ne 17, 3) := by decide +kernel
theorem dX12_looks_43 : decode cX12_looks 43 = .ok (.iload_n 3, 1) := by decide +kernel
theorem dX12_looks_44 : decode cX12_looks 44 = .ok (.iconst 1, 1) := by decide +kernel
theorem dX12_looks_45 : decode cX12_looks 45 = .ok (.iadd, 1) := by decide +kernel
theorem dX12_looks_46 : decode cX12_looks 46 = .ok (.iload_n 2, 1) := by decide +kernel
theorem dX12_looks_47 : decode cX12_looks 47 = .ok (.iconst 1, 1) := by decide +kernel
theorem dX12_looks_48 : decode cX12_looks 48 = .ok (.iadd, 1) := by decide +kernel
theorem dX12_looks_49 : decode cX12_looks 49 = .ok (.iconst 5, 1) := by decide +kernel
theorem dX12_looks_50 : decode cX12_looks 50 = .ok (.isub, 1) := by decide +kernel
theorem dX12_looks_51 : decode cX12_looks 51 = .ok (.invokestatic 353, 3) := by decide +kernel
theorem dX12_looks_54 : decode cX12_looks 54 = .ok (.goto 43, 3) := by decide +kernel
theorem dX12_looks_57 : decode cX12_looks 57 = .ok (.iload 4, 2) := by decide +kernel
theorem dX12_looks_59 : decode cX12_looks 59 = .ok (.iconst 2, 1) := by decide +kernel
theorem dX12_looks_60 : decode cX12_looks 60 = .ok (.if_icmp .ne 36, 3) := by decide +kernel
theorem dX12_looks_63 : decode cX12_looks 63 = .ok (.aload_n 0, 1) := by decide +kernel
theorem dX12_looks_64 : decode cX12_looks 64 = .ok (.getfield 13, 3) := by decide +kernel
theorem dX12_looks_67 : decode cX12_looks 67 = .ok (.iconst 4, 1) := by decide +kernel
theorem dX12_looks_68 : decode cX12_looks 68 = .ok (.iaload, 1) := by decide +kernel
theorem dX12_looks_69 : decode cX12_looks 69 = .ok (.aload_n 0, 1) := by decide +kernel
theorem dX12_looks_70 : decode cX12_looks 70 = .ok (.iload_n 1, 1) := by decide +kernel
theorem dX12_looks_71 : decode cX12_looks 71 = .ok (.iload_n 2, 1) := by decide +kernel
theorem dX12_looks_72 : decode cX12_looks 72 = .ok (.invokevirtual 356, 3) := by decide +kernel
theorem dX12_looks_75 : decode cX12_looks 75 = .ok (.isub, 1) := by decide +kernel
theorem dX12_looks_76 : decode cX12_looks 76 = .ok (.aload_n 0, 1) := by decide +kernel
theorem dX12_looks_77 : decode cX12_looks 77 = .ok (.getfield 13, 3) := by decide +kernel
theorem dX12_looks_80 : decode cX12_looks 80 = .ok (.iload_n 1, 1) := by decide +kernel
theorem dX12_looks_81 : decode cX12_looks 81 = .ok (.bipush 6, 2) := by decide +kernel
theorem dX12_looks_83 : decode cX12_looks 83 = .ok (.invokestatic 153, 3) := by decide +kernel
theorem dX12_looks_86 : decode cX12_looks 86 = .ok (.iaload, 1) := by decide +kernel
theorem dX12_looks_87 : decode cX12_looks 87 = .ok (.if_icmp .le 9, 3) := by decide +kernel
theorem dX12_looks_90 : decode cX12_looks 90 = .ok (.iload_n 2, 1) := by decide +kernel
theorem dX12_looks_91 : decode cX12_looks 91 = .ok (.iconst 1, 1) := by decide +kernel
theorem dX12_looks_92 : decode cX12_looks 92 = .ok (.iadd, 1) := by decide +kernel
theorem dX12_looks_93 : decode cX12_looks 93 = .ok (.goto 4, 3) := by decide +kernel
theorem dX12_looks_96 : decode cX12_looks 96 = .ok (.iload_n 2, 1) := by decide +kernel
theorem dX12_looks_97 : decode cX12_looks 97 = .ok (.istore 5, 2) := by decide +kernel
theorem dX12_looks_99 : decode cX12_looks 99 = .ok (.iconst 0, 1) := by decide +kernel
theorem dX12_looks_100 : decode cX12_looks 100 = .ok (.istore 6, 2) := by decide +kernel
theorem dX12_looks_102 : decode cX12_looks 102 = .ok (.iload 5, 2) := by decide +kernel
theorem dX12_looks_104 : decode cX12_looks 104 = .ok (.istore 7, 2) := by decide +kernel
theorem dX12_looks_106 : decode cX12_looks 106 = .ok (.iload 7, 2) := by decide +kernel
theorem dX12_looks_108 : decode cX12_looks 108 = .ok (.iload_n 2, 1) := by decide +kernel
theorem dX12_looks_109 : decode cX12_looks 109 = .ok (.if_icmp .gt 29, 3) := by decide +kernel
theorem dX12_looks_112 : decode cX12_looks 112 = .ok (.iload 6, 2) := by decide +kernel
theorem dX12_looks_114 : decode cX12_looks 114 = .ok (.aload_n 0, 1) := by decide +kernel
theorem dX12_looks_115 : decode cX12_looks 115 = .ok (.iload_n 1, 1) := by decide +kernel
theorem dX12_looks_116 : decode cX12_looks 116 = .ok (.iload 7, 2) := by decide +kernel
theorem dX12_looks_118 : decode cX12_looks 118 = .ok (.invokevirtual 359, 3) := by decide +kernel
theorem dX12_looks_121 : decode cX12_looks 121 = .ok (.ifCond .eq 7, 3) := by decide +kernel
theorem dX12_looks_124 : decode cX12_looks 124 = .ok (.iconst 1, 1) := by decide +kernel
theorem dX12_looks_125 : decode cX12_looks 125 = .ok (.goto 4, 3) := by decide +kernel
theorem dX12_looks_128 : decode cX12_looks 128 = .ok (.iconst 0, 1) := by decide +kernel
theorem dX12_looks_129 : decode cX12_looks 129 = .ok (.iadd, 1) := by decide +kernel
theorem dX12_looks_130 : decode cX12_looks 130 = .ok (.istore 6, 2) := by decide +kernel
theorem dX12_looks_132 : decode cX12_looks 132 = .ok (.iinc 7 1, 3) := by decide +kernel
theorem dX12_looks_135 : decode cX12_looks 135 = .ok (.goto (-29), 3) := by decide +kernel
theorem dX12_looks_138 : decode cX12_looks 138 = .ok (.aload_n 0, 1) := by decide +kernel
theorem dX12_looks_139 : decode cX12_looks 139 = .ok (.getfield 13, 3) := by decide +kernel
theorem dX12_looks_142 : decode cX12_looks 142 = .ok (.iload_n 1, 1) := by decide +kernel
theorem dX12_looks_143 : decode cX12_looks 143 = .ok (.bipush 7, 2) := by decide +kernel
theorem dX12_looks_145 : decode cX12_looks 145 = .ok (.invokestatic 153, 3) := by decide +kernel
theorem dX12_looks_148 : decode cX12_looks 148 = .ok (.iload_n 2, 1) := by decide +kernel
theorem dX12_looks_149 : decode cX12_looks 149 = .ok (.iastore, 1) := by decide +kernel
theorem dX12_looks_150 : decode cX12_looks 150 = .ok (.iload 6, 2) := by decide +kernel
theorem dX12_looks_152 : decode cX12_looks 152 = .ok (.ireturn, 1) := by decide +kernel
theorem dX12_allLook_0 : decode cX12_allLook 0 = .ok (.iconst 0, 1) := by decide +kernel
theorem dX12_allLook_1 : decode cX12_allLook 1 = .ok (.istore_n 1, 1) := by decide +kernel
theorem dX12_allLook_2 : decode cX12_allLook 2 = .ok (.iconst 0, 1) := by decide +kernel
theorem dX12_allLook_3 : decode cX12_allLook 3 = .ok (.istore_n 2, 1) := by decide +kernel
theorem dX12_allLook_4 : decode cX12_allLook 4 = .ok (.iload_n 2, 1) := by decide +kernel
theorem dX12_allLook_5 : decode cX12_allLook 5 = .ok (.aload_n 0, 1) := by decide +kernel
theorem dX12_allLook_6 : decode cX12_allLook 6 = .ok (.getfield 13, 3) := by decide +kernel
theorem dX12_allLook_9 : decode cX12_allLook 9 = .ok (.iconst 1, 1) := by decide +kernel
theorem dX12_allLook_10 : decode cX12_allLook 10 = .ok (.iaload, 1) := by decide +kernel
theorem dX12_allLook_11 : decode cX12_allLook 11 = .ok (.if_icmp .ge 17, 3) := by decide +kernel
theorem dX12_allLook_14 : decode cX12_allLook 14 = .ok (.iload_n 1, 1) := by decide +kernel
theorem dX12_allLook_15 : decode cX12_allLook 15 = .ok (.aload_n 0, 1) := by decide +kernel
theorem dX12_allLook_16 : decode cX12_allLook 16 = .ok (.iload_n 2, 1) := by decide +kernel
theorem dX12_allLook_17 : decode cX12_allLook 17 = .ok (.invokevirtual 362, 3) := by decide +kernel
theorem dX12_allLook_20 : decode cX12_allLook 20 = .ok (.iadd, 1) := by decide +kernel
theorem dX12_allLook_21 : decode cX12_allLook 21 = .ok (.istore_n 1, 1) := by decide +kernel
theorem dX12_allLook_22 : decode cX12_allLook 22 = .ok (.iinc 2 1, 3) := by decide +kernel
theorem dX12_allLook_25 : decode cX12_allLook 25 = .ok (.goto (-21), 3) := by decide +kernel
theorem dX12_allLook_28 : decode cX12_allLook 28 = .ok (.iload_n 1, 1) := by decide +kernel
theorem dX12_allLook_29 : decode cX12_allLook 29 = .ok (.ireturn, 1) := by decide +kernel
theorem dX12_goesOn_0 : decode cX12_goesOn 0 = .ok (.iconst 0, 1) := by decide +kernel
theorem dX12_goesOn_1 : decode cX12_goesOn 1 = .ok (.istore_n 2, 1) := by decide +kernel
theorem dX12_goesOn_2 : decode cX12_goesOn 2 = .ok (.iconst 0, 1) := by decide +kernel
theorem dX12_goesOn_3 : decode cX12_goesOn 3 = .ok (.istore_n 3, 1) := by decide +kernel
theorem dX12_goesOn_4 : decode cX12_goesOn 4 = .ok (.iload_n 3, 1) := by decide +kernel
theorem dX12_goesOn_5 : decode cX12_goesOn 5 = .ok (.iload_n 1, 1) := by decide +kernel
theorem dX12_goesOn_6 : decode cX12_goesOn 6 = .ok (.if_icmp .ge 56, 3) := by decide +kernel
theorem dX12_goesOn_9 : decode cX12_goesOn 9 = .ok (.aload_n 0, 1) := by decide +kernel
theorem dX12_goesOn_10 : decode cX12_goesOn 10 = .ok (.getfield 13, 3) := by decide +kernel
theorem dX12_goesOn_13 : decode cX12_goesOn 13 = .ok (.iconst 3, 1) := by decide +kernel
theorem dX12_goesOn_14 : decode cX12_goesOn 14 = .ok (.sipush 9999, 3) := by decide +kernel
theorem dX12_goesOn_17 : decode cX12_goesOn 17 = .ok (.aload_n 0, 1) := by decide +kernel
theorem dX12_goesOn_18 : decode cX12_goesOn 18 = .ok (.getfield 13, 3) := by decide +kernel
theorem dX12_goesOn_21 : decode cX12_goesOn 21 = .ok (.iconst 3, 1) := by decide +kernel
theorem dX12_goesOn_22 : decode cX12_goesOn 22 = .ok (.iaload, 1) := by decide +kernel
theorem dX12_goesOn_23 : decode cX12_goesOn 23 = .ok (.iconst 1, 1) := by decide +kernel
theorem dX12_goesOn_24 : decode cX12_goesOn 24 = .ok (.iadd, 1) := by decide +kernel
theorem dX12_goesOn_25 : decode cX12_goesOn 25 = .ok (.invokestatic 258, 3) := by decide +kernel
theorem dX12_goesOn_28 : decode cX12_goesOn 28 = .ok (.iastore, 1) := by decide +kernel
theorem dX12_goesOn_29 : decode cX12_goesOn 29 = .ok (.aload_n 0, 1) := by decide +kernel
theorem dX12_goesOn_30 : decode cX12_goesOn 30 = .ok (.getfield 13, 3) := by decide +kernel
theorem dX12_goesOn_33 : decode cX12_goesOn 33 = .ok (.iconst 4, 1) := by decide +kernel
theorem dX12_goesOn_34 : decode cX12_goesOn 34 = .ok (.sipush 9999, 3) := by decide +kernel
theorem dX12_goesOn_37 : decode cX12_goesOn 37 = .ok (.aload_n 0, 1) := by decide +kernel
theorem dX12_goesOn_38 : decode cX12_goesOn 38 = .ok (.getfield 13, 3) := by decide +kernel
theorem dX12_goesOn_41 : decode cX12_goesOn 41 = .ok (.iconst 4, 1) := by decide +kernel
theorem dX12_goesOn_42 : decode cX12_goesOn 42 = .ok (.iaload, 1) := by decide +kernel
theorem dX12_goesOn_43 : decode cX12_goesOn 43 = .ok (.iconst 1, 1) := by decide +kernel
theorem dX12_goesOn_44 : decode cX12_goesOn 44 = .ok (.iadd, 1) := by decide +kernel
theorem dX12_goesOn_45 : decode cX12_goesOn 45 = .ok (.invokestatic 258, 3) := by decide +kernel
theorem dX12_goesOn_48 : decode cX12_goesOn 48 = .ok (.iastore, 1) := by decide +kernel
theorem dX12_goesOn_49 : decode cX12_goesOn 49 = .ok (.iload_n 2, 1) := by decide +kernel
theorem dX12_goesOn_50 : decode cX12_goesOn 50 = .ok (.aload_n 0, 1) := by decide +kernel
theorem dX12_goesOn_51 : decode cX12_goesOn 51 = .ok (.invokevirtual 365, 3) := by decide +kernel
theorem dX12_goesOn_54 : decode cX12_goesOn 54 = .ok (.iadd, 1) := by decide +kernel
theorem dX12_goesOn_55 : decode cX12_goesOn 55 = .ok (.istore_n 2, 1) := by decide +kernel
theorem dX12_goesOn_56 : decode cX12_goesOn 56 = .ok (.iinc 3 1, 3) := by decide +kernel
theorem dX12_goesOn_59 : decode cX12_goesOn 59 = .ok (.goto (-55), 3) := by decide +kernel
theorem dX12_goesOn_62 : decode cX12_goesOn 62 = .ok (.iload_n 2, 1) := by decide +kernel
theorem dX12_goesOn_63 : decode cX12_goesOn 63 = .ok (.ireturn, 1) := by decide +kernel
theorem dX12_jumps_0 : decode cX12_jumps 0 = .ok (.aload_n 0, 1) := by decide +kernel
theorem dX12_jumps_1 : decode cX12_jumps 1 = .ok (.getfield 13, 3) := by decide +kernel
theorem dX12_jumps_4 : decode cX12_jumps 4 = .ok (.iconst 4, 1) := by decide +kernel
theorem dX12_jumps_5 : decode cX12_jumps 5 = .ok (.iconst 0, 1) := by decide +kernel
theorem dX12_jumps_6 : decode cX12_jumps 6 = .ok (.sipush 9999, 3) := by decide +kernel
theorem dX12_jumps_9 : decode cX12_jumps 9 = .ok (.aload_n 0, 1) := by decide +kernel
theorem dX12_jumps_10 : decode cX12_jumps 10 = .ok (.getfield 13, 3) := by decide +kernel
theorem dX12_jumps_13 : decode cX12_jumps 13 = .ok (.iconst 4, 1) := by decide +kernel
theorem dX12_jumps_14 : decode cX12_jumps 14 = .ok (.iaload, 1) := by decide +kernel
theorem dX12_jumps_15 : decode cX12_jumps 15 = .ok (.iload_n 1, 1) := by decide +kernel
theorem dX12_jumps_16 : decode cX12_jumps 16 = .ok (.iadd, 1) := by decide +kernel
theorem dX12_jumps_17 : decode cX12_jumps 17 = .ok (.invokestatic 258, 3) := by decide +kernel
theorem dX12_jumps_20 : decode cX12_jumps 20 = .ok (.invokestatic 353, 3) := by decide +kernel
theorem dX12_jumps_23 : decode cX12_jumps 23 = .ok (.iastore, 1) := by decide +kernel
theorem dX12_jumps_24 : decode cX12_jumps 24 = .ok (.aload_n 0, 1) := by decide +kernel
theorem dX12_jumps_25 : decode cX12_jumps 25 = .ok (.invokevirtual 365, 3) := by decide +kernel
theorem dX12_jumps_28 : decode cX12_jumps 28 = .ok (.ireturn, 1) := by decide +kernel
theorem dX12_ticks_0 : decode cX12_ticks 0 = .ok (.aload_n 0, 1) := by decide +kernel
theorem dX12_ticks_1 : decode cX12_ticks 1 = .ok (.iconst 0, 1) := by decide +kernel
theorem dX12_ticks_2 : decode cX12_ticks 2 = .ok (.putfield 3, 3) := by decide +kernel
theorem dX12_ticks_5 : decode cX12_ticks 5 = .ok (.aload_n 0, 1) := by decide +kernel
theorem dX12_ticks_6 : decode cX12_ticks 6 = .ok (.iload_n 1, 1) := by decide +kernel
theorem dX12_ticks_7 : decode cX12_ticks 7 = .ok (.iconst 1, 1) := by decide +kernel
theorem dX12_ticks_8 : decode cX12_ticks 8 = .ok (.bipush 60, 2) := by decide +kernel
theorem dX12_ticks_10 : decode cX12_ticks 10 = .ok (.invokestatic 66, 3) := by decide +kernel
theorem dX12_ticks_13 : decode cX12_ticks 13 = .ok (.ifCond .ne 7, 3) := by decide +kernel
theorem dX12_ticks_16 : decode cX12_ticks 16 = .ok (.iconst 1, 1) := by decide +kernel
theorem dX12_ticks_17 : decode cX12_ticks 17 = .ok (.goto 4, 3) := by decide +kernel
theorem dX12_ticks_20 : decode cX12_ticks 20 = .ok (.iconst 0, 1) := by decide +kernel
theorem dX12_ticks_21 : decode cX12_ticks 21 = .ok (.iconst 1, 1) := by decide +kernel
theorem dX12_ticks_22 : decode cX12_ticks 22 = .ok (.invokevirtual 199, 3) := by decide +kernel
theorem dX12_ticks_25 : decode cX12_ticks 25 = .ok (.ifCond .eq 7, 3) := by decide +kernel
theorem dX12_ticks_28 : decode cX12_ticks 28 = .ok (.iconst 0, 1) := by decide +kernel
theorem dX12_ticks_29 : decode cX12_ticks 29 = .ok (.goto 8, 3) := by decide +kernel
theorem dX12_ticks_32 : decode cX12_ticks 32 = .ok (.aload_n 0, 1) := by decide +kernel
theorem dX12_ticks_33 : decode cX12_ticks 33 = .ok (.iload_n 1, 1) := by decide +kernel
theorem dX12_ticks_34 : decode cX12_ticks 34 = .ok (.invokevirtual 368, 3) := by decide +kernel
theorem dX12_ticks_37 : decode cX12_ticks 37 = .ok (.ireturn, 1) := by decide +kernel
theorem dX12_jump_0 : decode cX12_jump 0 = .ok (.aload_n 0, 1) := by decide +kernel
theorem dX12_jump_1 : decode cX12_jump 1 = .ok (.iconst 0, 1) := by decide +kernel
theorem dX12_jump_2 : decode cX12_jump 2 = .ok (.putfield 3, 3) := by decide +kernel
theorem dX12_jump_5 : decode cX12_jump 5 = .ok (.aload_n 0, 1) := by decide +kernel
theorem dX12_jump_6 : decode cX12_jump 6 = .ok (.iload_n 1, 1) := by decide +kernel
theorem dX12_jump_7 : decode cX12_jump 7 = .ok (.sipush (-300), 3) := by decide +kernel
theorem dX12_jump_10 : decode cX12_jump 10 = .ok (.sipush 300, 3) := by decide +kernel
theorem dX12_jump_13 : decode cX12_jump 13 = .ok (.invokestatic 66, 3) := by decide +kernel
theorem dX12_jump_16 : decode cX12_jump 16 = .ok (.ifCond .ne 7, 3) := by decide +kernel
theorem dX12_jump_19 : decode cX12_jump 19 = .ok (.iconst 1, 1) := by decide +kernel
theorem dX12_jump_20 : decode cX12_jump 20 = .ok (.goto 4, 3) := by decide +kernel
theorem dX12_jump_23 : decode cX12_jump 23 = .ok (.iconst 0, 1) := by decide +kernel
theorem dX12_jump_24 : decode cX12_jump 24 = .ok (.iconst 1, 1) := by decide +kernel
theorem dX12_jump_25 : decode cX12_jump 25 = .ok (.invokevirtual 199, 3) := by decide +kernel
theorem dX12_jump_28 : decode cX12_jump 28 = .ok (.ifCond .eq 7, 3) := by decide +kernel
theorem dX12_jump_31 : decode cX12_jump 31 = .ok (.iconst 0, 1) := by decide +kernel
theorem dX12_jump_32 : decode cX12_jump 32 = .ok (.goto 8, 3) := by decide +kernel
theorem dX12_jump_35 : decode cX12_jump 35 = .ok (.aload_n 0, 1) := by decide +kernel
theorem dX12_jump_36 : decode cX12_jump 36 = .ok (.iload_n 1, 1) := by decide +kernel
theorem dX12_jump_37 : decode cX12_jump 37 = .ok (.invokevirtual 371, 3) := by decide +kernel
theorem dX12_jump_40 : decode cX12_jump 40 = .ok (.ireturn, 1) := by decide +kernel
theorem dX12_would_0 : decode cX12_would 0 = .ok (.aload_n 0, 1) := by decide +kernel
theorem dX12_would_1 : decode cX12_would 1 = .ok (.iconst 0, 1) := by decide +kernel
theorem dX12_would_2 : decode cX12_would 2 = .ok (.putfield 3, 3) := by decide +kernel
theorem dX12_would_5 : decode cX12_would 5 = .ok (.aload_n 0, 1) := by decide +kernel
theorem dX12_would_6 : decode cX12_would 6 = .ok (.iload_n 1, 1) := by decide +kernel
theorem dX12_would_7 : decode cX12_would 7 = .ok (.iconst 0, 1) := by decide +kernel
theorem dX12_would_8 : decode cX12_would 8 = .ok (.bipush 60, 2) := by decide +kernel
theorem dX12_would_10 : decode cX12_would 10 = .ok (.invokestatic 66, 3) := by decide +kernel
theorem dX12_would_13 : decode cX12_would 13 = .ok (.ifCond .ne 7, 3) := by decide +kernel
theorem dX12_would_16 : decode cX12_would 16 = .ok (.iconst 1, 1) := by decide +kernel
theorem dX12_would_17 : decode cX12_would 17 = .ok (.goto 4, 3) := by decide +kernel
theorem dX12_would_20 : decode cX12_would 20 = .ok (.iconst 0, 1) := by decide +kernel
theorem dX12_would_21 : decode cX12_would 21 = .ok (.iconst 1, 1) := by decide +kernel
theorem dX12_would_22 : decode cX12_would 22 = .ok (.invokevirtual 199, 3) := by decide +kernel
theorem dX12_would_25 : decode cX12_would 25 = .ok (.ifCond .eq 5, 3) := by decide +kernel
theorem dX12_would_28 : decode cX12_would 28 = .ok (.iconst 0, 1) := by decide +kernel
theorem dX12_would_29 : decode cX12_would 29 = .ok (.ireturn, 1) := by decide +kernel
theorem dX12_would_30 : decode cX12_would 30 = .ok (.aload_n 0, 1) := by decide +kernel
theorem dX12_would_31 : decode cX12_would 31 = .ok (.invokevirtual 374, 3) := by decide +kernel
theorem dX12_would_34 : decode cX12_would 34 = .ok (.iload_n 2, 1) := by decide +kernel
theorem dX12_would_35 : decode cX12_would 35 = .ok (.ifCond .eq 11, 3) := by decide +kernel
theorem dX12_would_38 : decode cX12_would 38 = .ok (.aload_n 0, 1) := by decide +kernel
theorem dX12_would_39 : decode cX12_would 39 = .ok (.iload_n 1, 1) := by decide +kernel
theorem dX12_would_40 : decode cX12_would 40 = .ok (.invokevirtual 371, 3) := by decide +kernel
theorem dX12_would_43 : decode cX12_would 43 = .ok (.goto 8, 3) := by decide +kernel
theorem dX12_would_46 : decode cX12_would 46 = .ok (.aload_n 0, 1) := by decide +kernel
theorem dX12_would_47 : decode cX12_would 47 = .ok (.iload_n 1, 1) := by decide +kernel
theorem dX12_would_48 : decode cX12_would 48 = .ok (.invokevirtual 368, 3) := by decide +kernel
theorem dX12_would_51 : decode cX12_would 51 = .ok (.istore_n 3, 1) := by decide +kernel
theorem dX12_would_52 : decode cX12_would 52 = .ok (.aload_n 0, 1) := by decide +kernel
theorem dX12_would_53 : decode cX12_would 53 = .ok (.invokevirtual 377, 3) := by decide +kernel
theorem dX12_would_56 : decode cX12_would 56 = .ok (.iload_n 3, 1) := by decide +kernel
theorem dX12_would_57 : decode cX12_would 57 = .ok (.ireturn, 1) := by decide +kernel
theorem dX12_job_0 : decode cX12_job 0 = .ok (.aload_n 0, 1) := by decide +kernel
theorem dX12_job_1 : decode cX12_job 1 = .ok (.iload_n 1, 1) := by decide +kernel
theorem dX12_job_2 : decode cX12_job 2 = .ok (.iload_n 2, 1) := by decide +kernel
theorem dX12_job_3 : decode cX12_job 3 = .ok (.invokevirtual 337, 3) := by decide +kernel
theorem dX12_job_6 : decode cX12_job 6 = .ok (.istore 4, 2) := by decide +kernel
theorem dX12_job_8 : decode cX12_job 8 = .ok (.iload 4, 2) := by decide +kernel
theorem dX12_job_10 : decode cX12_job 10 = .ok (.iconst (-1), 1) := by decide +kernel
theorem dX12_job_11 : decode cX12_job 11 = .ok (.if_icmp .eq 26, 3) := by decide +kernel
theorem dX12_job_14 : decode cX12_job 14 = .ok (.aload_n 0, 1) := by decide +kernel
theorem dX12_job_15 : decode cX12_job 15 = .ok (.iload_n 3, 1) := by decide +kernel
theorem dX12_job_16 : decode cX12_job 16 = .ok (.iconst 0, 1) := by decide +kernel
theorem dX12_job_17 : decode cX12_job 17 = .ok (.bipush 12, 2) := by decide +kernel
theorem dX12_job_19 : decode cX12_job 19 = .ok (.invokestatic 66, 3) := by decide +kernel
theorem dX12_job_22 : decode cX12_job 22 = .ok (.ifCond .ne 7, 3) := by decide +kernel
theorem dX12_job_25 : decode cX12_job 25 = .ok (.iconst 1, 1) := by decide +kernel
theorem dX12_job_26 : decode cX12_job 26 = .ok (.goto 4, 3) := by decide +kernel
theorem dX12_job_29 : decode cX12_job 29 = .ok (.iconst 0, 1) := by decide +kernel
theorem dX12_job_30 : decode cX12_job 30 = .ok (.iconst 2, 1) := by decide +kernel
theorem dX12_job_31 : decode cX12_job 31 = .ok (.invokevirtual 199, 3) := by decide +kernel
theorem dX12_job_34 : decode cX12_job 34 = .ok (.ifCond .eq 5, 3) := by decide +kernel
theorem dX12_job_37 : decode cX12_job 37 = .ok (.iconst 0, 1) := by decide +kernel
theorem dX12_job_38 : decode cX12_job 38 = .ok (.ireturn, 1) := by decide +kernel
theorem dX12_job_39 : decode cX12_job 39 = .ok (.aload_n 0, 1) := by decide +kernel
theorem dX12_job_40 : decode cX12_job 40 = .ok (.getfield 13, 3) := by decide +kernel
theorem dX12_job_43 : decode cX12_job 43 = .ok (.aload_n 0, 1) := by decide +kernel
theorem dX12_job_44 : decode cX12_job 44 = .ok (.iload 4, 2) := by decide +kernel
theorem dX12_job_46 : decode cX12_job 46 = .ok (.iload_n 1, 1) := by decide +kernel
theorem dX12_job_47 : decode cX12_job 47 = .ok (.invokevirtual 295, 3) := by decide +kernel
theorem dX12_job_50 : decode cX12_job 50 = .ok (.iload_n 3, 1) := by decide +kernel
theorem dX12_job_51 : decode cX12_job 51 = .ok (.iadd, 1) := by decide +kernel
theorem dX12_job_52 : decode cX12_job 52 = .ok (.iaload, 1) := by decide +kernel
theorem dX12_job_53 : decode cX12_job 53 = .ok (.ireturn, 1) := by decide +kernel
theorem dX12_cause_0 : decode cX12_cause 0 = .ok (.aload_n 0, 1) := by decide +kernel
theorem dX12_cause_1 : decode cX12_cause 1 = .ok (.iload_n 1, 1) := by decide +kernel
theorem dX12_cause_2 : decode cX12_cause 2 = .ok (.iload_n 2, 1) := by decide +kernel
theorem dX12_cause_3 : decode cX12_cause 3 = .ok (.invokevirtual 337, 3) := by decide +kernel
theorem dX12_cause_6 : decode cX12_cause 6 = .ok (.istore 4, 2) := by decide +kernel
theorem dX12_cause_8 : decode cX12_cause 8 = .ok (.iload 4, 2) := by decide +kernel
theorem dX12_cause_10 : decode cX12_cause 10 = .ok (.iconst (-1), 1) := by decide +kernel
theorem dX12_cause_11 : decode cX12_cause 11 = .ok (.if_icmp .ne 5, 3) := by decide +kernel
theorem dX12_cause_14 : decode cX12_cause 14 = .ok (.iconst 0, 1) := by decide +kernel
theorem dX12_cause_15 : decode cX12_cause 15 = .ok (.ireturn, 1) := by decide +kernel
theorem dX12_cause_16 : decode cX12_cause 16 = .ok (.aload_n 0, 1) := by decide +kernel
theorem dX12_cause_17 : decode cX12_cause 17 = .ok (.iload 4, 2) := by decide +kernel
theorem dX12_cause_19 : decode cX12_cause 19 = .ok (.iload_n 1, 1) := by decide +kernel
theorem dX12_cause_20 : decode cX12_cause 20 = .ok (.invokevirtual 295, 3) := by decide +kernel
theorem dX12_cause_23 : decode cX12_cause 23 = .ok (.istore 5, 2) := by decide +kernel
theorem dX12_cause_25 : decode cX12_cause 25 = .ok (.iload_n 3, 1) := by decide +kernel
theorem dX12_cause_26 : decode cX12_cause 26 = .ok (.iconst 0, 1) := by decide +kernel
theorem dX12_cause_27 : decode cX12_cause 27 = .ok (.aload_n 0, 1) := by decide +kernel
theorem dX12_cause_28 : decode cX12_cause 28 = .ok (.getfield 13, 3) := by decide +kernel
theorem dX12_cause_31 : decode cX12_cause 31 = .ok (.iload 5, 2) := by decide +kernel
theorem dX12_cause_33 : decode cX12_cause 33 = .ok (.bipush 7, 2) := by decide +kernel
theorem dX12_cause_35 : decode cX12_cause 35 = .ok (.iadd, 1) := by decide +kernel
theorem dX12_cause_36 : decode cX12_cause 36 = .ok (.iaload, 1) := by decide +kernel
theorem dX12_cause_37 : decode cX12_cause 37 = .ok (.iconst 1, 1) := by decide +kernel
theorem dX12_cause_38 : decode cX12_cause 38 = .ok (.isub, 1) := by decide +kernel
theorem dX12_cause_39 : decode cX12_cause 39 = .ok (.invokestatic 66, 3) := by decide +kernel
theorem dX12_cause_42 : decode cX12_cause 42 = .ok (.ifCond .eq 18, 3) := by decide +kernel
theorem dX12_cause_45 : decode cX12_cause 45 = .ok (.aload_n 0, 1) := by decide +kernel
theorem dX12_cause_46 : decode cX12_cause 46 = .ok (.getfield 13, 3) := by decide +kernel
theorem dX12_cause_49 : decode cX12_cause 49 = .ok (.iload 5, 2) := by decide +kernel
theorem dX12_cause_51 : decode cX12_cause 51 = .ok (.bipush 13, 2) := by decide +kernel
theorem dX12_cause_53 : decode cX12_cause 53 = .ok (.iadd, 1) := by decide +kernel
theorem dX12_cause_54 : decode cX12_cause 54 = .ok (.iload_n 3, 1) := by decide +kernel
theorem dX12_cause_55 : decode cX12_cause 55 = .ok (.iadd, 1) := by decide +kernel
theorem dX12_cause_56 : decode cX12_cause 56 = .ok (.iaload, 1) := by decide +kernel
theorem dX12_cause_57 : decode cX12_cause 57 = .ok (.goto 4, 3) := by decide +kernel
theorem dX12_cause_60 : decode cX12_cause 60 = .ok (.iconst (-1), 1) := by decide +kernel
theorem dX12_cause_61 : decode cX12_cause 61 = .ok (.ireturn, 1) := by decide +kernel
theorem dX12_locked_0 : decode cX12_locked 0 = .ok (.aload_n 0, 1) := by decide +kernel
theorem dX12_locked_1 : decode cX12_locked 1 = .ok (.iconst (-1), 1) := by decide +kernel
theorem dX12_locked_2 : decode cX12_locked 2 = .ok (.iload_n 1, 1) := by decide +kernel
theorem dX12_locked_3 : decode cX12_locked 3 = .ok (.invokevirtual 337, 3) := by decide +kernel
theorem dX12_locked_6 : decode cX12_locked 6 = .ok (.istore_n 2, 1) := by decide +kernel
theorem dX12_locked_7 : decode cX12_locked 7 = .ok (.iload_n 2, 1) := by decide +kernel
theorem dX12_locked_8 : decode cX12_locked 8 = .ok (.iconst (-1), 1) := by decide +kernel
theorem dX12_locked_9 : decode cX12_locked 9 = .ok (.if_icmp .ne 7, 3) := by decide +kernel
theorem dX12_locked_12 : decode cX12_locked 12 = .ok (.iconst 0, 1) := by decide +kernel
theorem dX12_locked_13 : decode cX12_locked 13 = .ok (.goto 8, 3) := by decide +kernel
theorem dX12_locked_16 : decode cX12_locked 16 = .ok (.aload_n 0, 1) := by decide +kernel
theorem dX12_locked_17 : decode cX12_locked 17 = .ok (.iload_n 2, 1) := by decide +kernel
theorem dX12_locked_18 : decode cX12_locked 18 = .ok (.invokevirtual 70, 3) := by decide +kernel
theorem dX12_locked_21 : decode cX12_locked 21 = .ok (.ireturn, 1) := by decide +kernel
theorem dX12_holdsOf_0 : decode cX12_holdsOf 0 = .ok (.iconst 0, 1) := by decide +kernel
theorem dX12_holdsOf_1 : decode cX12_holdsOf 1 = .ok (.istore_n 3, 1) := by decide +kernel
theorem dX12_holdsOf_2 : decode cX12_holdsOf 2 = .ok (.iconst 0, 1) := by decide +kernel
theorem dX12_holdsOf_3 : decode cX12_holdsOf 3 = .ok (.istore 4, 2) := by decide +kernel
theorem dX12_holdsOf_5 : decode cX12_holdsOf 5 = .ok (.iload 4, 2) := by decide +kernel
theorem dX12_holdsOf_7 : decode cX12_holdsOf 7 = .ok (.bipush 24, 2) := by decide +kernel
theorem dX12_holdsOf_9 : decode cX12_holdsOf 9 = .ok (.if_icmp .ge 165, 3) := by decide +kernel
theorem dX12_holdsOf_12 : decode cX12_holdsOf 12 = .ok (.aload_n 0, 1) := by decide +kernel
theorem dX12_holdsOf_13 : decode cX12_holdsOf 13 = .ok (.iload 4, 2) := by decide +kernel
theorem dX12_holdsOf_15 : decode cX12_holdsOf 15 = .ok (.iload_n 1, 1) := by decide +kernel
theorem dX12_holdsOf_16 : decode cX12_holdsOf 16 = .ok (.invokevirtual 295, 3) := by decide +kernel
theorem dX12_holdsOf_19 : decode cX12_holdsOf 19 = .ok (.istore 5, 2) := by decide +kernel
theorem dX12_holdsOf_21 : decode cX12_holdsOf 21 = .ok (.aload_n 0, 1) := by decide +kernel
theorem dX12_holdsOf_22 : decode cX12_holdsOf 22 = .ok (.iload 5, 2) := by decide +kernel
theorem dX12_holdsOf_24 : decode cX12_holdsOf 24 = .ok (.iconst 1, 1) := by decide +kernel
theorem dX12_holdsOf_25 : decode cX12_holdsOf 25 = .ok (.invokevirtual 298, 3) := by decide +kernel
theorem dX12_holdsOf_28 : decode cX12_holdsOf 28 = .ok (.ifCond .eq 140, 3) := by decide +kernel
theorem dX12_holdsOf_31 : decode cX12_holdsOf 31 = .ok (.aload_n 0, 1) := by decide +kernel
theorem dX12_holdsOf_32 : decode cX12_holdsOf 32 = .ok (.getfield 13, 3) := by decide +kernel
theorem dX12_holdsOf_35 : decode cX12_holdsOf 35 = .ok (.iload 5, 2) := by decide +kernel
theorem dX12_holdsOf_37 : decode cX12_holdsOf 37 = .ok (.bipush 9, 2) := by decide +kernel
theorem dX12_holdsOf_39 : decode cX12_holdsOf 39 = .ok (.iadd, 1) := by decide +kernel
theorem dX12_holdsOf_40 : decode cX12_holdsOf 40 = .ok (.iaload, 1) := by decide +kernel
theorem dX12_holdsOf_41 : decode cX12_holdsOf 41 = .ok (.iload_n 1, 1) := by decide +kernel
theorem dX12_holdsOf_42 : decode cX12_holdsOf 42 = .ok (.if_icmp .eq 6, 3) := by decide +kernel
theorem dX12_holdsOf_45 : decode cX12_holdsOf 45 = .ok (.goto 123, 3) := by decide +kernel
theorem dX12_holdsOf_48 : decode cX12_holdsOf 48 = .ok (.aload_n 0, 1) := by decide +kernel
theorem dX12_holdsOf_49 : decode cX12_holdsOf 49 = .ok (.getfield 13, 3) := by decide +kernel
theorem dX12_holdsOf_52 : decode cX12_holdsOf 52 = .ok (.iload 5, 2) := by decide +kernel
theorem dX12_holdsOf_54 : decode cX12_holdsOf 54 = .ok (.bipush 10, 2) := by decide +kernel
theorem dX12_holdsOf_56 : decode cX12_holdsOf 56 = .ok (.iadd, 1) := by decide +kernel
theorem dX12_holdsOf_57 : decode cX12_holdsOf 57 = .ok (.iaload, 1) := by decide +kernel
theorem dX12_holdsOf_58 : decode cX12_holdsOf 58 = .ok (.aload_n 0, 1) := by decide +kernel
theorem dX12_holdsOf_59 : decode cX12_holdsOf 59 = .ok (.getfield 13, 3) := by decide +kernel
theorem dX12_holdsOf_62 : decode cX12_holdsOf 62 = .ok (.iconst 3, 1) := by decide +kernel
theorem dX12_holdsOf_63 : decode cX12_holdsOf 63 = .ok (.iaload, 1) := by decide +kernel
theorem dX12_holdsOf_64 : decode cX12_holdsOf 64 = .ok (.if_icmp .ge 7, 3) := by decide +kernel
theorem dX12_holdsOf_67 : decode cX12_holdsOf 67 = .ok (.iconst 1, 1) := by decide +kernel
theorem dX12_holdsOf_68 : decode cX12_holdsOf 68 = .ok (.goto 4, 3) := by decide +kernel
theorem dX12_holdsOf_71 : decode cX12_holdsOf 71 = .ok (.iconst 0, 1) := by decide +kernel
theorem dX12_holdsOf_72 : decode cX12_holdsOf 72 = .ok (.istore 6, 2) := by decide +kernel
theorem dX12_holdsOf_74 : decode cX12_holdsOf 74 = .ok (.aload_n 0, 1) := by decide +kernel
theorem dX12_holdsOf_75 : decode cX12_holdsOf 75 = .ok (.getfield 13, 3) := by decide +kernel
theorem dX12_holdsOf_78 : decode cX12_holdsOf 78 = .ok (.iload 5, 2) := by decide +kernel
theorem dX12_holdsOf_80 : decode cX12_holdsOf 80 = .ok (.bipush 10, 2) := by decide +kernel
theorem dX12_holdsOf_82 : decode cX12_holdsOf 82 = .ok (.iadd, 1) := by decide +kernel
theorem dX12_holdsOf_83 : decode cX12_holdsOf 83 = .ok (.iaload, 1) := by decide +kernel
theorem dX12_holdsOf_84 : decode cX12_holdsOf 84 = .ok (.aload_n 0, 1) := by decide +kernel
theorem dX12_holdsOf_85 : decode cX12_holdsOf 85 = .ok (.getfield 13, 3) := by decide +kernel
theorem dX12_holdsOf_88 : decode cX12_holdsOf 88 = .ok (.iconst 3, 1) := by decide +kernel
theorem dX12_holdsOf_89 : decode cX12_holdsOf 89 = .ok (.iaload, 1) := by decide +kernel
theorem dX12_holdsOf_90 : decode cX12_holdsOf 90 = .ok (.aload_n 0, 1) := by decide +kernel
theorem dX12_holdsOf_91 : decode cX12_holdsOf 91 = .ok (.getfield 13, 3) := by decide +kernel
theorem dX12_holdsOf_94 : decode cX12_holdsOf 94 = .ok (.iload_n 1, 1) := by decide +kernel
theorem dX12_holdsOf_95 : decode cX12_holdsOf 95 = .ok (.iconst 0, 1) := by decide +kernel
theorem dX12_holdsOf_96 : decode cX12_holdsOf 96 = .ok (.invokestatic 63, 3) := by decide +kernel
theorem dX12_holdsOf_99 : decode cX12_holdsOf 99 = .ok (.iaload, 1) := by decide +kernel
theorem dX12_holdsOf_100 : decode cX12_holdsOf 100 = .ok (.iadd, 1) := by decide +kernel
theorem dX12_holdsOf_101 : decode cX12_holdsOf 101 = .ok (.if_icmp .ge 7, 3) := by decide +kernel
theorem dX12_holdsOf_104 : decode cX12_holdsOf 104 = .ok (.iconst 1, 1) := by decide +kernel
theorem dX12_holdsOf_105 : decode cX12_holdsOf 105 = .ok (.goto 4, 3) := by decide +kernel
theorem dX12_holdsOf_108 : decode cX12_holdsOf 108 = .ok (.iconst 0, 1) := by decide +kernel
theorem dX12_holdsOf_109 : decode cX12_holdsOf 109 = .ok (.istore 7, 2) := by decide +kernel
theorem dX12_holdsOf_111 : decode cX12_holdsOf 111 = .ok (.iload_n 2, 1) := by decide +kernel
theorem dX12_holdsOf_112 : decode cX12_holdsOf 112 = .ok (.ifCond .eq 36, 3) := by decide +kernel
theorem dX12_holdsOf_115 : decode cX12_holdsOf 115 = .ok (.iload_n 2, 1) := by decide +kernel
theorem dX12_holdsOf_116 : decode cX12_holdsOf 116 = .ok (.iconst 1, 1) := by decide +kernel
theorem dX12_holdsOf_117 : decode cX12_holdsOf 117 = .ok (.if_icmp .ne 11, 3) := by decide +kernel
theorem dX12_holdsOf_120 : decode cX12_holdsOf 120 = .ok (.iload 6, 2) := by decide +kernel
theorem dX12_holdsOf_122 : decode cX12_holdsOf 122 = .ok (.ifCond .eq 30, 3) := by decide +kernel
theorem dX12_holdsOf_125 : decode cX12_holdsOf 125 = .ok (.goto 23, 3) := by decide +kernel
theorem dX12_holdsOf_128 : decode cX12_holdsOf 128 = .ok (.iload_n 2, 1) := by decide +kernel
theorem dX12_holdsOf_129 : decode cX12_holdsOf 129 = .ok (.iconst 2, 1) := by decide +kernel
theorem dX12_holdsOf_130 : decode cX12_holdsOf 130 = .ok (.if_icmp .ne 11, 3) := by decide +kernel
theorem dX12_holdsOf_133 : decode cX12_holdsOf 133 = .ok (.iload 7, 2) := by decide +kernel
theorem dX12_holdsOf_135 : decode cX12_holdsOf 135 = .ok (.ifCond .eq 17, 3) := by decide +kernel
theorem dX12_holdsOf_138 : decode cX12_holdsOf 138 = .ok (.goto 10, 3) := by decide +kernel
theorem dX12_holdsOf_141 : decode cX12_holdsOf 141 = .ok (.iload 6, 2) := by decide +kernel
theorem dX12_holdsOf_143 : decode cX12_holdsOf 143 = .ok (.iload 7, 2) := by decide +kernel
theorem dX12_holdsOf_145 : decode cX12_holdsOf 145 = .ok (.if_icmp .eq 7, 3) := by decide +kernel
theorem dX12_holdsOf_148 : decode cX12_holdsOf 148 = .ok (.iconst 1, 1) := by decide +kernel
theorem dX12_holdsOf_149 : decode cX12_holdsOf 149 = .ok (.goto 4, 3) := by decide +kernel
theorem dX12_holdsOf_152 : decode cX12_holdsOf 152 = .ok (.iconst 0, 1) := by decide +kernel
theorem dX12_holdsOf_153 : decode cX12_holdsOf 153 = .ok (.istore 8, 2) := by decide +kernel
theorem dX12_holdsOf_155 : decode cX12_holdsOf 155 = .ok (.iload_n 3, 1) := by decide +kernel
theorem dX12_holdsOf_156 : decode cX12_holdsOf 156 = .ok (.iload 8, 2) := by decide +kernel
theorem dX12_holdsOf_158 : decode cX12_holdsOf 158 = .ok (.ifCond .eq 7, 3) := by decide +kernel
theorem dX12_holdsOf_161 : decode cX12_holdsOf 161 = .ok (.iconst 1, 1) := by decide +kernel
theorem dX12_holdsOf_162 : decode cX12_holdsOf 162 = .ok (.goto 4, 3) := by decide +kernel
theorem dX12_holdsOf_165 : decode cX12_holdsOf 165 = .ok (.iconst 0, 1) := by decide +kernel
theorem dX12_holdsOf_166 : decode cX12_holdsOf 166 = .ok (.iadd, 1) := by decide +kernel
theorem dX12_holdsOf_167 : decode cX12_holdsOf 167 = .ok (.istore_n 3, 1) := by decide +kernel
theorem dX12_holdsOf_168 : decode cX12_holdsOf 168 = .ok (.iinc 4 1, 3) := by decide +kernel
theorem dX12_holdsOf_171 : decode cX12_holdsOf 171 = .ok (.goto (-166), 3) := by decide +kernel
theorem dX12_holdsOf_174 : decode cX12_holdsOf 174 = .ok (.iload_n 3, 1) := by decide +kernel
theorem dX12_holdsOf_175 : decode cX12_holdsOf 175 = .ok (.ireturn, 1) := by decide +kernel
theorem dX12_session_0 : decode cX12_session 0 = .ok (.aload_n 0, 1) := by decide +kernel
theorem dX12_session_1 : decode cX12_session 1 = .ok (.iconst 0, 1) := by decide +kernel
theorem dX12_session_2 : decode cX12_session 2 = .ok (.putfield 3, 3) := by decide +kernel
theorem dX12_session_5 : decode cX12_session 5 = .ok (.aload_n 0, 1) := by decide +kernel
theorem dX12_session_6 : decode cX12_session 6 = .ok (.aload_n 0, 1) := by decide +kernel
theorem dX12_session_7 : decode cX12_session 7 = .ok (.iload_n 1, 1) := by decide +kernel
theorem dX12_session_8 : decode cX12_session 8 = .ok (.invokevirtual 245, 3) := by decide +kernel
theorem dX12_session_11 : decode cX12_session 11 = .ok (.iconst 1, 1) := by decide +kernel
theorem dX12_session_12 : decode cX12_session 12 = .ok (.invokevirtual 199, 3) := by decide +kernel
theorem dX12_session_15 : decode cX12_session 15 = .ok (.ifCond .ne 26, 3) := by decide +kernel
theorem dX12_session_18 : decode cX12_session 18 = .ok (.aload_n 0, 1) := by decide +kernel
theorem dX12_session_19 : decode cX12_session 19 = .ok (.iload_n 2, 1) := by decide +kernel
theorem dX12_session_20 : decode cX12_session 20 = .ok (.iconst 0, 1) := by decide +kernel
theorem dX12_session_21 : decode cX12_session 21 = .ok (.bipush 9, 2) := by decide +kernel
theorem dX12_session_23 : decode cX12_session 23 = .ok (.invokestatic 66, 3) := by decide +kernel
theorem dX12_session_26 : decode cX12_session 26 = .ok (.ifCond .ne 7, 3) := by decide +kernel
theorem dX12_session_29 : decode cX12_session 29 = .ok (.iconst 1, 1) := by decide +kernel
theorem dX12_session_30 : decode cX12_session 30 = .ok (.goto 4, 3) := by decide +kernel
theorem dX12_session_33 : decode cX12_session 33 = .ok (.iconst 0, 1) := by decide +kernel
theorem dX12_session_34 : decode cX12_session 34 = .ok (.iconst 2, 1) := by decide +kernel
theorem dX12_session_35 : decode cX12_session 35 = .ok (.invokevirtual 199, 3) := by decide +kernel
theorem dX12_session_38 : decode cX12_session 38 = .ok (.ifCond .eq 5, 3) := by decide +kernel
theorem dX12_session_41 : decode cX12_session 41 = .ok (.iconst 0, 1) := by decide +kernel
theorem dX12_session_42 : decode cX12_session 42 = .ok (.ireturn, 1) := by decide +kernel
theorem dX12_session_43 : decode cX12_session 43 = .ok (.iload_n 2, 1) := by decide +kernel
theorem dX12_session_44 : decode cX12_session 44 = .ok (.tableswitch 101 0 5 #[40, 51, 62, 68, 79, 90], 40) := by decide +kernel
theorem dX12_session_84 : decode cX12_session 84 = .ok (.aload_n 0, 1) := by decide +kernel
theorem dX12_session_85 : decode cX12_session 85 = .ok (.getfield 13, 3) := by decide +kernel
theorem dX12_session_88 : decode cX12_session 88 = .ok (.iload_n 1, 1) := by decide +kernel
theorem dX12_session_89 : decode cX12_session 89 = .ok (.iconst 2, 1) := by decide +kernel
theorem dX12_session_90 : decode cX12_session 90 = .ok (.invokestatic 63, 3) := by decide +kernel
theorem dX12_session_93 : decode cX12_session 93 = .ok (.iaload, 1) := by decide +kernel
theorem dX12_session_94 : decode cX12_session 94 = .ok (.ireturn, 1) := by decide +kernel
theorem dX12_session_95 : decode cX12_session 95 = .ok (.aload_n 0, 1) := by decide +kernel
theorem dX12_session_96 : decode cX12_session 96 = .ok (.getfield 13, 3) := by decide +kernel
theorem dX12_session_99 : decode cX12_session 99 = .ok (.iload_n 1, 1) := by decide +kernel
theorem dX12_session_100 : decode cX12_session 100 = .ok (.iconst 3, 1) := by decide +kernel
theorem dX12_session_101 : decode cX12_session 101 = .ok (.invokestatic 63, 3) := by decide +kernel
theorem dX12_session_104 : decode cX12_session 104 = .ok (.iaload, 1) := by decide +kernel
theorem dX12_session_105 : decode cX12_session 105 = .ok (.ireturn, 1) := by decide +kernel
theorem dX12_session_106 : decode cX12_session 106 = .ok (.aload_n 0, 1) := by decide +kernel
theorem dX12_session_107 : decode cX12_session 107 = .ok (.iload_n 1, 1) := by decide +kernel
theorem dX12_session_108 : decode cX12_session 108 = .ok (.invokevirtual 286, 3) := by decide +kernel
theorem dX12_session_111 : decode cX12_session 111 = .ok (.ireturn, 1) := by decide +kernel
theorem dX12_session_112 : decode cX12_session 112 = .ok (.aload_n 0, 1) := by decide +kernel
theorem dX12_session_113 : decode cX12_session 113 = .ok (.getfield 13, 3) := by decide +kernel
theorem dX12_session_116 : decode cX12_session 116 = .ok (.iload_n 1, 1) := by decide +kernel
theorem dX12_session_117 : decode cX12_session 117 = .ok (.iconst 0, 1) := by decide +kernel
theorem dX12_session_118 : decode cX12_session 118 = .ok (.invokestatic 63, 3) := by decide +kernel
theorem dX12_session_121 : decode cX12_session 121 = .ok (.iaload, 1) := by decide +kernel
theorem dX12_session_122 : decode cX12_session 122 = .ok (.ireturn, 1) := by decide +kernel
theorem dX12_session_123 : decode cX12_session 123 = .ok (.aload_n 0, 1) := by decide +kernel
theorem dX12_session_124 : decode cX12_session 124 = .ok (.getfield 13, 3) := by decide +kernel
theorem dX12_session_127 : decode cX12_session 127 = .ok (.iload_n 1, 1) := by decide +kernel
theorem dX12_session_128 : decode cX12_session 128 = .ok (.iconst 1, 1) := by decide +kernel
theorem dX12_session_129 : decode cX12_session 129 = .ok (.invokestatic 63, 3) := by decide +kernel
theorem dX12_session_132 : decode cX12_session 132 = .ok (.iaload, 1) := by decide +kernel
theorem dX12_session_133 : decode cX12_session 133 = .ok (.ireturn, 1) := by decide +kernel
theorem dX12_session_134 : decode cX12_session 134 = .ok (.aload_n 0, 1) := by decide +kernel
theorem dX12_session_135 : decode cX12_session 135 = .ok (.getfield 13, 3) := by decide +kernel
theorem dX12_session_138 : decode cX12_session 138 = .ok (.iload_n 1, 1) := by decide +kernel
theorem dX12_session_139 : decode cX12_session 139 = .ok (.iconst 4, 1) := by decide +kernel
theorem dX12_session_140 : decode cX12_session 140 = .ok (.invokestatic 63, 3) := by decide +kernel
theorem dX12_session_143 : decode cX12_session 143 = .ok (.iaload, 1) := by decide +kernel
theorem dX12_session_144 : decode cX12_session 144 = .ok (.ireturn, 1) := by decide +kernel
theorem dX12_session_145 : decode cX12_session 145 = .ok (.aload_n 0, 1) := by decide +kernel
theorem dX12_session_146 : decode cX12_session 146 = .ok (.iload_n 1, 1) := by decide +kernel
theorem dX12_session_147 : decode cX12_session 147 = .ok (.iload_n 2, 1) := by decide +kernel
theorem dX12_session_148 : decode cX12_session 148 = .ok (.bipush 6, 2) := by decide +kernel
theorem dX12_session_150 : decode cX12_session 150 = .ok (.isub, 1) := by decide +kernel
theorem dX12_session_151 : decode cX12_session 151 = .ok (.invokevirtual 380, 3) := by decide +kernel
theorem dX12_session_154 : decode cX12_session 154 = .ok (.ireturn, 1) := by decide +kernel
theorem dX12_plan_0 : decode cX12_plan 0 = .ok (.aload_n 0, 1) := by decide +kernel
theorem dX12_plan_1 : decode cX12_plan 1 = .ok (.iconst 0, 1) := by decide +kernel
theorem dX12_plan_2 : decode cX12_plan 2 = .ok (.putfield 3, 3) := by decide +kernel
theorem dX12_plan_5 : decode cX12_plan 5 = .ok (.aload_n 0, 1) := by decide +kernel
theorem dX12_plan_6 : decode cX12_plan 6 = .ok (.iload_n 1, 1) := by decide +kernel
theorem dX12_plan_7 : decode cX12_plan 7 = .ok (.iconst 0, 1) := by decide +kernel
theorem dX12_plan_8 : decode cX12_plan 8 = .ok (.aload_n 0, 1) := by decide +kernel
theorem dX12_plan_9 : decode cX12_plan 9 = .ok (.getfield 13, 3) := by decide +kernel
theorem dX12_plan_12 : decode cX12_plan 12 = .ok (.iconst 1, 1) := by decide +kernel
theorem dX12_plan_13 : decode cX12_plan 13 = .ok (.iaload, 1) := by decide +kernel
theorem dX12_plan_14 : decode cX12_plan 14 = .ok (.iconst 1, 1) := by decide +kernel
theorem dX12_plan_15 : decode cX12_plan 15 = .ok (.isub, 1) := by decide +kernel
theorem dX12_plan_16 : decode cX12_plan 16 = .ok (.invokestatic 66, 3) := by decide +kernel
theorem dX12_plan_19 : decode cX12_plan 19 = .ok (.ifCond .ne 7, 3) := by decide +kernel
theorem dX12_plan_22 : decode cX12_plan 22 = .ok (.iconst 1, 1) := by decide +kernel
theorem dX12_plan_23 : decode cX12_plan 23 = .ok (.goto 4, 3) := by decide +kernel
theorem dX12_plan_26 : decode cX12_plan 26 = .ok (.iconst 0, 1) := by decide +kernel
theorem dX12_plan_27 : decode cX12_plan 27 = .ok (.iconst 1, 1) := by decide +kernel
theorem dX12_plan_28 : decode cX12_plan 28 = .ok (.invokevirtual 199, 3) := by decide +kernel
theorem dX12_plan_31 : decode cX12_plan 31 = .ok (.ifCond .ne 25, 3) := by decide +kernel
theorem dX12_plan_34 : decode cX12_plan 34 = .ok (.aload_n 0, 1) := by decide +kernel
theorem dX12_plan_35 : decode cX12_plan 35 = .ok (.iload_n 2, 1) := by decide +kernel
theorem dX12_plan_36 : decode cX12_plan 36 = .ok (.iconst 0, 1) := by decide +kernel
theorem dX12_plan_37 : decode cX12_plan 37 = .ok (.iconst 5, 1) := by decide +kernel
theorem dX12_plan_38 : decode cX12_plan 38 = .ok (.invokestatic 66, 3) := by decide +kernel
theorem dX12_plan_41 : decode cX12_plan 41 = .ok (.ifCond .ne 7, 3) := by decide +kernel
theorem dX12_plan_44 : decode cX12_plan 44 = .ok (.iconst 1, 1) := by decide +kernel
theorem dX12_plan_45 : decode cX12_plan 45 = .ok (.goto 4, 3) := by decide +kernel
theorem dX12_plan_48 : decode cX12_plan 48 = .ok (.iconst 0, 1) := by decide +kernel
theorem dX12_plan_49 : decode cX12_plan 49 = .ok (.iconst 2, 1) := by decide +kernel
theorem dX12_plan_50 : decode cX12_plan 50 = .ok (.invokevirtual 199, 3) := by decide +kernel
theorem dX12_plan_53 : decode cX12_plan 53 = .ok (.ifCond .eq 5, 3) := by decide +kernel
theorem dX12_plan_56 : decode cX12_plan 56 = .ok (.iconst 0, 1) := by decide +kernel
theorem dX12_plan_57 : decode cX12_plan 57 = .ok (.ireturn, 1) := by decide +kernel
theorem dX12_plan_58 : decode cX12_plan 58 = .ok (.iload_n 2, 1) := by decide +kernel
theorem dX12_plan_59 : decode cX12_plan 59 = .ok (.tableswitch 90 0 4 #[33, 44, 55, 66, 78], 33) := by decide +kernel
theorem dX12_plan_92 : decode cX12_plan 92 = .ok (.aload_n 0, 1) := by decide +kernel
theorem dX12_plan_93 : decode cX12_plan 93 = .ok (.getfield 13, 3) := by decide +kernel
theorem dX12_plan_96 : decode cX12_plan 96 = .ok (.iload_n 1, 1) := by decide +kernel
theorem dX12_plan_97 : decode cX12_plan 97 = .ok (.iconst 0, 1) := by decide +kernel
theorem dX12_plan_98 : decode cX12_plan 98 = .ok (.invokestatic 153, 3) := by decide +kernel
theorem dX12_plan_101 : decode cX12_plan 101 = .ok (.iaload, 1) := by decide +kernel
theorem dX12_plan_102 : decode cX12_plan 102 = .ok (.ireturn, 1) := by decide +kernel
theorem dX12_plan_103 : decode cX12_plan 103 = .ok (.aload_n 0, 1) := by decide +kernel
theorem dX12_plan_104 : decode cX12_plan 104 = .ok (.getfield 13, 3) := by decide +kernel
theorem dX12_plan_107 : decode cX12_plan 107 = .ok (.iload_n 1, 1) := by decide +kernel
theorem dX12_plan_108 : decode cX12_plan 108 = .ok (.iconst 1, 1) := by decide +kernel
theorem dX12_plan_109 : decode cX12_plan 109 = .ok (.invokestatic 153, 3) := by decide +kernel
theorem dX12_plan_112 : decode cX12_plan 112 = .ok (.iaload, 1) := by decide +kernel
theorem dX12_plan_113 : decode cX12_plan 113 = .ok (.ireturn, 1) := by decide +kernel
theorem dX12_plan_114 : decode cX12_plan 114 = .ok (.aload_n 0, 1) := by decide +kernel
theorem dX12_plan_115 : decode cX12_plan 115 = .ok (.getfield 13, 3) := by decide +kernel
theorem dX12_plan_118 : decode cX12_plan 118 = .ok (.iload_n 1, 1) := by decide +kernel
theorem dX12_plan_119 : decode cX12_plan 119 = .ok (.iconst 5, 1) := by decide +kernel
theorem dX12_plan_120 : decode cX12_plan 120 = .ok (.invokestatic 153, 3) := by decide +kernel
theorem dX12_plan_123 : decode cX12_plan 123 = .ok (.iaload, 1) := by decide +kernel
theorem dX12_plan_124 : decode cX12_plan 124 = .ok (.ireturn, 1) := by decide +kernel
theorem dX12_plan_125 : decode cX12_plan 125 = .ok (.aload_n 0, 1) := by decide +kernel
theorem dX12_plan_126 : decode cX12_plan 126 = .ok (.getfield 13, 3) := by decide +kernel
theorem dX12_plan_129 : decode cX12_plan 129 = .ok (.iload_n 1, 1) := by decide +kernel
theorem dX12_plan_130 : decode cX12_plan 130 = .ok (.bipush 6, 2) := by decide +kernel
theorem dX12_plan_132 : decode cX12_plan 132 = .ok (.invokestatic 153, 3) := by decide +kernel
theorem dX12_plan_135 : decode cX12_plan 135 = .ok (.iaload, 1) := by decide +kernel
theorem dX12_plan_136 : decode cX12_plan 136 = .ok (.ireturn, 1) := by decide +kernel
theorem dX12_plan_137 : decode cX12_plan 137 = .ok (.aload_n 0, 1) := by decide +kernel
theorem dX12_plan_138 : decode cX12_plan 138 = .ok (.getfield 13, 3) := by decide +kernel
theorem dX12_plan_141 : decode cX12_plan 141 = .ok (.iload_n 1, 1) := by decide +kernel
theorem dX12_plan_142 : decode cX12_plan 142 = .ok (.bipush 7, 2) := by decide +kernel
theorem dX12_plan_144 : decode cX12_plan 144 = .ok (.invokestatic 153, 3) := by decide +kernel
theorem dX12_plan_147 : decode cX12_plan 147 = .ok (.iaload, 1) := by decide +kernel
theorem dX12_plan_148 : decode cX12_plan 148 = .ok (.ireturn, 1) := by decide +kernel
theorem dX12_plan_149 : decode cX12_plan 149 = .ok (.aload_n 0, 1) := by decide +kernel
theorem dX12_plan_150 : decode cX12_plan 150 = .ok (.iload_n 1, 1) := by decide +kernel
theorem dX12_plan_151 : decode cX12_plan 151 = .ok (.aload_n 0, 1) := by decide +kernel
theorem dX12_plan_152 : decode cX12_plan 152 = .ok (.getfield 13, 3) := by decide +kernel
theorem dX12_plan_155 : decode cX12_plan 155 = .ok (.iload_n 1, 1) := by decide +kernel
theorem dX12_plan_156 : decode cX12_plan 156 = .ok (.bipush 7, 2) := by decide +kernel
theorem dX12_plan_158 : decode cX12_plan 158 = .ok (.invokestatic 153, 3) := by decide +kernel
theorem dX12_plan_161 : decode cX12_plan 161 = .ok (.iaload, 1) := by decide +kernel
theorem dX12_plan_162 : decode cX12_plan 162 = .ok (.iconst 1, 1) := by decide +kernel
theorem dX12_plan_163 : decode cX12_plan 163 = .ok (.iadd, 1) := by decide +kernel
theorem dX12_plan_164 : decode cX12_plan 164 = .ok (.invokevirtual 356, 3) := by decide +kernel
theorem dX12_plan_167 : decode cX12_plan 167 = .ok (.ireturn, 1) := by decide +kernel
theorem dX12_claimSeen_0 : decode cX12_claimSeen 0 = .ok (.aload_n 0, 1) := by decide +kernel
theorem dX12_claimSeen_1 : decode cX12_claimSeen 1 = .ok (.invokevirtual 374, 3) := by decide +kernel
theorem dX12_claimSeen_4 : decode cX12_claimSeen 4 = .ok (.aload_n 0, 1) := by decide +kernel
theorem dX12_claimSeen_5 : decode cX12_claimSeen 5 = .ok (.iload_n 1, 1) := by decide +kernel
theorem dX12_claimSeen_6 : decode cX12_claimSeen 6 = .ok (.invokevirtual 328, 3) := by decide +kernel
theorem dX12_claimSeen_9 : decode cX12_claimSeen 9 = .ok (.istore_n 3, 1) := by decide +kernel
theorem dX12_claimSeen_10 : decode cX12_claimSeen 10 = .ok (.aload_n 0, 1) := by decide +kernel
theorem dX12_claimSeen_11 : decode cX12_claimSeen 11 = .ok (.invokevirtual 377, 3) := by decide +kernel
theorem dX12_claimSeen_14 : decode cX12_claimSeen 14 = .ok (.iconst 0, 1) := by decide +kernel
theorem dX12_claimSeen_15 : decode cX12_claimSeen 15 = .ok (.istore 4, 2) := by decide +kernel
theorem dX12_claimSeen_17 : decode cX12_claimSeen 17 = .ok (.iload 4, 2) := by decide +kernel
theorem dX12_claimSeen_19 : decode cX12_claimSeen 19 = .ok (.iload_n 3, 1) := by decide +kernel
theorem dX12_claimSeen_20 : decode cX12_claimSeen 20 = .ok (.if_icmp .ge 20, 3) := by decide +kernel
theorem dX12_claimSeen_23 : decode cX12_claimSeen 23 = .ok (.aload_n 2, 1) := by decide +kernel
theorem dX12_claimSeen_24 : decode cX12_claimSeen 24 = .ok (.iload 4, 2) := by decide +kernel
theorem dX12_claimSeen_26 : decode cX12_claimSeen 26 = .ok (.aload_n 0, 1) := by decide +kernel
theorem dX12_claimSeen_27 : decode cX12_claimSeen 27 = .ok (.getfield 39, 3) := by decide +kernel
theorem dX12_claimSeen_30 : decode cX12_claimSeen 30 = .ok (.iload 4, 2) := by decide +kernel
theorem dX12_claimSeen_32 : decode cX12_claimSeen 32 = .ok (.iaload, 1) := by decide +kernel
theorem dX12_claimSeen_33 : decode cX12_claimSeen 33 = .ok (.iastore, 1) := by decide +kernel
theorem dX12_claimSeen_34 : decode cX12_claimSeen 34 = .ok (.iinc 4 1, 3) := by decide +kernel
theorem dX12_claimSeen_37 : decode cX12_claimSeen 37 = .ok (.goto (-20), 3) := by decide +kernel
theorem dX12_claimSeen_40 : decode cX12_claimSeen 40 = .ok (.iload_n 3, 1) := by decide +kernel
theorem dX12_claimSeen_41 : decode cX12_claimSeen 41 = .ok (.ireturn, 1) := by decide +kernel
theorem dX12_may_0 : decode cX12_may 0 = .ok (.aload_n 0, 1) := by decide +kernel
theorem dX12_may_1 : decode cX12_may 1 = .ok (.iload_n 1, 1) := by decide +kernel
theorem dX12_may_2 : decode cX12_may 2 = .ok (.iload_n 2, 1) := by decide +kernel
theorem dX12_may_3 : decode cX12_may 3 = .ok (.invokevirtual 340, 3) := by decide +kernel
theorem dX12_may_6 : decode cX12_may 6 = .ok (.istore_n 3, 1) := by decide +kernel
theorem dX12_may_7 : decode cX12_may 7 = .ok (.iload_n 3, 1) := by decide +kernel
theorem dX12_may_8 : decode cX12_may 8 = .ok (.iconst (-1), 1) := by decide +kernel
theorem dX12_may_9 : decode cX12_may 9 = .ok (.if_icmp .eq 16, 3) := by decide +kernel
theorem dX12_may_12 : decode cX12_may 12 = .ok (.aload_n 0, 1) := by decide +kernel
theorem dX12_may_13 : decode cX12_may 13 = .ok (.iload_n 3, 1) := by decide +kernel
theorem dX12_may_14 : decode cX12_may 14 = .ok (.iload_n 1, 1) := by decide +kernel
theorem dX12_may_15 : decode cX12_may 15 = .ok (.invokevirtual 313, 3) := by decide +kernel
theorem dX12_may_18 : decode cX12_may 18 = .ok (.ifCond .eq 7, 3) := by decide +kernel
theorem dX12_may_21 : decode cX12_may 21 = .ok (.iconst 1, 1) := by decide +kernel
theorem dX12_may_22 : decode cX12_may 22 = .ok (.goto 4, 3) := by decide +kernel
theorem dX12_may_25 : decode cX12_may 25 = .ok (.iconst 0, 1) := by decide +kernel
theorem dX12_may_26 : decode cX12_may 26 = .ok (.ireturn, 1) := by decide +kernel
theorem dX12_next_0 : decode cX12_next 0 = .ok (.aload_n 0, 1) := by decide +kernel
theorem dX12_next_1 : decode cX12_next 1 = .ok (.iconst 0, 1) := by decide +kernel
theorem dX12_next_2 : decode cX12_next 2 = .ok (.putfield 3, 3) := by decide +kernel
theorem dX12_next_5 : decode cX12_next 5 = .ok (.aload_n 0, 1) := by decide +kernel
theorem dX12_next_6 : decode cX12_next 6 = .ok (.aload_n 0, 1) := by decide +kernel
theorem dX12_next_7 : decode cX12_next 7 = .ok (.iload_n 1, 1) := by decide +kernel
theorem dX12_next_8 : decode cX12_next 8 = .ok (.invokevirtual 245, 3) := by decide +kernel
theorem dX12_next_11 : decode cX12_next 11 = .ok (.iconst 1, 1) := by decide +kernel
theorem dX12_next_12 : decode cX12_next 12 = .ok (.invokevirtual 199, 3) := by decide +kernel
theorem dX12_next_15 : decode cX12_next 15 = .ok (.ifCond .eq 5, 3) := by decide +kernel
theorem dX12_next_18 : decode cX12_next 18 = .ok (.iconst 0, 1) := by decide +kernel
theorem dX12_next_19 : decode cX12_next 19 = .ok (.ireturn, 1) := by decide +kernel
theorem dX12_next_20 : decode cX12_next 20 = .ok (.aload_n 0, 1) := by decide +kernel
theorem dX12_next_21 : decode cX12_next 21 = .ok (.iload_n 1, 1) := by decide +kernel
theorem dX12_next_22 : decode cX12_next 22 = .ok (.aload_n 0, 1) := by decide +kernel
theorem dX12_next_23 : decode cX12_next 23 = .ok (.getfield 42, 3) := by decide +kernel
theorem dX12_next_26 : decode cX12_next 26 = .ok (.invokevirtual 383, 3) := by decide +kernel
theorem dX12_next_29 : decode cX12_next 29 = .ok (.istore_n 3, 1) := by decide +kernel
theorem dX12_next_30 : decode cX12_next 30 = .ok (.iload_n 2, 1) := by decide +kernel
theorem dX12_next_31 : decode cX12_next 31 = .ok (.iconst 0, 1) := by decide +kernel
theorem dX12_next_32 : decode cX12_next 32 = .ok (.iload_n 3, 1) := by decide +kernel
theorem dX12_next_33 : decode cX12_next 33 = .ok (.iconst 1, 1) := by decide +kernel
theorem dX12_next_34 : decode cX12_next 34 = .ok (.isub, 1) := by decide +kernel
theorem dX12_next_35 : decode cX12_next 35 = .ok (.invokestatic 66, 3) := by decide +kernel
theorem dX12_next_38 : decode cX12_next 38 = .ok (.ifCond .eq 16, 3) := by decide +kernel
theorem dX12_next_41 : decode cX12_next 41 = .ok (.aload_n 0, 1) := by decide +kernel
theorem dX12_next_42 : decode cX12_next 42 = .ok (.aload_n 0, 1) := by decide +kernel
theorem dX12_next_43 : decode cX12_next 43 = .ok (.getfield 42, 3) := by decide +kernel
theorem dX12_next_46 : decode cX12_next 46 = .ok (.iload_n 2, 1) := by decide +kernel
theorem dX12_next_47 : decode cX12_next 47 = .ok (.iaload, 1) := by decide +kernel
theorem dX12_next_48 : decode cX12_next 48 = .ok (.invokevirtual 59, 3) := by decide +kernel
theorem dX12_next_51 : decode cX12_next 51 = .ok (.goto 4, 3) := by decide +kernel
theorem dX12_next_54 : decode cX12_next 54 = .ok (.iconst (-1), 1) := by decide +kernel
theorem dX12_next_55 : decode cX12_next 55 = .ok (.ireturn, 1) := by decide +kernel
theorem dX12_bar_0 : decode cX12_bar 0 = .ok (.aload_n 0, 1) := by decide +kernel
theorem dX12_bar_1 : decode cX12_bar 1 = .ok (.iload_n 1, 1) := by decide +kernel
theorem dX12_bar_2 : decode cX12_bar 2 = .ok (.iload_n 2, 1) := by decide +kernel
theorem dX12_bar_3 : decode cX12_bar 3 = .ok (.invokevirtual 340, 3) := by decide +kernel
theorem dX12_bar_6 : decode cX12_bar 6 = .ok (.istore_n 3, 1) := by decide +kernel
theorem dX12_bar_7 : decode cX12_bar 7 = .ok (.iload_n 3, 1) := by decide +kernel
theorem dX12_bar_8 : decode cX12_bar 8 = .ok (.iconst (-1), 1) := by decide +kernel
theorem dX12_bar_9 : decode cX12_bar 9 = .ok (.if_icmp .ne 5, 3) := by decide +kernel
theorem dX12_bar_12 : decode cX12_bar 12 = .ok (.iconst 0, 1) := by decide +kernel
theorem dX12_bar_13 : decode cX12_bar 13 = .ok (.ireturn, 1) := by decide +kernel
theorem dX12_bar_14 : decode cX12_bar 14 = .ok (.aload_n 0, 1) := by decide +kernel
theorem dX12_bar_15 : decode cX12_bar 15 = .ok (.iload_n 1, 1) := by decide +kernel
theorem dX12_bar_16 : decode cX12_bar 16 = .ok (.aload_n 0, 1) := by decide +kernel
theorem dX12_bar_17 : decode cX12_bar 17 = .ok (.getfield 42, 3) := by decide +kernel
theorem dX12_bar_20 : decode cX12_bar 20 = .ok (.invokevirtual 383, 3) := by decide +kernel
theorem dX12_bar_23 : decode cX12_bar 23 = .ok (.istore 4, 2) := by decide +kernel
theorem dX12_bar_25 : decode cX12_bar 25 = .ok (.iconst 0, 1) := by decide +kernel
theorem dX12_bar_26 : decode cX12_bar 26 = .ok (.istore 5, 2) := by decide +kernel
theorem dX12_bar_28 : decode cX12_bar 28 = .ok (.iload 5, 2) := by decide +kernel
theorem dX12_bar_30 : decode cX12_bar 30 = .ok (.iload 4, 2) := by decide +kernel
theorem dX12_bar_32 : decode cX12_bar 32 = .ok (.if_icmp .ge 22, 3) := by decide +kernel
theorem dX12_bar_35 : decode cX12_bar 35 = .ok (.aload_n 0, 1) := by decide +kernel
theorem dX12_bar_36 : decode cX12_bar 36 = .ok (.getfield 42, 3) := by decide +kernel
theorem dX12_bar_39 : decode cX12_bar 39 = .ok (.iload 5, 2) := by decide +kernel
theorem dX12_bar_41 : decode cX12_bar 41 = .ok (.iaload, 1) := by decide +kernel
theorem dX12_bar_42 : decode cX12_bar 42 = .ok (.iload_n 3, 1) := by decide +kernel
theorem dX12_bar_43 : decode cX12_bar 43 = .ok (.if_icmp .ne 5, 3) := by decide +kernel
theorem dX12_bar_46 : decode cX12_bar 46 = .ok (.iconst 0, 1) := by decide +kernel
theorem dX12_bar_47 : decode cX12_bar 47 = .ok (.ireturn, 1) := by decide +kernel
theorem dX12_bar_48 : decode cX12_bar 48 = .ok (.iinc 5 1, 3) := by decide +kernel
theorem dX12_bar_51 : decode cX12_bar 51 = .ok (.goto (-23), 3) := by decide +kernel
theorem dX12_bar_54 : decode cX12_bar 54 = .ok (.aload_n 0, 1) := by decide +kernel
theorem dX12_bar_55 : decode cX12_bar 55 = .ok (.iload_n 3, 1) := by decide +kernel
theorem dX12_bar_56 : decode cX12_bar 56 = .ok (.iload_n 1, 1) := by decide +kernel
theorem dX12_bar_57 : decode cX12_bar 57 = .ok (.invokevirtual 301, 3) := by decide +kernel
theorem dX12_bar_60 : decode cX12_bar 60 = .ok (.ifCond .eq 5, 3) := by decide +kernel
theorem dX12_bar_63 : decode cX12_bar 63 = .ok (.iconst 1, 1) := by decide +kernel
theorem dX12_bar_64 : decode cX12_bar 64 = .ok (.ireturn, 1) := by decide +kernel
theorem dX12_bar_65 : decode cX12_bar 65 = .ok (.aload_n 0, 1) := by decide +kernel
theorem dX12_bar_66 : decode cX12_bar 66 = .ok (.iload_n 3, 1) := by decide +kernel
theorem dX12_bar_67 : decode cX12_bar 67 = .ok (.iload_n 1, 1) := by decide +kernel
theorem dX12_bar_68 : decode cX12_bar 68 = .ok (.invokevirtual 295, 3) := by decide +kernel
theorem dX12_bar_71 : decode cX12_bar 71 = .ok (.istore 5, 2) := by decide +kernel
theorem dX12_bar_73 : decode cX12_bar 73 = .ok (.aload_n 0, 1) := by decide +kernel
theorem dX12_bar_74 : decode cX12_bar 74 = .ok (.getfield 13, 3) := by decide +kernel
theorem dX12_bar_77 : decode cX12_bar 77 = .ok (.iload 5, 2) := by decide +kernel
theorem dX12_bar_79 : decode cX12_bar 79 = .ok (.iconst 3, 1) := by decide +kernel
theorem dX12_bar_80 : decode cX12_bar 80 = .ok (.iadd, 1) := by decide +kernel
theorem dX12_bar_81 : decode cX12_bar 81 = .ok (.iaload, 1) := by decide +kernel
theorem dX12_bar_82 : decode cX12_bar 82 = .ok (.ifCond .eq 5, 3) := by decide +kernel
theorem dX12_bar_85 : decode cX12_bar 85 = .ok (.iconst 2, 1) := by decide +kernel
theorem dX12_bar_86 : decode cX12_bar 86 = .ok (.ireturn, 1) := by decide +kernel
theorem dX12_bar_87 : decode cX12_bar 87 = .ok (.aload_n 0, 1) := by decide +kernel
theorem dX12_bar_88 : decode cX12_bar 88 = .ok (.getfield 13, 3) := by decide +kernel
theorem dX12_bar_91 : decode cX12_bar 91 = .ok (.iload 5, 2) := by decide +kernel
theorem dX12_bar_93 : decode cX12_bar 93 = .ok (.iconst 5, 1) := by decide +kernel
theorem dX12_bar_94 : decode cX12_bar 94 = .ok (.iadd, 1) := by decide +kernel
theorem dX12_bar_95 : decode cX12_bar 95 = .ok (.iaload, 1) := by decide +kernel
theorem dX12_bar_96 : decode cX12_bar 96 = .ok (.aload_n 0, 1) := by decide +kernel
theorem dX12_bar_97 : decode cX12_bar 97 = .ok (.getfield 13, 3) := by decide +kernel
theorem dX12_bar_100 : decode cX12_bar 100 = .ok (.iconst 3, 1) := by decide +kernel
theorem dX12_bar_101 : decode cX12_bar 101 = .ok (.iaload, 1) := by decide +kernel
theorem dX12_bar_102 : decode cX12_bar 102 = .ok (.if_icmp .le 5, 3) := by decide +kernel
theorem dX12_bar_105 : decode cX12_bar 105 = .ok (.iconst 3, 1) := by decide +kernel
theorem dX12_bar_106 : decode cX12_bar 106 = .ok (.ireturn, 1) := by decide +kernel
theorem dX12_bar_107 : decode cX12_bar 107 = .ok (.aload_n 0, 1) := by decide +kernel
theorem dX12_bar_108 : decode cX12_bar 108 = .ok (.iload_n 3, 1) := by decide +kernel
theorem dX12_bar_109 : decode cX12_bar 109 = .ok (.iload_n 1, 1) := by decide +kernel
theorem dX12_bar_110 : decode cX12_bar 110 = .ok (.invokevirtual 304, 3) := by decide +kernel
theorem dX12_bar_113 : decode cX12_bar 113 = .ok (.ifCond .eq 5, 3) := by decide +kernel
theorem dX12_bar_116 : decode cX12_bar 116 = .ok (.iconst 4, 1) := by decide +kernel
theorem dX12_bar_117 : decode cX12_bar 117 = .ok (.ireturn, 1) := by decide +kernel
theorem dX12_bar_118 : decode cX12_bar 118 = .ok (.aload_n 0, 1) := by decide +kernel
theorem dX12_bar_119 : decode cX12_bar 119 = .ok (.iload_n 3, 1) := by decide +kernel
theorem dX12_bar_120 : decode cX12_bar 120 = .ok (.iload_n 1, 1) := by decide +kernel
theorem dX12_bar_121 : decode cX12_bar 121 = .ok (.invokevirtual 307, 3) := by decide +kernel
theorem dX12_bar_124 : decode cX12_bar 124 = .ok (.ifCond .eq 5, 3) := by decide +kernel
theorem dX12_bar_127 : decode cX12_bar 127 = .ok (.iconst 5, 1) := by decide +kernel
theorem dX12_bar_128 : decode cX12_bar 128 = .ok (.ireturn, 1) := by decide +kernel
theorem dX12_bar_129 : decode cX12_bar 129 = .ok (.aload_n 0, 1) := by decide +kernel
theorem dX12_bar_130 : decode cX12_bar 130 = .ok (.iload_n 3, 1) := by decide +kernel
theorem dX12_bar_131 : decode cX12_bar 131 = .ok (.iload_n 1, 1) := by decide +kernel
theorem dX12_bar_132 : decode cX12_bar 132 = .ok (.invokevirtual 316, 3) := by decide +kernel
theorem dX12_bar_135 : decode cX12_bar 135 = .ok (.ifCond .eq 8, 3) := by decide +kernel
theorem dX12_bar_138 : decode cX12_bar 138 = .ok (.bipush 7, 2) := by decide +kernel
theorem dX12_bar_140 : decode cX12_bar 140 = .ok (.goto 5, 3) := by decide +kernel
theorem dX12_bar_143 : decode cX12_bar 143 = .ok (.bipush 6, 2) := by decide +kernel
theorem dX12_bar_145 : decode cX12_bar 145 = .ok (.ireturn, 1) := by decide +kernel
theorem dX12_claimsIn_0 : decode cX12_claimsIn 0 = .ok (.aload_n 0, 1) := by decide +kernel
theorem dX12_claimsIn_1 : decode cX12_claimsIn 1 = .ok (.iload_n 2, 1) := by decide +kernel
theorem dX12_claimsIn_2 : decode cX12_claimsIn 2 = .ok (.invokevirtual 328, 3) := by decide +kernel
theorem dX12_claimsIn_5 : decode cX12_claimsIn 5 = .ok (.istore_n 3, 1) := by decide +kernel
theorem dX12_claimsIn_6 : decode cX12_claimsIn 6 = .ok (.iconst 0, 1) := by decide +kernel
theorem dX12_claimsIn_7 : decode cX12_claimsIn 7 = .ok (.istore 4, 2) := by decide +kernel
theorem dX12_claimsIn_9 : decode cX12_claimsIn 9 = .ok (.iload 4, 2) := by decide +kernel
theorem dX12_claimsIn_11 : decode cX12_claimsIn 11 = .ok (.iload_n 3, 1) := by decide +kernel
theorem dX12_claimsIn_12 : decode cX12_claimsIn 12 = .ok (.if_icmp .ge 27, 3) := by decide +kernel
theorem dX12_claimsIn_15 : decode cX12_claimsIn 15 = .ok (.aload_n 0, 1) := by decide +kernel
theorem dX12_claimsIn_16 : decode cX12_claimsIn 16 = .ok (.getfield 45, 3) := by decide +kernel
theorem dX12_claimsIn_19 : decode cX12_claimsIn 19 = .ok (.bipush 24, 2) := by decide +kernel
theorem dX12_claimsIn_21 : decode cX12_claimsIn 21 = .ok (.iload_n 1, 1) := by decide +kernel
theorem dX12_claimsIn_22 : decode cX12_claimsIn 22 = .ok (.imul, 1) := by decide +kernel
theorem dX12_claimsIn_23 : decode cX12_claimsIn 23 = .ok (.aload_n 0, 1) := by decide +kernel
theorem dX12_claimsIn_24 : decode cX12_claimsIn 24 = .ok (.getfield 39, 3) := by decide +kernel
theorem dX12_claimsIn_27 : decode cX12_claimsIn 27 = .ok (.iload 4, 2) := by decide +kernel
theorem dX12_claimsIn_29 : decode cX12_claimsIn 29 = .ok (.iaload, 1) := by decide +kernel
theorem dX12_claimsIn_30 : decode cX12_claimsIn 30 = .ok (.iadd, 1) := by decide +kernel
theorem dX12_claimsIn_31 : decode cX12_claimsIn 31 = .ok (.iload_n 2, 1) := by decide +kernel
theorem dX12_claimsIn_32 : decode cX12_claimsIn 32 = .ok (.iastore, 1) := by decide +kernel
theorem dX12_claimsIn_33 : decode cX12_claimsIn 33 = .ok (.iinc 4 1, 3) := by decide +kernel
theorem dX12_claimsIn_36 : decode cX12_claimsIn 36 = .ok (.goto (-27), 3) := by decide +kernel
theorem dX12_claimsIn_39 : decode cX12_claimsIn 39 = .ok (.return_, 1) := by decide +kernel
theorem dX12_raceOf_0 : decode cX12_raceOf 0 = .ok (.iconst 0, 1) := by decide +kernel
theorem dX12_raceOf_1 : decode cX12_raceOf 1 = .ok (.istore_n 3, 1) := by decide +kernel
theorem dX12_raceOf_2 : decode cX12_raceOf 2 = .ok (.iload_n 3, 1) := by decide +kernel
theorem dX12_raceOf_3 : decode cX12_raceOf 3 = .ok (.bipush 48, 2) := by decide +kernel
theorem dX12_raceOf_5 : decode cX12_raceOf 5 = .ok (.if_icmp .ge 16, 3) := by decide +kernel
theorem dX12_raceOf_8 : decode cX12_raceOf 8 = .ok (.aload_n 0, 1) := by decide +kernel
theorem dX12_raceOf_9 : decode cX12_raceOf 9 = .ok (.getfield 45, 3) := by decide +kernel
theorem dX12_raceOf_12 : decode cX12_raceOf 12 = .ok (.iload_n 3, 1) := by decide +kernel
theorem dX12_raceOf_13 : decode cX12_raceOf 13 = .ok (.iconst (-1), 1) := by decide +kernel
theorem dX12_raceOf_14 : decode cX12_raceOf 14 = .ok (.iastore, 1) := by decide +kernel
theorem dX12_raceOf_15 : decode cX12_raceOf 15 = .ok (.iinc 3 1, 3) := by decide +kernel
theorem dX12_raceOf_18 : decode cX12_raceOf 18 = .ok (.goto (-16), 3) := by decide +kernel
theorem dX12_raceOf_21 : decode cX12_raceOf 21 = .ok (.iconst 0, 1) := by decide +kernel
theorem dX12_raceOf_22 : decode cX12_raceOf 22 = .ok (.istore_n 3, 1) := by decide +kernel
theorem dX12_raceOf_23 : decode cX12_raceOf 23 = .ok (.iload_n 3, 1) := by decide +kernel
theorem dX12_raceOf_24 : decode cX12_raceOf 24 = .ok (.iconst 2, 1) := by decide +kernel
theorem dX12_raceOf_25 : decode cX12_raceOf 25 = .ok (.if_icmp .ge 45, 3) := by decide +kernel
theorem dX12_raceOf_28 : decode cX12_raceOf 28 = .ok (.aload_n 0, 1) := by decide +kernel
theorem dX12_raceOf_29 : decode cX12_raceOf 29 = .ok (.invokevirtual 374, 3) := by decide +kernel
theorem dX12_raceOf_32 : decode cX12_raceOf 32 = .ok (.aload_n 0, 1) := by decide +kernel
theorem dX12_raceOf_33 : decode cX12_raceOf 33 = .ok (.iload_n 3, 1) := by decide +kernel
theorem dX12_raceOf_34 : decode cX12_raceOf 34 = .ok (.iload_n 3, 1) := by decide +kernel
theorem dX12_raceOf_35 : decode cX12_raceOf 35 = .ok (.ifCond .ne 7, 3) := by decide +kernel
theorem dX12_raceOf_38 : decode cX12_raceOf 38 = .ok (.iload_n 1, 1) := by decide +kernel
theorem dX12_raceOf_39 : decode cX12_raceOf 39 = .ok (.goto 4, 3) := by decide +kernel
theorem dX12_raceOf_42 : decode cX12_raceOf 42 = .ok (.iload_n 2, 1) := by decide +kernel
theorem dX12_raceOf_43 : decode cX12_raceOf 43 = .ok (.invokevirtual 387, 3) := by decide +kernel
theorem dX12_raceOf_46 : decode cX12_raceOf 46 = .ok (.aload_n 0, 1) := by decide +kernel
theorem dX12_raceOf_47 : decode cX12_raceOf 47 = .ok (.iload_n 3, 1) := by decide +kernel
theorem dX12_raceOf_48 : decode cX12_raceOf 48 = .ok (.iload_n 3, 1) := by decide +kernel
theorem dX12_raceOf_49 : decode cX12_raceOf 49 = .ok (.ifCond .ne 7, 3) := by decide +kernel
theorem dX12_raceOf_52 : decode cX12_raceOf 52 = .ok (.iload_n 2, 1) := by decide +kernel
theorem dX12_raceOf_53 : decode cX12_raceOf 53 = .ok (.goto 4, 3) := by decide +kernel
theorem dX12_raceOf_56 : decode cX12_raceOf 56 = .ok (.iload_n 1, 1) := by decide +kernel
theorem dX12_raceOf_57 : decode cX12_raceOf 57 = .ok (.invokevirtual 387, 3) := by decide +kernel
theorem dX12_raceOf_60 : decode cX12_raceOf 60 = .ok (.aload_n 0, 1) := by decide +kernel
theorem dX12_raceOf_61 : decode cX12_raceOf 61 = .ok (.invokevirtual 377, 3) := by decide +kernel
theorem dX12_raceOf_64 : decode cX12_raceOf 64 = .ok (.iinc 3 1, 3) := by decide +kernel
theorem dX12_raceOf_67 : decode cX12_raceOf 67 = .ok (.goto (-44), 3) := by decide +kernel
theorem dX12_raceOf_70 : decode cX12_raceOf 70 = .ok (.iconst 0, 1) := by decide +kernel
theorem dX12_raceOf_71 : decode cX12_raceOf 71 = .ok (.istore_n 3, 1) := by decide +kernel
theorem dX12_raceOf_72 : decode cX12_raceOf 72 = .ok (.iconst 0, 1) := by decide +kernel
theorem dX12_raceOf_73 : decode cX12_raceOf 73 = .ok (.istore 4, 2) := by decide +kernel
theorem dX12_raceOf_75 : decode cX12_raceOf 75 = .ok (.iload 4, 2) := by decide +kernel
theorem dX12_raceOf_77 : decode cX12_raceOf 77 = .ok (.bipush 24, 2) := by decide +kernel
theorem dX12_raceOf_79 : decode cX12_raceOf 79 = .ok (.if_icmp .ge 37, 3) := by decide +kernel
theorem dX12_raceOf_82 : decode cX12_raceOf 82 = .ok (.iload_n 3, 1) := by decide +kernel
theorem dX12_raceOf_83 : decode cX12_raceOf 83 = .ok (.aload_n 0, 1) := by decide +kernel
theorem dX12_raceOf_84 : decode cX12_raceOf 84 = .ok (.getfield 45, 3) := by decide +kernel
theorem dX12_raceOf_87 : decode cX12_raceOf 87 = .ok (.iload 4, 2) := by decide +kernel
theorem dX12_raceOf_89 : decode cX12_raceOf 89 = .ok (.iaload, 1) := by decide +kernel
theorem dX12_raceOf_90 : decode cX12_raceOf 90 = .ok (.aload_n 0, 1) := by decide +kernel
theorem dX12_raceOf_91 : decode cX12_raceOf 91 = .ok (.getfield 45, 3) := by decide +kernel
theorem dX12_raceOf_94 : decode cX12_raceOf 94 = .ok (.bipush 24, 2) := by decide +kernel
theorem dX12_raceOf_96 : decode cX12_raceOf 96 = .ok (.iload 4, 2) := by decide +kernel
theorem dX12_raceOf_98 : decode cX12_raceOf 98 = .ok (.iadd, 1) := by decide +kernel
theorem dX12_raceOf_99 : decode cX12_raceOf 99 = .ok (.iaload, 1) := by decide +kernel
theorem dX12_raceOf_100 : decode cX12_raceOf 100 = .ok (.if_icmp .ne 7, 3) := by decide +kernel
theorem dX12_raceOf_103 : decode cX12_raceOf 103 = .ok (.iconst 0, 1) := by decide +kernel
theorem dX12_raceOf_104 : decode cX12_raceOf 104 = .ok (.goto 4, 3) := by decide +kernel
theorem dX12_raceOf_107 : decode cX12_raceOf 107 = .ok (.iconst 1, 1) := by decide +kernel
theorem dX12_raceOf_108 : decode cX12_raceOf 108 = .ok (.iadd, 1) := by decide +kernel
theorem dX12_raceOf_109 : decode cX12_raceOf 109 = .ok (.istore_n 3, 1) := by decide +kernel
theorem dX12_raceOf_110 : decode cX12_raceOf 110 = .ok (.iinc 4 1, 3) := by decide +kernel
theorem dX12_raceOf_113 : decode cX12_raceOf 113 = .ok (.goto (-38), 3) := by decide +kernel
theorem dX12_raceOf_116 : decode cX12_raceOf 116 = .ok (.iload_n 3, 1) := by decide +kernel
theorem dX12_raceOf_117 : decode cX12_raceOf 117 = .ok (.ireturn, 1) := by decide +kernel
theorem dX12_race_0 : decode cX12_race 0 = .ok (.aload_n 0, 1) := by decide +kernel
theorem dX12_race_1 : decode cX12_race 1 = .ok (.iconst 0, 1) := by decide +kernel
theorem dX12_race_2 : decode cX12_race 2 = .ok (.putfield 3, 3) := by decide +kernel
theorem dX12_race_5 : decode cX12_race 5 = .ok (.aload_n 0, 1) := by decide +kernel
theorem dX12_race_6 : decode cX12_race 6 = .ok (.aload_n 0, 1) := by decide +kernel
theorem dX12_race_7 : decode cX12_race 7 = .ok (.iload_n 1, 1) := by decide +kernel
theorem dX12_race_8 : decode cX12_race 8 = .ok (.invokevirtual 245, 3) := by decide +kernel
theorem dX12_race_11 : decode cX12_race 11 = .ok (.ifCond .ne 11, 3) := by decide +kernel
theorem dX12_race_14 : decode cX12_race 14 = .ok (.aload_n 0, 1) := by decide +kernel
theorem dX12_race_15 : decode cX12_race 15 = .ok (.iload_n 2, 1) := by decide +kernel
theorem dX12_race_16 : decode cX12_race 16 = .ok (.invokevirtual 245, 3) := by decide +kernel
theorem dX12_race_19 : decode cX12_race 19 = .ok (.ifCond .eq 7, 3) := by decide +kernel
theorem dX12_race_22 : decode cX12_race 22 = .ok (.iconst 1, 1) := by decide +kernel
theorem dX12_race_23 : decode cX12_race 23 = .ok (.goto 4, 3) := by decide +kernel
theorem dX12_race_26 : decode cX12_race 26 = .ok (.iconst 0, 1) := by decide +kernel
theorem dX12_race_27 : decode cX12_race 27 = .ok (.iconst 1, 1) := by decide +kernel
theorem dX12_race_28 : decode cX12_race 28 = .ok (.invokevirtual 199, 3) := by decide +kernel
theorem dX12_race_31 : decode cX12_race 31 = .ok (.ifCond .ne 21, 3) := by decide +kernel
theorem dX12_race_34 : decode cX12_race 34 = .ok (.aload_n 0, 1) := by decide +kernel
theorem dX12_race_35 : decode cX12_race 35 = .ok (.iload_n 1, 1) := by decide +kernel
theorem dX12_race_36 : decode cX12_race 36 = .ok (.iload_n 2, 1) := by decide +kernel
theorem dX12_race_37 : decode cX12_race 37 = .ok (.if_icmp .ne 7, 3) := by decide +kernel
theorem dX12_race_40 : decode cX12_race 40 = .ok (.iconst 1, 1) := by decide +kernel
theorem dX12_race_41 : decode cX12_race 41 = .ok (.goto 4, 3) := by decide +kernel
theorem dX12_race_44 : decode cX12_race 44 = .ok (.iconst 0, 1) := by decide +kernel
theorem dX12_race_45 : decode cX12_race 45 = .ok (.iconst 2, 1) := by decide +kernel
theorem dX12_race_46 : decode cX12_race 46 = .ok (.invokevirtual 199, 3) := by decide +kernel
theorem dX12_race_49 : decode cX12_race 49 = .ok (.ifCond .eq 7, 3) := by decide +kernel
theorem dX12_race_52 : decode cX12_race 52 = .ok (.iconst 0, 1) := by decide +kernel
theorem dX12_race_53 : decode cX12_race 53 = .ok (.goto 9, 3) := by decide +kernel
theorem dX12_race_56 : decode cX12_race 56 = .ok (.aload_n 0, 1) := by decide +kernel
theorem dX12_race_57 : decode cX12_race 57 = .ok (.iload_n 1, 1) := by decide +kernel
theorem dX12_race_58 : decode cX12_race 58 = .ok (.iload_n 2, 1) := by decide +kernel
theorem dX12_race_59 : decode cX12_race 59 = .ok (.invokevirtual 391, 3) := by decide +kernel
theorem dX12_race_62 : decode cX12_race 62 = .ok (.ireturn, 1) := by decide +kernel
theorem dX12_passedBy_0 : decode cX12_passedBy 0 = .ok (.iconst 0, 1) := by decide +kernel
theorem dX12_passedBy_1 : decode cX12_passedBy 1 = .ok (.istore_n 3, 1) := by decide +kernel
theorem dX12_passedBy_2 : decode cX12_passedBy 2 = .ok (.aload_n 0, 1) := by decide +kernel
theorem dX12_passedBy_3 : decode cX12_passedBy 3 = .ok (.iload_n 1, 1) := by decide +kernel
theorem dX12_passedBy_4 : decode cX12_passedBy 4 = .ok (.invokevirtual 322, 3) := by decide +kernel
theorem dX12_passedBy_7 : decode cX12_passedBy 7 = .ok (.istore 4, 2) := by decide +kernel
theorem dX12_passedBy_9 : decode cX12_passedBy 9 = .ok (.iload 4, 2) := by decide +kernel
theorem dX12_passedBy_11 : decode cX12_passedBy 11 = .ok (.iconst (-1), 1) := by decide +kernel
theorem dX12_passedBy_12 : decode cX12_passedBy 12 = .ok (.if_icmp .eq 62, 3) := by decide +kernel
theorem dX12_passedBy_15 : decode cX12_passedBy 15 = .ok (.iload 4, 2) := by decide +kernel
theorem dX12_passedBy_17 : decode cX12_passedBy 17 = .ok (.iload_n 2, 1) := by decide +kernel
theorem dX12_passedBy_18 : decode cX12_passedBy 18 = .ok (.if_icmp .ne 5, 3) := by decide +kernel
theorem dX12_passedBy_21 : decode cX12_passedBy 21 = .ok (.iload_n 3, 1) := by decide +kernel
theorem dX12_passedBy_22 : decode cX12_passedBy 22 = .ok (.ireturn, 1) := by decide +kernel
theorem dX12_passedBy_23 : decode cX12_passedBy 23 = .ok (.aload_n 0, 1) := by decide +kernel
theorem dX12_passedBy_24 : decode cX12_passedBy 24 = .ok (.iload 4, 2) := by decide +kernel
theorem dX12_passedBy_26 : decode cX12_passedBy 26 = .ok (.iload_n 1, 1) := by decide +kernel
theorem dX12_passedBy_27 : decode cX12_passedBy 27 = .ok (.invokevirtual 325, 3) := by decide +kernel
theorem dX12_passedBy_30 : decode cX12_passedBy 30 = .ok (.istore 5, 2) := by decide +kernel
theorem dX12_passedBy_32 : decode cX12_passedBy 32 = .ok (.aload_n 0, 1) := by decide +kernel
theorem dX12_passedBy_33 : decode cX12_passedBy 33 = .ok (.getfield 13, 3) := by decide +kernel
theorem dX12_passedBy_36 : decode cX12_passedBy 36 = .ok (.iload 5, 2) := by decide +kernel
theorem dX12_passedBy_38 : decode cX12_passedBy 38 = .ok (.iconst 3, 1) := by decide +kernel
theorem dX12_passedBy_39 : decode cX12_passedBy 39 = .ok (.iadd, 1) := by decide +kernel
theorem dX12_passedBy_40 : decode cX12_passedBy 40 = .ok (.iconst 2, 1) := by decide +kernel
theorem dX12_passedBy_41 : decode cX12_passedBy 41 = .ok (.iastore, 1) := by decide +kernel
theorem dX12_passedBy_42 : decode cX12_passedBy 42 = .ok (.aload_n 0, 1) := by decide +kernel
theorem dX12_passedBy_43 : decode cX12_passedBy 43 = .ok (.getfield 13, 3) := by decide +kernel
theorem dX12_passedBy_46 : decode cX12_passedBy 46 = .ok (.iload_n 1, 1) := by decide +kernel
theorem dX12_passedBy_47 : decode cX12_passedBy 47 = .ok (.iconst 1, 1) := by decide +kernel
theorem dX12_passedBy_48 : decode cX12_passedBy 48 = .ok (.invokestatic 63, 3) := by decide +kernel
theorem dX12_passedBy_51 : decode cX12_passedBy 51 = .ok (.aload_n 0, 1) := by decide +kernel
theorem dX12_passedBy_52 : decode cX12_passedBy 52 = .ok (.getfield 13, 3) := by decide +kernel
theorem dX12_passedBy_55 : decode cX12_passedBy 55 = .ok (.iload 5, 2) := by decide +kernel
theorem dX12_passedBy_57 : decode cX12_passedBy 57 = .ok (.iconst 0, 1) := by decide +kernel
theorem dX12_passedBy_58 : decode cX12_passedBy 58 = .ok (.iadd, 1) := by decide +kernel
theorem dX12_passedBy_59 : decode cX12_passedBy 59 = .ok (.iaload, 1) := by decide +kernel
theorem dX12_passedBy_60 : decode cX12_passedBy 60 = .ok (.iastore, 1) := by decide +kernel
theorem dX12_passedBy_61 : decode cX12_passedBy 61 = .ok (.iinc 3 1, 3) := by decide +kernel
theorem dX12_passedBy_64 : decode cX12_passedBy 64 = .ok (.aload_n 0, 1) := by decide +kernel
theorem dX12_passedBy_65 : decode cX12_passedBy 65 = .ok (.iload_n 1, 1) := by decide +kernel
theorem dX12_passedBy_66 : decode cX12_passedBy 66 = .ok (.invokevirtual 322, 3) := by decide +kernel
theorem dX12_passedBy_69 : decode cX12_passedBy 69 = .ok (.istore 4, 2) := by decide +kernel
theorem dX12_passedBy_71 : decode cX12_passedBy 71 = .ok (.goto (-62), 3) := by decide +kernel
theorem dX12_passedBy_74 : decode cX12_passedBy 74 = .ok (.iconst (-1), 1) := by decide +kernel
theorem dX12_passedBy_75 : decode cX12_passedBy 75 = .ok (.ireturn, 1) := by decide +kernel
theorem dX12_passed_0 : decode cX12_passed 0 = .ok (.aload_n 0, 1) := by decide +kernel
theorem dX12_passed_1 : decode cX12_passed 1 = .ok (.iload_n 1, 1) := by decide +kernel
theorem dX12_passed_2 : decode cX12_passed 2 = .ok (.iload_n 2, 1) := by decide +kernel
theorem dX12_passed_3 : decode cX12_passed 3 = .ok (.invokevirtual 340, 3) := by decide +kernel
theorem dX12_passed_6 : decode cX12_passed 6 = .ok (.istore_n 3, 1) := by decide +kernel
theorem dX12_passed_7 : decode cX12_passed 7 = .ok (.iload_n 3, 1) := by decide +kernel
theorem dX12_passed_8 : decode cX12_passed 8 = .ok (.iconst (-1), 1) := by decide +kernel
theorem dX12_passed_9 : decode cX12_passed 9 = .ok (.if_icmp .ne 5, 3) := by decide +kernel
theorem dX12_passed_12 : decode cX12_passed 12 = .ok (.iconst 0, 1) := by decide +kernel
theorem dX12_passed_13 : decode cX12_passed 13 = .ok (.ireturn, 1) := by decide +kernel
theorem dX12_passed_14 : decode cX12_passed 14 = .ok (.aload_n 0, 1) := by decide +kernel
theorem dX12_passed_15 : decode cX12_passed 15 = .ok (.invokevirtual 374, 3) := by decide +kernel
theorem dX12_passed_18 : decode cX12_passed 18 = .ok (.aload_n 0, 1) := by decide +kernel
theorem dX12_passed_19 : decode cX12_passed 19 = .ok (.iload_n 1, 1) := by decide +kernel
theorem dX12_passed_20 : decode cX12_passed 20 = .ok (.iload_n 3, 1) := by decide +kernel
theorem dX12_passed_21 : decode cX12_passed 21 = .ok (.invokevirtual 394, 3) := by decide +kernel
theorem dX12_passed_24 : decode cX12_passed 24 = .ok (.istore 4, 2) := by decide +kernel
theorem dX12_passed_26 : decode cX12_passed 26 = .ok (.aload_n 0, 1) := by decide +kernel
theorem dX12_passed_27 : decode cX12_passed 27 = .ok (.invokevirtual 377, 3) := by decide +kernel
theorem dX12_passed_30 : decode cX12_passed 30 = .ok (.iload 4, 2) := by decide +kernel
theorem dX12_passed_32 : decode cX12_passed 32 = .ok (.ireturn, 1) := by decide +kernel
theorem dX12_again_0 : decode cX12_again 0 = .ok (.aload_n 0, 1) := by decide +kernel
theorem dX12_again_1 : decode cX12_again 1 = .ok (.iload_n 1, 1) := by decide +kernel
theorem dX12_again_2 : decode cX12_again 2 = .ok (.iload_n 2, 1) := by decide +kernel
theorem dX12_again_3 : decode cX12_again 3 = .ok (.invokevirtual 337, 3) := by decide +kernel
theorem dX12_again_6 : decode cX12_again 6 = .ok (.istore 4, 2) := by decide +kernel
theorem dX12_again_8 : decode cX12_again 8 = .ok (.iload 4, 2) := by decide +kernel
theorem dX12_again_10 : decode cX12_again 10 = .ok (.iconst (-1), 1) := by decide +kernel
theorem dX12_again_11 : decode cX12_again 11 = .ok (.if_icmp .ne 5, 3) := by decide +kernel
theorem dX12_again_14 : decode cX12_again 14 = .ok (.iconst 0, 1) := by decide +kernel
theorem dX12_again_15 : decode cX12_again 15 = .ok (.ireturn, 1) := by decide +kernel
theorem dX12_again_16 : decode cX12_again 16 = .ok (.aload_n 0, 1) := by decide +kernel
theorem dX12_again_17 : decode cX12_again 17 = .ok (.iload 4, 2) := by decide +kernel
theorem dX12_again_19 : decode cX12_again 19 = .ok (.iload_n 1, 1) := by decide +kernel
theorem dX12_again_20 : decode cX12_again 20 = .ok (.invokevirtual 295, 3) := by decide +kernel
theorem dX12_again_23 : decode cX12_again 23 = .ok (.istore 5, 2) := by decide +kernel
theorem dX12_again_25 : decode cX12_again 25 = .ok (.aload_n 0, 1) := by decide +kernel
theorem dX12_again_26 : decode cX12_again 26 = .ok (.getfield 13, 3) := by decide +kernel
theorem dX12_again_29 : decode cX12_again 29 = .ok (.iload 5, 2) := by decide +kernel
theorem dX12_again_31 : decode cX12_again 31 = .ok (.iconst 3, 1) := by decide +kernel
theorem dX12_again_32 : decode cX12_again 32 = .ok (.iadd, 1) := by decide +kernel
theorem dX12_again_33 : decode cX12_again 33 = .ok (.iaload, 1) := by decide +kernel
theorem dX12_again_34 : decode cX12_again 34 = .ok (.ifCond .ne 8, 3) := by decide +kernel
theorem dX12_again_37 : decode cX12_again 37 = .ok (.iload_n 3, 1) := by decide +kernel
theorem dX12_again_38 : decode cX12_again 38 = .ok (.iconst 1, 1) := by decide +kernel
theorem dX12_again_39 : decode cX12_again 39 = .ok (.if_icmp .ge 5, 3) := by decide +kernel
theorem dX12_again_42 : decode cX12_again 42 = .ok (.iconst (-1), 1) := by decide +kernel
theorem dX12_again_43 : decode cX12_again 43 = .ok (.ireturn, 1) := by decide +kernel
theorem dX12_again_44 : decode cX12_again 44 = .ok (.aload_n 0, 1) := by decide +kernel
theorem dX12_again_45 : decode cX12_again 45 = .ok (.getfield 13, 3) := by decide +kernel
theorem dX12_again_48 : decode cX12_again 48 = .ok (.iload 5, 2) := by decide +kernel
theorem dX12_again_50 : decode cX12_again 50 = .ok (.iconst 5, 1) := by decide +kernel
theorem dX12_again_51 : decode cX12_again 51 = .ok (.iadd, 1) := by decide +kernel
theorem dX12_again_52 : decode cX12_again 52 = .ok (.iaload, 1) := by decide +kernel
theorem dX12_again_53 : decode cX12_again 53 = .ok (.aload_n 0, 1) := by decide +kernel
theorem dX12_again_54 : decode cX12_again 54 = .ok (.getfield 13, 3) := by decide +kernel
theorem dX12_again_57 : decode cX12_again 57 = .ok (.iconst 3, 1) := by decide +kernel
theorem dX12_again_58 : decode cX12_again 58 = .ok (.iaload, 1) := by decide +kernel
theorem dX12_again_59 : decode cX12_again 59 = .ok (.invokestatic 353, 3) := by decide +kernel
theorem dX12_again_62 : decode cX12_again 62 = .ok (.istore 6, 2) := by decide +kernel
theorem dX12_again_64 : decode cX12_again 64 = .ok (.aload_n 0, 1) := by decide +kernel
theorem dX12_again_65 : decode cX12_again 65 = .ok (.getfield 13, 3) := by decide +kernel
theorem dX12_again_68 : decode cX12_again 68 = .ok (.iload 5, 2) := by decide +kernel
theorem dX12_again_70 : decode cX12_again 70 = .ok (.bipush 6, 2) := by decide +kernel
theorem dX12_again_72 : decode cX12_again 72 = .ok (.iadd, 1) := by decide +kernel
theorem dX12_again_73 : decode cX12_again 73 = .ok (.iaload, 1) := by decide +kernel
theorem dX12_again_74 : decode cX12_again 74 = .ok (.istore 7, 2) := by decide +kernel
theorem dX12_again_76 : decode cX12_again 76 = .ok (.iconst 1, 1) := by decide +kernel
theorem dX12_again_77 : decode cX12_again 77 = .ok (.istore 8, 2) := by decide +kernel
theorem dX12_again_79 : decode cX12_again 79 = .ok (.iload 8, 2) := by decide +kernel
theorem dX12_again_81 : decode cX12_again 81 = .ok (.iload_n 3, 1) := by decide +kernel
theorem dX12_again_82 : decode cX12_again 82 = .ok (.if_icmp .ge 38, 3) := by decide +kernel
theorem dX12_again_85 : decode cX12_again 85 = .ok (.iinc 7 1, 3) := by decide +kernel
theorem dX12_again_88 : decode cX12_again 88 = .ok (.iload 7, 2) := by decide +kernel
theorem dX12_again_90 : decode cX12_again 90 = .ok (.aload_n 0, 1) := by decide +kernel
theorem dX12_again_91 : decode cX12_again 91 = .ok (.getfield 13, 3) := by decide +kernel
theorem dX12_again_94 : decode cX12_again 94 = .ok (.bipush 13, 2) := by decide +kernel
theorem dX12_again_96 : decode cX12_again 96 = .ok (.iaload, 1) := by decide +kernel
theorem dX12_again_97 : decode cX12_again 97 = .ok (.if_icmp .lt 5, 3) := by decide +kernel
theorem dX12_again_100 : decode cX12_again 100 = .ok (.iconst (-1), 1) := by decide +kernel
theorem dX12_again_101 : decode cX12_again 101 = .ok (.ireturn, 1) := by decide +kernel
theorem dX12_again_102 : decode cX12_again 102 = .ok (.iload 6, 2) := by decide +kernel
theorem dX12_again_104 : decode cX12_again 104 = .ok (.aload_n 0, 1) := by decide +kernel
theorem dX12_again_105 : decode cX12_again 105 = .ok (.iload_n 2, 1) := by decide +kernel
theorem dX12_again_106 : decode cX12_again 106 = .ok (.iload 7, 2) := by decide +kernel
theorem dX12_again_108 : decode cX12_again 108 = .ok (.invokevirtual 347, 3) := by decide +kernel
theorem dX12_again_111 : decode cX12_again 111 = .ok (.iadd, 1) := by decide +kernel
theorem dX12_again_112 : decode cX12_again 112 = .ok (.istore 6, 2) := by decide +kernel
theorem dX12_again_114 : decode cX12_again 114 = .ok (.iinc 8 1, 3) := by decide +kernel
theorem dX12_again_117 : decode cX12_again 117 = .ok (.goto (-38), 3) := by decide +kernel
theorem dX12_again_120 : decode cX12_again 120 = .ok (.iload 6, 2) := by decide +kernel
theorem dX12_again_122 : decode cX12_again 122 = .ok (.ireturn, 1) := by decide +kernel
theorem dX12_dueOf_0 : decode cX12_dueOf 0 = .ok (.iload_n 1, 1) := by decide +kernel
theorem dX12_dueOf_1 : decode cX12_dueOf 1 = .ok (.iconst 3, 1) := by decide +kernel
theorem dX12_dueOf_2 : decode cX12_dueOf 2 = .ok (.invokestatic 51, 3) := by decide +kernel
theorem dX12_dueOf_5 : decode cX12_dueOf 5 = .ok (.istore_n 2, 1) := by decide +kernel
theorem dX12_dueOf_6 : decode cX12_dueOf 6 = .ok (.aload_n 0, 1) := by decide +kernel
theorem dX12_dueOf_7 : decode cX12_dueOf 7 = .ok (.getfield 13, 3) := by decide +kernel
theorem dX12_dueOf_10 : decode cX12_dueOf 10 = .ok (.iload_n 2, 1) := by decide +kernel
theorem dX12_dueOf_11 : decode cX12_dueOf 11 = .ok (.iconst 3, 1) := by decide +kernel
theorem dX12_dueOf_12 : decode cX12_dueOf 12 = .ok (.iadd, 1) := by decide +kernel
theorem dX12_dueOf_13 : decode cX12_dueOf 13 = .ok (.iaload, 1) := by decide +kernel
theorem dX12_dueOf_14 : decode cX12_dueOf 14 = .ok (.iconst 1, 1) := by decide +kernel
theorem dX12_dueOf_15 : decode cX12_dueOf 15 = .ok (.if_icmp .ne 12, 3) := by decide +kernel
theorem dX12_dueOf_18 : decode cX12_dueOf 18 = .ok (.aload_n 0, 1) := by decide +kernel
theorem dX12_dueOf_19 : decode cX12_dueOf 19 = .ok (.getfield 13, 3) := by decide +kernel
theorem dX12_dueOf_22 : decode cX12_dueOf 22 = .ok (.iconst 3, 1) := by decide +kernel
theorem dX12_dueOf_23 : decode cX12_dueOf 23 = .ok (.iaload, 1) := by decide +kernel
theorem dX12_dueOf_24 : decode cX12_dueOf 24 = .ok (.goto 11, 3) := by decide +kernel
theorem dX12_dueOf_27 : decode cX12_dueOf 27 = .ok (.aload_n 0, 1) := by decide +kernel
theorem dX12_dueOf_28 : decode cX12_dueOf 28 = .ok (.getfield 13, 3) := by decide +kernel
theorem dX12_dueOf_31 : decode cX12_dueOf 31 = .ok (.iload_n 2, 1) := by decide +kernel
theorem dX12_dueOf_32 : decode cX12_dueOf 32 = .ok (.iconst 5, 1) := by decide +kernel
theorem dX12_dueOf_33 : decode cX12_dueOf 33 = .ok (.iadd, 1) := by decide +kernel
theorem dX12_dueOf_34 : decode cX12_dueOf 34 = .ok (.iaload, 1) := by decide +kernel
theorem dX12_dueOf_35 : decode cX12_dueOf 35 = .ok (.ireturn, 1) := by decide +kernel
theorem dX12_isAtWork_0 : decode cX12_isAtWork 0 = .ok (.aload_n 0, 1) := by decide +kernel
theorem dX12_isAtWork_1 : decode cX12_isAtWork 1 = .ok (.getfield 48, 3) := by decide +kernel
theorem dX12_isAtWork_4 : decode cX12_isAtWork 4 = .ok (.iload_n 1, 1) := by decide +kernel
theorem dX12_isAtWork_5 : decode cX12_isAtWork 5 = .ok (.iaload, 1) := by decide +kernel
theorem dX12_isAtWork_6 : decode cX12_isAtWork 6 = .ok (.iconst 0, 1) := by decide +kernel
theorem dX12_isAtWork_7 : decode cX12_isAtWork 7 = .ok (.iload_n 2, 1) := by decide +kernel
theorem dX12_isAtWork_8 : decode cX12_isAtWork 8 = .ok (.invokestatic 66, 3) := by decide +kernel
theorem dX12_isAtWork_11 : decode cX12_isAtWork 11 = .ok (.ifCond .eq 30, 3) := by decide +kernel
theorem dX12_isAtWork_14 : decode cX12_isAtWork 14 = .ok (.aload_n 0, 1) := by decide +kernel
theorem dX12_isAtWork_15 : decode cX12_isAtWork 15 = .ok (.getfield 48, 3) := by decide +kernel
theorem dX12_isAtWork_18 : decode cX12_isAtWork 18 = .ok (.iload_n 1, 1) := by decide +kernel
theorem dX12_isAtWork_19 : decode cX12_isAtWork 19 = .ok (.iaload, 1) := by decide +kernel
theorem dX12_isAtWork_20 : decode cX12_isAtWork 20 = .ok (.aload_n 0, 1) := by decide +kernel
theorem dX12_isAtWork_21 : decode cX12_isAtWork 21 = .ok (.getfield 13, 3) := by decide +kernel
theorem dX12_isAtWork_24 : decode cX12_isAtWork 24 = .ok (.iload_n 1, 1) := by decide +kernel
theorem dX12_isAtWork_25 : decode cX12_isAtWork 25 = .ok (.iconst 3, 1) := by decide +kernel
theorem dX12_isAtWork_26 : decode cX12_isAtWork 26 = .ok (.invokestatic 51, 3) := by decide +kernel
theorem dX12_isAtWork_29 : decode cX12_isAtWork 29 = .ok (.iconst 2, 1) := by decide +kernel
theorem dX12_isAtWork_30 : decode cX12_isAtWork 30 = .ok (.iadd, 1) := by decide +kernel
theorem dX12_isAtWork_31 : decode cX12_isAtWork 31 = .ok (.iaload, 1) := by decide +kernel
theorem dX12_isAtWork_32 : decode cX12_isAtWork 32 = .ok (.iadd, 1) := by decide +kernel
theorem dX12_isAtWork_33 : decode cX12_isAtWork 33 = .ok (.iload_n 2, 1) := by decide +kernel
theorem dX12_isAtWork_34 : decode cX12_isAtWork 34 = .ok (.if_icmp .le 7, 3) := by decide +kernel
theorem dX12_isAtWork_37 : decode cX12_isAtWork 37 = .ok (.iconst 1, 1) := by decide +kernel
theorem dX12_isAtWork_38 : decode cX12_isAtWork 38 = .ok (.goto 4, 3) := by decide +kernel
theorem dX12_isAtWork_41 : decode cX12_isAtWork 41 = .ok (.iconst 0, 1) := by decide +kernel
theorem dX12_isAtWork_42 : decode cX12_isAtWork 42 = .ok (.ireturn, 1) := by decide +kernel
theorem dX12_mayBegin_0 : decode cX12_mayBegin 0 = .ok (.aload_n 0, 1) := by decide +kernel
theorem dX12_mayBegin_1 : decode cX12_mayBegin 1 = .ok (.getfield 48, 3) := by decide +kernel
theorem dX12_mayBegin_4 : decode cX12_mayBegin 4 = .ok (.iload_n 1, 1) := by decide +kernel
theorem dX12_mayBegin_5 : decode cX12_mayBegin 5 = .ok (.iaload, 1) := by decide +kernel
theorem dX12_mayBegin_6 : decode cX12_mayBegin 6 = .ok (.ldc_w 346, 3) := by decide +kernel
theorem dX12_mayBegin_9 : decode cX12_mayBegin 9 = .ok (.if_icmp .ne 12, 3) := by decide +kernel
theorem dX12_mayBegin_12 : decode cX12_mayBegin 12 = .ok (.aload_n 0, 1) := by decide +kernel
theorem dX12_mayBegin_13 : decode cX12_mayBegin 13 = .ok (.iload_n 1, 1) := by decide +kernel
theorem dX12_mayBegin_14 : decode cX12_mayBegin 14 = .ok (.invokevirtual 397, 3) := by decide +kernel
theorem dX12_mayBegin_17 : decode cX12_mayBegin 17 = .ok (.iload_n 2, 1) := by decide +kernel
theorem dX12_mayBegin_18 : decode cX12_mayBegin 18 = .ok (.if_icmp .le 5, 3) := by decide +kernel
theorem dX12_mayBegin_21 : decode cX12_mayBegin 21 = .ok (.iconst 0, 1) := by decide +kernel
theorem dX12_mayBegin_22 : decode cX12_mayBegin 22 = .ok (.ireturn, 1) := by decide +kernel
theorem dX12_mayBegin_23 : decode cX12_mayBegin 23 = .ok (.aload_n 0, 1) := by decide +kernel
theorem dX12_mayBegin_24 : decode cX12_mayBegin 24 = .ok (.getfield 13, 3) := by decide +kernel
theorem dX12_mayBegin_27 : decode cX12_mayBegin 27 = .ok (.iload_n 1, 1) := by decide +kernel
theorem dX12_mayBegin_28 : decode cX12_mayBegin 28 = .ok (.iconst 3, 1) := by decide +kernel
theorem dX12_mayBegin_29 : decode cX12_mayBegin 29 = .ok (.invokestatic 51, 3) := by decide +kernel
theorem dX12_mayBegin_32 : decode cX12_mayBegin 32 = .ok (.iconst 0, 1) := by decide +kernel
theorem dX12_mayBegin_33 : decode cX12_mayBegin 33 = .ok (.iadd, 1) := by decide +kernel
theorem dX12_mayBegin_34 : decode cX12_mayBegin 34 = .ok (.iaload, 1) := by decide +kernel
theorem dX12_mayBegin_35 : decode cX12_mayBegin 35 = .ok (.istore_n 3, 1) := by decide +kernel
theorem dX12_mayBegin_36 : decode cX12_mayBegin 36 = .ok (.iconst 0, 1) := by decide +kernel
theorem dX12_mayBegin_37 : decode cX12_mayBegin 37 = .ok (.istore 4, 2) := by decide +kernel
theorem dX12_mayBegin_39 : decode cX12_mayBegin 39 = .ok (.iconst 1, 1) := by decide +kernel
theorem dX12_mayBegin_40 : decode cX12_mayBegin 40 = .ok (.istore 5, 2) := by decide +kernel
theorem dX12_mayBegin_42 : decode cX12_mayBegin 42 = .ok (.iconst 0, 1) := by decide +kernel
theorem dX12_mayBegin_43 : decode cX12_mayBegin 43 = .ok (.istore 6, 2) := by decide +kernel
theorem dX12_mayBegin_45 : decode cX12_mayBegin 45 = .ok (.iload 6, 2) := by decide +kernel
theorem dX12_mayBegin_47 : decode cX12_mayBegin 47 = .ok (.bipush 24, 2) := by decide +kernel
theorem dX12_mayBegin_49 : decode cX12_mayBegin 49 = .ok (.if_icmp .ge 99, 3) := by decide +kernel
theorem dX12_mayBegin_52 : decode cX12_mayBegin 52 = .ok (.iload 5, 2) := by decide +kernel
theorem dX12_mayBegin_54 : decode cX12_mayBegin 54 = .ok (.ifCond .eq 94, 3) := by decide +kernel
theorem dX12_mayBegin_57 : decode cX12_mayBegin 57 = .ok (.aload_n 0, 1) := by decide +kernel
theorem dX12_mayBegin_58 : decode cX12_mayBegin 58 = .ok (.getfield 48, 3) := by decide +kernel
theorem dX12_mayBegin_61 : decode cX12_mayBegin 61 = .ok (.iload 6, 2) := by decide +kernel
theorem dX12_mayBegin_63 : decode cX12_mayBegin 63 = .ok (.iaload, 1) := by decide +kernel
theorem dX12_mayBegin_64 : decode cX12_mayBegin 64 = .ok (.iconst (-1), 1) := by decide +kernel
theorem dX12_mayBegin_65 : decode cX12_mayBegin 65 = .ok (.if_icmp .eq 77, 3) := by decide +kernel
theorem dX12_mayBegin_68 : decode cX12_mayBegin 68 = .ok (.aload_n 0, 1) := by decide +kernel
theorem dX12_mayBegin_69 : decode cX12_mayBegin 69 = .ok (.getfield 13, 3) := by decide +kernel
theorem dX12_mayBegin_72 : decode cX12_mayBegin 72 = .ok (.iload 6, 2) := by decide +kernel
theorem dX12_mayBegin_74 : decode cX12_mayBegin 74 = .ok (.iconst 3, 1) := by decide +kernel
theorem dX12_mayBegin_75 : decode cX12_mayBegin 75 = .ok (.invokestatic 51, 3) := by decide +kernel
theorem dX12_mayBegin_78 : decode cX12_mayBegin 78 = .ok (.iconst 0, 1) := by decide +kernel
theorem dX12_mayBegin_79 : decode cX12_mayBegin 79 = .ok (.iadd, 1) := by decide +kernel
theorem dX12_mayBegin_80 : decode cX12_mayBegin 80 = .ok (.iaload, 1) := by decide +kernel
theorem dX12_mayBegin_81 : decode cX12_mayBegin 81 = .ok (.iload_n 3, 1) := by decide +kernel
theorem dX12_mayBegin_82 : decode cX12_mayBegin 82 = .ok (.if_icmp .eq 6, 3) := by decide +kernel
theorem dX12_mayBegin_85 : decode cX12_mayBegin 85 = .ok (.goto 57, 3) := by decide +kernel
theorem dX12_mayBegin_88 : decode cX12_mayBegin 88 = .ok (.aload_n 0, 1) := by decide +kernel
theorem dX12_mayBegin_89 : decode cX12_mayBegin 89 = .ok (.getfield 48, 3) := by decide +kernel
theorem dX12_mayBegin_92 : decode cX12_mayBegin 92 = .ok (.iload 6, 2) := by decide +kernel
theorem dX12_mayBegin_94 : decode cX12_mayBegin 94 = .ok (.iaload, 1) := by decide +kernel
theorem dX12_mayBegin_95 : decode cX12_mayBegin 95 = .ok (.ldc_w 346, 3) := by decide +kernel
theorem dX12_mayBegin_98 : decode cX12_mayBegin 98 = .ok (.if_icmp .ne 17, 3) := by decide +kernel
theorem dX12_mayBegin_101 : decode cX12_mayBegin 101 = .ok (.aload_n 0, 1) := by decide +kernel
theorem dX12_mayBegin_102 : decode cX12_mayBegin 102 = .ok (.iload 6, 2) := by decide +kernel
theorem dX12_mayBegin_104 : decode cX12_mayBegin 104 = .ok (.invokevirtual 59, 3) := by decide +kernel
theorem dX12_mayBegin_107 : decode cX12_mayBegin 107 = .ok (.aload_n 0, 1) := by decide +kernel
theorem dX12_mayBegin_108 : decode cX12_mayBegin 108 = .ok (.iload_n 1, 1) := by decide +kernel
theorem dX12_mayBegin_109 : decode cX12_mayBegin 109 = .ok (.invokevirtual 59, 3) := by decide +kernel
theorem dX12_mayBegin_112 : decode cX12_mayBegin 112 = .ok (.if_icmp .lt 7, 3) := by decide +kernel
theorem dX12_mayBegin_115 : decode cX12_mayBegin 115 = .ok (.iconst 1, 1) := by decide +kernel
theorem dX12_mayBegin_116 : decode cX12_mayBegin 116 = .ok (.goto 4, 3) := by decide +kernel
theorem dX12_mayBegin_119 : decode cX12_mayBegin 119 = .ok (.iconst 0, 1) := by decide +kernel
theorem dX12_mayBegin_120 : decode cX12_mayBegin 120 = .ok (.istore 5, 2) := by decide +kernel
theorem dX12_mayBegin_122 : decode cX12_mayBegin 122 = .ok (.iload 4, 2) := by decide +kernel
theorem dX12_mayBegin_124 : decode cX12_mayBegin 124 = .ok (.aload_n 0, 1) := by decide +kernel
theorem dX12_mayBegin_125 : decode cX12_mayBegin 125 = .ok (.iload 6, 2) := by decide +kernel
theorem dX12_mayBegin_127 : decode cX12_mayBegin 127 = .ok (.iload_n 2, 1) := by decide +kernel
theorem dX12_mayBegin_128 : decode cX12_mayBegin 128 = .ok (.invokevirtual 400, 3) := by decide +kernel
theorem dX12_mayBegin_131 : decode cX12_mayBegin 131 = .ok (.ifCond .eq 7, 3) := by decide +kernel
theorem dX12_mayBegin_134 : decode cX12_mayBegin 134 = .ok (.iconst 1, 1) := by decide +kernel
theorem dX12_mayBegin_135 : decode cX12_mayBegin 135 = .ok (.goto 4, 3) := by decide +kernel
theorem dX12_mayBegin_138 : decode cX12_mayBegin 138 = .ok (.iconst 0, 1) := by decide +kernel
theorem dX12_mayBegin_139 : decode cX12_mayBegin 139 = .ok (.iadd, 1) := by decide +kernel
theorem dX12_mayBegin_140 : decode cX12_mayBegin 140 = .ok (.istore 4, 2) := by decide +kernel
theorem dX12_mayBegin_142 : decode cX12_mayBegin 142 = .ok (.iinc 6 1, 3) := by decide +kernel
theorem dX12_mayBegin_145 : decode cX12_mayBegin 145 = .ok (.goto (-100), 3) := by decide +kernel
theorem dX12_mayBegin_148 : decode cX12_mayBegin 148 = .ok (.iload 5, 2) := by decide +kernel
theorem dX12_mayBegin_150 : decode cX12_mayBegin 150 = .ok (.ifCond .eq 21, 3) := by decide +kernel
theorem dX12_mayBegin_153 : decode cX12_mayBegin 153 = .ok (.iload 4, 2) := by decide +kernel
theorem dX12_mayBegin_155 : decode cX12_mayBegin 155 = .ok (.aload_n 0, 1) := by decide +kernel
theorem dX12_mayBegin_156 : decode cX12_mayBegin 156 = .ok (.getfield 13, 3) := by decide +kernel
theorem dX12_mayBegin_159 : decode cX12_mayBegin 159 = .ok (.bipush 15, 2) := by decide +kernel
theorem dX12_mayBegin_161 : decode cX12_mayBegin 161 = .ok (.iload_n 3, 1) := by decide +kernel
theorem dX12_mayBegin_162 : decode cX12_mayBegin 162 = .ok (.iadd, 1) := by decide +kernel
theorem dX12_mayBegin_163 : decode cX12_mayBegin 163 = .ok (.iaload, 1) := by decide +kernel
theorem dX12_mayBegin_164 : decode cX12_mayBegin 164 = .ok (.if_icmp .ge 7, 3) := by decide +kernel
theorem dX12_mayBegin_167 : decode cX12_mayBegin 167 = .ok (.iconst 1, 1) := by decide +kernel
theorem dX12_mayBegin_168 : decode cX12_mayBegin 168 = .ok (.goto 4, 3) := by decide +kernel
theorem dX12_mayBegin_171 : decode cX12_mayBegin 171 = .ok (.iconst 0, 1) := by decide +kernel
theorem dX12_mayBegin_172 : decode cX12_mayBegin 172 = .ok (.ireturn, 1) := by decide +kernel
theorem dX12_nextToBegin_0 : decode cX12_nextToBegin 0 = .ok (.iconst (-1), 1) := by decide +kernel
theorem dX12_nextToBegin_1 : decode cX12_nextToBegin 1 = .ok (.istore_n 2, 1) := by decide +kernel
theorem dX12_nextToBegin_2 : decode cX12_nextToBegin 2 = .ok (.iconst 0, 1) := by decide +kernel
theorem dX12_nextToBegin_3 : decode cX12_nextToBegin 3 = .ok (.istore_n 3, 1) := by decide +kernel
theorem dX12_nextToBegin_4 : decode cX12_nextToBegin 4 = .ok (.iload_n 3, 1) := by decide +kernel
theorem dX12_nextToBegin_5 : decode cX12_nextToBegin 5 = .ok (.bipush 24, 2) := by decide +kernel
theorem dX12_nextToBegin_7 : decode cX12_nextToBegin 7 = .ok (.if_icmp .ge 38, 3) := by decide +kernel
theorem dX12_nextToBegin_10 : decode cX12_nextToBegin 10 = .ok (.aload_n 0, 1) := by decide +kernel
theorem dX12_nextToBegin_11 : decode cX12_nextToBegin 11 = .ok (.iload_n 3, 1) := by decide +kernel
theorem dX12_nextToBegin_12 : decode cX12_nextToBegin 12 = .ok (.iload_n 1, 1) := by decide +kernel
theorem dX12_nextToBegin_13 : decode cX12_nextToBegin 13 = .ok (.invokevirtual 403, 3) := by decide +kernel
theorem dX12_nextToBegin_16 : decode cX12_nextToBegin 16 = .ok (.ifCond .eq 23, 3) := by decide +kernel
theorem dX12_nextToBegin_19 : decode cX12_nextToBegin 19 = .ok (.iload_n 2, 1) := by decide +kernel
theorem dX12_nextToBegin_20 : decode cX12_nextToBegin 20 = .ok (.iconst (-1), 1) := by decide +kernel
theorem dX12_nextToBegin_21 : decode cX12_nextToBegin 21 = .ok (.if_icmp .eq 16, 3) := by decide +kernel
theorem dX12_nextToBegin_24 : decode cX12_nextToBegin 24 = .ok (.aload_n 0, 1) := by decide +kernel
theorem dX12_nextToBegin_25 : decode cX12_nextToBegin 25 = .ok (.iload_n 3, 1) := by decide +kernel
theorem dX12_nextToBegin_26 : decode cX12_nextToBegin 26 = .ok (.invokevirtual 59, 3) := by decide +kernel
theorem dX12_nextToBegin_29 : decode cX12_nextToBegin 29 = .ok (.aload_n 0, 1) := by decide +kernel
theorem dX12_nextToBegin_30 : decode cX12_nextToBegin 30 = .ok (.iload_n 2, 1) := by decide +kernel
theorem dX12_nextToBegin_31 : decode cX12_nextToBegin 31 = .ok (.invokevirtual 59, 3) := by decide +kernel
theorem dX12_nextToBegin_34 : decode cX12_nextToBegin 34 = .ok (.if_icmp .ge 5, 3) := by decide +kernel
theorem dX12_nextToBegin_37 : decode cX12_nextToBegin 37 = .ok (.iload_n 3, 1) := by decide +kernel
theorem dX12_nextToBegin_38 : decode cX12_nextToBegin 38 = .ok (.istore_n 2, 1) := by decide +kernel
theorem dX12_nextToBegin_39 : decode cX12_nextToBegin 39 = .ok (.iinc 3 1, 3) := by decide +kernel
theorem dX12_nextToBegin_42 : decode cX12_nextToBegin 42 = .ok (.goto (-38), 3) := by decide +kernel
theorem dX12_nextToBegin_45 : decode cX12_nextToBegin 45 = .ok (.iload_n 2, 1) := by decide +kernel
theorem dX12_nextToBegin_46 : decode cX12_nextToBegin 46 = .ok (.ireturn, 1) := by decide +kernel
theorem dX12_workingAt_0 : decode cX12_workingAt 0 = .ok (.iconst 0, 1) := by decide +kernel
theorem dX12_workingAt_1 : decode cX12_workingAt 1 = .ok (.istore_n 2, 1) := by decide +kernel
theorem dX12_workingAt_2 : decode cX12_workingAt 2 = .ok (.iconst 0, 1) := by decide +kernel
theorem dX12_workingAt_3 : decode cX12_workingAt 3 = .ok (.istore_n 3, 1) := by decide +kernel
theorem dX12_workingAt_4 : decode cX12_workingAt 4 = .ok (.iload_n 3, 1) := by decide +kernel
theorem dX12_workingAt_5 : decode cX12_workingAt 5 = .ok (.bipush 24, 2) := by decide +kernel
theorem dX12_workingAt_7 : decode cX12_workingAt 7 = .ok (.if_icmp .ge 26, 3) := by decide +kernel
theorem dX12_workingAt_10 : decode cX12_workingAt 10 = .ok (.iload_n 2, 1) := by decide +kernel
theorem dX12_workingAt_11 : decode cX12_workingAt 11 = .ok (.aload_n 0, 1) := by decide +kernel
theorem dX12_workingAt_12 : decode cX12_workingAt 12 = .ok (.iload_n 3, 1) := by decide +kernel
theorem dX12_workingAt_13 : decode cX12_workingAt 13 = .ok (.iload_n 1, 1) := by decide +kernel
theorem dX12_workingAt_14 : decode cX12_workingAt 14 = .ok (.invokevirtual 400, 3) := by decide +kernel
theorem dX12_workingAt_17 : decode cX12_workingAt 17 = .ok (.ifCond .eq 7, 3) := by decide +kernel
theorem dX12_workingAt_20 : decode cX12_workingAt 20 = .ok (.iconst 1, 1) := by decide +kernel
theorem dX12_workingAt_21 : decode cX12_workingAt 21 = .ok (.goto 4, 3) := by decide +kernel
theorem dX12_workingAt_24 : decode cX12_workingAt 24 = .ok (.iconst 0, 1) := by decide +kernel
theorem dX12_workingAt_25 : decode cX12_workingAt 25 = .ok (.iadd, 1) := by decide +kernel
theorem dX12_workingAt_26 : decode cX12_workingAt 26 = .ok (.istore_n 2, 1) := by decide +kernel
theorem dX12_workingAt_27 : decode cX12_workingAt 27 = .ok (.iinc 3 1, 3) := by decide +kernel
theorem dX12_workingAt_30 : decode cX12_workingAt 30 = .ok (.goto (-26), 3) := by decide +kernel
theorem dX12_workingAt_33 : decode cX12_workingAt 33 = .ok (.iload_n 2, 1) := by decide +kernel
theorem dX12_workingAt_34 : decode cX12_workingAt 34 = .ok (.ireturn, 1) := by decide +kernel
theorem dX12_timeBehind_0 : decode cX12_timeBehind 0 = .ok (.ldc_w 346, 3) := by decide +kernel
theorem dX12_timeBehind_3 : decode cX12_timeBehind 3 = .ok (.istore_n 2, 1) := by decide +kernel
theorem dX12_timeBehind_4 : decode cX12_timeBehind 4 = .ok (.iconst 0, 1) := by decide +kernel
theorem dX12_timeBehind_5 : decode cX12_timeBehind 5 = .ok (.istore_n 3, 1) := by decide +kernel
theorem dX12_timeBehind_6 : decode cX12_timeBehind 6 = .ok (.iload_n 3, 1) := by decide +kernel
theorem dX12_timeBehind_7 : decode cX12_timeBehind 7 = .ok (.bipush 24, 2) := by decide +kernel
theorem dX12_timeBehind_9 : decode cX12_timeBehind 9 = .ok (.if_icmp .ge 73, 3) := by decide +kernel
theorem dX12_timeBehind_12 : decode cX12_timeBehind 12 = .ok (.aload_n 0, 1) := by decide +kernel
theorem dX12_timeBehind_13 : decode cX12_timeBehind 13 = .ok (.getfield 48, 3) := by decide +kernel
theorem dX12_timeBehind_16 : decode cX12_timeBehind 16 = .ok (.iload_n 3, 1) := by decide +kernel
theorem dX12_timeBehind_17 : decode cX12_timeBehind 17 = .ok (.iaload, 1) := by decide +kernel
theorem dX12_timeBehind_18 : decode cX12_timeBehind 18 = .ok (.ldc_w 346, 3) := by decide +kernel
theorem dX12_timeBehind_21 : decode cX12_timeBehind 21 = .ok (.if_icmp .ne 22, 3) := by decide +kernel
theorem dX12_timeBehind_24 : decode cX12_timeBehind 24 = .ok (.aload_n 0, 1) := by decide +kernel
theorem dX12_timeBehind_25 : decode cX12_timeBehind 25 = .ok (.iload_n 3, 1) := by decide +kernel
theorem dX12_timeBehind_26 : decode cX12_timeBehind 26 = .ok (.invokevirtual 397, 3) := by decide +kernel
theorem dX12_timeBehind_29 : decode cX12_timeBehind 29 = .ok (.iload_n 1, 1) := by decide +kernel
theorem dX12_timeBehind_30 : decode cX12_timeBehind 30 = .ok (.if_icmp .le 13, 3) := by decide +kernel
theorem dX12_timeBehind_33 : decode cX12_timeBehind 33 = .ok (.iload_n 2, 1) := by decide +kernel
theorem dX12_timeBehind_34 : decode cX12_timeBehind 34 = .ok (.aload_n 0, 1) := by decide +kernel
theorem dX12_timeBehind_35 : decode cX12_timeBehind 35 = .ok (.iload_n 3, 1) := by decide +kernel
theorem dX12_timeBehind_36 : decode cX12_timeBehind 36 = .ok (.invokevirtual 397, 3) := by decide +kernel
theorem dX12_timeBehind_39 : decode cX12_timeBehind 39 = .ok (.invokestatic 258, 3) := by decide +kernel
theorem dX12_timeBehind_42 : decode cX12_timeBehind 42 = .ok (.istore_n 2, 1) := by decide +kernel
theorem dX12_timeBehind_43 : decode cX12_timeBehind 43 = .ok (.aload_n 0, 1) := by decide +kernel
theorem dX12_timeBehind_44 : decode cX12_timeBehind 44 = .ok (.iload_n 3, 1) := by decide +kernel
theorem dX12_timeBehind_45 : decode cX12_timeBehind 45 = .ok (.iload_n 1, 1) := by decide +kernel
theorem dX12_timeBehind_46 : decode cX12_timeBehind 46 = .ok (.invokevirtual 400, 3) := by decide +kernel
theorem dX12_timeBehind_49 : decode cX12_timeBehind 49 = .ok (.ifCond .eq 27, 3) := by decide +kernel
theorem dX12_timeBehind_52 : decode cX12_timeBehind 52 = .ok (.iload_n 2, 1) := by decide +kernel
theorem dX12_timeBehind_53 : decode cX12_timeBehind 53 = .ok (.aload_n 0, 1) := by decide +kernel
theorem dX12_timeBehind_54 : decode cX12_timeBehind 54 = .ok (.getfield 48, 3) := by decide +kernel
theorem dX12_timeBehind_57 : decode cX12_timeBehind 57 = .ok (.iload_n 3, 1) := by decide +kernel
theorem dX12_timeBehind_58 : decode cX12_timeBehind 58 = .ok (.iaload, 1) := by decide +kernel
theorem dX12_timeBehind_59 : decode cX12_timeBehind 59 = .ok (.aload_n 0, 1) := by decide +kernel
theorem dX12_timeBehind_60 : decode cX12_timeBehind 60 = .ok (.getfield 13, 3) := by decide +kernel
theorem dX12_timeBehind_63 : decode cX12_timeBehind 63 = .ok (.iload_n 3, 1) := by decide +kernel
theorem dX12_timeBehind_64 : decode cX12_timeBehind 64 = .ok (.iconst 3, 1) := by decide +kernel
theorem dX12_timeBehind_65 : decode cX12_timeBehind 65 = .ok (.invokestatic 51, 3) := by decide +kernel
theorem dX12_timeBehind_68 : decode cX12_timeBehind 68 = .ok (.iconst 2, 1) := by decide +kernel
theorem dX12_timeBehind_69 : decode cX12_timeBehind 69 = .ok (.iadd, 1) := by decide +kernel
theorem dX12_timeBehind_70 : decode cX12_timeBehind 70 = .ok (.iaload, 1) := by decide +kernel
theorem dX12_timeBehind_71 : decode cX12_timeBehind 71 = .ok (.iadd, 1) := by decide +kernel
theorem dX12_timeBehind_72 : decode cX12_timeBehind 72 = .ok (.invokestatic 258, 3) := by decide +kernel
theorem dX12_timeBehind_75 : decode cX12_timeBehind 75 = .ok (.istore_n 2, 1) := by decide +kernel
theorem dX12_timeBehind_76 : decode cX12_timeBehind 76 = .ok (.iinc 3 1, 3) := by decide +kernel
theorem dX12_timeBehind_79 : decode cX12_timeBehind 79 = .ok (.goto (-73), 3) := by decide +kernel
theorem dX12_timeBehind_82 : decode cX12_timeBehind 82 = .ok (.iload_n 2, 1) := by decide +kernel
theorem dX12_timeBehind_83 : decode cX12_timeBehind 83 = .ok (.ireturn, 1) := by decide +kernel
theorem dX12_worksAll_0 : decode cX12_worksAll 0 = .ok (.iconst 0, 1) := by decide +kernel
theorem dX12_worksAll_1 : decode cX12_worksAll 1 = .ok (.istore_n 2, 1) := by decide +kernel
theorem dX12_worksAll_2 : decode cX12_worksAll 2 = .ok (.iload_n 2, 1) := by decide +kernel
theorem dX12_worksAll_3 : decode cX12_worksAll 3 = .ok (.bipush 24, 2) := by decide +kernel
theorem dX12_worksAll_5 : decode cX12_worksAll 5 = .ok (.if_icmp .ge 46, 3) := by decide +kernel
theorem dX12_worksAll_8 : decode cX12_worksAll 8 = .ok (.aload_n 0, 1) := by decide +kernel
theorem dX12_worksAll_9 : decode cX12_worksAll 9 = .ok (.getfield 48, 3) := by decide +kernel
theorem dX12_worksAll_12 : decode cX12_worksAll 12 = .ok (.iload_n 2, 1) := by decide +kernel
theorem dX12_worksAll_13 : decode cX12_worksAll 13 = .ok (.aload_n 0, 1) := by decide +kernel
theorem dX12_worksAll_14 : decode cX12_worksAll 14 = .ok (.iload_n 2, 1) := by decide +kernel
theorem dX12_worksAll_15 : decode cX12_worksAll 15 = .ok (.invokevirtual 73, 3) := by decide +kernel
theorem dX12_worksAll_18 : decode cX12_worksAll 18 = .ok (.ifCond .eq 25, 3) := by decide +kernel
theorem dX12_worksAll_21 : decode cX12_worksAll 21 = .ok (.aload_n 0, 1) := by decide +kernel
theorem dX12_worksAll_22 : decode cX12_worksAll 22 = .ok (.getfield 13, 3) := by decide +kernel
theorem dX12_worksAll_25 : decode cX12_worksAll 25 = .ok (.iload_n 2, 1) := by decide +kernel
theorem dX12_worksAll_26 : decode cX12_worksAll 26 = .ok (.iconst 3, 1) := by decide +kernel
theorem dX12_worksAll_27 : decode cX12_worksAll 27 = .ok (.invokestatic 51, 3) := by decide +kernel
theorem dX12_worksAll_30 : decode cX12_worksAll 30 = .ok (.iconst 3, 1) := by decide +kernel
theorem dX12_worksAll_31 : decode cX12_worksAll 31 = .ok (.iadd, 1) := by decide +kernel
theorem dX12_worksAll_32 : decode cX12_worksAll 32 = .ok (.iaload, 1) := by decide +kernel
theorem dX12_worksAll_33 : decode cX12_worksAll 33 = .ok (.iconst 1, 1) := by decide +kernel
theorem dX12_worksAll_34 : decode cX12_worksAll 34 = .ok (.if_icmp .gt 9, 3) := by decide +kernel
theorem dX12_worksAll_37 : decode cX12_worksAll 37 = .ok (.ldc_w 346, 3) := by decide +kernel
theorem dX12_worksAll_40 : decode cX12_worksAll 40 = .ok (.goto 4, 3) := by decide +kernel
theorem dX12_worksAll_43 : decode cX12_worksAll 43 = .ok (.iconst (-1), 1) := by decide +kernel
theorem dX12_worksAll_44 : decode cX12_worksAll 44 = .ok (.iastore, 1) := by decide +kernel
theorem dX12_worksAll_45 : decode cX12_worksAll 45 = .ok (.iinc 2 1, 3) := by decide +kernel
theorem dX12_worksAll_48 : decode cX12_worksAll 48 = .ok (.goto (-46), 3) := by decide +kernel
theorem dX12_worksAll_51 : decode cX12_worksAll 51 = .ok (.aload_n 0, 1) := by decide +kernel
theorem dX12_worksAll_52 : decode cX12_worksAll 52 = .ok (.getfield 13, 3) := by decide +kernel
theorem dX12_worksAll_55 : decode cX12_worksAll 55 = .ok (.iconst 3, 1) := by decide +kernel
theorem dX12_worksAll_56 : decode cX12_worksAll 56 = .ok (.iaload, 1) := by decide +kernel
theorem dX12_worksAll_57 : decode cX12_worksAll 57 = .ok (.istore_n 2, 1) := by decide +kernel
theorem dX12_worksAll_58 : decode cX12_worksAll 58 = .ok (.aload_n 0, 1) := by decide +kernel
theorem dX12_worksAll_59 : decode cX12_worksAll 59 = .ok (.getfield 13, 3) := by decide +kernel
theorem dX12_worksAll_62 : decode cX12_worksAll 62 = .ok (.iconst 3, 1) := by decide +kernel
theorem dX12_worksAll_63 : decode cX12_worksAll 63 = .ok (.iaload, 1) := by decide +kernel
theorem dX12_worksAll_64 : decode cX12_worksAll 64 = .ok (.istore_n 3, 1) := by decide +kernel
theorem dX12_worksAll_65 : decode cX12_worksAll 65 = .ok (.iload_n 3, 1) := by decide +kernel
theorem dX12_worksAll_66 : decode cX12_worksAll 66 = .ok (.ldc_w 346, 3) := by decide +kernel
theorem dX12_worksAll_69 : decode cX12_worksAll 69 = .ok (.if_icmp .ge 72, 3) := by decide +kernel
theorem dX12_worksAll_72 : decode cX12_worksAll 72 = .ok (.aload_n 0, 1) := by decide +kernel
theorem dX12_worksAll_73 : decode cX12_worksAll 73 = .ok (.iload_n 3, 1) := by decide +kernel
theorem dX12_worksAll_74 : decode cX12_worksAll 74 = .ok (.invokevirtual 406, 3) := by decide +kernel
theorem dX12_worksAll_77 : decode cX12_worksAll 77 = .ok (.istore 4, 2) := by decide +kernel
theorem dX12_worksAll_79 : decode cX12_worksAll 79 = .ok (.iload 4, 2) := by decide +kernel
theorem dX12_worksAll_81 : decode cX12_worksAll 81 = .ok (.iconst (-1), 1) := by decide +kernel
theorem dX12_worksAll_82 : decode cX12_worksAll 82 = .ok (.if_icmp .eq 50, 3) := by decide +kernel
theorem dX12_worksAll_85 : decode cX12_worksAll 85 = .ok (.aload_n 0, 1) := by decide +kernel
theorem dX12_worksAll_86 : decode cX12_worksAll 86 = .ok (.iload_n 3, 1) := by decide +kernel
theorem dX12_worksAll_87 : decode cX12_worksAll 87 = .ok (.invokevirtual 409, 3) := by decide +kernel
theorem dX12_worksAll_90 : decode cX12_worksAll 90 = .ok (.iload_n 1, 1) := by decide +kernel
theorem dX12_worksAll_91 : decode cX12_worksAll 91 = .ok (.if_icmp .ge 41, 3) := by decide +kernel
theorem dX12_worksAll_94 : decode cX12_worksAll 94 = .ok (.aload_n 0, 1) := by decide +kernel
theorem dX12_worksAll_95 : decode cX12_worksAll 95 = .ok (.getfield 48, 3) := by decide +kernel
theorem dX12_worksAll_98 : decode cX12_worksAll 98 = .ok (.iload 4, 2) := by decide +kernel
theorem dX12_worksAll_100 : decode cX12_worksAll 100 = .ok (.iload_n 3, 1) := by decide +kernel
theorem dX12_worksAll_101 : decode cX12_worksAll 101 = .ok (.iastore, 1) := by decide +kernel
theorem dX12_worksAll_102 : decode cX12_worksAll 102 = .ok (.iload_n 2, 1) := by decide +kernel
theorem dX12_worksAll_103 : decode cX12_worksAll 103 = .ok (.iload_n 3, 1) := by decide +kernel
theorem dX12_worksAll_104 : decode cX12_worksAll 104 = .ok (.aload_n 0, 1) := by decide +kernel
theorem dX12_worksAll_105 : decode cX12_worksAll 105 = .ok (.getfield 13, 3) := by decide +kernel
theorem dX12_worksAll_108 : decode cX12_worksAll 108 = .ok (.iload 4, 2) := by decide +kernel
theorem dX12_worksAll_110 : decode cX12_worksAll 110 = .ok (.iconst 3, 1) := by decide +kernel
theorem dX12_worksAll_111 : decode cX12_worksAll 111 = .ok (.invokestatic 51, 3) := by decide +kernel
theorem dX12_worksAll_114 : decode cX12_worksAll 114 = .ok (.iconst 2, 1) := by decide +kernel
theorem dX12_worksAll_115 : decode cX12_worksAll 115 = .ok (.iadd, 1) := by decide +kernel
theorem dX12_worksAll_116 : decode cX12_worksAll 116 = .ok (.iaload, 1) := by decide +kernel
theorem dX12_worksAll_117 : decode cX12_worksAll 117 = .ok (.iadd, 1) := by decide +kernel
theorem dX12_worksAll_118 : decode cX12_worksAll 118 = .ok (.invokestatic 353, 3) := by decide +kernel
theorem dX12_worksAll_121 : decode cX12_worksAll 121 = .ok (.istore_n 2, 1) := by decide +kernel
theorem dX12_worksAll_122 : decode cX12_worksAll 122 = .ok (.aload_n 0, 1) := by decide +kernel
theorem dX12_worksAll_123 : decode cX12_worksAll 123 = .ok (.iload_n 3, 1) := by decide +kernel
theorem dX12_worksAll_124 : decode cX12_worksAll 124 = .ok (.invokevirtual 406, 3) := by decide +kernel
theorem dX12_worksAll_127 : decode cX12_worksAll 127 = .ok (.istore 4, 2) := by decide +kernel
theorem dX12_worksAll_129 : decode cX12_worksAll 129 = .ok (.goto (-50), 3) := by decide +kernel
theorem dX12_worksAll_132 : decode cX12_worksAll 132 = .ok (.aload_n 0, 1) := by decide +kernel
theorem dX12_worksAll_133 : decode cX12_worksAll 133 = .ok (.iload_n 3, 1) := by decide +kernel
theorem dX12_worksAll_134 : decode cX12_worksAll 134 = .ok (.invokevirtual 412, 3) := by decide +kernel
theorem dX12_worksAll_137 : decode cX12_worksAll 137 = .ok (.istore_n 3, 1) := by decide +kernel
theorem dX12_worksAll_138 : decode cX12_worksAll 138 = .ok (.goto (-73), 3) := by decide +kernel
theorem dX12_worksAll_141 : decode cX12_worksAll 141 = .ok (.iload_n 2, 1) := by decide +kernel
theorem dX12_worksAll_142 : decode cX12_worksAll 142 = .ok (.ireturn, 1) := by decide +kernel
theorem dX12_work_0 : decode cX12_work 0 = .ok (.aload_n 0, 1) := by decide +kernel
theorem dX12_work_1 : decode cX12_work 1 = .ok (.iconst 0, 1) := by decide +kernel
theorem dX12_work_2 : decode cX12_work 2 = .ok (.putfield 3, 3) := by decide +kernel
theorem dX12_work_5 : decode cX12_work 5 = .ok (.aload_n 0, 1) := by decide +kernel
theorem dX12_work_6 : decode cX12_work 6 = .ok (.iload_n 1, 1) := by decide +kernel
theorem dX12_work_7 : decode cX12_work 7 = .ok (.iconst 1, 1) := by decide +kernel
theorem dX12_work_8 : decode cX12_work 8 = .ok (.iconst 4, 1) := by decide +kernel
theorem dX12_work_9 : decode cX12_work 9 = .ok (.invokestatic 66, 3) := by decide +kernel
theorem dX12_work_12 : decode cX12_work 12 = .ok (.ifCond .ne 7, 3) := by decide +kernel
theorem dX12_work_15 : decode cX12_work 15 = .ok (.iconst 1, 1) := by decide +kernel
theorem dX12_work_16 : decode cX12_work 16 = .ok (.goto 4, 3) := by decide +kernel
theorem dX12_work_19 : decode cX12_work 19 = .ok (.iconst 0, 1) := by decide +kernel
theorem dX12_work_20 : decode cX12_work 20 = .ok (.iconst 1, 1) := by decide +kernel
theorem dX12_work_21 : decode cX12_work 21 = .ok (.invokevirtual 199, 3) := by decide +kernel
theorem dX12_work_24 : decode cX12_work 24 = .ok (.ifCond .eq 5, 3) := by decide +kernel
theorem dX12_work_27 : decode cX12_work 27 = .ok (.iconst 0, 1) := by decide +kernel
theorem dX12_work_28 : decode cX12_work 28 = .ok (.ireturn, 1) := by decide +kernel
theorem dX12_work_29 : decode cX12_work 29 = .ok (.iload_n 2, 1) := by decide +kernel
theorem dX12_work_30 : decode cX12_work 30 = .ok (.iconst (-1), 1) := by decide +kernel
theorem dX12_work_31 : decode cX12_work 31 = .ok (.if_icmp .ne 7, 3) := by decide +kernel
theorem dX12_work_34 : decode cX12_work 34 = .ok (.iconst (-1), 1) := by decide +kernel
theorem dX12_work_35 : decode cX12_work 35 = .ok (.goto 8, 3) := by decide +kernel
theorem dX12_work_38 : decode cX12_work 38 = .ok (.aload_n 0, 1) := by decide +kernel
theorem dX12_work_39 : decode cX12_work 39 = .ok (.iload_n 2, 1) := by decide +kernel
theorem dX12_work_40 : decode cX12_work 40 = .ok (.invokevirtual 334, 3) := by decide +kernel
theorem dX12_work_43 : decode cX12_work 43 = .ok (.istore_n 3, 1) := by decide +kernel
theorem dX12_work_44 : decode cX12_work 44 = .ok (.aload_n 0, 1) := by decide +kernel
theorem dX12_work_45 : decode cX12_work 45 = .ok (.iload_n 2, 1) := by decide +kernel
theorem dX12_work_46 : decode cX12_work 46 = .ok (.iconst (-1), 1) := by decide +kernel
theorem dX12_work_47 : decode cX12_work 47 = .ok (.if_icmp .eq 20, 3) := by decide +kernel
theorem dX12_work_50 : decode cX12_work 50 = .ok (.iload_n 3, 1) := by decide +kernel
theorem dX12_work_51 : decode cX12_work 51 = .ok (.iconst (-1), 1) := by decide +kernel
theorem dX12_work_52 : decode cX12_work 52 = .ok (.if_icmp .eq 11, 3) := by decide +kernel
theorem dX12_work_55 : decode cX12_work 55 = .ok (.aload_n 0, 1) := by decide +kernel
theorem dX12_work_56 : decode cX12_work 56 = .ok (.iload_n 3, 1) := by decide +kernel
theorem dX12_work_57 : decode cX12_work 57 = .ok (.invokevirtual 73, 3) := by decide +kernel
theorem dX12_work_60 : decode cX12_work 60 = .ok (.ifCond .ne 7, 3) := by decide +kernel
theorem dX12_work_63 : decode cX12_work 63 = .ok (.iconst 1, 1) := by decide +kernel
theorem dX12_work_64 : decode cX12_work 64 = .ok (.goto 4, 3) := by decide +kernel
theorem dX12_work_67 : decode cX12_work 67 = .ok (.iconst 0, 1) := by decide +kernel
theorem dX12_work_68 : decode cX12_work 68 = .ok (.iconst 2, 1) := by decide +kernel
theorem dX12_work_69 : decode cX12_work 69 = .ok (.invokevirtual 199, 3) := by decide +kernel
theorem dX12_work_72 : decode cX12_work 72 = .ok (.ifCond .eq 5, 3) := by decide +kernel
theorem dX12_work_75 : decode cX12_work 75 = .ok (.iconst 0, 1) := by decide +kernel
theorem dX12_work_76 : decode cX12_work 76 = .ok (.ireturn, 1) := by decide +kernel
theorem dX12_work_77 : decode cX12_work 77 = .ok (.aload_n 0, 1) := by decide +kernel
theorem dX12_work_78 : decode cX12_work 78 = .ok (.iload_n 1, 1) := by decide +kernel
theorem dX12_work_79 : decode cX12_work 79 = .ok (.invokevirtual 415, 3) := by decide +kernel
theorem dX12_work_82 : decode cX12_work 82 = .ok (.istore 4, 2) := by decide +kernel
theorem dX12_work_84 : decode cX12_work 84 = .ok (.iload_n 2, 1) := by decide +kernel
theorem dX12_work_85 : decode cX12_work 85 = .ok (.iconst (-1), 1) := by decide +kernel
theorem dX12_work_86 : decode cX12_work 86 = .ok (.if_icmp .ne 8, 3) := by decide +kernel
theorem dX12_work_89 : decode cX12_work 89 = .ok (.iload 4, 2) := by decide +kernel
theorem dX12_work_91 : decode cX12_work 91 = .ok (.goto 9, 3) := by decide +kernel
theorem dX12_work_94 : decode cX12_work 94 = .ok (.aload_n 0, 1) := by decide +kernel
theorem dX12_work_95 : decode cX12_work 95 = .ok (.getfield 48, 3) := by decide +kernel
theorem dX12_work_98 : decode cX12_work 98 = .ok (.iload_n 3, 1) := by decide +kernel
theorem dX12_work_99 : decode cX12_work 99 = .ok (.iaload, 1) := by decide +kernel
theorem dX12_work_100 : decode cX12_work 100 = .ok (.ireturn, 1) := by decide +kernel
theorem dX12_ofLog_0 : decode cX12_ofLog 0 = .ok (.aload_n 0, 1) := by decide +kernel
theorem dX12_ofLog_1 : decode cX12_ofLog 1 = .ok (.getfield 13, 3) := by decide +kernel
theorem dX12_ofLog_4 : decode cX12_ofLog 4 = .ok (.sipush 1289, 3) := by decide +kernel
theorem dX12_ofLog_7 : decode cX12_ofLog 7 = .ok (.iconst 5, 1) := by decide +kernel
theorem dX12_ofLog_8 : decode cX12_ofLog 8 = .ok (.iload_n 1, 1) := by decide +kernel
theorem dX12_ofLog_9 : decode cX12_ofLog 9 = .ok (.imul, 1) := by decide +kernel
theorem dX12_ofLog_10 : decode cX12_ofLog 10 = .ok (.iadd, 1) := by decide +kernel
theorem dX12_ofLog_11 : decode cX12_ofLog 11 = .ok (.iload_n 2, 1) := by decide +kernel
theorem dX12_ofLog_12 : decode cX12_ofLog 12 = .ok (.iadd, 1) := by decide +kernel
theorem dX12_ofLog_13 : decode cX12_ofLog 13 = .ok (.iaload, 1) := by decide +kernel
theorem dX12_ofLog_14 : decode cX12_ofLog 14 = .ok (.ireturn, 1) := by decide +kernel
theorem dX12_was_0 : decode cX12_was 0 = .ok (.aload_n 0, 1) := by decide +kernel
theorem dX12_was_1 : decode cX12_was 1 = .ok (.iconst (-1), 1) := by decide +kernel
theorem dX12_was_2 : decode cX12_was 2 = .ok (.iload_n 1, 1) := by decide +kernel
theorem dX12_was_3 : decode cX12_was 3 = .ok (.invokevirtual 337, 3) := by decide +kernel
theorem dX12_was_6 : decode cX12_was 6 = .ok (.iconst (-1), 1) := by decide +kernel
theorem dX12_was_7 : decode cX12_was 7 = .ok (.if_icmp .ne 5, 3) := by decide +kernel
theorem dX12_was_10 : decode cX12_was 10 = .ok (.iconst 0, 1) := by decide +kernel
theorem dX12_was_11 : decode cX12_was 11 = .ok (.ireturn, 1) := by decide +kernel
theorem dX12_was_12 : decode cX12_was 12 = .ok (.iconst 0, 1) := by decide +kernel
theorem dX12_was_13 : decode cX12_was 13 = .ok (.istore_n 3, 1) := by decide +kernel
theorem dX12_was_14 : decode cX12_was 14 = .ok (.iload_n 3, 1) := by decide +kernel
theorem dX12_was_15 : decode cX12_was 15 = .ok (.aload_n 0, 1) := by decide +kernel
theorem dX12_was_16 : decode cX12_was 16 = .ok (.getfield 13, 3) := by decide +kernel
theorem dX12_was_19 : decode cX12_was 19 = .ok (.bipush 14, 2) := by decide +kernel
theorem dX12_was_21 : decode cX12_was 21 = .ok (.iaload, 1) := by decide +kernel
theorem dX12_was_22 : decode cX12_was 22 = .ok (.if_icmp .ge 29, 3) := by decide +kernel
theorem dX12_was_25 : decode cX12_was 25 = .ok (.aload_n 0, 1) := by decide +kernel
theorem dX12_was_26 : decode cX12_was 26 = .ok (.iload_n 3, 1) := by decide +kernel
theorem dX12_was_27 : decode cX12_was 27 = .ok (.iconst 1, 1) := by decide +kernel
theorem dX12_was_28 : decode cX12_was 28 = .ok (.invokevirtual 418, 3) := by decide +kernel
theorem dX12_was_31 : decode cX12_was 31 = .ok (.iload_n 1, 1) := by decide +kernel
theorem dX12_was_32 : decode cX12_was 32 = .ok (.if_icmp .ne 13, 3) := by decide +kernel
theorem dX12_was_35 : decode cX12_was 35 = .ok (.aload_n 0, 1) := by decide +kernel
theorem dX12_was_36 : decode cX12_was 36 = .ok (.iload_n 3, 1) := by decide +kernel
theorem dX12_was_37 : decode cX12_was 37 = .ok (.iconst 0, 1) := by decide +kernel
theorem dX12_was_38 : decode cX12_was 38 = .ok (.invokevirtual 418, 3) := by decide +kernel
theorem dX12_was_41 : decode cX12_was 41 = .ok (.iload_n 2, 1) := by decide +kernel
theorem dX12_was_42 : decode cX12_was 42 = .ok (.if_icmp .le 9, 3) := by decide +kernel
theorem dX12_was_45 : decode cX12_was 45 = .ok (.iinc 3 1, 3) := by decide +kernel
theorem dX12_was_48 : decode cX12_was 48 = .ok (.goto (-34), 3) := by decide +kernel
theorem dX12_was_51 : decode cX12_was 51 = .ok (.iload_n 3, 1) := by decide +kernel
theorem dX12_was_52 : decode cX12_was 52 = .ok (.aload_n 0, 1) := by decide +kernel
theorem dX12_was_53 : decode cX12_was 53 = .ok (.getfield 13, 3) := by decide +kernel
theorem dX12_was_56 : decode cX12_was 56 = .ok (.bipush 14, 2) := by decide +kernel
theorem dX12_was_58 : decode cX12_was 58 = .ok (.iaload, 1) := by decide +kernel
theorem dX12_was_59 : decode cX12_was 59 = .ok (.if_icmp .ge 22, 3) := by decide +kernel
theorem dX12_was_62 : decode cX12_was 62 = .ok (.aload_n 0, 1) := by decide +kernel
theorem dX12_was_63 : decode cX12_was 63 = .ok (.iload_n 3, 1) := by decide +kernel
theorem dX12_was_64 : decode cX12_was 64 = .ok (.iconst 2, 1) := by decide +kernel
theorem dX12_was_65 : decode cX12_was 65 = .ok (.invokevirtual 418, 3) := by decide +kernel
theorem dX12_was_68 : decode cX12_was 68 = .ok (.iconst 1, 1) := by decide +kernel
theorem dX12_was_69 : decode cX12_was 69 = .ok (.if_icmp .ne 12, 3) := by decide +kernel
theorem dX12_was_72 : decode cX12_was 72 = .ok (.aload_n 0, 1) := by decide +kernel
theorem dX12_was_73 : decode cX12_was 73 = .ok (.iload_n 3, 1) := by decide +kernel
theorem dX12_was_74 : decode cX12_was 74 = .ok (.iconst 3, 1) := by decide +kernel
theorem dX12_was_75 : decode cX12_was 75 = .ok (.invokevirtual 418, 3) := by decide +kernel
theorem dX12_was_78 : decode cX12_was 78 = .ok (.goto 4, 3) := by decide +kernel
theorem dX12_was_81 : decode cX12_was 81 = .ok (.iconst (-1), 1) := by decide +kernel
theorem dX12_was_82 : decode cX12_was 82 = .ok (.ireturn, 1) := by decide +kernel
theorem dX12_laterRow_0 : decode cX12_laterRow 0 = .ok (.iload_n 1, 1) := by decide +kernel
theorem dX12_laterRow_1 : decode cX12_laterRow 1 = .ok (.iconst 1, 1) := by decide +kernel
theorem dX12_laterRow_2 : decode cX12_laterRow 2 = .ok (.isub, 1) := by decide +kernel
theorem dX12_laterRow_3 : decode cX12_laterRow 3 = .ok (.istore_n 2, 1) := by decide +kernel
theorem dX12_laterRow_4 : decode cX12_laterRow 4 = .ok (.iload_n 2, 1) := by decide +kernel
theorem dX12_laterRow_5 : decode cX12_laterRow 5 = .ok (.ifCond .lt 24, 3) := by decide +kernel
theorem dX12_laterRow_8 : decode cX12_laterRow 8 = .ok (.aload_n 0, 1) := by decide +kernel
theorem dX12_laterRow_9 : decode cX12_laterRow 9 = .ok (.iload_n 2, 1) := by decide +kernel
theorem dX12_laterRow_10 : decode cX12_laterRow 10 = .ok (.iconst 1, 1) := by decide +kernel
theorem dX12_laterRow_11 : decode cX12_laterRow 11 = .ok (.invokevirtual 418, 3) := by decide +kernel
theorem dX12_laterRow_14 : decode cX12_laterRow 14 = .ok (.aload_n 0, 1) := by decide +kernel
theorem dX12_laterRow_15 : decode cX12_laterRow 15 = .ok (.iload_n 1, 1) := by decide +kernel
theorem dX12_laterRow_16 : decode cX12_laterRow 16 = .ok (.iconst 1, 1) := by decide +kernel
theorem dX12_laterRow_17 : decode cX12_laterRow 17 = .ok (.invokevirtual 418, 3) := by decide +kernel
theorem dX12_laterRow_20 : decode cX12_laterRow 20 = .ok (.if_icmp .eq 9, 3) := by decide +kernel
theorem dX12_laterRow_23 : decode cX12_laterRow 23 = .ok (.iinc 2 (-1), 3) := by decide +kernel
theorem dX12_laterRow_26 : decode cX12_laterRow 26 = .ok (.goto (-22), 3) := by decide +kernel
theorem dX12_laterRow_29 : decode cX12_laterRow 29 = .ok (.iload_n 2, 1) := by decide +kernel
theorem dX12_laterRow_30 : decode cX12_laterRow 30 = .ok (.ireturn, 1) := by decide +kernel
theorem dX12_longest_0 : decode cX12_longest 0 = .ok (.aload_n 0, 1) := by decide +kernel
theorem dX12_longest_1 : decode cX12_longest 1 = .ok (.iconst 0, 1) := by decide +kernel
theorem dX12_longest_2 : decode cX12_longest 2 = .ok (.putfield 3, 3) := by decide +kernel
theorem dX12_longest_5 : decode cX12_longest 5 = .ok (.iconst 0, 1) := by decide +kernel
theorem dX12_longest_6 : decode cX12_longest 6 = .ok (.istore_n 1, 1) := by decide +kernel
theorem dX12_longest_7 : decode cX12_longest 7 = .ok (.iconst 0, 1) := by decide +kernel
theorem dX12_longest_8 : decode cX12_longest 8 = .ok (.istore_n 2, 1) := by decide +kernel
theorem dX12_longest_9 : decode cX12_longest 9 = .ok (.iload_n 2, 1) := by decide +kernel
theorem dX12_longest_10 : decode cX12_longest 10 = .ok (.aload_n 0, 1) := by decide +kernel
theorem dX12_longest_11 : decode cX12_longest 11 = .ok (.getfield 13, 3) := by decide +kernel
theorem dX12_longest_14 : decode cX12_longest 14 = .ok (.bipush 14, 2) := by decide +kernel
theorem dX12_longest_16 : decode cX12_longest 16 = .ok (.iaload, 1) := by decide +kernel
theorem dX12_longest_17 : decode cX12_longest 17 = .ok (.if_icmp .ge 62, 3) := by decide +kernel
theorem dX12_longest_20 : decode cX12_longest 20 = .ok (.aload_n 0, 1) := by decide +kernel
theorem dX12_longest_21 : decode cX12_longest 21 = .ok (.iload_n 2, 1) := by decide +kernel
theorem dX12_longest_22 : decode cX12_longest 22 = .ok (.invokevirtual 421, 3) := by decide +kernel
theorem dX12_longest_25 : decode cX12_longest 25 = .ok (.istore_n 3, 1) := by decide +kernel
theorem dX12_longest_26 : decode cX12_longest 26 = .ok (.aload_n 0, 1) := by decide +kernel
theorem dX12_longest_27 : decode cX12_longest 27 = .ok (.iload_n 2, 1) := by decide +kernel
theorem dX12_longest_28 : decode cX12_longest 28 = .ok (.iconst 2, 1) := by decide +kernel
theorem dX12_longest_29 : decode cX12_longest 29 = .ok (.invokevirtual 418, 3) := by decide +kernel
theorem dX12_longest_32 : decode cX12_longest 32 = .ok (.iconst 1, 1) := by decide +kernel
theorem dX12_longest_33 : decode cX12_longest 33 = .ok (.if_icmp .ne 40, 3) := by decide +kernel
theorem dX12_longest_36 : decode cX12_longest 36 = .ok (.iload_n 3, 1) := by decide +kernel
theorem dX12_longest_37 : decode cX12_longest 37 = .ok (.ifCond .lt 36, 3) := by decide +kernel
theorem dX12_longest_40 : decode cX12_longest 40 = .ok (.aload_n 0, 1) := by decide +kernel
theorem dX12_longest_41 : decode cX12_longest 41 = .ok (.iload_n 3, 1) := by decide +kernel
theorem dX12_longest_42 : decode cX12_longest 42 = .ok (.iconst 3, 1) := by decide +kernel
theorem dX12_longest_43 : decode cX12_longest 43 = .ok (.invokevirtual 418, 3) := by decide +kernel
theorem dX12_longest_46 : decode cX12_longest 46 = .ok (.aload_n 0, 1) := by decide +kernel
theorem dX12_longest_47 : decode cX12_longest 47 = .ok (.iload_n 2, 1) := by decide +kernel
theorem dX12_longest_48 : decode cX12_longest 48 = .ok (.iconst 3, 1) := by decide +kernel
theorem dX12_longest_49 : decode cX12_longest 49 = .ok (.invokevirtual 418, 3) := by decide +kernel
theorem dX12_longest_52 : decode cX12_longest 52 = .ok (.if_icmp .ne 21, 3) := by decide +kernel
theorem dX12_longest_55 : decode cX12_longest 55 = .ok (.iload_n 1, 1) := by decide +kernel
theorem dX12_longest_56 : decode cX12_longest 56 = .ok (.aload_n 0, 1) := by decide +kernel
theorem dX12_longest_57 : decode cX12_longest 57 = .ok (.iload_n 3, 1) := by decide +kernel
theorem dX12_longest_58 : decode cX12_longest 58 = .ok (.iconst 0, 1) := by decide +kernel
theorem dX12_longest_59 : decode cX12_longest 59 = .ok (.invokevirtual 418, 3) := by decide +kernel
theorem dX12_longest_62 : decode cX12_longest 62 = .ok (.aload_n 0, 1) := by decide +kernel
theorem dX12_longest_63 : decode cX12_longest 63 = .ok (.iload_n 2, 1) := by decide +kernel
theorem dX12_longest_64 : decode cX12_longest 64 = .ok (.iconst 0, 1) := by decide +kernel
theorem dX12_longest_65 : decode cX12_longest 65 = .ok (.invokevirtual 418, 3) := by decide +kernel
theorem dX12_longest_68 : decode cX12_longest 68 = .ok (.isub, 1) := by decide +kernel
theorem dX12_longest_69 : decode cX12_longest 69 = .ok (.invokestatic 353, 3) := by decide +kernel
theorem dX12_longest_72 : decode cX12_longest 72 = .ok (.istore_n 1, 1) := by decide +kernel
theorem dX12_longest_73 : decode cX12_longest 73 = .ok (.iinc 2 1, 3) := by decide +kernel
theorem dX12_longest_76 : decode cX12_longest 76 = .ok (.goto (-67), 3) := by decide +kernel
theorem dX12_longest_79 : decode cX12_longest 79 = .ok (.iload_n 1, 1) := by decide +kernel
theorem dX12_longest_80 : decode cX12_longest 80 = .ok (.ireturn, 1) := by decide +kernel
theorem dX12_firstHeld_0 : decode cX12_firstHeld 0 = .ok (.aload_n 0, 1) := by decide +kernel
theorem dX12_firstHeld_1 : decode cX12_firstHeld 1 = .ok (.getfield 13, 3) := by decide +kernel
theorem dX12_firstHeld_4 : decode cX12_firstHeld 4 = .ok (.bipush 14, 2) := by decide +kernel
theorem dX12_firstHeld_6 : decode cX12_firstHeld 6 = .ok (.iaload, 1) := by decide +kernel
theorem dX12_firstHeld_7 : decode cX12_firstHeld 7 = .ok (.iconst 1, 1) := by decide +kernel
theorem dX12_firstHeld_8 : decode cX12_firstHeld 8 = .ok (.isub, 1) := by decide +kernel
theorem dX12_firstHeld_9 : decode cX12_firstHeld 9 = .ok (.istore_n 2, 1) := by decide +kernel
theorem dX12_firstHeld_10 : decode cX12_firstHeld 10 = .ok (.iload_n 2, 1) := by decide +kernel
theorem dX12_firstHeld_11 : decode cX12_firstHeld 11 = .ok (.ifCond .lt 33, 3) := by decide +kernel
theorem dX12_firstHeld_14 : decode cX12_firstHeld 14 = .ok (.aload_n 0, 1) := by decide +kernel
theorem dX12_firstHeld_15 : decode cX12_firstHeld 15 = .ok (.iload_n 2, 1) := by decide +kernel
theorem dX12_firstHeld_16 : decode cX12_firstHeld 16 = .ok (.iconst 1, 1) := by decide +kernel
theorem dX12_firstHeld_17 : decode cX12_firstHeld 17 = .ok (.invokevirtual 418, 3) := by decide +kernel
theorem dX12_firstHeld_20 : decode cX12_firstHeld 20 = .ok (.aload_n 0, 1) := by decide +kernel
theorem dX12_firstHeld_21 : decode cX12_firstHeld 21 = .ok (.iload_n 1, 1) := by decide +kernel
theorem dX12_firstHeld_22 : decode cX12_firstHeld 22 = .ok (.invokevirtual 59, 3) := by decide +kernel
theorem dX12_firstHeld_25 : decode cX12_firstHeld 25 = .ok (.if_icmp .ne 13, 3) := by decide +kernel
theorem dX12_firstHeld_28 : decode cX12_firstHeld 28 = .ok (.aload_n 0, 1) := by decide +kernel
theorem dX12_firstHeld_29 : decode cX12_firstHeld 29 = .ok (.iload_n 2, 1) := by decide +kernel
theorem dX12_firstHeld_30 : decode cX12_firstHeld 30 = .ok (.iconst 2, 1) := by decide +kernel
theorem dX12_firstHeld_31 : decode cX12_firstHeld 31 = .ok (.invokevirtual 418, 3) := by decide +kernel
theorem dX12_firstHeld_34 : decode cX12_firstHeld 34 = .ok (.iconst 1, 1) := by decide +kernel
theorem dX12_firstHeld_35 : decode cX12_firstHeld 35 = .ok (.if_icmp .eq 9, 3) := by decide +kernel
theorem dX12_firstHeld_38 : decode cX12_firstHeld 38 = .ok (.iinc 2 (-1), 3) := by decide +kernel
theorem dX12_firstHeld_41 : decode cX12_firstHeld 41 = .ok (.goto (-31), 3) := by decide +kernel
theorem dX12_firstHeld_44 : decode cX12_firstHeld 44 = .ok (.iload_n 2, 1) := by decide +kernel
theorem dX12_firstHeld_45 : decode cX12_firstHeld 45 = .ok (.ireturn, 1) := by decide +kernel
theorem dX12_overtaken_0 : decode cX12_overtaken 0 = .ok (.aload_n 0, 1) := by decide +kernel
theorem dX12_overtaken_1 : decode cX12_overtaken 1 = .ok (.iconst 0, 1) := by decide +kernel
theorem dX12_overtaken_2 : decode cX12_overtaken 2 = .ok (.putfield 3, 3) := by decide +kernel
theorem dX12_overtaken_5 : decode cX12_overtaken 5 = .ok (.aload_n 0, 1) := by decide +kernel
theorem dX12_overtaken_6 : decode cX12_overtaken 6 = .ok (.iload_n 1, 1) := by decide +kernel
theorem dX12_overtaken_7 : decode cX12_overtaken 7 = .ok (.iconst 0, 1) := by decide +kernel
theorem dX12_overtaken_8 : decode cX12_overtaken 8 = .ok (.iconst 5, 1) := by decide +kernel
theorem dX12_overtaken_9 : decode cX12_overtaken 9 = .ok (.invokestatic 66, 3) := by decide +kernel
theorem dX12_overtaken_12 : decode cX12_overtaken 12 = .ok (.ifCond .ne 7, 3) := by decide +kernel
theorem dX12_overtaken_15 : decode cX12_overtaken 15 = .ok (.iconst 1, 1) := by decide +kernel
theorem dX12_overtaken_16 : decode cX12_overtaken 16 = .ok (.goto 4, 3) := by decide +kernel
theorem dX12_overtaken_19 : decode cX12_overtaken 19 = .ok (.iconst 0, 1) := by decide +kernel
theorem dX12_overtaken_20 : decode cX12_overtaken 20 = .ok (.iconst 1, 1) := by decide +kernel
theorem dX12_overtaken_21 : decode cX12_overtaken 21 = .ok (.invokevirtual 199, 3) := by decide +kernel
theorem dX12_overtaken_24 : decode cX12_overtaken 24 = .ok (.ifCond .eq 5, 3) := by decide +kernel
theorem dX12_overtaken_27 : decode cX12_overtaken 27 = .ok (.iconst 0, 1) := by decide +kernel
theorem dX12_overtaken_28 : decode cX12_overtaken 28 = .ok (.ireturn, 1) := by decide +kernel
theorem dX12_overtaken_29 : decode cX12_overtaken 29 = .ok (.iconst 0, 1) := by decide +kernel
theorem dX12_overtaken_30 : decode cX12_overtaken 30 = .ok (.istore_n 2, 1) := by decide +kernel
theorem dX12_overtaken_31 : decode cX12_overtaken 31 = .ok (.iconst 0, 1) := by decide +kernel
theorem dX12_overtaken_32 : decode cX12_overtaken 32 = .ok (.istore_n 3, 1) := by decide +kernel
theorem dX12_overtaken_33 : decode cX12_overtaken 33 = .ok (.iload_n 3, 1) := by decide +kernel
theorem dX12_overtaken_34 : decode cX12_overtaken 34 = .ok (.bipush 24, 2) := by decide +kernel
theorem dX12_overtaken_36 : decode cX12_overtaken 36 = .ok (.if_icmp .ge 109, 3) := by decide +kernel
theorem dX12_overtaken_39 : decode cX12_overtaken 39 = .ok (.iconst 0, 1) := by decide +kernel
theorem dX12_overtaken_40 : decode cX12_overtaken 40 = .ok (.istore 4, 2) := by decide +kernel
theorem dX12_overtaken_42 : decode cX12_overtaken 42 = .ok (.iload 4, 2) := by decide +kernel
theorem dX12_overtaken_44 : decode cX12_overtaken 44 = .ok (.bipush 24, 2) := by decide +kernel
theorem dX12_overtaken_46 : decode cX12_overtaken 46 = .ok (.if_icmp .ge 93, 3) := by decide +kernel
theorem dX12_overtaken_49 : decode cX12_overtaken 49 = .ok (.aload_n 0, 1) := by decide +kernel
theorem dX12_overtaken_50 : decode cX12_overtaken 50 = .ok (.iload_n 3, 1) := by decide +kernel
theorem dX12_overtaken_51 : decode cX12_overtaken 51 = .ok (.invokevirtual 73, 3) := by decide +kernel
theorem dX12_overtaken_54 : decode cX12_overtaken 54 = .ok (.ifCond .eq 49, 3) := by decide +kernel
theorem dX12_overtaken_57 : decode cX12_overtaken 57 = .ok (.aload_n 0, 1) := by decide +kernel
theorem dX12_overtaken_58 : decode cX12_overtaken 58 = .ok (.iload 4, 2) := by decide +kernel
theorem dX12_overtaken_60 : decode cX12_overtaken 60 = .ok (.invokevirtual 73, 3) := by decide +kernel
theorem dX12_overtaken_63 : decode cX12_overtaken 63 = .ok (.ifCond .eq 40, 3) := by decide +kernel
theorem dX12_overtaken_66 : decode cX12_overtaken 66 = .ok (.aload_n 0, 1) := by decide +kernel
theorem dX12_overtaken_67 : decode cX12_overtaken 67 = .ok (.iload_n 3, 1) := by decide +kernel
theorem dX12_overtaken_68 : decode cX12_overtaken 68 = .ok (.iload_n 1, 1) := by decide +kernel
theorem dX12_overtaken_69 : decode cX12_overtaken 69 = .ok (.invokevirtual 292, 3) := by decide +kernel
theorem dX12_overtaken_72 : decode cX12_overtaken 72 = .ok (.ifCond .eq 31, 3) := by decide +kernel
theorem dX12_overtaken_75 : decode cX12_overtaken 75 = .ok (.aload_n 0, 1) := by decide +kernel
theorem dX12_overtaken_76 : decode cX12_overtaken 76 = .ok (.iload 4, 2) := by decide +kernel
theorem dX12_overtaken_78 : decode cX12_overtaken 78 = .ok (.iload_n 1, 1) := by decide +kernel
theorem dX12_overtaken_79 : decode cX12_overtaken 79 = .ok (.invokevirtual 292, 3) := by decide +kernel
theorem dX12_overtaken_82 : decode cX12_overtaken 82 = .ok (.ifCond .eq 21, 3) := by decide +kernel
theorem dX12_overtaken_85 : decode cX12_overtaken 85 = .ok (.aload_n 0, 1) := by decide +kernel
theorem dX12_overtaken_86 : decode cX12_overtaken 86 = .ok (.iload_n 3, 1) := by decide +kernel
theorem dX12_overtaken_87 : decode cX12_overtaken 87 = .ok (.invokevirtual 59, 3) := by decide +kernel
theorem dX12_overtaken_90 : decode cX12_overtaken 90 = .ok (.aload_n 0, 1) := by decide +kernel
theorem dX12_overtaken_91 : decode cX12_overtaken 91 = .ok (.iload 4, 2) := by decide +kernel
theorem dX12_overtaken_93 : decode cX12_overtaken 93 = .ok (.invokevirtual 59, 3) := by decide +kernel
theorem dX12_overtaken_96 : decode cX12_overtaken 96 = .ok (.if_icmp .le 7, 3) := by decide +kernel
theorem dX12_overtaken_99 : decode cX12_overtaken 99 = .ok (.iconst 1, 1) := by decide +kernel
theorem dX12_overtaken_100 : decode cX12_overtaken 100 = .ok (.goto 4, 3) := by decide +kernel
theorem dX12_overtaken_103 : decode cX12_overtaken 103 = .ok (.iconst 0, 1) := by decide +kernel
theorem dX12_overtaken_104 : decode cX12_overtaken 104 = .ok (.istore 5, 2) := by decide +kernel
theorem dX12_overtaken_106 : decode cX12_overtaken 106 = .ok (.iload_n 2, 1) := by decide +kernel
theorem dX12_overtaken_107 : decode cX12_overtaken 107 = .ok (.iload 5, 2) := by decide +kernel
theorem dX12_overtaken_109 : decode cX12_overtaken 109 = .ok (.ifCond .eq 21, 3) := by decide +kernel
theorem dX12_overtaken_112 : decode cX12_overtaken 112 = .ok (.aload_n 0, 1) := by decide +kernel
theorem dX12_overtaken_113 : decode cX12_overtaken 113 = .ok (.iload_n 3, 1) := by decide +kernel
theorem dX12_overtaken_114 : decode cX12_overtaken 114 = .ok (.invokevirtual 424, 3) := by decide +kernel
theorem dX12_overtaken_117 : decode cX12_overtaken 117 = .ok (.aload_n 0, 1) := by decide +kernel
theorem dX12_overtaken_118 : decode cX12_overtaken 118 = .ok (.iload 4, 2) := by decide +kernel
theorem dX12_overtaken_120 : decode cX12_overtaken 120 = .ok (.invokevirtual 424, 3) := by decide +kernel
theorem dX12_overtaken_123 : decode cX12_overtaken 123 = .ok (.if_icmp .le 7, 3) := by decide +kernel
theorem dX12_overtaken_126 : decode cX12_overtaken 126 = .ok (.iconst 1, 1) := by decide +kernel
theorem dX12_overtaken_127 : decode cX12_overtaken 127 = .ok (.goto 4, 3) := by decide +kernel
theorem dX12_overtaken_130 : decode cX12_overtaken 130 = .ok (.iconst 0, 1) := by decide +kernel
theorem dX12_overtaken_131 : decode cX12_overtaken 131 = .ok (.iadd, 1) := by decide +kernel
theorem dX12_overtaken_132 : decode cX12_overtaken 132 = .ok (.istore_n 2, 1) := by decide +kernel
theorem dX12_overtaken_133 : decode cX12_overtaken 133 = .ok (.iinc 4 1, 3) := by decide +kernel
theorem dX12_overtaken_136 : decode cX12_overtaken 136 = .ok (.goto (-94), 3) := by decide +kernel
theorem dX12_overtaken_139 : decode cX12_overtaken 139 = .ok (.iinc 3 1, 3) := by decide +kernel
theorem dX12_overtaken_142 : decode cX12_overtaken 142 = .ok (.goto (-109), 3) := by decide +kernel
theorem dX12_overtaken_145 : decode cX12_overtaken 145 = .ok (.iload_n 2, 1) := by decide +kernel
theorem dX12_overtaken_146 : decode cX12_overtaken 146 = .ok (.ireturn, 1) := by decide +kernel
theorem dX12_log_0 : decode cX12_log 0 = .ok (.aload_n 0, 1) := by decide +kernel
theorem dX12_log_1 : decode cX12_log 1 = .ok (.iconst 0, 1) := by decide +kernel
theorem dX12_log_2 : decode cX12_log 2 = .ok (.putfield 3, 3) := by decide +kernel
theorem dX12_log_5 : decode cX12_log 5 = .ok (.aload_n 0, 1) := by decide +kernel
theorem dX12_log_6 : decode cX12_log 6 = .ok (.iload_n 2, 1) := by decide +kernel
theorem dX12_log_7 : decode cX12_log 7 = .ok (.iconst 0, 1) := by decide +kernel
theorem dX12_log_8 : decode cX12_log 8 = .ok (.iconst 4, 1) := by decide +kernel
theorem dX12_log_9 : decode cX12_log 9 = .ok (.invokestatic 66, 3) := by decide +kernel
theorem dX12_log_12 : decode cX12_log 12 = .ok (.ifCond .ne 7, 3) := by decide +kernel
theorem dX12_log_15 : decode cX12_log 15 = .ok (.iconst 1, 1) := by decide +kernel
theorem dX12_log_16 : decode cX12_log 16 = .ok (.goto 4, 3) := by decide +kernel
theorem dX12_log_19 : decode cX12_log 19 = .ok (.iconst 0, 1) := by decide +kernel
theorem dX12_log_20 : decode cX12_log 20 = .ok (.iconst 1, 1) := by decide +kernel
theorem dX12_log_21 : decode cX12_log 21 = .ok (.invokevirtual 199, 3) := by decide +kernel
theorem dX12_log_24 : decode cX12_log 24 = .ok (.ifCond .eq 5, 3) := by decide +kernel
theorem dX12_log_27 : decode cX12_log 27 = .ok (.iconst 0, 1) := by decide +kernel
theorem dX12_log_28 : decode cX12_log 28 = .ok (.ireturn, 1) := by decide +kernel
theorem dX12_log_29 : decode cX12_log 29 = .ok (.iload_n 1, 1) := by decide +kernel
theorem dX12_log_30 : decode cX12_log 30 = .ok (.iconst 0, 1) := by decide +kernel
theorem dX12_log_31 : decode cX12_log 31 = .ok (.aload_n 0, 1) := by decide +kernel
theorem dX12_log_32 : decode cX12_log 32 = .ok (.getfield 13, 3) := by decide +kernel
theorem dX12_log_35 : decode cX12_log 35 = .ok (.bipush 14, 2) := by decide +kernel
theorem dX12_log_37 : decode cX12_log 37 = .ok (.iaload, 1) := by decide +kernel
theorem dX12_log_38 : decode cX12_log 38 = .ok (.iconst 1, 1) := by decide +kernel
theorem dX12_log_39 : decode cX12_log 39 = .ok (.isub, 1) := by decide +kernel
theorem dX12_log_40 : decode cX12_log 40 = .ok (.invokestatic 66, 3) := by decide +kernel
theorem dX12_log_43 : decode cX12_log 43 = .ok (.ifCond .eq 12, 3) := by decide +kernel
theorem dX12_log_46 : decode cX12_log 46 = .ok (.aload_n 0, 1) := by decide +kernel
theorem dX12_log_47 : decode cX12_log 47 = .ok (.iload_n 1, 1) := by decide +kernel
theorem dX12_log_48 : decode cX12_log 48 = .ok (.iload_n 2, 1) := by decide +kernel
theorem dX12_log_49 : decode cX12_log 49 = .ok (.invokevirtual 418, 3) := by decide +kernel
theorem dX12_log_52 : decode cX12_log 52 = .ok (.goto 4, 3) := by decide +kernel
theorem dX12_log_55 : decode cX12_log 55 = .ok (.iconst (-1), 1) := by decide +kernel
theorem dX12_log_56 : decode cX12_log 56 = .ok (.ireturn, 1) := by decide +kernel
theorem dX12_alike_0 : decode cX12_alike 0 = .ok (.aload_n 0, 1) := by decide +kernel
theorem dX12_alike_1 : decode cX12_alike 1 = .ok (.iconst (-1), 1) := by decide +kernel
theorem dX12_alike_2 : decode cX12_alike 2 = .ok (.iload_n 1, 1) := by decide +kernel
theorem dX12_alike_3 : decode cX12_alike 3 = .ok (.invokevirtual 337, 3) := by decide +kernel
theorem dX12_alike_6 : decode cX12_alike 6 = .ok (.istore_n 3, 1) := by decide +kernel
theorem dX12_alike_7 : decode cX12_alike 7 = .ok (.iload_n 3, 1) := by decide +kernel
theorem dX12_alike_8 : decode cX12_alike 8 = .ok (.iconst (-1), 1) := by decide +kernel
theorem dX12_alike_9 : decode cX12_alike 9 = .ok (.if_icmp .ne 7, 3) := by decide +kernel
theorem dX12_alike_12 : decode cX12_alike 12 = .ok (.iconst (-1), 1) := by decide +kernel
theorem dX12_alike_13 : decode cX12_alike 13 = .ok (.goto 9, 3) := by decide +kernel
theorem dX12_alike_16 : decode cX12_alike 16 = .ok (.aload_n 0, 1) := by decide +kernel
theorem dX12_alike_17 : decode cX12_alike 17 = .ok (.iconst (-1), 1) := by decide +kernel
theorem dX12_alike_18 : decode cX12_alike 18 = .ok (.iload_n 2, 1) := by decide +kernel
theorem dX12_alike_19 : decode cX12_alike 19 = .ok (.invokevirtual 337, 3) := by decide +kernel
theorem dX12_alike_22 : decode cX12_alike 22 = .ok (.istore 4, 2) := by decide +kernel
theorem dX12_alike_24 : decode cX12_alike 24 = .ok (.iload 4, 2) := by decide +kernel
theorem dX12_alike_26 : decode cX12_alike 26 = .ok (.iconst (-1), 1) := by decide +kernel
theorem dX12_alike_27 : decode cX12_alike 27 = .ok (.if_icmp .eq 22, 3) := by decide +kernel
theorem dX12_alike_30 : decode cX12_alike 30 = .ok (.aload_n 0, 1) := by decide +kernel
theorem dX12_alike_31 : decode cX12_alike 31 = .ok (.iload_n 3, 1) := by decide +kernel
theorem dX12_alike_32 : decode cX12_alike 32 = .ok (.iload 4, 2) := by decide +kernel
theorem dX12_alike_34 : decode cX12_alike 34 = .ok (.if_icmp .ne 7, 3) := by decide +kernel
theorem dX12_alike_37 : decode cX12_alike 37 = .ok (.iconst 1, 1) := by decide +kernel
theorem dX12_alike_38 : decode cX12_alike 38 = .ok (.goto 4, 3) := by decide +kernel
theorem dX12_alike_41 : decode cX12_alike 41 = .ok (.iconst 0, 1) := by decide +kernel
theorem dX12_alike_42 : decode cX12_alike 42 = .ok (.iconst 2, 1) := by decide +kernel
theorem dX12_alike_43 : decode cX12_alike 43 = .ok (.invokevirtual 199, 3) := by decide +kernel
theorem dX12_alike_46 : decode cX12_alike 46 = .ok (.ifCond .eq 5, 3) := by decide +kernel
theorem dX12_alike_49 : decode cX12_alike 49 = .ok (.iconst 0, 1) := by decide +kernel
theorem dX12_alike_50 : decode cX12_alike 50 = .ok (.ireturn, 1) := by decide +kernel
theorem dX12_alike_51 : decode cX12_alike 51 = .ok (.iload_n 3, 1) := by decide +kernel
theorem dX12_alike_52 : decode cX12_alike 52 = .ok (.iconst 3, 1) := by decide +kernel
theorem dX12_alike_53 : decode cX12_alike 53 = .ok (.invokestatic 51, 3) := by decide +kernel
theorem dX12_alike_56 : decode cX12_alike 56 = .ok (.istore 5, 2) := by decide +kernel
theorem dX12_alike_58 : decode cX12_alike 58 = .ok (.iload 4, 2) := by decide +kernel
theorem dX12_alike_60 : decode cX12_alike 60 = .ok (.iconst 3, 1) := by decide +kernel
theorem dX12_alike_61 : decode cX12_alike 61 = .ok (.invokestatic 51, 3) := by decide +kernel
theorem dX12_alike_64 : decode cX12_alike 64 = .ok (.istore 6, 2) := by decide +kernel
theorem dX12_alike_66 : decode cX12_alike 66 = .ok (.iconst 0, 1) := by decide +kernel
theorem dX12_alike_67 : decode cX12_alike 67 = .ok (.istore 7, 2) := by decide +kernel
theorem dX12_alike_69 : decode cX12_alike 69 = .ok (.iload 7, 2) := by decide +kernel
theorem dX12_alike_71 : decode cX12_alike 71 = .ok (.aload_n 0, 1) := by decide +kernel
theorem dX12_alike_72 : decode cX12_alike 72 = .ok (.getfield 13, 3) := by decide +kernel
theorem dX12_alike_75 : decode cX12_alike 75 = .ok (.iload 5, 2) := by decide +kernel
theorem dX12_alike_77 : decode cX12_alike 77 = .ok (.bipush 7, 2) := by decide +kernel
theorem dX12_alike_79 : decode cX12_alike 79 = .ok (.iadd, 1) := by decide +kernel
theorem dX12_alike_80 : decode cX12_alike 80 = .ok (.iaload, 1) := by decide +kernel
theorem dX12_alike_81 : decode cX12_alike 81 = .ok (.if_icmp .ge 53, 3) := by decide +kernel
theorem dX12_alike_84 : decode cX12_alike 84 = .ok (.iload 7, 2) := by decide +kernel
theorem dX12_alike_86 : decode cX12_alike 86 = .ok (.aload_n 0, 1) := by decide +kernel
theorem dX12_alike_87 : decode cX12_alike 87 = .ok (.getfield 13, 3) := by decide +kernel
theorem dX12_alike_90 : decode cX12_alike 90 = .ok (.iload 6, 2) := by decide +kernel
theorem dX12_alike_92 : decode cX12_alike 92 = .ok (.bipush 7, 2) := by decide +kernel
theorem dX12_alike_94 : decode cX12_alike 94 = .ok (.iadd, 1) := by decide +kernel
theorem dX12_alike_95 : decode cX12_alike 95 = .ok (.iaload, 1) := by decide +kernel
theorem dX12_alike_96 : decode cX12_alike 96 = .ok (.if_icmp .ge 38, 3) := by decide +kernel
theorem dX12_alike_99 : decode cX12_alike 99 = .ok (.aload_n 0, 1) := by decide +kernel
theorem dX12_alike_100 : decode cX12_alike 100 = .ok (.getfield 13, 3) := by decide +kernel
theorem dX12_alike_103 : decode cX12_alike 103 = .ok (.iload 5, 2) := by decide +kernel
theorem dX12_alike_105 : decode cX12_alike 105 = .ok (.bipush 13, 2) := by decide +kernel
theorem dX12_alike_107 : decode cX12_alike 107 = .ok (.iadd, 1) := by decide +kernel
theorem dX12_alike_108 : decode cX12_alike 108 = .ok (.iload 7, 2) := by decide +kernel
theorem dX12_alike_110 : decode cX12_alike 110 = .ok (.iadd, 1) := by decide +kernel
theorem dX12_alike_111 : decode cX12_alike 111 = .ok (.iaload, 1) := by decide +kernel
theorem dX12_alike_112 : decode cX12_alike 112 = .ok (.aload_n 0, 1) := by decide +kernel
theorem dX12_alike_113 : decode cX12_alike 113 = .ok (.getfield 13, 3) := by decide +kernel
theorem dX12_alike_116 : decode cX12_alike 116 = .ok (.iload 6, 2) := by decide +kernel
theorem dX12_alike_118 : decode cX12_alike 118 = .ok (.bipush 13, 2) := by decide +kernel
theorem dX12_alike_120 : decode cX12_alike 120 = .ok (.iadd, 1) := by decide +kernel
theorem dX12_alike_121 : decode cX12_alike 121 = .ok (.iload 7, 2) := by decide +kernel
theorem dX12_alike_123 : decode cX12_alike 123 = .ok (.iadd, 1) := by decide +kernel
theorem dX12_alike_124 : decode cX12_alike 124 = .ok (.iaload, 1) := by decide +kernel
theorem dX12_alike_125 : decode cX12_alike 125 = .ok (.if_icmp .ne 9, 3) := by decide +kernel
theorem dX12_alike_128 : decode cX12_alike 128 = .ok (.iinc 7 1, 3) := by decide +kernel
theorem dX12_alike_131 : decode cX12_alike 131 = .ok (.goto (-62), 3) := by decide +kernel
theorem dX12_alike_134 : decode cX12_alike 134 = .ok (.iload 7, 2) := by decide +kernel
theorem dX12_alike_136 : decode cX12_alike 136 = .ok (.ireturn, 1) := by decide +kernel
theorem dX12_root_0 : decode cX12_root 0 = .ok (.aload_n 0, 1) := by decide +kernel
theorem dX12_root_1 : decode cX12_root 1 = .ok (.iconst 0, 1) := by decide +kernel
theorem dX12_root_2 : decode cX12_root 2 = .ok (.putfield 3, 3) := by decide +kernel
theorem dX12_root_5 : decode cX12_root 5 = .ok (.aload_n 0, 1) := by decide +kernel
theorem dX12_root_6 : decode cX12_root 6 = .ok (.iload_n 1, 1) := by decide +kernel
theorem dX12_root_7 : decode cX12_root 7 = .ok (.iconst 0, 1) := by decide +kernel
theorem dX12_root_8 : decode cX12_root 8 = .ok (.bipush 6, 2) := by decide +kernel
theorem dX12_root_10 : decode cX12_root 10 = .ok (.invokestatic 66, 3) := by decide +kernel
theorem dX12_root_13 : decode cX12_root 13 = .ok (.ifCond .ne 7, 3) := by decide +kernel
theorem dX12_root_16 : decode cX12_root 16 = .ok (.iconst 1, 1) := by decide +kernel
theorem dX12_root_17 : decode cX12_root 17 = .ok (.goto 4, 3) := by decide +kernel
theorem dX12_root_20 : decode cX12_root 20 = .ok (.iconst 0, 1) := by decide +kernel
theorem dX12_root_21 : decode cX12_root 21 = .ok (.iconst 1, 1) := by decide +kernel
theorem dX12_root_22 : decode cX12_root 22 = .ok (.invokevirtual 199, 3) := by decide +kernel
theorem dX12_root_25 : decode cX12_root 25 = .ok (.ifCond .eq 5, 3) := by decide +kernel
theorem dX12_root_28 : decode cX12_root 28 = .ok (.iconst 0, 1) := by decide +kernel
theorem dX12_root_29 : decode cX12_root 29 = .ok (.ireturn, 1) := by decide +kernel
theorem dX12_root_30 : decode cX12_root 30 = .ok (.iconst 0, 1) := by decide +kernel
theorem dX12_root_31 : decode cX12_root 31 = .ok (.istore_n 2, 1) := by decide +kernel
theorem dX12_root_32 : decode cX12_root 32 = .ok (.iconst 0, 1) := by decide +kernel
theorem dX12_root_33 : decode cX12_root 33 = .ok (.istore_n 3, 1) := by decide +kernel
theorem dX12_root_34 : decode cX12_root 34 = .ok (.iload_n 3, 1) := by decide +kernel
theorem dX12_root_35 : decode cX12_root 35 = .ok (.bipush 24, 2) := by decide +kernel
theorem dX12_root_37 : decode cX12_root 37 = .ok (.if_icmp .ge 85, 3) := by decide +kernel
theorem dX12_root_40 : decode cX12_root 40 = .ok (.iload_n 3, 1) := by decide +kernel
theorem dX12_root_41 : decode cX12_root 41 = .ok (.iconst 3, 1) := by decide +kernel
theorem dX12_root_42 : decode cX12_root 42 = .ok (.invokestatic 51, 3) := by decide +kernel
theorem dX12_root_45 : decode cX12_root 45 = .ok (.istore 4, 2) := by decide +kernel
theorem dX12_root_47 : decode cX12_root 47 = .ok (.iload_n 2, 1) := by decide +kernel
theorem dX12_root_48 : decode cX12_root 48 = .ok (.aload_n 0, 1) := by decide +kernel
theorem dX12_root_49 : decode cX12_root 49 = .ok (.iload_n 3, 1) := by decide +kernel
theorem dX12_root_50 : decode cX12_root 50 = .ok (.invokevirtual 73, 3) := by decide +kernel
theorem dX12_root_53 : decode cX12_root 53 = .ok (.ifCond .eq 60, 3) := by decide +kernel
theorem dX12_root_56 : decode cX12_root 56 = .ok (.aload_n 0, 1) := by decide +kernel
theorem dX12_root_57 : decode cX12_root 57 = .ok (.getfield 13, 3) := by decide +kernel
theorem dX12_root_60 : decode cX12_root 60 = .ok (.iload 4, 2) := by decide +kernel
theorem dX12_root_62 : decode cX12_root 62 = .ok (.iconst 3, 1) := by decide +kernel
theorem dX12_root_63 : decode cX12_root 63 = .ok (.iadd, 1) := by decide +kernel
theorem dX12_root_64 : decode cX12_root 64 = .ok (.iaload, 1) := by decide +kernel
theorem dX12_root_65 : decode cX12_root 65 = .ok (.iconst 3, 1) := by decide +kernel
theorem dX12_root_66 : decode cX12_root 66 = .ok (.if_icmp .ne 47, 3) := by decide +kernel
theorem dX12_root_69 : decode cX12_root 69 = .ok (.aload_n 0, 1) := by decide +kernel
theorem dX12_root_70 : decode cX12_root 70 = .ok (.getfield 13, 3) := by decide +kernel
theorem dX12_root_73 : decode cX12_root 73 = .ok (.iload 4, 2) := by decide +kernel
theorem dX12_root_75 : decode cX12_root 75 = .ok (.bipush 7, 2) := by decide +kernel
theorem dX12_root_77 : decode cX12_root 77 = .ok (.iadd, 1) := by decide +kernel
theorem dX12_root_78 : decode cX12_root 78 = .ok (.iaload, 1) := by decide +kernel
theorem dX12_root_79 : decode cX12_root 79 = .ok (.ifCond .le 34, 3) := by decide +kernel
theorem dX12_root_82 : decode cX12_root 82 = .ok (.aload_n 0, 1) := by decide +kernel
theorem dX12_root_83 : decode cX12_root 83 = .ok (.getfield 13, 3) := by decide +kernel
theorem dX12_root_86 : decode cX12_root 86 = .ok (.iload 4, 2) := by decide +kernel
theorem dX12_root_88 : decode cX12_root 88 = .ok (.bipush 13, 2) := by decide +kernel
theorem dX12_root_90 : decode cX12_root 90 = .ok (.iadd, 1) := by decide +kernel
theorem dX12_root_91 : decode cX12_root 91 = .ok (.aload_n 0, 1) := by decide +kernel
theorem dX12_root_92 : decode cX12_root 92 = .ok (.getfield 13, 3) := by decide +kernel
theorem dX12_root_95 : decode cX12_root 95 = .ok (.iload 4, 2) := by decide +kernel
theorem dX12_root_97 : decode cX12_root 97 = .ok (.bipush 7, 2) := by decide +kernel
theorem dX12_root_99 : decode cX12_root 99 = .ok (.iadd, 1) := by decide +kernel
theorem dX12_root_100 : decode cX12_root 100 = .ok (.iaload, 1) := by decide +kernel
theorem dX12_root_101 : decode cX12_root 101 = .ok (.iadd, 1) := by decide +kernel
theorem dX12_root_102 : decode cX12_root 102 = .ok (.iconst 1, 1) := by decide +kernel
theorem dX12_root_103 : decode cX12_root 103 = .ok (.isub, 1) := by decide +kernel
theorem dX12_root_104 : decode cX12_root 104 = .ok (.iaload, 1) := by decide +kernel
theorem dX12_root_105 : decode cX12_root 105 = .ok (.iload_n 1, 1) := by decide +kernel
theorem dX12_root_106 : decode cX12_root 106 = .ok (.if_icmp .ne 7, 3) := by decide +kernel
theorem dX12_root_109 : decode cX12_root 109 = .ok (.iconst 1, 1) := by decide +kernel
theorem dX12_root_110 : decode cX12_root 110 = .ok (.goto 4, 3) := by decide +kernel
theorem dX12_root_113 : decode cX12_root 113 = .ok (.iconst 0, 1) := by decide +kernel
theorem dX12_root_114 : decode cX12_root 114 = .ok (.iadd, 1) := by decide +kernel
theorem dX12_root_115 : decode cX12_root 115 = .ok (.istore_n 2, 1) := by decide +kernel
theorem dX12_root_116 : decode cX12_root 116 = .ok (.iinc 3 1, 3) := by decide +kernel
theorem dX12_root_119 : decode cX12_root 119 = .ok (.goto (-85), 3) := by decide +kernel
theorem dX12_root_122 : decode cX12_root 122 = .ok (.iload_n 2, 1) := by decide +kernel
theorem dX12_root_123 : decode cX12_root 123 = .ok (.ireturn, 1) := by decide +kernel
theorem dX12_isOfKind_0 : decode cX12_isOfKind 0 = .ok (.iload_n 2, 1) := by decide +kernel
theorem dX12_isOfKind_1 : decode cX12_isOfKind 1 = .ok (.iconst 4, 1) := by decide +kernel
theorem dX12_isOfKind_2 : decode cX12_isOfKind 2 = .ok (.if_icmp .ne 18, 3) := by decide +kernel
theorem dX12_isOfKind_5 : decode cX12_isOfKind 5 = .ok (.aload_n 0, 1) := by decide +kernel
theorem dX12_isOfKind_6 : decode cX12_isOfKind 6 = .ok (.iload_n 1, 1) := by decide +kernel
theorem dX12_isOfKind_7 : decode cX12_isOfKind 7 = .ok (.invokevirtual 70, 3) := by decide +kernel
theorem dX12_isOfKind_10 : decode cX12_isOfKind 10 = .ok (.iconst (-1), 1) := by decide +kernel
theorem dX12_isOfKind_11 : decode cX12_isOfKind 11 = .ok (.if_icmp .eq 7, 3) := by decide +kernel
theorem dX12_isOfKind_14 : decode cX12_isOfKind 14 = .ok (.iconst 1, 1) := by decide +kernel
theorem dX12_isOfKind_15 : decode cX12_isOfKind 15 = .ok (.goto 4, 3) := by decide +kernel
theorem dX12_isOfKind_18 : decode cX12_isOfKind 18 = .ok (.iconst 0, 1) := by decide +kernel
theorem dX12_isOfKind_19 : decode cX12_isOfKind 19 = .ok (.ireturn, 1) := by decide +kernel
theorem dX12_isOfKind_20 : decode cX12_isOfKind 20 = .ok (.aload_n 0, 1) := by decide +kernel
theorem dX12_isOfKind_21 : decode cX12_isOfKind 21 = .ok (.iload_n 1, 1) := by decide +kernel
theorem dX12_isOfKind_22 : decode cX12_isOfKind 22 = .ok (.invokevirtual 73, 3) := by decide +kernel
theorem dX12_isOfKind_25 : decode cX12_isOfKind 25 = .ok (.ifCond .ne 5, 3) := by decide +kernel
theorem dX12_isOfKind_28 : decode cX12_isOfKind 28 = .ok (.iconst 0, 1) := by decide +kernel
theorem dX12_isOfKind_29 : decode cX12_isOfKind 29 = .ok (.ireturn, 1) := by decide +kernel
theorem dX12_isOfKind_30 : decode cX12_isOfKind 30 = .ok (.iload_n 1, 1) := by decide +kernel
theorem dX12_isOfKind_31 : decode cX12_isOfKind 31 = .ok (.iconst 3, 1) := by decide +kernel
theorem dX12_isOfKind_32 : decode cX12_isOfKind 32 = .ok (.invokestatic 51, 3) := by decide +kernel
theorem dX12_isOfKind_35 : decode cX12_isOfKind 35 = .ok (.istore_n 3, 1) := by decide +kernel
theorem dX12_isOfKind_36 : decode cX12_isOfKind 36 = .ok (.iload_n 2, 1) := by decide +kernel
theorem dX12_isOfKind_37 : decode cX12_isOfKind 37 = .ok (.iconst 5, 1) := by decide +kernel
theorem dX12_isOfKind_38 : decode cX12_isOfKind 38 = .ok (.if_icmp .ne 37, 3) := by decide +kernel
theorem dX12_isOfKind_41 : decode cX12_isOfKind 41 = .ok (.aload_n 0, 1) := by decide +kernel
theorem dX12_isOfKind_42 : decode cX12_isOfKind 42 = .ok (.getfield 13, 3) := by decide +kernel
theorem dX12_isOfKind_45 : decode cX12_isOfKind 45 = .ok (.iload_n 3, 1) := by decide +kernel
theorem dX12_isOfKind_46 : decode cX12_isOfKind 46 = .ok (.iconst 3, 1) := by decide +kernel
theorem dX12_isOfKind_47 : decode cX12_isOfKind 47 = .ok (.iadd, 1) := by decide +kernel
theorem dX12_isOfKind_48 : decode cX12_isOfKind 48 = .ok (.iaload, 1) := by decide +kernel
theorem dX12_isOfKind_49 : decode cX12_isOfKind 49 = .ok (.ifCond .ne 24, 3) := by decide +kernel
theorem dX12_isOfKind_52 : decode cX12_isOfKind 52 = .ok (.aload_n 0, 1) := by decide +kernel
theorem dX12_isOfKind_53 : decode cX12_isOfKind 53 = .ok (.getfield 13, 3) := by decide +kernel
theorem dX12_isOfKind_56 : decode cX12_isOfKind 56 = .ok (.iload_n 3, 1) := by decide +kernel
theorem dX12_isOfKind_57 : decode cX12_isOfKind 57 = .ok (.iconst 5, 1) := by decide +kernel
theorem dX12_isOfKind_58 : decode cX12_isOfKind 58 = .ok (.iadd, 1) := by decide +kernel
theorem dX12_isOfKind_59 : decode cX12_isOfKind 59 = .ok (.iaload, 1) := by decide +kernel
theorem dX12_isOfKind_60 : decode cX12_isOfKind 60 = .ok (.aload_n 0, 1) := by decide +kernel
theorem dX12_isOfKind_61 : decode cX12_isOfKind 61 = .ok (.getfield 13, 3) := by decide +kernel
theorem dX12_isOfKind_64 : decode cX12_isOfKind 64 = .ok (.iconst 3, 1) := by decide +kernel
theorem dX12_isOfKind_65 : decode cX12_isOfKind 65 = .ok (.iaload, 1) := by decide +kernel
theorem dX12_isOfKind_66 : decode cX12_isOfKind 66 = .ok (.if_icmp .gt 7, 3) := by decide +kernel
theorem dX12_isOfKind_69 : decode cX12_isOfKind 69 = .ok (.iconst 1, 1) := by decide +kernel
theorem dX12_isOfKind_70 : decode cX12_isOfKind 70 = .ok (.goto 4, 3) := by decide +kernel
theorem dX12_isOfKind_73 : decode cX12_isOfKind 73 = .ok (.iconst 0, 1) := by decide +kernel
theorem dX12_isOfKind_74 : decode cX12_isOfKind 74 = .ok (.ireturn, 1) := by decide +kernel
theorem dX12_isOfKind_75 : decode cX12_isOfKind 75 = .ok (.iload_n 2, 1) := by decide +kernel
theorem dX12_isOfKind_76 : decode cX12_isOfKind 76 = .ok (.bipush 6, 2) := by decide +kernel
theorem dX12_isOfKind_78 : decode cX12_isOfKind 78 = .ok (.if_icmp .ne 39, 3) := by decide +kernel
theorem dX12_isOfKind_81 : decode cX12_isOfKind 81 = .ok (.aload_n 0, 1) := by decide +kernel
theorem dX12_isOfKind_82 : decode cX12_isOfKind 82 = .ok (.getfield 13, 3) := by decide +kernel
theorem dX12_isOfKind_85 : decode cX12_isOfKind 85 = .ok (.iload_n 3, 1) := by decide +kernel
theorem dX12_isOfKind_86 : decode cX12_isOfKind 86 = .ok (.iconst 3, 1) := by decide +kernel
theorem dX12_isOfKind_87 : decode cX12_isOfKind 87 = .ok (.iadd, 1) := by decide +kernel
theorem dX12_isOfKind_88 : decode cX12_isOfKind 88 = .ok (.iaload, 1) := by decide +kernel
theorem dX12_isOfKind_89 : decode cX12_isOfKind 89 = .ok (.iconst 1, 1) := by decide +kernel
theorem dX12_isOfKind_90 : decode cX12_isOfKind 90 = .ok (.if_icmp .ne 25, 3) := by decide +kernel
theorem dX12_isOfKind_93 : decode cX12_isOfKind 93 = .ok (.aload_n 0, 1) := by decide +kernel
theorem dX12_isOfKind_94 : decode cX12_isOfKind 94 = .ok (.getfield 13, 3) := by decide +kernel
theorem dX12_isOfKind_97 : decode cX12_isOfKind 97 = .ok (.iload_n 3, 1) := by decide +kernel
theorem dX12_isOfKind_98 : decode cX12_isOfKind 98 = .ok (.bipush 10, 2) := by decide +kernel
theorem dX12_isOfKind_100 : decode cX12_isOfKind 100 = .ok (.iadd, 1) := by decide +kernel
theorem dX12_isOfKind_101 : decode cX12_isOfKind 101 = .ok (.iaload, 1) := by decide +kernel
theorem dX12_isOfKind_102 : decode cX12_isOfKind 102 = .ok (.aload_n 0, 1) := by decide +kernel
theorem dX12_isOfKind_103 : decode cX12_isOfKind 103 = .ok (.getfield 13, 3) := by decide +kernel
theorem dX12_isOfKind_106 : decode cX12_isOfKind 106 = .ok (.iconst 3, 1) := by decide +kernel
theorem dX12_isOfKind_107 : decode cX12_isOfKind 107 = .ok (.iaload, 1) := by decide +kernel
theorem dX12_isOfKind_108 : decode cX12_isOfKind 108 = .ok (.if_icmp .ge 7, 3) := by decide +kernel
theorem dX12_isOfKind_111 : decode cX12_isOfKind 111 = .ok (.iconst 1, 1) := by decide +kernel
theorem dX12_isOfKind_112 : decode cX12_isOfKind 112 = .ok (.goto 4, 3) := by decide +kernel
theorem dX12_isOfKind_115 : decode cX12_isOfKind 115 = .ok (.iconst 0, 1) := by decide +kernel
theorem dX12_isOfKind_116 : decode cX12_isOfKind 116 = .ok (.ireturn, 1) := by decide +kernel
theorem dX12_isOfKind_117 : decode cX12_isOfKind 117 = .ok (.aload_n 0, 1) := by decide +kernel
theorem dX12_isOfKind_118 : decode cX12_isOfKind 118 = .ok (.getfield 13, 3) := by decide +kernel
theorem dX12_isOfKind_121 : decode cX12_isOfKind 121 = .ok (.iload_n 3, 1) := by decide +kernel
theorem dX12_isOfKind_122 : decode cX12_isOfKind 122 = .ok (.iconst 3, 1) := by decide +kernel
theorem dX12_isOfKind_123 : decode cX12_isOfKind 123 = .ok (.iadd, 1) := by decide +kernel
theorem dX12_isOfKind_124 : decode cX12_isOfKind 124 = .ok (.iaload, 1) := by decide +kernel
theorem dX12_isOfKind_125 : decode cX12_isOfKind 125 = .ok (.iload_n 2, 1) := by decide +kernel
theorem dX12_isOfKind_126 : decode cX12_isOfKind 126 = .ok (.if_icmp .ne 7, 3) := by decide +kernel
theorem dX12_isOfKind_129 : decode cX12_isOfKind 129 = .ok (.iconst 1, 1) := by decide +kernel
theorem dX12_isOfKind_130 : decode cX12_isOfKind 130 = .ok (.goto 4, 3) := by decide +kernel
theorem dX12_isOfKind_133 : decode cX12_isOfKind 133 = .ok (.iconst 0, 1) := by decide +kernel
theorem dX12_isOfKind_134 : decode cX12_isOfKind 134 = .ok (.ireturn, 1) := by decide +kernel
theorem dX12_find_0 : decode cX12_find 0 = .ok (.aload_n 0, 1) := by decide +kernel
theorem dX12_find_1 : decode cX12_find 1 = .ok (.iconst 0, 1) := by decide +kernel
theorem dX12_find_2 : decode cX12_find 2 = .ok (.putfield 3, 3) := by decide +kernel
theorem dX12_find_5 : decode cX12_find 5 = .ok (.aload_n 0, 1) := by decide +kernel
theorem dX12_find_6 : decode cX12_find 6 = .ok (.iload_n 1, 1) := by decide +kernel
theorem dX12_find_7 : decode cX12_find 7 = .ok (.iconst 0, 1) := by decide +kernel
theorem dX12_find_8 : decode cX12_find 8 = .ok (.bipush 6, 2) := by decide +kernel
theorem dX12_find_10 : decode cX12_find 10 = .ok (.invokestatic 66, 3) := by decide +kernel
theorem dX12_find_13 : decode cX12_find 13 = .ok (.ifCond .ne 7, 3) := by decide +kernel
theorem dX12_find_16 : decode cX12_find 16 = .ok (.iconst 1, 1) := by decide +kernel
theorem dX12_find_17 : decode cX12_find 17 = .ok (.goto 4, 3) := by decide +kernel
theorem dX12_find_20 : decode cX12_find 20 = .ok (.iconst 0, 1) := by decide +kernel
theorem dX12_find_21 : decode cX12_find 21 = .ok (.iconst 1, 1) := by decide +kernel
theorem dX12_find_22 : decode cX12_find 22 = .ok (.invokevirtual 199, 3) := by decide +kernel
theorem dX12_find_25 : decode cX12_find 25 = .ok (.ifCond .eq 5, 3) := by decide +kernel
theorem dX12_find_28 : decode cX12_find 28 = .ok (.iconst 0, 1) := by decide +kernel
theorem dX12_find_29 : decode cX12_find 29 = .ok (.ireturn, 1) := by decide +kernel
theorem dX12_find_30 : decode cX12_find 30 = .ok (.iload_n 2, 1) := by decide +kernel
theorem dX12_find_31 : decode cX12_find 31 = .ok (.istore_n 3, 1) := by decide +kernel
theorem dX12_find_32 : decode cX12_find 32 = .ok (.aload_n 0, 1) := by decide +kernel
theorem dX12_find_33 : decode cX12_find 33 = .ok (.iconst (-1), 1) := by decide +kernel
theorem dX12_find_34 : decode cX12_find 34 = .ok (.invokevirtual 263, 3) := by decide +kernel
theorem dX12_find_37 : decode cX12_find 37 = .ok (.istore 4, 2) := by decide +kernel
theorem dX12_find_39 : decode cX12_find 39 = .ok (.iload 4, 2) := by decide +kernel
theorem dX12_find_41 : decode cX12_find 41 = .ok (.iconst (-1), 1) := by decide +kernel
theorem dX12_find_42 : decode cX12_find 42 = .ok (.if_icmp .eq 49, 3) := by decide +kernel
theorem dX12_find_45 : decode cX12_find 45 = .ok (.iload_n 3, 1) := by decide +kernel
theorem dX12_find_46 : decode cX12_find 46 = .ok (.ifCond .lt 45, 3) := by decide +kernel
theorem dX12_find_49 : decode cX12_find 49 = .ok (.aload_n 0, 1) := by decide +kernel
theorem dX12_find_50 : decode cX12_find 50 = .ok (.iload 4, 2) := by decide +kernel
theorem dX12_find_52 : decode cX12_find 52 = .ok (.iload_n 1, 1) := by decide +kernel
theorem dX12_find_53 : decode cX12_find 53 = .ok (.invokevirtual 427, 3) := by decide +kernel
theorem dX12_find_56 : decode cX12_find 56 = .ok (.ifCond .ne 6, 3) := by decide +kernel
theorem dX12_find_59 : decode cX12_find 59 = .ok (.goto 17, 3) := by decide +kernel
theorem dX12_find_62 : decode cX12_find 62 = .ok (.iload_n 3, 1) := by decide +kernel
theorem dX12_find_63 : decode cX12_find 63 = .ok (.ifCond .ne 10, 3) := by decide +kernel
theorem dX12_find_66 : decode cX12_find 66 = .ok (.aload_n 0, 1) := by decide +kernel
theorem dX12_find_67 : decode cX12_find 67 = .ok (.iload 4, 2) := by decide +kernel
theorem dX12_find_69 : decode cX12_find 69 = .ok (.invokevirtual 59, 3) := by decide +kernel
theorem dX12_find_72 : decode cX12_find 72 = .ok (.ireturn, 1) := by decide +kernel
theorem dX12_find_73 : decode cX12_find 73 = .ok (.iinc 3 (-1), 3) := by decide +kernel
theorem dX12_find_76 : decode cX12_find 76 = .ok (.aload_n 0, 1) := by decide +kernel
theorem dX12_find_77 : decode cX12_find 77 = .ok (.aload_n 0, 1) := by decide +kernel
theorem dX12_find_78 : decode cX12_find 78 = .ok (.iload 4, 2) := by decide +kernel
theorem dX12_find_80 : decode cX12_find 80 = .ok (.invokevirtual 59, 3) := by decide +kernel
theorem dX12_find_83 : decode cX12_find 83 = .ok (.invokevirtual 263, 3) := by decide +kernel
theorem dX12_find_86 : decode cX12_find 86 = .ok (.istore 4, 2) := by decide +kernel
theorem dX12_find_88 : decode cX12_find 88 = .ok (.goto (-49), 3) := by decide +kernel
theorem dX12_find_91 : decode cX12_find 91 = .ok (.iconst (-1), 1) := by decide +kernel
theorem dX12_find_92 : decode cX12_find 92 = .ok (.ireturn, 1) := by decide +kernel
theorem dX12_count_0 : decode cX12_count 0 = .ok (.aload_n 0, 1) := by decide +kernel
theorem dX12_count_1 : decode cX12_count 1 = .ok (.iconst 0, 1) := by decide +kernel
theorem dX12_count_2 : decode cX12_count 2 = .ok (.putfield 3, 3) := by decide +kernel
theorem dX12_count_5 : decode cX12_count 5 = .ok (.iconst 0, 1) := by decide +kernel
theorem dX12_count_6 : decode cX12_count 6 = .ok (.istore_n 2, 1) := by decide +kernel
theorem dX12_count_7 : decode cX12_count 7 = .ok (.iload_n 1, 1) := by decide +kernel
theorem dX12_count_8 : decode cX12_count 8 = .ok (.tableswitch 196 0 17 #[88, 120, 127, 134, 196, 196, 196, 196, 196, 196, 141, 146, 196, 196, 196, 196, 196, 188], 88) := by decide +kernel
theorem dX12_count_96 : decode cX12_count 96 = .ok (.iconst 0, 1) := by decide +kernel
theorem dX12_count_97 : decode cX12_count 97 = .ok (.istore_n 3, 1) := by decide +kernel
theorem dX12_count_98 : decode cX12_count 98 = .ok (.iload_n 3, 1) := by decide +kernel
theorem dX12_count_99 : decode cX12_count 99 = .ok (.bipush 24, 2) := by decide +kernel
theorem dX12_count_101 : decode cX12_count 101 = .ok (.if_icmp .ge 25, 3) := by decide +kernel
theorem dX12_count_104 : decode cX12_count 104 = .ok (.iload_n 2, 1) := by decide +kernel
theorem dX12_count_105 : decode cX12_count 105 = .ok (.aload_n 0, 1) := by decide +kernel
theorem dX12_count_106 : decode cX12_count 106 = .ok (.iload_n 3, 1) := by decide +kernel
theorem dX12_count_107 : decode cX12_count 107 = .ok (.invokevirtual 73, 3) := by decide +kernel
theorem dX12_count_110 : decode cX12_count 110 = .ok (.ifCond .eq 7, 3) := by decide +kernel
theorem dX12_count_113 : decode cX12_count 113 = .ok (.iconst 1, 1) := by decide +kernel
theorem dX12_count_114 : decode cX12_count 114 = .ok (.goto 4, 3) := by decide +kernel
theorem dX12_count_117 : decode cX12_count 117 = .ok (.iconst 0, 1) := by decide +kernel
theorem dX12_count_118 : decode cX12_count 118 = .ok (.iadd, 1) := by decide +kernel
theorem dX12_count_119 : decode cX12_count 119 = .ok (.istore_n 2, 1) := by decide +kernel
theorem dX12_count_120 : decode cX12_count 120 = .ok (.iinc 3 1, 3) := by decide +kernel
theorem dX12_count_123 : decode cX12_count 123 = .ok (.goto (-25), 3) := by decide +kernel
theorem dX12_count_126 : decode cX12_count 126 = .ok (.iload_n 2, 1) := by decide +kernel
theorem dX12_count_127 : decode cX12_count 127 = .ok (.ireturn, 1) := by decide +kernel
theorem dX12_count_128 : decode cX12_count 128 = .ok (.aload_n 0, 1) := by decide +kernel
theorem dX12_count_129 : decode cX12_count 129 = .ok (.getfield 13, 3) := by decide +kernel
theorem dX12_count_132 : decode cX12_count 132 = .ok (.iconst 0, 1) := by decide +kernel
theorem dX12_count_133 : decode cX12_count 133 = .ok (.iaload, 1) := by decide +kernel
theorem dX12_count_134 : decode cX12_count 134 = .ok (.ireturn, 1) := by decide +kernel
theorem dX12_count_135 : decode cX12_count 135 = .ok (.aload_n 0, 1) := by decide +kernel
theorem dX12_count_136 : decode cX12_count 136 = .ok (.getfield 13, 3) := by decide +kernel
theorem dX12_count_139 : decode cX12_count 139 = .ok (.iconst 1, 1) := by decide +kernel
theorem dX12_count_140 : decode cX12_count 140 = .ok (.iaload, 1) := by decide +kernel
theorem dX12_count_141 : decode cX12_count 141 = .ok (.ireturn, 1) := by decide +kernel
theorem dX12_count_142 : decode cX12_count 142 = .ok (.aload_n 0, 1) := by decide +kernel
theorem dX12_count_143 : decode cX12_count 143 = .ok (.getfield 13, 3) := by decide +kernel
theorem dX12_count_146 : decode cX12_count 146 = .ok (.iconst 2, 1) := by decide +kernel
theorem dX12_count_147 : decode cX12_count 147 = .ok (.iaload, 1) := by decide +kernel
theorem dX12_count_148 : decode cX12_count 148 = .ok (.ireturn, 1) := by decide +kernel
theorem dX12_count_149 : decode cX12_count 149 = .ok (.aload_n 0, 1) := by decide +kernel
theorem dX12_count_150 : decode cX12_count 150 = .ok (.invokevirtual 279, 3) := by decide +kernel
theorem dX12_count_153 : decode cX12_count 153 = .ok (.ireturn, 1) := by decide +kernel
theorem dX12_count_154 : decode cX12_count 154 = .ok (.iconst 0, 1) := by decide +kernel
theorem dX12_count_155 : decode cX12_count 155 = .ok (.istore_n 3, 1) := by decide +kernel
theorem dX12_count_156 : decode cX12_count 156 = .ok (.iload_n 3, 1) := by decide +kernel
theorem dX12_count_157 : decode cX12_count 157 = .ok (.bipush 24, 2) := by decide +kernel
theorem dX12_count_159 : decode cX12_count 159 = .ok (.if_icmp .ge 35, 3) := by decide +kernel
theorem dX12_count_162 : decode cX12_count 162 = .ok (.iload_n 2, 1) := by decide +kernel
theorem dX12_count_163 : decode cX12_count 163 = .ok (.aload_n 0, 1) := by decide +kernel
theorem dX12_count_164 : decode cX12_count 164 = .ok (.iload_n 3, 1) := by decide +kernel
theorem dX12_count_165 : decode cX12_count 165 = .ok (.invokevirtual 59, 3) := by decide +kernel
theorem dX12_count_168 : decode cX12_count 168 = .ok (.iconst (-1), 1) := by decide +kernel
theorem dX12_count_169 : decode cX12_count 169 = .ok (.if_icmp .eq 16, 3) := by decide +kernel
theorem dX12_count_172 : decode cX12_count 172 = .ok (.aload_n 0, 1) := by decide +kernel
theorem dX12_count_173 : decode cX12_count 173 = .ok (.iload_n 3, 1) := by decide +kernel
theorem dX12_count_174 : decode cX12_count 174 = .ok (.invokevirtual 70, 3) := by decide +kernel
theorem dX12_count_177 : decode cX12_count 177 = .ok (.iconst (-1), 1) := by decide +kernel
theorem dX12_count_178 : decode cX12_count 178 = .ok (.if_icmp .eq 7, 3) := by decide +kernel
theorem dX12_count_181 : decode cX12_count 181 = .ok (.iconst 1, 1) := by decide +kernel
theorem dX12_count_182 : decode cX12_count 182 = .ok (.goto 4, 3) := by decide +kernel
theorem dX12_count_185 : decode cX12_count 185 = .ok (.iconst 0, 1) := by decide +kernel
theorem dX12_count_186 : decode cX12_count 186 = .ok (.iadd, 1) := by decide +kernel
theorem dX12_count_187 : decode cX12_count 187 = .ok (.istore_n 2, 1) := by decide +kernel
theorem dX12_count_188 : decode cX12_count 188 = .ok (.iinc 3 1, 3) := by decide +kernel
theorem dX12_count_191 : decode cX12_count 191 = .ok (.goto (-35), 3) := by decide +kernel
theorem dX12_count_194 : decode cX12_count 194 = .ok (.iload_n 2, 1) := by decide +kernel
theorem dX12_count_195 : decode cX12_count 195 = .ok (.ireturn, 1) := by decide +kernel
theorem dX12_count_196 : decode cX12_count 196 = .ok (.aload_n 0, 1) := by decide +kernel
theorem dX12_count_197 : decode cX12_count 197 = .ok (.getfield 13, 3) := by decide +kernel
theorem dX12_count_200 : decode cX12_count 200 = .ok (.bipush 14, 2) := by decide +kernel
theorem dX12_count_202 : decode cX12_count 202 = .ok (.iaload, 1) := by decide +kernel
theorem dX12_count_203 : decode cX12_count 203 = .ok (.ireturn, 1) := by decide +kernel
theorem dX12_count_204 : decode cX12_count 204 = .ok (.iload_n 1, 1) := by decide +kernel
theorem dX12_count_205 : decode cX12_count 205 = .ok (.iconst 4, 1) := by decide +kernel
theorem dX12_count_206 : decode cX12_count 206 = .ok (.bipush 9, 2) := by decide +kernel
theorem dX12_count_208 : decode cX12_count 208 = .ok (.invokestatic 66, 3) := by decide +kernel
theorem dX12_count_211 : decode cX12_count 211 = .ok (.ifCond .eq 16, 3) := by decide +kernel
theorem dX12_count_214 : decode cX12_count 214 = .ok (.aload_n 0, 1) := by decide +kernel
theorem dX12_count_215 : decode cX12_count 215 = .ok (.getfield 13, 3) := by decide +kernel
theorem dX12_count_218 : decode cX12_count 218 = .ok (.iconst 3, 1) := by decide +kernel
theorem dX12_count_219 : decode cX12_count 219 = .ok (.iload_n 1, 1) := by decide +kernel
theorem dX12_count_220 : decode cX12_count 220 = .ok (.iadd, 1) := by decide +kernel
theorem dX12_count_221 : decode cX12_count 221 = .ok (.iconst 4, 1) := by decide +kernel
theorem dX12_count_222 : decode cX12_count 222 = .ok (.isub, 1) := by decide +kernel
theorem dX12_count_223 : decode cX12_count 223 = .ok (.iaload, 1) := by decide +kernel
theorem dX12_count_224 : decode cX12_count 224 = .ok (.goto 30, 3) := by decide +kernel
theorem dX12_count_227 : decode cX12_count 227 = .ok (.iload_n 1, 1) := by decide +kernel
theorem dX12_count_228 : decode cX12_count 228 = .ok (.bipush 12, 2) := by decide +kernel
theorem dX12_count_230 : decode cX12_count 230 = .ok (.bipush 16, 2) := by decide +kernel
theorem dX12_count_232 : decode cX12_count 232 = .ok (.invokestatic 66, 3) := by decide +kernel
theorem dX12_count_235 : decode cX12_count 235 = .ok (.ifCond .eq 18, 3) := by decide +kernel
theorem dX12_count_238 : decode cX12_count 238 = .ok (.aload_n 0, 1) := by decide +kernel
theorem dX12_count_239 : decode cX12_count 239 = .ok (.getfield 13, 3) := by decide +kernel
theorem dX12_count_242 : decode cX12_count 242 = .ok (.bipush 9, 2) := by decide +kernel
theorem dX12_count_244 : decode cX12_count 244 = .ok (.iload_n 1, 1) := by decide +kernel
theorem dX12_count_245 : decode cX12_count 245 = .ok (.iadd, 1) := by decide +kernel
theorem dX12_count_246 : decode cX12_count 246 = .ok (.bipush 12, 2) := by decide +kernel
theorem dX12_count_248 : decode cX12_count 248 = .ok (.isub, 1) := by decide +kernel
theorem dX12_count_249 : decode cX12_count 249 = .ok (.iaload, 1) := by decide +kernel
theorem dX12_count_250 : decode cX12_count 250 = .ok (.goto 4, 3) := by decide +kernel
theorem dX12_count_253 : decode cX12_count 253 = .ok (.iconst (-1), 1) := by decide +kernel
theorem dX12_count_254 : decode cX12_count 254 = .ok (.ireturn, 1) := by decide +kernel
