theorem mC4_4_133 : Cond.methodLink RX11 77 yX11_needSession ∈ TB := tbT_4 _ (List.mem_of_getElem? (i := 133) rfl) rfl
theorem mC4_4_136 : Cond.code yX11_needSession cX11_needSession 2 none ∈ TB := tbT_4 _ (List.mem_of_getElem? (i := 136) rfl) rfl
theorem mC4_4_135 : Cond.instanceMethod yX11_needSession ∈ TB := tbT_4 _ (List.mem_of_getElem? (i := 135) rfl) rfl
theorem mpC4_1_5 : Cond.selects RX11 yX11_needSession yX11_needSession ∈ TB := tbP_1 (yX11_needSession, 8) (List.mem_of_getElem? (i := 5) rfl)
theorem mC4_1_1 : Cond.initialized RX11 ∈ TB := tbT_1 _ (List.mem_of_getElem? (i := 1) rfl) rfl
theorem mC4_5_7 : Cond.methodLink RX11 122 yX11_settleOpen ∈ TB := tbT_5 _ (List.mem_of_getElem? (i := 7) rfl) rfl
theorem mC4_5_10 : Cond.code yX11_settleOpen cX11_settleOpen 2 none ∈ TB := tbT_5 _ (List.mem_of_getElem? (i := 10) rfl) rfl
theorem mC4_5_9 : Cond.instanceMethod yX11_settleOpen ∈ TB := tbT_5 _ (List.mem_of_getElem? (i := 9) rfl) rfl
theorem mpC4_1_9 : Cond.selects RX11 yX11_settleOpen yX11_settleOpen ∈ TB := tbP_1 (yX11_settleOpen, 8) (List.mem_of_getElem? (i := 9) rfl)
theorem mC4_2_213 : Cond.fieldLink RX11 37 "ClaimTable" "live" "LClaimTable$Table;" ∈ TB := tbT_2 _ (List.mem_of_getElem? (i := 213) rfl) rfl
theorem mC4_5_31 : Cond.methodLink RX11 129 yX6_commitAll ∈ TB := tbT_5 _ (List.mem_of_getElem? (i := 31) rfl) rfl
theorem mC4_5_34 : Cond.code yX6_commitAll cX6_commitAll 4 (some .int) ∈ TB := tbT_5 _ (List.mem_of_getElem? (i := 34) rfl) rfl
theorem mC4_5_32 : Cond.instanceMethod yX6_commitAll ∈ TB := tbT_5 _ (List.mem_of_getElem? (i := 32) rfl) rfl
theorem mC4_5_33 : Cond.selects RX6 yX6_commitAll yX6_commitAll ∈ TB := tbT_5 _ (List.mem_of_getElem? (i := 33) rfl) rfl
theorem mC4_1_5 : Cond.initialized RX6 ∈ TB := tbT_1 _ (List.mem_of_getElem? (i := 5) rfl) rfl
theorem mC4_2_146 : Cond.fieldLink RX6 46 "ClaimTable$Table" "size" "I" ∈ TB := tbT_2 _ (List.mem_of_getElem? (i := 146) rfl) rfl
theorem mC4_2_129 : Cond.fieldLink RX6 19 "ClaimTable$Table" "sessions" "[LClaimTable$Session;" ∈ TB := tbT_2 _ (List.mem_of_getElem? (i := 129) rfl) rfl
theorem mC4_5_43 : Cond.methodLink RX6 172 yX5_close ∈ TB := tbT_5 _ (List.mem_of_getElem? (i := 43) rfl) rfl
theorem mC4_4_11 : Cond.code yX5_close cX5_close 1 none ∈ TB := tbT_4 _ (List.mem_of_getElem? (i := 11) rfl) rfl
theorem mC4_4_9 : Cond.instanceMethod yX5_close ∈ TB := tbT_4 _ (List.mem_of_getElem? (i := 9) rfl) rfl
theorem mC4_4_10 : Cond.selects RX5 yX5_close yX5_close ∈ TB := tbT_4 _ (List.mem_of_getElem? (i := 10) rfl) rfl
theorem mC4_1_9 : Cond.initialized RX5 ∈ TB := tbT_1 _ (List.mem_of_getElem? (i := 9) rfl) rfl
theorem mC4_2_126 : Cond.fieldLink RX6 11 "ClaimTable$Table" "jobs" "[LClaimTable$Job;" ∈ TB := tbT_2 _ (List.mem_of_getElem? (i := 126) rfl) rfl
theorem mC4_4_232 : Cond.methodLink RX6 147 yX1_isLockedBy ∈ TB := tbT_4 _ (List.mem_of_getElem? (i := 232) rfl) rfl
theorem mC4_4_235 : Cond.code yX1_isLockedBy cX1_isLockedBy 2 (some .boolean) ∈ TB := tbT_4 _ (List.mem_of_getElem? (i := 235) rfl) rfl
theorem mC4_4_233 : Cond.instanceMethod yX1_isLockedBy ∈ TB := tbT_4 _ (List.mem_of_getElem? (i := 233) rfl) rfl
theorem mC4_4_234 : Cond.selects RX1 yX1_isLockedBy yX1_isLockedBy ∈ TB := tbT_4 _ (List.mem_of_getElem? (i := 234) rfl) rfl
theorem mC4_1_7 : Cond.initialized RX1 ∈ TB := tbT_1 _ (List.mem_of_getElem? (i := 7) rfl) rfl
theorem mC4_5_20 : Cond.methodLink RX6 162 yX6_release ∈ TB := tbT_5 _ (List.mem_of_getElem? (i := 20) rfl) rfl
theorem mC4_5_23 : Cond.code yX6_release cX6_release 2 none ∈ TB := tbT_5 _ (List.mem_of_getElem? (i := 23) rfl) rfl
theorem mC4_5_22 : Cond.instanceMethod yX6_release ∈ TB := tbT_5 _ (List.mem_of_getElem? (i := 22) rfl) rfl
theorem mpC4_1_10 : Cond.selects RX6 yX6_release yX6_release ∈ TB := tbP_1 (yX6_release, 16) (List.mem_of_getElem? (i := 10) rfl)
theorem mC4_5_51 : Cond.methodLink RX11 133 yX6_rollAll ∈ TB := tbT_5 _ (List.mem_of_getElem? (i := 51) rfl) rfl
theorem mC4_5_54 : Cond.code yX6_rollAll cX6_rollAll 4 (some .int) ∈ TB := tbT_5 _ (List.mem_of_getElem? (i := 54) rfl) rfl
theorem mC4_5_52 : Cond.instanceMethod yX6_rollAll ∈ TB := tbT_5 _ (List.mem_of_getElem? (i := 52) rfl) rfl
theorem mC4_5_53 : Cond.selects RX6 yX6_rollAll yX6_rollAll ∈ TB := tbT_5 _ (List.mem_of_getElem? (i := 53) rfl) rfl
theorem mC4_1_223 : Cond.fieldLink RX1 50 "ClaimTable$Job" "stored" "Z" ∈ TB := tbT_1 _ (List.mem_of_getElem? (i := 223) rfl) rfl
theorem mC4_1_220 : Cond.fieldLink RX1 25 "ClaimTable$Job" "locker" "I" ∈ TB := tbT_1 _ (List.mem_of_getElem? (i := 220) rfl) rfl
theorem mC4_1_210 : Cond.fieldLink RX1 12 "ClaimTable$Job" "base" "LClaimTable$Version;" ∈ TB := tbT_1 _ (List.mem_of_getElem? (i := 210) rfl) rfl
theorem mC4_1_215 : Cond.fieldLink RX1 18 "ClaimTable$Job" "own" "LClaimTable$Version;" ∈ TB := tbT_1 _ (List.mem_of_getElem? (i := 215) rfl) rfl
theorem mC4_2_148 : Cond.fieldLinkNest RX0 56 "ClaimTable$Table" "size" "I" "ClaimTable" ∈ NB := nbT_2 _ (List.mem_of_getElem? (i := 148) rfl) rfl
theorem mC4_2_127 : Cond.fieldLinkNest RX0 59 "ClaimTable$Table" "jobs" "[LClaimTable$Job;" "ClaimTable" ∈ NB := nbT_2 _ (List.mem_of_getElem? (i := 127) rfl) rfl
theorem mC4_1_228 : Cond.fieldLinkNest RX0 63 "ClaimTable$Job" "number" "I" "ClaimTable" ∈ NB := nbT_1 _ (List.mem_of_getElem? (i := 228) rfl) rfl
theorem mC4_1_234 : Cond.fieldLinkNest RX0 49 "ClaimTable$Job" "group" "I" "ClaimTable" ∈ NB := nbT_1 _ (List.mem_of_getElem? (i := 234) rfl) rfl
theorem mC4_5_79 : Cond.methodLink RX0 21 yX1_seenBy ∈ TB := tbT_5 _ (List.mem_of_getElem? (i := 79) rfl) rfl
theorem mC4_5_82 : Cond.code yX1_seenBy cX1_seenBy 2 (some (.object "ClaimTable$Version")) ∈ TB := tbT_5 _ (List.mem_of_getElem? (i := 82) rfl) rfl
theorem mC4_5_80 : Cond.instanceMethod yX1_seenBy ∈ TB := tbT_5 _ (List.mem_of_getElem? (i := 80) rfl) rfl
theorem mC4_5_81 : Cond.selects RX1 yX1_seenBy yX1_seenBy ∈ TB := tbT_5 _ (List.mem_of_getElem? (i := 81) rfl) rfl
theorem mC4_1_158 : Cond.fieldLinkNest RX0 31 "ClaimTable$Version" "state" "I" "ClaimTable" ∈ NB := nbT_1 _ (List.mem_of_getElem? (i := 158) rfl) rfl
theorem mC4_5_72 : Cond.methodLink RX0 66 yX1_isSeenBy ∈ TB := tbT_5 _ (List.mem_of_getElem? (i := 72) rfl) rfl
theorem mC4_5_75 : Cond.code yX1_isSeenBy cX1_isSeenBy 2 (some .boolean) ∈ TB := tbT_5 _ (List.mem_of_getElem? (i := 75) rfl) rfl
theorem mC4_5_73 : Cond.instanceMethod yX1_isSeenBy ∈ TB := tbT_5 _ (List.mem_of_getElem? (i := 73) rfl) rfl
theorem mC4_5_74 : Cond.selects RX1 yX1_isSeenBy yX1_isSeenBy ∈ TB := tbT_5 _ (List.mem_of_getElem? (i := 74) rfl) rfl
theorem mC4_2_137 : Cond.fieldLinkNest RX0 69 "ClaimTable$Table" "parallel" "[I" "ClaimTable" ∈ NB := nbT_2 _ (List.mem_of_getElem? (i := 137) rfl) rfl
theorem mC4_5_83 : Cond.methodLink RX0 27 yX1_isLockedByOther ∈ TB := tbT_5 _ (List.mem_of_getElem? (i := 83) rfl) rfl
theorem mC4_5_86 : Cond.code yX1_isLockedByOther cX1_isLockedByOther 2 (some .boolean) ∈ TB := tbT_5 _ (List.mem_of_getElem? (i := 86) rfl) rfl
theorem mC4_5_84 : Cond.instanceMethod yX1_isLockedByOther ∈ TB := tbT_5 _ (List.mem_of_getElem? (i := 84) rfl) rfl
theorem mC4_5_85 : Cond.selects RX1 yX1_isLockedByOther yX1_isLockedByOther ∈ TB := tbT_5 _ (List.mem_of_getElem? (i := 85) rfl) rfl
theorem mC4_1_164 : Cond.fieldLinkNest RX0 37 "ClaimTable$Version" "due" "I" "ClaimTable" ∈ NB := nbT_1 _ (List.mem_of_getElem? (i := 164) rfl) rfl
theorem mC4_2_159 : Cond.fieldLinkNest RX0 40 "ClaimTable$Table" "mono" "I" "ClaimTable" ∈ NB := nbT_2 _ (List.mem_of_getElem? (i := 159) rfl) rfl
theorem mC4_5_87 : Cond.methodLink RX0 45 yX0_isLesserWaiting ∈ TB := tbT_5 _ (List.mem_of_getElem? (i := 87) rfl) rfl
theorem mC4_5_89 : Cond.code yX0_isLesserWaiting cX0_isLesserWaiting 6 (some .boolean) ∈ TB := tbT_5 _ (List.mem_of_getElem? (i := 89) rfl) rfl
theorem mC4_5_88 : Cond.static yX0_isLesserWaiting ∈ TB := tbT_5 _ (List.mem_of_getElem? (i := 88) rfl) rfl
theorem mC4_1_4 : Cond.initialized RX0 ∈ TB := tbT_1 _ (List.mem_of_getElem? (i := 4) rfl) rfl
theorem mC4_5_90 : Cond.methodLink RX0 52 yX0_isGroupFull ∈ TB := tbT_5 _ (List.mem_of_getElem? (i := 90) rfl) rfl
theorem mC4_5_92 : Cond.code yX0_isGroupFull cX0_isGroupFull 7 (some .boolean) ∈ TB := tbT_5 _ (List.mem_of_getElem? (i := 92) rfl) rfl
theorem mC4_5_91 : Cond.static yX0_isGroupFull ∈ TB := tbT_5 _ (List.mem_of_getElem? (i := 91) rfl) rfl
theorem mC4_5_100 : Cond.methodLink RX3 123 yX1_seenBy ∈ TB := tbT_5 _ (List.mem_of_getElem? (i := 100) rfl) rfl
theorem mC4_1_231 : Cond.fieldLinkNest RX3 129 "ClaimTable$Job" "number" "I" "ClaimTable" ∈ NB := nbT_1 _ (List.mem_of_getElem? (i := 231) rfl) rfl
theorem mC4_1_237 : Cond.fieldLinkNest RX3 131 "ClaimTable$Job" "group" "I" "ClaimTable" ∈ NB := nbT_1 _ (List.mem_of_getElem? (i := 237) rfl) rfl
theorem mC4_2_1 : Cond.fieldLinkNest RX3 133 "ClaimTable$Job" "priority" "I" "ClaimTable" ∈ NB := nbT_2 _ (List.mem_of_getElem? (i := 1) rfl) rfl
theorem mC4_2_6 : Cond.fieldLinkNest RX3 135 "ClaimTable$Job" "cost" "I" "ClaimTable" ∈ NB := nbT_2 _ (List.mem_of_getElem? (i := 6) rfl) rfl
theorem mC4_1_171 : Cond.fieldLinkNest RX3 137 "ClaimTable$Version" "tries" "I" "ClaimTable" ∈ NB := nbT_1 _ (List.mem_of_getElem? (i := 171) rfl) rfl
theorem mC4_2_162 : Cond.fieldLinkNest RX3 141 "ClaimTable$Table" "mono" "I" "ClaimTable" ∈ NB := nbT_2 _ (List.mem_of_getElem? (i := 162) rfl) rfl
theorem mC4_2_10 : Cond.fieldLinkNest RX3 146 "ClaimTable$Job" "born" "I" "ClaimTable" ∈ NB := nbT_2 _ (List.mem_of_getElem? (i := 10) rfl) rfl
theorem mC4_1_167 : Cond.fieldLinkNest RX3 149 "ClaimTable$Version" "due" "I" "ClaimTable" ∈ NB := nbT_1 _ (List.mem_of_getElem? (i := 167) rfl) rfl
theorem mC4_2_132 : Cond.fieldLinkNest RX3 152 "ClaimTable$Table" "sessions" "[LClaimTable$Session;" "ClaimTable" ∈ NB := nbT_2 _ (List.mem_of_getElem? (i := 132) rfl) rfl
theorem mC4_2_60 : Cond.fieldLinkNest RX3 156 "ClaimTable$Session" "latest" "I" "ClaimTable" ∈ NB := nbT_2 _ (List.mem_of_getElem? (i := 60) rfl) rfl
theorem mC4_5_101 : Cond.methodLink RX3 161 yJ9_floorMod_7cf53 ∈ TB := tbT_5 _ (List.mem_of_getElem? (i := 101) rfl) rfl
theorem mC4_5_102 : Cond.static yJ9_floorMod_7cf53 ∈ TB := tbT_5 _ (List.mem_of_getElem? (i := 102) rfl) rfl
theorem mC4_1_25 : Cond.initialized RJ9 ∈ TB := tbT_1 _ (List.mem_of_getElem? (i := 25) rfl) rfl
theorem mC4_5_103 : Cond.code yJ9_floorMod_7cf53 cJ9_floorMod_7cf53 3 (some .int) ∈ TB := tbT_5 _ (List.mem_of_getElem? (i := 103) rfl) rfl
theorem mC4_1_75 : Cond.fieldLink RX3 33 "ClaimTable$Query" "terms" "I" ∈ TB := tbT_1 _ (List.mem_of_getElem? (i := 75) rfl) rfl
theorem mC4_1_67 : Cond.fieldLink RX3 11 "ClaimTable$Query" "termColumns" "[I" ∈ TB := tbT_1 _ (List.mem_of_getElem? (i := 67) rfl) rfl
theorem mC4_5_97 : Cond.methodLink RX3 115 yX3_valueOf ∈ TB := tbT_5 _ (List.mem_of_getElem? (i := 97) rfl) rfl
theorem mC4_5_99 : Cond.code yX3_valueOf cX3_valueOf 5 (some .int) ∈ TB := tbT_5 _ (List.mem_of_getElem? (i := 99) rfl) rfl
theorem mC4_5_98 : Cond.static yX3_valueOf ∈ TB := tbT_5 _ (List.mem_of_getElem? (i := 98) rfl) rfl
theorem mC4_1_3 : Cond.initialized RX3 ∈ TB := tbT_1 _ (List.mem_of_getElem? (i := 3) rfl) rfl
theorem mC4_1_68 : Cond.fieldLink RX3 15 "ClaimTable$Query" "termSigns" "[C" ∈ TB := tbT_1 _ (List.mem_of_getElem? (i := 68) rfl) rfl
theorem mC4_1_69 : Cond.fieldLink RX3 19 "ClaimTable$Query" "termNumbers" "[I" ∈ TB := tbT_1 _ (List.mem_of_getElem? (i := 69) rfl) rfl
theorem mC4_5_104 : Cond.methodLink RX3 119 yX3_isSo ∈ TB := tbT_5 _ (List.mem_of_getElem? (i := 104) rfl) rfl
theorem mC4_5_106 : Cond.code yX3_isSo cX3_isSo 3 (some .boolean) ∈ TB := tbT_5 _ (List.mem_of_getElem? (i := 106) rfl) rfl
theorem mC4_5_105 : Cond.static yX3_isSo ∈ TB := tbT_5 _ (List.mem_of_getElem? (i := 105) rfl) rfl
theorem mC4_1_76 : Cond.fieldLink RX3 36 "ClaimTable$Query" "keys" "I" ∈ TB := tbT_1 _ (List.mem_of_getElem? (i := 76) rfl) rfl
theorem mC4_1_70 : Cond.fieldLink RX3 22 "ClaimTable$Query" "keyColumns" "[I" ∈ TB := tbT_1 _ (List.mem_of_getElem? (i := 70) rfl) rfl
theorem mC4_1_71 : Cond.fieldLink RX3 25 "ClaimTable$Query" "keysDescend" "[Z" ∈ TB := tbT_1 _ (List.mem_of_getElem? (i := 71) rfl) rfl
theorem mC4_2_130 : Cond.fieldLinkNest RX0 76 "ClaimTable$Table" "sessions" "[LClaimTable$Session;" "ClaimTable" ∈ NB := nbT_2 _ (List.mem_of_getElem? (i := 130) rfl) rfl
theorem mC4_2_53 : Cond.fieldLinkNest RX0 80 "ClaimTable$Session" "query" "LClaimTable$Query;" "ClaimTable" ∈ NB := nbT_2 _ (List.mem_of_getElem? (i := 53) rfl) rfl
theorem mC4_5_107 : Cond.methodLink RX0 91 yX3_putsAhead ∈ TB := tbT_5 _ (List.mem_of_getElem? (i := 107) rfl) rfl
theorem mC4_5_110 : Cond.code yX3_putsAhead cX3_putsAhead 8 (some .boolean) ∈ TB := tbT_5 _ (List.mem_of_getElem? (i := 110) rfl) rfl
theorem mC4_5_108 : Cond.instanceMethod yX3_putsAhead ∈ TB := tbT_5 _ (List.mem_of_getElem? (i := 108) rfl) rfl
theorem mC4_5_109 : Cond.selects RX3 yX3_putsAhead yX3_putsAhead ∈ TB := tbT_5 _ (List.mem_of_getElem? (i := 109) rfl) rfl
theorem mC4_5_76 : Cond.methodLink RX0 72 yX0_hindrance ∈ TB := tbT_5 _ (List.mem_of_getElem? (i := 76) rfl) rfl
theorem mC4_5_78 : Cond.code yX0_hindrance cX0_hindrance 4 (some .int) ∈ TB := tbT_5 _ (List.mem_of_getElem? (i := 78) rfl) rfl
theorem mC4_5_77 : Cond.static yX0_hindrance ∈ TB := tbT_5 _ (List.mem_of_getElem? (i := 77) rfl) rfl
theorem mC4_5_93 : Cond.methodLink RX0 86 yX3_fits ∈ TB := tbT_5 _ (List.mem_of_getElem? (i := 93) rfl) rfl
theorem mC4_5_96 : Cond.code yX3_fits cX3_fits 6 (some .boolean) ∈ TB := tbT_5 _ (List.mem_of_getElem? (i := 96) rfl) rfl
theorem mC4_5_94 : Cond.instanceMethod yX3_fits ∈ TB := tbT_5 _ (List.mem_of_getElem? (i := 94) rfl) rfl
theorem mC4_5_95 : Cond.selects RX3 yX3_fits yX3_fits ∈ TB := tbT_5 _ (List.mem_of_getElem? (i := 95) rfl) rfl
def rm_X11_commit : Room := { frames := 8, cells := 2, slots := 12, locals := 131 }
def F_X11_commit (a1 : Int32) (S : sSt) (k : Int32 → sSt → Prop) (kx : String → sSt → Prop) : Prop := F_X11_needSession a1 S (fun S2 => F_X11_settleOpen a1 S2 (fun S4 => F_X6_commitAll (S4.2 0 0 4) a1 S4 (fun r6 S7 => k r6 S7)) kx) kx
set_option maxHeartbeats 4000000 in
set_option maxRecDepth 100000 in
theorem c_X11_commit (l : Launch) (hl0 : l.stackTraces = false) {D : va_G} {cy : Nat → ClassId} {b z : Nat} {tx : TX} {a1 : Int32} {S : sSt} {k : Int32 → sSt → Prop} {kx : String → sSt → Prop} (h : F_X11_commit a1 S k kx) : vx_Met l yX11_commit (Cond.code yX11_commit cX11_commit 2 (some .int) :: TB) rm_X11_commit (va_Pc [.ref (b + adC 0 0), .int a1] (fun U => RelC D cy b z tx S U U.heap ∧ TxR tx U)) (PiC D cy b z tx k) (XeC D cy b z tx kx) 2 12 (gA b 709 z) := by
  refine vx_ofW (cc := cX11_commit) (maxL := 2) (ret := (some .int)) (by decide) rfl ?_
  intro p e s m args below meth c s₁ B hml hexc hv
  obtain ⟨rfl, hR, hT⟩ := hv
  have hX0 := hR.2.2
  have C0 : CallFix p m c cX11_commit 2 s _ TB RX11 := ⟨B.exec, B.bytes, hml, findClass_of_methodNamed B.named, fun w hw => atoms_spec B.pre w (List.mem_cons_of_mem _ hw)⟩
  have hr := B.returns
  have hlk := B.notSynchronized
  have hx := C0.1
  have hb := C0.2.1
  have hS : va_S (gA b 709 z) s.heap s.heap [] := va_S.rf
  have hl := lv_entry ([.ref (b + adC 0 0), .int a1]) (n := 2) (Nat.le_of_ble_eq_true rfl)
  rw [lg_entry_eq]
  generalize (lg_sl ([.ref (b + adC 0 0), .int a1]) ++ List.replicate (2 - (lg_sl ([.ref (b + adC 0 0), .int a1])).length) Slot.unset).toArray = ls at hl ⊢
  have hl : lv_has ls 2 [(0, .ref (b + adC 0 0)), (1, .int a1)] := hl
  show W p l e rm_X11_commit s m _ below meth c s.heap [] 0 0 (vx_MQ below (PiC D cy b z tx k) (XeC D cy b z tx kx) _ s 2 12 (gA b 709 z)) _
  unfold F_X11_commit at h
  refine lv_aload_n hx hb dX11_commit_0 rfl (lv_at hl 0 rfl) ?_
  refine lv_iload_n hx hb dX11_commit_1 rfl (lv_at hl 1 rfl) ?_
  refine qx_Vv (As := [.int a1]) (rest := []) C0 hlk hexc (c_X11_needSession l hl0 h) (cwV 1 C0.2.2.2.2 (tbV mC4_4_133 ⟨mC4_4_135, mpC4_1_5, mC4_1_1, mC4_4_136⟩) rfl rfl rfl (by decide +kernel) ⟨Nat.le_of_ble_eq_true rfl, Nat.le_of_ble_eq_true rfl⟩) (rcC_0 hR Nat.zero_lt_one) hR hT hS rfl hl.1 rfl (Nat.le_of_ble_eq_true rfl) dX11_commit_2 ⟨Nat.le_of_ble_eq_true rfl, Nat.le_of_ble_eq_true rfl⟩ ⟨Nat.le_of_ble_eq_true rfl, Nat.le_of_ble_eq_true rfl⟩ (fun S2 H locs h hR hS => ?_)
  refine lv_aload_n hx hb dX11_commit_5 rfl (lv_at hl 0 rfl) ?_
  refine lv_iload_n hx hb dX11_commit_6 rfl (lv_at hl 1 rfl) ?_
  refine qx_Vv (As := [.int a1]) (rest := []) C0 hlk hexc (c_X11_settleOpen l hl0 h) (cwV 1 C0.2.2.2.2 (tbV mC4_5_7 ⟨mC4_5_9, mpC4_1_9, mC4_1_1, mC4_5_10⟩) rfl rfl rfl (by decide +kernel) ⟨Nat.le_of_ble_eq_true rfl, Nat.le_of_ble_eq_true rfl⟩) (rcC_0 hR Nat.zero_lt_one) hR hT hS rfl hl.1 rfl (Nat.le_of_ble_eq_true rfl) dX11_commit_7 ⟨Nat.le_of_ble_eq_true rfl, Nat.le_of_ble_eq_true rfl⟩ ⟨Nat.le_of_ble_eq_true rfl, Nat.le_of_ble_eq_true rfl⟩ (fun S4 H locs h hR hS => ?_)
  refine lv_aload_n hx hb dX11_commit_10 rfl (lv_at hl 0 rfl) ?_
  refine gC_0_4 C0 hR Nat.zero_lt_one tbs_wsX110 mC4_2_213 dX11_commit_11 ?_
  have w5 : (S4.2 0 0 4) < 3 := hR.2.1.2.1
  refine lv_iload_n hx hb dX11_commit_14 rfl (lv_at hl 1 rfl) ?_
  refine qC_Vi (As := [.int a1]) (rest := []) C0 (c_X6_commitAll l w5 h) (cwV 1 C0.2.2.2.2 (tbV mC4_5_31 ⟨mC4_5_32, mC4_5_33, mC4_1_5, mC4_5_34⟩) rfl rfl rfl (by decide +kernel) ⟨Nat.le_of_ble_eq_true rfl, Nat.le_of_ble_eq_true rfl⟩) (rcC_13 hR w5) hR hT hS rfl hl.1 rfl (Nat.le_of_ble_eq_true rfl) dX11_commit_15 ⟨Nat.le_of_ble_eq_true rfl, Nat.le_of_ble_eq_true rfl⟩ (fun r6 S7 H locs h hR hS => ?_)
  refine vx_ret (W.widen (k := 2) (n := 12) (Nat.le_of_ble_eq_true rfl) (Nat.le_of_ble_eq_true rfl) ?_); exact rtC_i C0 hr hlk hR hS h dX11_commit_18

def rm_X6_rollAll : Room := { frames := 2, cells := 0, slots := 0, locals := 44 }
def B_X6_rollAll_34 (kk9 : Nat → Int32 → Int32 → Int32 → sSt → Prop) (a0 : Nat) (a1 : Int32) (a2 : Int32) (a3 : Int32) (S : sSt) (k : Int32 → sSt → Prop) : Prop := ∀ x14 : Int32, x14 = a3 + (-1) → kk9 a0 a1 a2 x14 S
set_option maxHeartbeats 4000000 in
set_option maxRecDepth 100000 in
theorem Bw_X6_rollAll_34 {p : Program} {l : Launch} {e : Env} {s : State} {m : MethodId} {args : Array Value} {below : List Frame} {meth : Method} {c : Code} {D : va_G} {cy : Nat → ClassId} {b z : Nat} {tx : TX} (C0 : CallFix p m c cX6_rollAll 4 s args TB RX6) (hr : meth.sig.returnType = (some .int)) (hlk : meth.locks = false) (hT : TxR tx s) {k : Int32 → sSt → Prop} {kk9 : Nat → Int32 → Int32 → Int32 → sSt → Prop} (ih9 : ∀ (a0 : Nat) (a1 : Int32) (a2 : Int32) (a3 : Int32) (S : sSt) (H : Heap) (locs : List Loc) (ls : Array Slot) (av0 : a0 < 3), kk9 a0 a1 a2 a3 S → RelC D cy b z tx S s H → va_S (gA b 709 z) s.heap H locs → lv_has ls 4 [(0, .ref (b + adC 13 a0)), (1, .int a1), (2, .int a2), (3, .int a3)] → W p l e rm_X6_rollAll s m args below meth c H locs 0 0 (MQ below (PiC D cy b z tx k) args s 0 0 (gA b 709 z)) (F0 m 9 ls [])) : ∀ (a0 : Nat) (a1 : Int32) (a2 : Int32) (a3 : Int32) (S : sSt) (H : Heap) (locs : List Loc) (ls : Array Slot) (av0 : a0 < 3), B_X6_rollAll_34 kk9 a0 a1 a2 a3 S k → RelC D cy b z tx S s H → va_S (gA b 709 z) s.heap H locs → lv_has ls 4 [(0, .ref (b + adC 13 a0)), (1, .int a1), (2, .int a2), (3, .int a3)] → W p l e rm_X6_rollAll s m args below meth c H locs 0 0 (MQ below (PiC D cy b z tx k) args s 0 0 (gA b 709 z)) (F0 m 34 ls []) := by
  intro a0 a1 a2 a3 S H locs ls av0 h hR hS hl
  have hx := C0.1
  have hb := C0.2.1
  unfold B_X6_rollAll_34 at h
  obtain ⟨x14, ex14⟩ : ∃ x14 : Int32, x14 = a3 + (-1) := ⟨_, rfl⟩
  have h := h x14 ex14
  refine w_iinc (v0 := (-1)) (lv' := [(3, .int x14), (0, .ref (b + adC 13 a0)), (1, .int a1), (2, .int a2)]) C0 dX6_rollAll_34 hl (k := 3) rfl (by decide) (by decide) x14 ex14 rfl (fun ls hl => ?_)
  refine lv_goto (tgt := 9) hx hb dX6_rollAll_37 (by decide) ?_
  exact ih9 a0 a1 a2 x14 S _ _ _ av0 h hR hS (lv_sub hl [1, 2, 3, 0] rfl)
def Bb_X6_rollAll_9 (kk9 : Nat → Int32 → Int32 → Int32 → sSt → Prop) (a0 : Nat) (a1 : Int32) (a2 : Int32) (a3 : Int32) (S : sSt) (k : Int32 → sSt → Prop) : Prop := ((a3 < 0 → ix a1 4 (fun j4 => F_X5_close (4 * a0 + j4) S (fun S7 => k a2 S7))) ∧ (¬ a3 < 0 → ix a3 24 (fun j9 => F_X1_isLockedBy (S.2 14 a0 j9) a1 S (fun r11 S12 => ((r11 = 0 → B_X6_rollAll_34 kk9 a0 a1 a2 a3 S12 k) ∧ (¬ r11 = 0 → F_X6_release a0 a3 S12 (fun S16 => ∀ x17 : Int32, x17 = a2 + 1 → B_X6_rollAll_34 kk9 a0 a1 x17 a3 S16 k)))))))
set_option maxHeartbeats 4000000 in
set_option maxRecDepth 100000 in
theorem Bbw_X6_rollAll_9 {p : Program} {l : Launch} {e : Env} {s : State} {m : MethodId} {args : Array Value} {below : List Frame} {meth : Method} {c : Code} {D : va_G} {cy : Nat → ClassId} {b z : Nat} {tx : TX} (C0 : CallFix p m c cX6_rollAll 4 s args TB RX6) (hr : meth.sig.returnType = (some .int)) (hlk : meth.locks = false) (hT : TxR tx s) {k : Int32 → sSt → Prop} {kk9 : Nat → Int32 → Int32 → Int32 → sSt → Prop} (ih9 : ∀ (a0 : Nat) (a1 : Int32) (a2 : Int32) (a3 : Int32) (S : sSt) (H : Heap) (locs : List Loc) (ls : Array Slot) (av0 : a0 < 3), kk9 a0 a1 a2 a3 S → RelC D cy b z tx S s H → va_S (gA b 709 z) s.heap H locs → lv_has ls 4 [(0, .ref (b + adC 13 a0)), (1, .int a1), (2, .int a2), (3, .int a3)] → W p l e rm_X6_rollAll s m args below meth c H locs 0 0 (MQ below (PiC D cy b z tx k) args s 0 0 (gA b 709 z)) (F0 m 9 ls [])) : ∀ (a0 : Nat) (a1 : Int32) (a2 : Int32) (a3 : Int32) (S : sSt) (H : Heap) (locs : List Loc) (ls : Array Slot) (av0 : a0 < 3), Bb_X6_rollAll_9 kk9 a0 a1 a2 a3 S k → RelC D cy b z tx S s H → va_S (gA b 709 z) s.heap H locs → lv_has ls 4 [(0, .ref (b + adC 13 a0)), (1, .int a1), (2, .int a2), (3, .int a3)] → W p l e rm_X6_rollAll s m args below meth c H locs 0 0 (MQ below (PiC D cy b z tx k) args s 0 0 (gA b 709 z)) (F0 m 9 ls []) := by
  intro a0 a1 a2 a3 S H locs ls av0 h hR hS hl
  have hx := C0.1
  have hb := C0.2.1
  unfold Bb_X6_rollAll_9 at h
  refine lv_iload_n hx hb dX6_rollAll_9 rfl (lv_at hl 3 rfl) ?_
  refine lv_if_lt (tgt := 40) hx hb dX6_rollAll_10 (by decide) (fun c2 => ?_) (fun c2 => ?_)
  · have h := h.1 c2
    refine lv_aload_n hx hb dX6_rollAll_40 rfl (lv_at hl 0 rfl) ?_
    refine gC_13_1 C0 hR av0 tbs_wsX60 mC4_2_129 dX6_rollAll_41 ?_
    have w3 : a0 < 3 := by omega
    refine lv_iload_n hx hb dX6_rollAll_44 rfl (lv_at hl 1 rfl) ?_
    obtain ⟨j4, hj4, ej4, h⟩ := h
    refine lC_15 C0 hR w3 hj4 ej4 dX6_rollAll_45 ?_
    have w5 : (4 * a0 + j4) < 12 := by omega
    refine qC_Vv (As := []) (rest := []) C0 (c_X5_close l w5 h) (cwV 0 C0.2.2.2.2 (tbV mC4_5_43 ⟨mC4_4_9, mC4_4_10, mC4_1_9, mC4_4_11⟩) rfl rfl rfl (by decide +kernel) ⟨Nat.le_of_ble_eq_true rfl, Nat.le_of_ble_eq_true rfl⟩) (rcC_24 hR w5) hR hT hS rfl hl.1 rfl (Nat.le_of_ble_eq_true rfl) dX6_rollAll_46 ⟨Nat.zero_le _, Nat.zero_le _⟩ (fun S7 H locs h hR hS => ?_)
    refine lv_iload_n hx hb dX6_rollAll_49 rfl (lv_at hl 2 rfl) ?_
    exact rtC_i C0 hr hlk hR hS h dX6_rollAll_50
  · have h := h.2 c2
    refine lv_aload_n hx hb dX6_rollAll_13 rfl (lv_at hl 0 rfl) ?_
    refine gC_13_0 C0 hR av0 tbs_wsX60 mC4_2_126 dX6_rollAll_14 ?_
    have w8 : a0 < 3 := by omega
    refine lv_iload_n hx hb dX6_rollAll_17 rfl (lv_at hl 3 rfl) ?_
    obtain ⟨j9, hj9, ej9, h⟩ := h
    refine lC_14 C0 hR w8 hj9 ej9 dX6_rollAll_18 ?_
    have w10 : (S.2 14 a0 j9) < 72 := hR.2.1.1 _ _ w8 hj9
    refine lv_iload_n hx hb dX6_rollAll_19 rfl (lv_at hl 1 rfl) ?_
    refine qC_Vi (As := [.int a1]) (rest := []) C0 (c_X1_isLockedBy l w10 h) (cwV 1 C0.2.2.2.2 (tbV mC4_4_232 ⟨mC4_4_233, mC4_4_234, mC4_1_7, mC4_4_235⟩) rfl rfl rfl (by decide +kernel) ⟨Nat.le_of_ble_eq_true rfl, Nat.le_of_ble_eq_true rfl⟩) (rcC_21 hR w10) hR hT hS rfl hl.1 rfl (Nat.le_of_ble_eq_true rfl) dX6_rollAll_20 ⟨Nat.zero_le _, Nat.zero_le _⟩ (fun r11 S12 H locs h hR hS => ?_)
    refine lv_if_eq (tgt := 34) hx hb dX6_rollAll_23 (by decide) (fun c13 => ?_) (fun c13 => ?_)
    · have h := h.1 c13
      exact Bw_X6_rollAll_34 C0 hr hlk hT ih9 a0 a1 a2 a3 S12 _ _ _ av0 h hR hS (lv_sub hl [0, 1, 2, 3] rfl)
    · have h := h.2 c13
      refine lv_aload_n hx hb dX6_rollAll_26 rfl (lv_at hl 0 rfl) ?_
      refine lv_iload_n hx hb dX6_rollAll_27 rfl (lv_at hl 3 rfl) ?_
      refine qC_Vv (As := [.int a3]) (rest := []) C0 (c_X6_release l av0 h) (cwV 1 C0.2.2.2.2 (tbV mC4_5_20 ⟨mC4_5_22, mpC4_1_10, mC4_1_5, mC4_5_23⟩) rfl rfl rfl (by decide +kernel) ⟨Nat.le_of_ble_eq_true rfl, Nat.le_of_ble_eq_true rfl⟩) (rcC_13 hR av0) hR hT hS rfl hl.1 rfl (Nat.le_of_ble_eq_true rfl) dX6_rollAll_28 ⟨Nat.zero_le _, Nat.zero_le _⟩ (fun S16 H locs h hR hS => ?_)
      obtain ⟨x17, ex17⟩ : ∃ x17 : Int32, x17 = a2 + 1 := ⟨_, rfl⟩
      have h := h x17 ex17
      refine w_iinc (v0 := 1) (lv' := [(2, .int x17), (0, .ref (b + adC 13 a0)), (1, .int a1), (3, .int a3)]) C0 dX6_rollAll_31 hl (k := 2) rfl (by decide) (by decide) x17 ex17 rfl (fun ls hl => ?_)
      exact Bw_X6_rollAll_34 C0 hr hlk hT ih9 a0 a1 x17 a3 S16 _ _ _ av0 h hR hS (lv_sub hl [1, 2, 0, 3] rfl)
def B_X6_rollAll_9 (n9 : Nat) (a0 : Nat) (a1 : Int32) (a2 : Int32) (a3 : Int32) (S : sSt) (k : Int32 → sSt → Prop) : Prop := (Nat.rec (motive := fun _ => Nat → Int32 → Int32 → Int32 → sSt → Prop) (fun _ _ _ _ _ => False) (fun _ r9 => fun a0 a1 a2 a3 S => Bb_X6_rollAll_9 r9 a0 a1 a2 a3 S k) n9 : Nat → Int32 → Int32 → Int32 → sSt → Prop) a0 a1 a2 a3 S
theorem B_X6_rollAll_9_s (n9 : Nat) (a0 : Nat) (a1 : Int32) (a2 : Int32) (a3 : Int32) (S : sSt) (k : Int32 → sSt → Prop) : B_X6_rollAll_9 (n9 + 1) a0 a1 a2 a3 S k = Bb_X6_rollAll_9 (fun a0 a1 a2 a3 S => B_X6_rollAll_9 n9 a0 a1 a2 a3 S k) a0 a1 a2 a3 S k := rfl
set_option maxHeartbeats 4000000 in
set_option maxRecDepth 100000 in
theorem Bw_X6_rollAll_9 {p : Program} {l : Launch} {e : Env} {s : State} {m : MethodId} {args : Array Value} {below : List Frame} {meth : Method} {c : Code} {D : va_G} {cy : Nat → ClassId} {b z : Nat} {tx : TX} (C0 : CallFix p m c cX6_rollAll 4 s args TB RX6) (hr : meth.sig.returnType = (some .int)) (hlk : meth.locks = false) (hT : TxR tx s) {k : Int32 → sSt → Prop} : ∀ (n9 : Nat), ∀ (a0 : Nat) (a1 : Int32) (a2 : Int32) (a3 : Int32) (S : sSt) (H : Heap) (locs : List Loc) (ls : Array Slot) (av0 : a0 < 3), B_X6_rollAll_9 n9 a0 a1 a2 a3 S k → RelC D cy b z tx S s H → va_S (gA b 709 z) s.heap H locs → lv_has ls 4 [(0, .ref (b + adC 13 a0)), (1, .int a1), (2, .int a2), (3, .int a3)] → W p l e rm_X6_rollAll s m args below meth c H locs 0 0 (MQ below (PiC D cy b z tx k) args s 0 0 (gA b 709 z)) (F0 m 9 ls []) := by
  intro n9
  induction n9 with
  | zero => intro a0 a1 a2 a3 S H locs ls av0 h; exact h.elim
  | succ n9 ih =>
    intro a0 a1 a2 a3 S H locs ls av0 h hR hS hl
    exact Bbw_X6_rollAll_9 C0 hr hlk hT ih a0 a1 a2 a3 S H locs ls av0 h hR hS hl
def F_X6_rollAll (a0 : Nat) (a1 : Int32) (S : sSt) (k : Int32 → sSt → Prop) : Prop := ∀ x1 : Int32, x1 = ((S.1 13 a0 6) - 1) → B_X6_rollAll_9 fuel a0 a1 0 x1 S k
set_option maxHeartbeats 4000000 in
set_option maxRecDepth 100000 in
theorem c_X6_rollAll (l : Launch) {D : va_G} {cy : Nat → ClassId} {b z : Nat} {tx : TX} {a0 : Nat} {a1 : Int32} {S : sSt} {k : Int32 → sSt → Prop} (av0 : a0 < 3) (h : F_X6_rollAll a0 a1 S k) : Met l yX6_rollAll (Cond.code yX6_rollAll cX6_rollAll 4 (some .int) :: TB) rm_X6_rollAll (va_Pc [.ref (b + adC 13 a0), .int a1] (fun U => RelC D cy b z tx S U U.heap ∧ TxR tx U)) (PiC D cy b z tx k) 0 0 (gA b 709 z) := by
  refine Met.ofW (cc := cX6_rollAll) (maxL := 4) (ret := (some .int)) (by decide) rfl ?_
  intro p e s m args below meth c s₁ B hml hv
  obtain ⟨rfl, hR, hT⟩ := hv
  have C0 : CallFix p m c cX6_rollAll 4 s _ TB RX6 := ⟨B.exec, B.bytes, hml, findClass_of_methodNamed B.named, fun w hw => atoms_spec B.pre w (List.mem_cons_of_mem _ hw)⟩
  have hr := B.returns
  have hlk := B.notSynchronized
  have hx := C0.1
  have hb := C0.2.1
  have hS : va_S (gA b 709 z) s.heap s.heap [] := va_S.rf
  have hl := lv_entry ([.ref (b + adC 13 a0), .int a1]) (n := 4) (Nat.le_of_ble_eq_true rfl)
  rw [lg_entry_eq]
  generalize (lg_sl ([.ref (b + adC 13 a0), .int a1]) ++ List.replicate (4 - (lg_sl ([.ref (b + adC 13 a0), .int a1])).length) Slot.unset).toArray = ls at hl ⊢
  have hl : lv_has ls 4 [(0, .ref (b + adC 13 a0)), (1, .int a1)] := hl
  show W p l e rm_X6_rollAll s m _ below meth c s.heap [] 0 0 (MQ below (PiC D cy b z tx k) _ s 0 0 (gA b 709 z)) _
  unfold F_X6_rollAll at h
  refine lv_iconst (v := 0) hx hb dX6_rollAll_0 (by decide) ?_
  refine lv_istore_n (lv' := [(2, .int 0), (0, .ref (b + adC 13 a0)), (1, .int a1)]) hx hb dX6_rollAll_1 rfl hl (by decide) rfl (fun ls hl => ?_)
  refine lv_aload_n hx hb dX6_rollAll_2 rfl (lv_at hl 1 rfl) ?_
  refine gC_13_6 C0 hR av0 tbs_wsX60 mC4_2_146 dX6_rollAll_3 ?_
  refine lv_iconst (v := 1) hx hb dX6_rollAll_6 (by decide) ?_
  refine lv_isub hx hb dX6_rollAll_7 ?_
  refine lv_topi (fun x1 ex1 => ?_)
  have h := h x1 ex1
  refine lv_istore_n (lv' := [(3, .int x1), (2, .int 0), (0, .ref (b + adC 13 a0)), (1, .int a1)]) hx hb dX6_rollAll_8 rfl hl (by decide) rfl (fun ls hl => ?_)
  exact Bw_X6_rollAll_9 C0 hr hlk hT fuel a0 a1 0 x1 S _ _ _ av0 h hR hS (lv_sub hl [2, 3, 1, 0] rfl)

def rm_X11_roll : Room := { frames := 8, cells := 2, slots := 12, locals := 131 }
def F_X11_roll (a1 : Int32) (S : sSt) (k : Int32 → sSt → Prop) (kx : String → sSt → Prop) : Prop := F_X11_needSession a1 S (fun S2 => F_X11_settleOpen a1 S2 (fun S4 => F_X6_rollAll (S4.2 0 0 4) a1 S4 (fun r6 S7 => k r6 S7)) kx) kx
set_option maxHeartbeats 4000000 in
set_option maxRecDepth 100000 in
theorem c_X11_roll (l : Launch) (hl0 : l.stackTraces = false) {D : va_G} {cy : Nat → ClassId} {b z : Nat} {tx : TX} {a1 : Int32} {S : sSt} {k : Int32 → sSt → Prop} {kx : String → sSt → Prop} (h : F_X11_roll a1 S k kx) : vx_Met l yX11_roll (Cond.code yX11_roll cX11_roll 2 (some .int) :: TB) rm_X11_roll (va_Pc [.ref (b + adC 0 0), .int a1] (fun U => RelC D cy b z tx S U U.heap ∧ TxR tx U)) (PiC D cy b z tx k) (XeC D cy b z tx kx) 2 12 (gA b 709 z) := by
  refine vx_ofW (cc := cX11_roll) (maxL := 2) (ret := (some .int)) (by decide) rfl ?_
  intro p e s m args below meth c s₁ B hml hexc hv
  obtain ⟨rfl, hR, hT⟩ := hv
  have hX0 := hR.2.2
  have C0 : CallFix p m c cX11_roll 2 s _ TB RX11 := ⟨B.exec, B.bytes, hml, findClass_of_methodNamed B.named, fun w hw => atoms_spec B.pre w (List.mem_cons_of_mem _ hw)⟩
  have hr := B.returns
  have hlk := B.notSynchronized
  have hx := C0.1
  have hb := C0.2.1
  have hS : va_S (gA b 709 z) s.heap s.heap [] := va_S.rf
  have hl := lv_entry ([.ref (b + adC 0 0), .int a1]) (n := 2) (Nat.le_of_ble_eq_true rfl)
  rw [lg_entry_eq]
  generalize (lg_sl ([.ref (b + adC 0 0), .int a1]) ++ List.replicate (2 - (lg_sl ([.ref (b + adC 0 0), .int a1])).length) Slot.unset).toArray = ls at hl ⊢
  have hl : lv_has ls 2 [(0, .ref (b + adC 0 0)), (1, .int a1)] := hl
  show W p l e rm_X11_roll s m _ below meth c s.heap [] 0 0 (vx_MQ below (PiC D cy b z tx k) (XeC D cy b z tx kx) _ s 2 12 (gA b 709 z)) _
  unfold F_X11_roll at h
  refine lv_aload_n hx hb dX11_roll_0 rfl (lv_at hl 0 rfl) ?_
  refine lv_iload_n hx hb dX11_roll_1 rfl (lv_at hl 1 rfl) ?_
  refine qx_Vv (As := [.int a1]) (rest := []) C0 hlk hexc (c_X11_needSession l hl0 h) (cwV 1 C0.2.2.2.2 (tbV mC4_4_133 ⟨mC4_4_135, mpC4_1_5, mC4_1_1, mC4_4_136⟩) rfl rfl rfl (by decide +kernel) ⟨Nat.le_of_ble_eq_true rfl, Nat.le_of_ble_eq_true rfl⟩) (rcC_0 hR Nat.zero_lt_one) hR hT hS rfl hl.1 rfl (Nat.le_of_ble_eq_true rfl) dX11_roll_2 ⟨Nat.le_of_ble_eq_true rfl, Nat.le_of_ble_eq_true rfl⟩ ⟨Nat.le_of_ble_eq_true rfl, Nat.le_of_ble_eq_true rfl⟩ (fun S2 H locs h hR hS => ?_)
  refine lv_aload_n hx hb dX11_roll_5 rfl (lv_at hl 0 rfl) ?_
  refine lv_iload_n hx hb dX11_roll_6 rfl (lv_at hl 1 rfl) ?_
  refine qx_Vv (As := [.int a1]) (rest := []) C0 hlk hexc (c_X11_settleOpen l hl0 h) (cwV 1 C0.2.2.2.2 (tbV mC4_5_7 ⟨mC4_5_9, mpC4_1_9, mC4_1_1, mC4_5_10⟩) rfl rfl rfl (by decide +kernel) ⟨Nat.le_of_ble_eq_true rfl, Nat.le_of_ble_eq_true rfl⟩) (rcC_0 hR Nat.zero_lt_one) hR hT hS rfl hl.1 rfl (Nat.le_of_ble_eq_true rfl) dX11_roll_7 ⟨Nat.le_of_ble_eq_true rfl, Nat.le_of_ble_eq_true rfl⟩ ⟨Nat.le_of_ble_eq_true rfl, Nat.le_of_ble_eq_true rfl⟩ (fun S4 H locs h hR hS => ?_)
  refine lv_aload_n hx hb dX11_roll_10 rfl (lv_at hl 0 rfl) ?_
  refine gC_0_4 C0 hR Nat.zero_lt_one tbs_wsX110 mC4_2_213 dX11_roll_11 ?_
  have w5 : (S4.2 0 0 4) < 3 := hR.2.1.2.1
  refine lv_iload_n hx hb dX11_roll_14 rfl (lv_at hl 1 rfl) ?_
  refine qC_Vi (As := [.int a1]) (rest := []) C0 (c_X6_rollAll l w5 h) (cwV 1 C0.2.2.2.2 (tbV mC4_5_51 ⟨mC4_5_52, mC4_5_53, mC4_1_5, mC4_5_54⟩) rfl rfl rfl (by decide +kernel) ⟨Nat.le_of_ble_eq_true rfl, Nat.le_of_ble_eq_true rfl⟩) (rcC_13 hR w5) hR hT hS rfl hl.1 rfl (Nat.le_of_ble_eq_true rfl) dX11_roll_15 ⟨Nat.le_of_ble_eq_true rfl, Nat.le_of_ble_eq_true rfl⟩ (fun r6 S7 H locs h hR hS => ?_)
  refine vx_ret (W.widen (k := 2) (n := 12) (Nat.le_of_ble_eq_true rfl) (Nat.le_of_ble_eq_true rfl) ?_); exact rtC_i C0 hr hlk hR hS h dX11_roll_18

def rm_X1_isSeenBy : Room := { frames := 0, cells := 0, slots := 0, locals := 0 }
def B_X1_isSeenBy_23 (S : sSt) (k : Int32 → sSt → Prop) : Prop := k 1 S
set_option maxHeartbeats 4000000 in
set_option maxRecDepth 100000 in
theorem Bw_X1_isSeenBy_23 {p : Program} {l : Launch} {e : Env} {s : State} {m : MethodId} {args : Array Value} {below : List Frame} {meth : Method} {c : Code} {D : va_G} {cy : Nat → ClassId} {b z : Nat} {tx : TX} (C0 : CallFix p m c cX1_isSeenBy 2 s args TB RX1) (hr : meth.sig.returnType = (some .boolean)) (hlk : meth.locks = false) (hT : TxR tx s) {k : Int32 → sSt → Prop} : ∀ (S : sSt) (H : Heap) (locs : List Loc) (ls : Array Slot) , B_X1_isSeenBy_23 S k → RelC D cy b z tx S s H → va_S (gA b 709 z) s.heap H locs → lv_has ls 2 [] → W p l e rm_X1_isSeenBy s m args below meth c H locs 0 0 (MQ below (PiC D cy b z tx k) args s 0 0 (gA b 709 z)) (F0 m 23 ls []) := by
  intro S H locs ls h hR hS hl
  have hx := C0.1
  have hb := C0.2.1
  unfold B_X1_isSeenBy_23 at h
  refine lv_iconst (v := 1) hx hb dX1_isSeenBy_23 (by decide) ?_
  refine lv_goto (tgt := 28) hx hb dX1_isSeenBy_24 (by decide) ?_
  exact rtC_z C0 hr hlk hR hS (by decide) h dX1_isSeenBy_28
def F_X1_isSeenBy (a0 : Nat) (a1 : Int32) (S : sSt) (k : Int32 → sSt → Prop) : Prop := ((¬ (S.1 21 a0 5) = 0 → B_X1_isSeenBy_23 S k) ∧ ((S.1 21 a0 5) = 0 → (((S.1 21 a0 4) = (-1) → k 0 S) ∧ (¬ (S.1 21 a0 4) = (-1) → ((¬ (S.1 21 a0 4) = a1 → k 0 S) ∧ ((S.1 21 a0 4) = a1 → B_X1_isSeenBy_23 S k))))))
set_option maxHeartbeats 4000000 in
set_option maxRecDepth 100000 in
theorem c_X1_isSeenBy (l : Launch) {D : va_G} {cy : Nat → ClassId} {b z : Nat} {tx : TX} {a0 : Nat} {a1 : Int32} {S : sSt} {k : Int32 → sSt → Prop} (av0 : a0 < 72) (h : F_X1_isSeenBy a0 a1 S k) : Met l yX1_isSeenBy (Cond.code yX1_isSeenBy cX1_isSeenBy 2 (some .boolean) :: TB) rm_X1_isSeenBy (va_Pc [.ref (b + adC 21 a0), .int a1] (fun U => RelC D cy b z tx S U U.heap ∧ TxR tx U)) (PiC D cy b z tx k) 0 0 (gA b 709 z) := by
  refine Met.ofW (cc := cX1_isSeenBy) (maxL := 2) (ret := (some .boolean)) (by decide) rfl ?_
  intro p e s m args below meth c s₁ B hml hv
  obtain ⟨rfl, hR, hT⟩ := hv
  have C0 : CallFix p m c cX1_isSeenBy 2 s _ TB RX1 := ⟨B.exec, B.bytes, hml, findClass_of_methodNamed B.named, fun w hw => atoms_spec B.pre w (List.mem_cons_of_mem _ hw)⟩
  have hr := B.returns
  have hlk := B.notSynchronized
  have hx := C0.1
  have hb := C0.2.1
  have hS : va_S (gA b 709 z) s.heap s.heap [] := va_S.rf
  have hl := lv_entry ([.ref (b + adC 21 a0), .int a1]) (n := 2) (Nat.le_of_ble_eq_true rfl)
  rw [lg_entry_eq]
  generalize (lg_sl ([.ref (b + adC 21 a0), .int a1]) ++ List.replicate (2 - (lg_sl ([.ref (b + adC 21 a0), .int a1])).length) Slot.unset).toArray = ls at hl ⊢
  have hl : lv_has ls 2 [(0, .ref (b + adC 21 a0)), (1, .int a1)] := hl
  show W p l e rm_X1_isSeenBy s m _ below meth c s.heap [] 0 0 (MQ below (PiC D cy b z tx k) _ s 0 0 (gA b 709 z)) _
  unfold F_X1_isSeenBy at h
  refine lv_aload_n hx hb dX1_isSeenBy_0 rfl (lv_at hl 0 rfl) ?_
  refine gC_21_5 C0 hR av0 tbs_wsX10 mC4_1_223 dX1_isSeenBy_1 ?_
  refine lv_if_ne (tgt := 23) hx hb dX1_isSeenBy_4 (by decide) (fun c1 => ?_) (fun c1 => ?_)
  · have h := h.1 c1
    exact Bw_X1_isSeenBy_23 C0 hr hlk hT S _ _ _ h hR hS (lv_sub hl [] rfl)
  · have h := h.2 c1
    refine lv_aload_n hx hb dX1_isSeenBy_7 rfl (lv_at hl 0 rfl) ?_
    refine gC_21_4 C0 hR av0 tbs_wsX10 mC4_1_220 dX1_isSeenBy_8 ?_
    refine lv_iconst (v := (-1)) hx hb dX1_isSeenBy_11 (by decide) ?_
    refine lv_icmp_eq (tgt := 27) hx hb dX1_isSeenBy_12 (by decide) (fun c2 => ?_) (fun c2 => ?_)
    · have h := h.1 c2
      refine lv_iconst (v := 0) hx hb dX1_isSeenBy_27 (by decide) ?_
      exact rtC_z C0 hr hlk hR hS (by decide) h dX1_isSeenBy_28
    · have h := h.2 c2
      refine lv_aload_n hx hb dX1_isSeenBy_15 rfl (lv_at hl 0 rfl) ?_
      refine gC_21_4 C0 hR av0 tbs_wsX10 mC4_1_220 dX1_isSeenBy_16 ?_
      refine lv_iload_n hx hb dX1_isSeenBy_19 rfl (lv_at hl 1 rfl) ?_
      refine lv_icmp_ne (tgt := 27) hx hb dX1_isSeenBy_20 (by decide) (fun c3 => ?_) (fun c3 => ?_)
      · have h := h.1 c3
        refine lv_iconst (v := 0) hx hb dX1_isSeenBy_27 (by decide) ?_
        exact rtC_z C0 hr hlk hR hS (by decide) h dX1_isSeenBy_28
      · have h := h.2 c3
        exact Bw_X1_isSeenBy_23 C0 hr hlk hT S _ _ _ h hR hS (lv_sub hl [] rfl)

def rm_X1_seenBy : Room := { frames := 0, cells := 0, slots := 0, locals := 0 }
def F_X1_seenBy (a0 : Nat) (a1 : Int32) (S : sSt) (k : Nat → sSt → Prop) : Prop := (((S.1 21 a0 4) = (-1) → k (6 * a0) S) ∧ (¬ (S.1 21 a0 4) = (-1) → ((¬ (S.1 21 a0 4) = a1 → k (6 * a0) S) ∧ ((S.1 21 a0 4) = a1 → k (6 * a0 + 1) S))))
set_option maxHeartbeats 4000000 in
set_option maxRecDepth 100000 in
theorem c_X1_seenBy (l : Launch) {D : va_G} {cy : Nat → ClassId} {b z : Nat} {tx : TX} {a0 : Nat} {a1 : Int32} {S : sSt} {k : Nat → sSt → Prop} (av0 : a0 < 72) (h : F_X1_seenBy a0 a1 S k) : Met l yX1_seenBy (Cond.code yX1_seenBy cX1_seenBy 2 (some (.object "ClaimTable$Version")) :: TB) rm_X1_seenBy (va_Pc [.ref (b + adC 21 a0), .int a1] (fun U => RelC D cy b z tx S U U.heap ∧ TxR tx U)) (PrC D cy b z tx 22 432 k) 0 0 (gA b 709 z) := by
  refine Met.ofW (cc := cX1_seenBy) (maxL := 2) (ret := (some (.object "ClaimTable$Version"))) (by decide) rfl ?_
  intro p e s m args below meth c s₁ B hml hv
  obtain ⟨rfl, hR, hT⟩ := hv
  have C0 : CallFix p m c cX1_seenBy 2 s _ TB RX1 := ⟨B.exec, B.bytes, hml, findClass_of_methodNamed B.named, fun w hw => atoms_spec B.pre w (List.mem_cons_of_mem _ hw)⟩
  have hr := B.returns
  have hlk := B.notSynchronized
  have hx := C0.1
  have hb := C0.2.1
  have hS : va_S (gA b 709 z) s.heap s.heap [] := va_S.rf
  have hl := lv_entry ([.ref (b + adC 21 a0), .int a1]) (n := 2) (Nat.le_of_ble_eq_true rfl)
  rw [lg_entry_eq]
  generalize (lg_sl ([.ref (b + adC 21 a0), .int a1]) ++ List.replicate (2 - (lg_sl ([.ref (b + adC 21 a0), .int a1])).length) Slot.unset).toArray = ls at hl ⊢
  have hl : lv_has ls 2 [(0, .ref (b + adC 21 a0)), (1, .int a1)] := hl
  show W p l e rm_X1_seenBy s m _ below meth c s.heap [] 0 0 (MQ below (PrC D cy b z tx 22 432 k) _ s 0 0 (gA b 709 z)) _
  unfold F_X1_seenBy at h
  refine lv_aload_n hx hb dX1_seenBy_0 rfl (lv_at hl 0 rfl) ?_
  refine gC_21_4 C0 hR av0 tbs_wsX10 mC4_1_220 dX1_seenBy_1 ?_
  refine lv_iconst (v := (-1)) hx hb dX1_seenBy_4 (by decide) ?_
  refine lv_icmp_eq (tgt := 23) hx hb dX1_seenBy_5 (by decide) (fun c1 => ?_) (fun c1 => ?_)
  · have h := h.1 c1
    refine lv_aload_n hx hb dX1_seenBy_23 rfl (lv_at hl 0 rfl) ?_
    refine gC_21_0 C0 hR av0 tbs_wsX10 mC4_1_210 dX1_seenBy_24 ?_
    have w2 : (6 * a0) < 432 := by omega
    exact rtC_r C0 hr hlk hR hS w2 h dX1_seenBy_27
  · have h := h.2 c1
    refine lv_aload_n hx hb dX1_seenBy_8 rfl (lv_at hl 0 rfl) ?_
    refine gC_21_4 C0 hR av0 tbs_wsX10 mC4_1_220 dX1_seenBy_9 ?_
    refine lv_iload_n hx hb dX1_seenBy_12 rfl (lv_at hl 1 rfl) ?_
    refine lv_icmp_ne (tgt := 23) hx hb dX1_seenBy_13 (by decide) (fun c3 => ?_) (fun c3 => ?_)
    · have h := h.1 c3
      refine lv_aload_n hx hb dX1_seenBy_23 rfl (lv_at hl 0 rfl) ?_
      refine gC_21_0 C0 hR av0 tbs_wsX10 mC4_1_210 dX1_seenBy_24 ?_
      have w4 : (6 * a0) < 432 := by omega
      exact rtC_r C0 hr hlk hR hS w4 h dX1_seenBy_27
    · have h := h.2 c3
      refine lv_aload_n hx hb dX1_seenBy_16 rfl (lv_at hl 0 rfl) ?_
      refine gC_21_1 C0 hR av0 tbs_wsX10 mC4_1_215 dX1_seenBy_17 ?_
      have w5 : (6 * a0 + 1) < 432 := by omega
      refine lv_goto (tgt := 27) hx hb dX1_seenBy_20 (by decide) ?_
      exact rtC_r C0 hr hlk hR hS w5 h dX1_seenBy_27

def rm_X1_isLockedByOther : Room := { frames := 0, cells := 0, slots := 0, locals := 0 }
def F_X1_isLockedByOther (a0 : Nat) (a1 : Int32) (S : sSt) (k : Int32 → sSt → Prop) : Prop := (((S.1 21 a0 4) = (-1) → k 0 S) ∧ (¬ (S.1 21 a0 4) = (-1) → (((S.1 21 a0 4) = a1 → k 0 S) ∧ (¬ (S.1 21 a0 4) = a1 → k 1 S))))
set_option maxHeartbeats 4000000 in
set_option maxRecDepth 100000 in
theorem c_X1_isLockedByOther (l : Launch) {D : va_G} {cy : Nat → ClassId} {b z : Nat} {tx : TX} {a0 : Nat} {a1 : Int32} {S : sSt} {k : Int32 → sSt → Prop} (av0 : a0 < 72) (h : F_X1_isLockedByOther a0 a1 S k) : Met l yX1_isLockedByOther (Cond.code yX1_isLockedByOther cX1_isLockedByOther 2 (some .boolean) :: TB) rm_X1_isLockedByOther (va_Pc [.ref (b + adC 21 a0), .int a1] (fun U => RelC D cy b z tx S U U.heap ∧ TxR tx U)) (PiC D cy b z tx k) 0 0 (gA b 709 z) := by
  refine Met.ofW (cc := cX1_isLockedByOther) (maxL := 2) (ret := (some .boolean)) (by decide) rfl ?_
  intro p e s m args below meth c s₁ B hml hv
  obtain ⟨rfl, hR, hT⟩ := hv
  have C0 : CallFix p m c cX1_isLockedByOther 2 s _ TB RX1 := ⟨B.exec, B.bytes, hml, findClass_of_methodNamed B.named, fun w hw => atoms_spec B.pre w (List.mem_cons_of_mem _ hw)⟩
  have hr := B.returns
  have hlk := B.notSynchronized
  have hx := C0.1
  have hb := C0.2.1
  have hS : va_S (gA b 709 z) s.heap s.heap [] := va_S.rf
  have hl := lv_entry ([.ref (b + adC 21 a0), .int a1]) (n := 2) (Nat.le_of_ble_eq_true rfl)
  rw [lg_entry_eq]
  generalize (lg_sl ([.ref (b + adC 21 a0), .int a1]) ++ List.replicate (2 - (lg_sl ([.ref (b + adC 21 a0), .int a1])).length) Slot.unset).toArray = ls at hl ⊢
  have hl : lv_has ls 2 [(0, .ref (b + adC 21 a0)), (1, .int a1)] := hl
  show W p l e rm_X1_isLockedByOther s m _ below meth c s.heap [] 0 0 (MQ below (PiC D cy b z tx k) _ s 0 0 (gA b 709 z)) _
  unfold F_X1_isLockedByOther at h
  refine lv_aload_n hx hb dX1_isLockedByOther_0 rfl (lv_at hl 0 rfl) ?_
  refine gC_21_4 C0 hR av0 tbs_wsX10 mC4_1_220 dX1_isLockedByOther_1 ?_
  refine lv_iconst (v := (-1)) hx hb dX1_isLockedByOther_4 (by decide) ?_
  refine lv_icmp_eq (tgt := 20) hx hb dX1_isLockedByOther_5 (by decide) (fun c1 => ?_) (fun c1 => ?_)
  · have h := h.1 c1
    refine lv_iconst (v := 0) hx hb dX1_isLockedByOther_20 (by decide) ?_
    exact rtC_z C0 hr hlk hR hS (by decide) h dX1_isLockedByOther_21
  · have h := h.2 c1
    refine lv_aload_n hx hb dX1_isLockedByOther_8 rfl (lv_at hl 0 rfl) ?_
    refine gC_21_4 C0 hR av0 tbs_wsX10 mC4_1_220 dX1_isLockedByOther_9 ?_
    refine lv_iload_n hx hb dX1_isLockedByOther_12 rfl (lv_at hl 1 rfl) ?_
    refine lv_icmp_eq (tgt := 20) hx hb dX1_isLockedByOther_13 (by decide) (fun c2 => ?_) (fun c2 => ?_)
    · have h := h.1 c2
      refine lv_iconst (v := 0) hx hb dX1_isLockedByOther_20 (by decide) ?_
      exact rtC_z C0 hr hlk hR hS (by decide) h dX1_isLockedByOther_21
    · have h := h.2 c2
      refine lv_iconst (v := 1) hx hb dX1_isLockedByOther_16 (by decide) ?_
      refine lv_goto (tgt := 21) hx hb dX1_isLockedByOther_17 (by decide) ?_
      exact rtC_z C0 hr hlk hR hS (by decide) h dX1_isLockedByOther_21

def rm_X0_isLesserWaiting : Room := { frames := 1, cells := 0, slots := 0, locals := 21 }
def B_X0_isLesserWaiting_79 (kk2 : Nat → Nat → Int32 → Int32 → sSt → Prop) (a0 : Nat) (a1 : Nat) (a2 : Int32) (a3 : Int32) (S : sSt) (k : Int32 → sSt → Prop) : Prop := ∀ x8 : Int32, x8 = a3 + 1 → kk2 a0 a1 a2 x8 S
set_option maxHeartbeats 4000000 in
set_option maxRecDepth 100000 in
theorem Bw_X0_isLesserWaiting_79 {p : Program} {l : Launch} {e : Env} {s : State} {m : MethodId} {args : Array Value} {below : List Frame} {meth : Method} {c : Code} {D : va_G} {cy : Nat → ClassId} {b z : Nat} {tx : TX} (C0 : CallFix p m c cX0_isLesserWaiting 6 s args TB RX0) (hr : meth.sig.returnType = (some .boolean)) (hlk : meth.locks = false) (hT : TxR tx s) {k : Int32 → sSt → Prop} {kk2 : Nat → Nat → Int32 → Int32 → sSt → Prop} (ih2 : ∀ (a0 : Nat) (a1 : Nat) (a2 : Int32) (a3 : Int32) (S : sSt) (H : Heap) (locs : List Loc) (ls : Array Slot) (av0 : a0 < 3) (av1 : a1 < 72), kk2 a0 a1 a2 a3 S → RelC D cy b z tx S s H → va_S (gA b 709 z) s.heap H locs → lv_has ls 6 [(0, .ref (b + adC 13 a0)), (1, .ref (b + adC 21 a1)), (2, .int a2), (3, .int a3)] → W p l e rm_X0_isLesserWaiting s m args below meth c H locs 0 0 (MQ below (PiC D cy b z tx k) args s 0 0 (gA b 709 z)) (F0 m 2 ls [])) : ∀ (a0 : Nat) (a1 : Nat) (a2 : Int32) (a3 : Int32) (S : sSt) (H : Heap) (locs : List Loc) (ls : Array Slot) (av0 : a0 < 3) (av1 : a1 < 72), B_X0_isLesserWaiting_79 kk2 a0 a1 a2 a3 S k → RelC D cy b z tx S s H → va_S (gA b 709 z) s.heap H locs → lv_has ls 6 [(0, .ref (b + adC 13 a0)), (1, .ref (b + adC 21 a1)), (2, .int a2), (3, .int a3)] → W p l e rm_X0_isLesserWaiting s m args below meth c H locs 0 0 (MQ below (PiC D cy b z tx k) args s 0 0 (gA b 709 z)) (F0 m 79 ls []) := by
  intro a0 a1 a2 a3 S H locs ls av0 av1 h hR hS hl
  have hx := C0.1
  have hb := C0.2.1
  unfold B_X0_isLesserWaiting_79 at h
  obtain ⟨x8, ex8⟩ : ∃ x8 : Int32, x8 = a3 + 1 := ⟨_, rfl⟩
  have h := h x8 ex8
  refine w_iinc (v0 := 1) (lv' := [(3, .int x8), (0, .ref (b + adC 13 a0)), (1, .ref (b + adC 21 a1)), (2, .int a2)]) C0 dX0_isLesserWaiting_79 hl (k := 3) rfl (by decide) (by decide) x8 ex8 rfl (fun ls hl => ?_)
  refine lv_goto (tgt := 2) hx hb dX0_isLesserWaiting_82 (by decide) ?_
  exact ih2 a0 a1 a2 x8 S _ _ _ av0 av1 h hR hS (lv_sub hl [1, 2, 3, 0] rfl)
def B_X0_isLesserWaiting_58 (kk2 : Nat → Nat → Int32 → Int32 → sSt → Prop) (a0 : Nat) (a1 : Nat) (a2 : Int32) (a3 : Int32) (a4 : Nat) (t0 : Int32) (S : sSt) (k : Int32 → sSt → Prop) : Prop := ((t0 = 0 → B_X0_isLesserWaiting_79 kk2 a0 a1 a2 a3 S k) ∧ (¬ t0 = 0 → F_X1_seenBy a4 a2 S (fun r9 S10 => ((¬ (S10.1 22 r9 0) = 0 → B_X0_isLesserWaiting_79 kk2 a0 a1 a2 a3 S10 k) ∧ ((S10.1 22 r9 0) = 0 → k 1 S10)))))
set_option maxHeartbeats 4000000 in
set_option maxRecDepth 100000 in
theorem Bw_X0_isLesserWaiting_58 {p : Program} {l : Launch} {e : Env} {s : State} {m : MethodId} {args : Array Value} {below : List Frame} {meth : Method} {c : Code} {D : va_G} {cy : Nat → ClassId} {b z : Nat} {tx : TX} (C0 : CallFix p m c cX0_isLesserWaiting 6 s args TB RX0) (hr : meth.sig.returnType = (some .boolean)) (hlk : meth.locks = false) (hT : TxR tx s) {k : Int32 → sSt → Prop} {kk2 : Nat → Nat → Int32 → Int32 → sSt → Prop} (ih2 : ∀ (a0 : Nat) (a1 : Nat) (a2 : Int32) (a3 : Int32) (S : sSt) (H : Heap) (locs : List Loc) (ls : Array Slot) (av0 : a0 < 3) (av1 : a1 < 72), kk2 a0 a1 a2 a3 S → RelC D cy b z tx S s H → va_S (gA b 709 z) s.heap H locs → lv_has ls 6 [(0, .ref (b + adC 13 a0)), (1, .ref (b + adC 21 a1)), (2, .int a2), (3, .int a3)] → W p l e rm_X0_isLesserWaiting s m args below meth c H locs 0 0 (MQ below (PiC D cy b z tx k) args s 0 0 (gA b 709 z)) (F0 m 2 ls [])) : ∀ (a0 : Nat) (a1 : Nat) (a2 : Int32) (a3 : Int32) (a4 : Nat) (t0 : Int32) (S : sSt) (H : Heap) (locs : List Loc) (ls : Array Slot) (av0 : a0 < 3) (av1 : a1 < 72) (av4 : a4 < 72), B_X0_isLesserWaiting_58 kk2 a0 a1 a2 a3 a4 t0 S k → RelC D cy b z tx S s H → va_S (gA b 709 z) s.heap H locs → lv_has ls 6 [(0, .ref (b + adC 13 a0)), (1, .ref (b + adC 21 a1)), (2, .int a2), (3, .int a3), (4, .ref (b + adC 21 a4))] → W p l e rm_X0_isLesserWaiting s m args below meth c H locs 0 0 (MQ below (PiC D cy b z tx k) args s 0 0 (gA b 709 z)) (F0 m 58 ls [.int t0]) := by
  intro a0 a1 a2 a3 a4 t0 S H locs ls av0 av1 av4 h hR hS hl
  have hx := C0.1
  have hb := C0.2.1
  unfold B_X0_isLesserWaiting_58 at h
  refine lv_istore (lv' := [(5, .int t0), (0, .ref (b + adC 13 a0)), (1, .ref (b + adC 21 a1)), (2, .int a2), (3, .int a3), (4, .ref (b + adC 21 a4))]) hx hb dX0_isLesserWaiting_58 hl (by decide) rfl (fun ls hl => ?_)
  refine lv_iload hx hb dX0_isLesserWaiting_60 (lv_at hl 0 rfl) ?_
  refine lv_if_eq (tgt := 79) hx hb dX0_isLesserWaiting_62 (by decide) (fun c7 => ?_) (fun c7 => ?_)
  · have h := h.1 c7
    exact Bw_X0_isLesserWaiting_79 C0 hr hlk hT ih2 a0 a1 a2 a3 S _ _ _ av0 av1 h hR hS (lv_sub hl [1, 2, 3, 4] rfl)
  · have h := h.2 c7
    refine lv_aload hx hb dX0_isLesserWaiting_65 (lv_at hl 5 rfl) ?_
    refine lv_iload_n hx hb dX0_isLesserWaiting_67 rfl (lv_at hl 3 rfl) ?_
    refine qC_Vr (As := [.int a2]) (rest := []) C0 (c_X1_seenBy l av4 h) (cwV 1 C0.2.2.2.2 (tbV mC4_5_79 ⟨mC4_5_80, mC4_5_81, mC4_1_7, mC4_5_82⟩) rfl rfl rfl (by decide +kernel) ⟨Nat.le_of_ble_eq_true rfl, Nat.le_of_ble_eq_true rfl⟩) (rcC_21 hR av4) hR hT hS rfl hl.1 rfl (Nat.le_of_ble_eq_true rfl) dX0_isLesserWaiting_68 ⟨Nat.zero_le _, Nat.zero_le _⟩ (fun r9 S10 H locs vr9 h hR hS => ?_)
    refine gCn_22_0 C0 hR vr9 tbs_wsX90 mC4_1_158 hT dX0_isLesserWaiting_71 ?_
    refine lv_if_ne (tgt := 79) hx hb dX0_isLesserWaiting_74 (by decide) (fun c11 => ?_) (fun c11 => ?_)
    · have h := h.1 c11
      exact Bw_X0_isLesserWaiting_79 C0 hr hlk hT ih2 a0 a1 a2 a3 S10 _ _ _ av0 av1 h hR hS (lv_sub hl [1, 2, 3, 4] rfl)
    · have h := h.2 c11
      refine lv_iconst (v := 1) hx hb dX0_isLesserWaiting_77 (by decide) ?_
      exact rtC_z C0 hr hlk hR hS (by decide) h dX0_isLesserWaiting_78
def B_X0_isLesserWaiting_57 (kk2 : Nat → Nat → Int32 → Int32 → sSt → Prop) (a0 : Nat) (a1 : Nat) (a2 : Int32) (a3 : Int32) (a4 : Nat) (S : sSt) (k : Int32 → sSt → Prop) : Prop := B_X0_isLesserWaiting_58 kk2 a0 a1 a2 a3 a4 0 S k
set_option maxHeartbeats 4000000 in
set_option maxRecDepth 100000 in
theorem Bw_X0_isLesserWaiting_57 {p : Program} {l : Launch} {e : Env} {s : State} {m : MethodId} {args : Array Value} {below : List Frame} {meth : Method} {c : Code} {D : va_G} {cy : Nat → ClassId} {b z : Nat} {tx : TX} (C0 : CallFix p m c cX0_isLesserWaiting 6 s args TB RX0) (hr : meth.sig.returnType = (some .boolean)) (hlk : meth.locks = false) (hT : TxR tx s) {k : Int32 → sSt → Prop} {kk2 : Nat → Nat → Int32 → Int32 → sSt → Prop} (ih2 : ∀ (a0 : Nat) (a1 : Nat) (a2 : Int32) (a3 : Int32) (S : sSt) (H : Heap) (locs : List Loc) (ls : Array Slot) (av0 : a0 < 3) (av1 : a1 < 72), kk2 a0 a1 a2 a3 S → RelC D cy b z tx S s H → va_S (gA b 709 z) s.heap H locs → lv_has ls 6 [(0, .ref (b + adC 13 a0)), (1, .ref (b + adC 21 a1)), (2, .int a2), (3, .int a3)] → W p l e rm_X0_isLesserWaiting s m args below meth c H locs 0 0 (MQ below (PiC D cy b z tx k) args s 0 0 (gA b 709 z)) (F0 m 2 ls [])) : ∀ (a0 : Nat) (a1 : Nat) (a2 : Int32) (a3 : Int32) (a4 : Nat) (S : sSt) (H : Heap) (locs : List Loc) (ls : Array Slot) (av0 : a0 < 3) (av1 : a1 < 72) (av4 : a4 < 72), B_X0_isLesserWaiting_57 kk2 a0 a1 a2 a3 a4 S k → RelC D cy b z tx S s H → va_S (gA b 709 z) s.heap H locs → lv_has ls 6 [(0, .ref (b + adC 13 a0)), (1, .ref (b + adC 21 a1)), (2, .int a2), (3, .int a3), (4, .ref (b + adC 21 a4))] → W p l e rm_X0_isLesserWaiting s m args below meth c H locs 0 0 (MQ below (PiC D cy b z tx k) args s 0 0 (gA b 709 z)) (F0 m 57 ls []) := by
  intro a0 a1 a2 a3 a4 S H locs ls av0 av1 av4 h hR hS hl
  have hx := C0.1
  have hb := C0.2.1
  unfold B_X0_isLesserWaiting_57 at h
  refine lv_iconst (v := 0) hx hb dX0_isLesserWaiting_57 (by decide) ?_
  exact Bw_X0_isLesserWaiting_58 C0 hr hlk hT ih2 a0 a1 a2 a3 a4 0 S _ _ _ av0 av1 av4 h hR hS (lv_sub hl [0, 1, 2, 3, 4] rfl)
def Bb_X0_isLesserWaiting_2 (kk2 : Nat → Nat → Int32 → Int32 → sSt → Prop) (a0 : Nat) (a1 : Nat) (a2 : Int32) (a3 : Int32) (S : sSt) (k : Int32 → sSt → Prop) : Prop := (((S.1 13 a0 6) ≤ a3 → k 0 S) ∧ (¬ (S.1 13 a0 6) ≤ a3 → ix a3 24 (fun j3 => (((S.1 21 (S.2 14 a0 j3) 6) < (S.1 21 a1 6) → ((¬ (S.1 21 (S.2 14 a0 j3) 7) = (S.1 21 a1 7) → B_X0_isLesserWaiting_57 kk2 a0 a1 a2 a3 (S.2 14 a0 j3) S k) ∧ ((S.1 21 (S.2 14 a0 j3) 7) = (S.1 21 a1 7) → F_X1_isSeenBy (S.2 14 a0 j3) a2 S (fun r12 S13 => ((r12 = 0 → B_X0_isLesserWaiting_57 kk2 a0 a1 a2 a3 (S.2 14 a0 j3) S13 k) ∧ (¬ r12 = 0 → B_X0_isLesserWaiting_58 kk2 a0 a1 a2 a3 (S.2 14 a0 j3) 1 S13 k)))))) ∧ (¬ (S.1 21 (S.2 14 a0 j3) 6) < (S.1 21 a1 6) → k 0 S)))))
set_option maxHeartbeats 4000000 in
set_option maxRecDepth 100000 in
theorem Bbw_X0_isLesserWaiting_2 {p : Program} {l : Launch} {e : Env} {s : State} {m : MethodId} {args : Array Value} {below : List Frame} {meth : Method} {c : Code} {D : va_G} {cy : Nat → ClassId} {b z : Nat} {tx : TX} (C0 : CallFix p m c cX0_isLesserWaiting 6 s args TB RX0) (hr : meth.sig.returnType = (some .boolean)) (hlk : meth.locks = false) (hT : TxR tx s) {k : Int32 → sSt → Prop} {kk2 : Nat → Nat → Int32 → Int32 → sSt → Prop} (ih2 : ∀ (a0 : Nat) (a1 : Nat) (a2 : Int32) (a3 : Int32) (S : sSt) (H : Heap) (locs : List Loc) (ls : Array Slot) (av0 : a0 < 3) (av1 : a1 < 72), kk2 a0 a1 a2 a3 S → RelC D cy b z tx S s H → va_S (gA b 709 z) s.heap H locs → lv_has ls 6 [(0, .ref (b + adC 13 a0)), (1, .ref (b + adC 21 a1)), (2, .int a2), (3, .int a3)] → W p l e rm_X0_isLesserWaiting s m args below meth c H locs 0 0 (MQ below (PiC D cy b z tx k) args s 0 0 (gA b 709 z)) (F0 m 2 ls [])) : ∀ (a0 : Nat) (a1 : Nat) (a2 : Int32) (a3 : Int32) (S : sSt) (H : Heap) (locs : List Loc) (ls : Array Slot) (av0 : a0 < 3) (av1 : a1 < 72), Bb_X0_isLesserWaiting_2 kk2 a0 a1 a2 a3 S k → RelC D cy b z tx S s H → va_S (gA b 709 z) s.heap H locs → lv_has ls 6 [(0, .ref (b + adC 13 a0)), (1, .ref (b + adC 21 a1)), (2, .int a2), (3, .int a3)] → W p l e rm_X0_isLesserWaiting s m args below meth c H locs 0 0 (MQ below (PiC D cy b z tx k) args s 0 0 (gA b 709 z)) (F0 m 2 ls []) := by
  intro a0 a1 a2 a3 S H locs ls av0 av1 h hR hS hl
  have hx := C0.1
  have hb := C0.2.1
  unfold Bb_X0_isLesserWaiting_2 at h
  refine lv_iload_n hx hb dX0_isLesserWaiting_2 rfl (lv_at hl 3 rfl) ?_
  refine lv_aload_n hx hb dX0_isLesserWaiting_3 rfl (lv_at hl 0 rfl) ?_
  refine gCn_13_6 C0 hR av0 tbs_wsX60 mC4_2_148 hT dX0_isLesserWaiting_4 ?_
  refine lv_icmp_ge (tgt := 85) hx hb dX0_isLesserWaiting_7 (by decide) (fun c1 => ?_) (fun c1 => ?_)
  · have h := h.1 c1
    refine lv_iconst (v := 0) hx hb dX0_isLesserWaiting_85 (by decide) ?_
    exact rtC_z C0 hr hlk hR hS (by decide) h dX0_isLesserWaiting_86
  · have h := h.2 c1
    refine lv_aload_n hx hb dX0_isLesserWaiting_10 rfl (lv_at hl 0 rfl) ?_
    refine gCn_13_0 C0 hR av0 tbs_wsX60 mC4_2_127 hT dX0_isLesserWaiting_11 ?_
    have w2 : a0 < 3 := by omega
    refine lv_iload_n hx hb dX0_isLesserWaiting_14 rfl (lv_at hl 3 rfl) ?_
    obtain ⟨j3, hj3, ej3, h⟩ := h
    refine lC_14 C0 hR w2 hj3 ej3 dX0_isLesserWaiting_15 ?_
    have w4 : (S.2 14 a0 j3) < 72 := hR.2.1.1 _ _ w2 hj3
    refine lv_astore (lv' := [(4, .ref (b + adC 21 (S.2 14 a0 j3))), (0, .ref (b + adC 13 a0)), (1, .ref (b + adC 21 a1)), (2, .int a2), (3, .int a3)]) hx hb dX0_isLesserWaiting_16 hl (by decide) rfl (fun ls hl => ?_)
    refine lv_aload hx hb dX0_isLesserWaiting_18 (lv_at hl 0 rfl) ?_
    refine gCn_21_6 C0 hR w4 tbs_wsX10 mC4_1_228 hT dX0_isLesserWaiting_20 ?_
    refine lv_aload_n hx hb dX0_isLesserWaiting_23 rfl (lv_at hl 2 rfl) ?_
    refine gCn_21_6 C0 hR av1 tbs_wsX10 mC4_1_228 hT dX0_isLesserWaiting_24 ?_
    refine lv_icmp_lt (tgt := 32) hx hb dX0_isLesserWaiting_27 (by decide) (fun c5 => ?_) (fun c5 => ?_)
    · have h := h.1 c5
      refine lv_aload hx hb dX0_isLesserWaiting_32 (lv_at hl 0 rfl) ?_
      refine gCn_21_7 C0 hR w4 tbs_wsX10 mC4_1_234 hT dX0_isLesserWaiting_34 ?_
      refine lv_aload_n hx hb dX0_isLesserWaiting_37 rfl (lv_at hl 2 rfl) ?_
      refine gCn_21_7 C0 hR av1 tbs_wsX10 mC4_1_234 hT dX0_isLesserWaiting_38 ?_
      refine lv_icmp_ne (tgt := 57) hx hb dX0_isLesserWaiting_41 (by decide) (fun c6 => ?_) (fun c6 => ?_)
      · have h := h.1 c6
        exact Bw_X0_isLesserWaiting_57 C0 hr hlk hT ih2 a0 a1 a2 a3 (S.2 14 a0 j3) S _ _ _ av0 av1 w4 h hR hS (lv_sub hl [1, 2, 3, 4, 0] rfl)
      · have h := h.2 c6
        refine lv_aload hx hb dX0_isLesserWaiting_44 (lv_at hl 0 rfl) ?_
        refine lv_iload_n hx hb dX0_isLesserWaiting_46 rfl (lv_at hl 3 rfl) ?_
        refine qC_Vi (As := [.int a2]) (rest := []) C0 (c_X1_isSeenBy l w4 h) (cwV 1 C0.2.2.2.2 (tbV mC4_5_72 ⟨mC4_5_73, mC4_5_74, mC4_1_7, mC4_5_75⟩) rfl rfl rfl (by decide +kernel) ⟨Nat.le_of_ble_eq_true rfl, Nat.le_of_ble_eq_true rfl⟩) (rcC_21 hR w4) hR hT hS rfl hl.1 rfl (Nat.le_of_ble_eq_true rfl) dX0_isLesserWaiting_47 ⟨Nat.zero_le _, Nat.zero_le _⟩ (fun r12 S13 H locs h hR hS => ?_)
        refine lv_if_eq (tgt := 57) hx hb dX0_isLesserWaiting_50 (by decide) (fun c14 => ?_) (fun c14 => ?_)
        · have h := h.1 c14
          exact Bw_X0_isLesserWaiting_57 C0 hr hlk hT ih2 a0 a1 a2 a3 (S.2 14 a0 j3) S13 _ _ _ av0 av1 w4 h hR hS (lv_sub hl [1, 2, 3, 4, 0] rfl)
        · have h := h.2 c14
          refine lv_iconst (v := 1) hx hb dX0_isLesserWaiting_53 (by decide) ?_
          refine lv_goto (tgt := 58) hx hb dX0_isLesserWaiting_54 (by decide) ?_
          exact Bw_X0_isLesserWaiting_58 C0 hr hlk hT ih2 a0 a1 a2 a3 (S.2 14 a0 j3) 1 S13 _ _ _ av0 av1 w4 h hR hS (lv_sub hl [1, 2, 3, 4, 0] rfl)
    · have h := h.2 c5
      refine lv_iconst (v := 0) hx hb dX0_isLesserWaiting_30 (by decide) ?_
      exact rtC_z C0 hr hlk hR hS (by decide) h dX0_isLesserWaiting_31
def B_X0_isLesserWaiting_2 (n9 : Nat) (a0 : Nat) (a1 : Nat) (a2 : Int32) (a3 : Int32) (S : sSt) (k : Int32 → sSt → Prop) : Prop := (Nat.rec (motive := fun _ => Nat → Nat → Int32 → Int32 → sSt → Prop) (fun _ _ _ _ _ => False) (fun _ r9 => fun a0 a1 a2 a3 S => Bb_X0_isLesserWaiting_2 r9 a0 a1 a2 a3 S k) n9 : Nat → Nat → Int32 → Int32 → sSt → Prop) a0 a1 a2 a3 S
theorem B_X0_isLesserWaiting_2_s (n9 : Nat) (a0 : Nat) (a1 : Nat) (a2 : Int32) (a3 : Int32) (S : sSt) (k : Int32 → sSt → Prop) : B_X0_isLesserWaiting_2 (n9 + 1) a0 a1 a2 a3 S k = Bb_X0_isLesserWaiting_2 (fun a0 a1 a2 a3 S => B_X0_isLesserWaiting_2 n9 a0 a1 a2 a3 S k) a0 a1 a2 a3 S k := rfl
set_option maxHeartbeats 4000000 in
set_option maxRecDepth 100000 in
theorem Bw_X0_isLesserWaiting_2 {p : Program} {l : Launch} {e : Env} {s : State} {m : MethodId} {args : Array Value} {below : List Frame} {meth : Method} {c : Code} {D : va_G} {cy : Nat → ClassId} {b z : Nat} {tx : TX} (C0 : CallFix p m c cX0_isLesserWaiting 6 s args TB RX0) (hr : meth.sig.returnType = (some .boolean)) (hlk : meth.locks = false) (hT : TxR tx s) {k : Int32 → sSt → Prop} : ∀ (n9 : Nat), ∀ (a0 : Nat) (a1 : Nat) (a2 : Int32) (a3 : Int32) (S : sSt) (H : Heap) (locs : List Loc) (ls : Array Slot) (av0 : a0 < 3) (av1 : a1 < 72), B_X0_isLesserWaiting_2 n9 a0 a1 a2 a3 S k → RelC D cy b z tx S s H → va_S (gA b 709 z) s.heap H locs → lv_has ls 6 [(0, .ref (b + adC 13 a0)), (1, .ref (b + adC 21 a1)), (2, .int a2), (3, .int a3)] → W p l e rm_X0_isLesserWaiting s m args below meth c H locs 0 0 (MQ below (PiC D cy b z tx k) args s 0 0 (gA b 709 z)) (F0 m 2 ls []) := by
  intro n9
  induction n9 with
  | zero => intro a0 a1 a2 a3 S H locs ls av0 av1 h; exact h.elim
  | succ n9 ih =>
    intro a0 a1 a2 a3 S H locs ls av0 av1 h hR hS hl
    exact Bbw_X0_isLesserWaiting_2 C0 hr hlk hT ih a0 a1 a2 a3 S H locs ls av0 av1 h hR hS hl
def F_X0_isLesserWaiting (a0 : Nat) (a1 : Nat) (a2 : Int32) (S : sSt) (k : Int32 → sSt → Prop) : Prop := B_X0_isLesserWaiting_2 fuel a0 a1 a2 0 S k
set_option maxHeartbeats 4000000 in
set_option maxRecDepth 100000 in
theorem c_X0_isLesserWaiting (l : Launch) {D : va_G} {cy : Nat → ClassId} {b z : Nat} {tx : TX} {a0 : Nat} {a1 : Nat} {a2 : Int32} {S : sSt} {k : Int32 → sSt → Prop} (av0 : a0 < 3) (av1 : a1 < 72) (h : F_X0_isLesserWaiting a0 a1 a2 S k) : Met l yX0_isLesserWaiting (Cond.code yX0_isLesserWaiting cX0_isLesserWaiting 6 (some .boolean) :: TB) rm_X0_isLesserWaiting (va_Pc [.ref (b + adC 13 a0), .ref (b + adC 21 a1), .int a2] (fun U => RelC D cy b z tx S U U.heap ∧ TxR tx U)) (PiC D cy b z tx k) 0 0 (gA b 709 z) := by
  refine Met.ofW (cc := cX0_isLesserWaiting) (maxL := 6) (ret := (some .boolean)) (by decide) rfl ?_
  intro p e s m args below meth c s₁ B hml hv
  obtain ⟨rfl, hR, hT⟩ := hv
  have C0 : CallFix p m c cX0_isLesserWaiting 6 s _ TB RX0 := ⟨B.exec, B.bytes, hml, findClass_of_methodNamed B.named, fun w hw => atoms_spec B.pre w (List.mem_cons_of_mem _ hw)⟩
  have hr := B.returns
  have hlk := B.notSynchronized
  have hx := C0.1
  have hb := C0.2.1
  have hS : va_S (gA b 709 z) s.heap s.heap [] := va_S.rf
  have hl := lv_entry ([.ref (b + adC 13 a0), .ref (b + adC 21 a1), .int a2]) (n := 6) (Nat.le_of_ble_eq_true rfl)
  rw [lg_entry_eq]
  generalize (lg_sl ([.ref (b + adC 13 a0), .ref (b + adC 21 a1), .int a2]) ++ List.replicate (6 - (lg_sl ([.ref (b + adC 13 a0), .ref (b + adC 21 a1), .int a2])).length) Slot.unset).toArray = ls at hl ⊢
  have hl : lv_has ls 6 [(0, .ref (b + adC 13 a0)), (1, .ref (b + adC 21 a1)), (2, .int a2)] := hl
  show W p l e rm_X0_isLesserWaiting s m _ below meth c s.heap [] 0 0 (MQ below (PiC D cy b z tx k) _ s 0 0 (gA b 709 z)) _
  unfold F_X0_isLesserWaiting at h
  refine lv_iconst (v := 0) hx hb dX0_isLesserWaiting_0 (by decide) ?_
  refine lv_istore_n (lv' := [(3, .int 0), (0, .ref (b + adC 13 a0)), (1, .ref (b + adC 21 a1)), (2, .int a2)]) hx hb dX0_isLesserWaiting_1 rfl hl (by decide) rfl (fun ls hl => ?_)
  exact Bw_X0_isLesserWaiting_2 C0 hr hlk hT fuel a0 a1 a2 0 S _ _ _ av0 av1 h hR hS (lv_sub hl [1, 2, 3, 0] rfl)

def rm_X0_isGroupFull : Room := { frames := 1, cells := 0, slots := 0, locals := 21 }
def B_X0_isGroupFull_69 (kk5 : Nat → Int32 → Int32 → Int32 → Int32 → sSt → Prop) (a0 : Nat) (a1 : Int32) (a2 : Int32) (a3 : Int32) (a4 : Int32) (S : sSt) (k : Int32 → sSt → Prop) : Prop := ∀ x12 : Int32, x12 = a4 + 1 → kk5 a0 a1 a2 a3 x12 S
set_option maxHeartbeats 4000000 in
set_option maxRecDepth 100000 in
theorem Bw_X0_isGroupFull_69 {p : Program} {l : Launch} {e : Env} {s : State} {m : MethodId} {args : Array Value} {below : List Frame} {meth : Method} {c : Code} {D : va_G} {cy : Nat → ClassId} {b z : Nat} {tx : TX} (C0 : CallFix p m c cX0_isGroupFull 7 s args TB RX0) (hr : meth.sig.returnType = (some .boolean)) (hlk : meth.locks = false) (hT : TxR tx s) {k : Int32 → sSt → Prop} {kk5 : Nat → Int32 → Int32 → Int32 → Int32 → sSt → Prop} (ih5 : ∀ (a0 : Nat) (a1 : Int32) (a2 : Int32) (a3 : Int32) (a4 : Int32) (S : sSt) (H : Heap) (locs : List Loc) (ls : Array Slot) (av0 : a0 < 3), kk5 a0 a1 a2 a3 a4 S → RelC D cy b z tx S s H → va_S (gA b 709 z) s.heap H locs → lv_has ls 7 [(0, .ref (b + adC 13 a0)), (1, .int a1), (2, .int a2), (3, .int a3), (4, .int a4)] → W p l e rm_X0_isGroupFull s m args below meth c H locs 0 0 (MQ below (PiC D cy b z tx k) args s 0 0 (gA b 709 z)) (F0 m 5 ls [])) : ∀ (a0 : Nat) (a1 : Int32) (a2 : Int32) (a3 : Int32) (a4 : Int32) (S : sSt) (H : Heap) (locs : List Loc) (ls : Array Slot) (av0 : a0 < 3), B_X0_isGroupFull_69 kk5 a0 a1 a2 a3 a4 S k → RelC D cy b z tx S s H → va_S (gA b 709 z) s.heap H locs → lv_has ls 7 [(0, .ref (b + adC 13 a0)), (1, .int a1), (2, .int a2), (3, .int a3), (4, .int a4)] → W p l e rm_X0_isGroupFull s m args below meth c H locs 0 0 (MQ below (PiC D cy b z tx k) args s 0 0 (gA b 709 z)) (F0 m 69 ls []) := by
  intro a0 a1 a2 a3 a4 S H locs ls av0 h hR hS hl
  have hx := C0.1
  have hb := C0.2.1
  unfold B_X0_isGroupFull_69 at h
  obtain ⟨x12, ex12⟩ : ∃ x12 : Int32, x12 = a4 + 1 := ⟨_, rfl⟩
  have h := h x12 ex12
  refine w_iinc (v0 := 1) (lv' := [(4, .int x12), (0, .ref (b + adC 13 a0)), (1, .int a1), (2, .int a2), (3, .int a3)]) C0 dX0_isGroupFull_69 hl (k := 4) rfl (by decide) (by decide) x12 ex12 rfl (fun ls hl => ?_)
  refine lv_goto (tgt := 5) hx hb dX0_isGroupFull_72 (by decide) ?_
  exact ih5 a0 a1 a2 a3 x12 S _ _ _ av0 h hR hS (lv_sub hl [1, 2, 3, 4, 0] rfl)
def B_X0_isGroupFull_50 (kk5 : Nat → Int32 → Int32 → Int32 → Int32 → sSt → Prop) (a0 : Nat) (a1 : Int32) (a2 : Int32) (a3 : Int32) (a4 : Int32) (a5 : Nat) (t0 : Int32) (S : sSt) (k : Int32 → sSt → Prop) : Prop := ((¬ (S.1 21 a5 7) = a1 → B_X0_isGroupFull_69 kk5 a0 a1 a2 a3 a4 S k) ∧ ((S.1 21 a5 7) = a1 → ((t0 = 0 → B_X0_isGroupFull_69 kk5 a0 a1 a2 a3 a4 S k) ∧ (¬ t0 = 0 → ∀ x14 : Int32, x14 = a3 + 1 → B_X0_isGroupFull_69 kk5 a0 a1 a2 x14 a4 S k))))
set_option maxHeartbeats 4000000 in
set_option maxRecDepth 100000 in
theorem Bw_X0_isGroupFull_50 {p : Program} {l : Launch} {e : Env} {s : State} {m : MethodId} {args : Array Value} {below : List Frame} {meth : Method} {c : Code} {D : va_G} {cy : Nat → ClassId} {b z : Nat} {tx : TX} (C0 : CallFix p m c cX0_isGroupFull 7 s args TB RX0) (hr : meth.sig.returnType = (some .boolean)) (hlk : meth.locks = false) (hT : TxR tx s) {k : Int32 → sSt → Prop} {kk5 : Nat → Int32 → Int32 → Int32 → Int32 → sSt → Prop} (ih5 : ∀ (a0 : Nat) (a1 : Int32) (a2 : Int32) (a3 : Int32) (a4 : Int32) (S : sSt) (H : Heap) (locs : List Loc) (ls : Array Slot) (av0 : a0 < 3), kk5 a0 a1 a2 a3 a4 S → RelC D cy b z tx S s H → va_S (gA b 709 z) s.heap H locs → lv_has ls 7 [(0, .ref (b + adC 13 a0)), (1, .int a1), (2, .int a2), (3, .int a3), (4, .int a4)] → W p l e rm_X0_isGroupFull s m args below meth c H locs 0 0 (MQ below (PiC D cy b z tx k) args s 0 0 (gA b 709 z)) (F0 m 5 ls [])) : ∀ (a0 : Nat) (a1 : Int32) (a2 : Int32) (a3 : Int32) (a4 : Int32) (a5 : Nat) (t0 : Int32) (S : sSt) (H : Heap) (locs : List Loc) (ls : Array Slot) (av0 : a0 < 3) (av5 : a5 < 72), B_X0_isGroupFull_50 kk5 a0 a1 a2 a3 a4 a5 t0 S k → RelC D cy b z tx S s H → va_S (gA b 709 z) s.heap H locs → lv_has ls 7 [(0, .ref (b + adC 13 a0)), (1, .int a1), (2, .int a2), (3, .int a3), (4, .int a4), (5, .ref (b + adC 21 a5))] → W p l e rm_X0_isGroupFull s m args below meth c H locs 0 0 (MQ below (PiC D cy b z tx k) args s 0 0 (gA b 709 z)) (F0 m 50 ls [.int t0]) := by
  intro a0 a1 a2 a3 a4 a5 t0 S H locs ls av0 av5 h hR hS hl
  have hx := C0.1
  have hb := C0.2.1
  unfold B_X0_isGroupFull_50 at h
  refine lv_istore (lv' := [(6, .int t0), (0, .ref (b + adC 13 a0)), (1, .int a1), (2, .int a2), (3, .int a3), (4, .int a4), (5, .ref (b + adC 21 a5))]) hx hb dX0_isGroupFull_50 hl (by decide) rfl (fun ls hl => ?_)
  refine lv_aload hx hb dX0_isGroupFull_52 (lv_at hl 6 rfl) ?_
  refine gCn_21_7 C0 hR av5 tbs_wsX10 mC4_1_234 hT dX0_isGroupFull_54 ?_
  refine lv_iload_n hx hb dX0_isGroupFull_57 rfl (lv_at hl 2 rfl) ?_
  refine lv_icmp_ne (tgt := 69) hx hb dX0_isGroupFull_58 (by decide) (fun c11 => ?_) (fun c11 => ?_)
  · have h := h.1 c11
    exact Bw_X0_isGroupFull_69 C0 hr hlk hT ih5 a0 a1 a2 a3 a4 S _ _ _ av0 h hR hS (lv_sub hl [1, 2, 3, 4, 5] rfl)
  · have h := h.2 c11
    refine lv_iload hx hb dX0_isGroupFull_61 (lv_at hl 0 rfl) ?_
    refine lv_if_eq (tgt := 69) hx hb dX0_isGroupFull_63 (by decide) (fun c13 => ?_) (fun c13 => ?_)
    · have h := h.1 c13
      exact Bw_X0_isGroupFull_69 C0 hr hlk hT ih5 a0 a1 a2 a3 a4 S _ _ _ av0 h hR hS (lv_sub hl [1, 2, 3, 4, 5] rfl)
    · have h := h.2 c13
      obtain ⟨x14, ex14⟩ : ∃ x14 : Int32, x14 = a3 + 1 := ⟨_, rfl⟩
      have h := h x14 ex14
      refine w_iinc (v0 := 1) (lv' := [(3, .int x14), (6, .int t0), (0, .ref (b + adC 13 a0)), (1, .int a1), (2, .int a2), (4, .int a4), (5, .ref (b + adC 21 a5))]) C0 dX0_isGroupFull_66 hl (k := 4) rfl (by decide) (by decide) x14 ex14 rfl (fun ls hl => ?_)
      exact Bw_X0_isGroupFull_69 C0 hr hlk hT ih5 a0 a1 a2 x14 a4 S _ _ _ av0 h hR hS (lv_sub hl [2, 3, 4, 0, 5] rfl)
def B_X0_isGroupFull_45 (kk5 : Nat → Int32 → Int32 → Int32 → Int32 → sSt → Prop) (a0 : Nat) (a1 : Int32) (a2 : Int32) (a3 : Int32) (a4 : Int32) (a5 : Nat) (S : sSt) (k : Int32 → sSt → Prop) : Prop := B_X0_isGroupFull_50 kk5 a0 a1 a2 a3 a4 a5 1 S k
set_option maxHeartbeats 4000000 in
set_option maxRecDepth 100000 in
theorem Bw_X0_isGroupFull_45 {p : Program} {l : Launch} {e : Env} {s : State} {m : MethodId} {args : Array Value} {below : List Frame} {meth : Method} {c : Code} {D : va_G} {cy : Nat → ClassId} {b z : Nat} {tx : TX} (C0 : CallFix p m c cX0_isGroupFull 7 s args TB RX0) (hr : meth.sig.returnType = (some .boolean)) (hlk : meth.locks = false) (hT : TxR tx s) {k : Int32 → sSt → Prop} {kk5 : Nat → Int32 → Int32 → Int32 → Int32 → sSt → Prop} (ih5 : ∀ (a0 : Nat) (a1 : Int32) (a2 : Int32) (a3 : Int32) (a4 : Int32) (S : sSt) (H : Heap) (locs : List Loc) (ls : Array Slot) (av0 : a0 < 3), kk5 a0 a1 a2 a3 a4 S → RelC D cy b z tx S s H → va_S (gA b 709 z) s.heap H locs → lv_has ls 7 [(0, .ref (b + adC 13 a0)), (1, .int a1), (2, .int a2), (3, .int a3), (4, .int a4)] → W p l e rm_X0_isGroupFull s m args below meth c H locs 0 0 (MQ below (PiC D cy b z tx k) args s 0 0 (gA b 709 z)) (F0 m 5 ls [])) : ∀ (a0 : Nat) (a1 : Int32) (a2 : Int32) (a3 : Int32) (a4 : Int32) (a5 : Nat) (S : sSt) (H : Heap) (locs : List Loc) (ls : Array Slot) (av0 : a0 < 3) (av5 : a5 < 72), B_X0_isGroupFull_45 kk5 a0 a1 a2 a3 a4 a5 S k → RelC D cy b z tx S s H → va_S (gA b 709 z) s.heap H locs → lv_has ls 7 [(0, .ref (b + adC 13 a0)), (1, .int a1), (2, .int a2), (3, .int a3), (4, .int a4), (5, .ref (b + adC 21 a5))] → W p l e rm_X0_isGroupFull s m args below meth c H locs 0 0 (MQ below (PiC D cy b z tx k) args s 0 0 (gA b 709 z)) (F0 m 45 ls []) := by
  intro a0 a1 a2 a3 a4 a5 S H locs ls av0 av5 h hR hS hl
  have hx := C0.1
  have hb := C0.2.1
  unfold B_X0_isGroupFull_45 at h
  refine lv_iconst (v := 1) hx hb dX0_isGroupFull_45 (by decide) ?_
  refine lv_goto (tgt := 50) hx hb dX0_isGroupFull_46 (by decide) ?_
  exact Bw_X0_isGroupFull_50 C0 hr hlk hT ih5 a0 a1 a2 a3 a4 a5 1 S _ _ _ av0 av5 h hR hS (lv_sub hl [0, 1, 2, 3, 4, 5] rfl)
def Bb_X0_isGroupFull_5 (kk5 : Nat → Int32 → Int32 → Int32 → Int32 → sSt → Prop) (a0 : Nat) (a1 : Int32) (a2 : Int32) (a3 : Int32) (a4 : Int32) (S : sSt) (k : Int32 → sSt → Prop) : Prop := (((S.1 13 a0 6) ≤ a4 → ix a1 6 (fun j3 => ((a3 < (S.1 17 a0 j3) → k 0 S) ∧ (¬ a3 < (S.1 17 a0 j3) → k 1 S)))) ∧ (¬ (S.1 13 a0 6) ≤ a4 → ix a4 24 (fun j6 => F_X1_isLockedByOther (S.2 14 a0 j6) a2 S (fun r8 S9 => ((¬ r8 = 0 → B_X0_isGroupFull_45 kk5 a0 a1 a2 a3 a4 (S.2 14 a0 j6) S9 k) ∧ (r8 = 0 → F_X1_seenBy (S.2 14 a0 j6) a2 S9 (fun r15 S16 => ((¬ (S16.1 22 r15 0) = 1 → B_X0_isGroupFull_50 kk5 a0 a1 a2 a3 a4 (S.2 14 a0 j6) 0 S16 k) ∧ ((S16.1 22 r15 0) = 1 → B_X0_isGroupFull_45 kk5 a0 a1 a2 a3 a4 (S.2 14 a0 j6) S16 k)))))))))
set_option maxHeartbeats 4000000 in
set_option maxRecDepth 100000 in
theorem Bbw_X0_isGroupFull_5 {p : Program} {l : Launch} {e : Env} {s : State} {m : MethodId} {args : Array Value} {below : List Frame} {meth : Method} {c : Code} {D : va_G} {cy : Nat → ClassId} {b z : Nat} {tx : TX} (C0 : CallFix p m c cX0_isGroupFull 7 s args TB RX0) (hr : meth.sig.returnType = (some .boolean)) (hlk : meth.locks = false) (hT : TxR tx s) {k : Int32 → sSt → Prop} {kk5 : Nat → Int32 → Int32 → Int32 → Int32 → sSt → Prop} (ih5 : ∀ (a0 : Nat) (a1 : Int32) (a2 : Int32) (a3 : Int32) (a4 : Int32) (S : sSt) (H : Heap) (locs : List Loc) (ls : Array Slot) (av0 : a0 < 3), kk5 a0 a1 a2 a3 a4 S → RelC D cy b z tx S s H → va_S (gA b 709 z) s.heap H locs → lv_has ls 7 [(0, .ref (b + adC 13 a0)), (1, .int a1), (2, .int a2), (3, .int a3), (4, .int a4)] → W p l e rm_X0_isGroupFull s m args below meth c H locs 0 0 (MQ below (PiC D cy b z tx k) args s 0 0 (gA b 709 z)) (F0 m 5 ls [])) : ∀ (a0 : Nat) (a1 : Int32) (a2 : Int32) (a3 : Int32) (a4 : Int32) (S : sSt) (H : Heap) (locs : List Loc) (ls : Array Slot) (av0 : a0 < 3), Bb_X0_isGroupFull_5 kk5 a0 a1 a2 a3 a4 S k → RelC D cy b z tx S s H → va_S (gA b 709 z) s.heap H locs → lv_has ls 7 [(0, .ref (b + adC 13 a0)), (1, .int a1), (2, .int a2), (3, .int a3), (4, .int a4)] → W p l e rm_X0_isGroupFull s m args below meth c H locs 0 0 (MQ below (PiC D cy b z tx k) args s 0 0 (gA b 709 z)) (F0 m 5 ls []) := by
  intro a0 a1 a2 a3 a4 S H locs ls av0 h hR hS hl
  have hx := C0.1
  have hb := C0.2.1
  unfold Bb_X0_isGroupFull_5 at h
  refine lv_iload hx hb dX0_isGroupFull_5 (lv_at hl 4 rfl) ?_
  refine lv_aload_n hx hb dX0_isGroupFull_7 rfl (lv_at hl 0 rfl) ?_
  refine gCn_13_6 C0 hR av0 tbs_wsX60 mC4_2_148 hT dX0_isGroupFull_8 ?_
  refine lv_icmp_ge (tgt := 75) hx hb dX0_isGroupFull_11 (by decide) (fun c1 => ?_) (fun c1 => ?_)
  · have h := h.1 c1
    refine lv_iload_n hx hb dX0_isGroupFull_75 rfl (lv_at hl 3 rfl) ?_
    refine lv_aload_n hx hb dX0_isGroupFull_76 rfl (lv_at hl 0 rfl) ?_
    refine gCn_13_3 C0 hR av0 tbs_wsX60 mC4_2_137 hT dX0_isGroupFull_77 ?_
    have w2 : a0 < 3 := by omega
    refine lv_iload_n hx hb dX0_isGroupFull_80 rfl (lv_at hl 1 rfl) ?_
    obtain ⟨j3, hj3, ej3, h⟩ := h
    refine lC_17 C0 hR w2 hj3 ej3 dX0_isGroupFull_81 ?_
    refine lv_icmp_lt (tgt := 89) hx hb dX0_isGroupFull_82 (by decide) (fun c4 => ?_) (fun c4 => ?_)
    · have h := h.1 c4
      refine lv_iconst (v := 0) hx hb dX0_isGroupFull_89 (by decide) ?_
      exact rtC_z C0 hr hlk hR hS (by decide) h dX0_isGroupFull_90
    · have h := h.2 c4
      refine lv_iconst (v := 1) hx hb dX0_isGroupFull_85 (by decide) ?_
      refine lv_goto (tgt := 90) hx hb dX0_isGroupFull_86 (by decide) ?_
      exact rtC_z C0 hr hlk hR hS (by decide) h dX0_isGroupFull_90
  · have h := h.2 c1
    refine lv_aload_n hx hb dX0_isGroupFull_14 rfl (lv_at hl 0 rfl) ?_
    refine gCn_13_0 C0 hR av0 tbs_wsX60 mC4_2_127 hT dX0_isGroupFull_15 ?_
    have w5 : a0 < 3 := by omega
    refine lv_iload hx hb dX0_isGroupFull_18 (lv_at hl 4 rfl) ?_
    obtain ⟨j6, hj6, ej6, h⟩ := h
    refine lC_14 C0 hR w5 hj6 ej6 dX0_isGroupFull_20 ?_
    have w7 : (S.2 14 a0 j6) < 72 := hR.2.1.1 _ _ w5 hj6
    refine lv_astore (lv' := [(5, .ref (b + adC 21 (S.2 14 a0 j6))), (0, .ref (b + adC 13 a0)), (1, .int a1), (2, .int a2), (3, .int a3), (4, .int a4)]) hx hb dX0_isGroupFull_21 hl (by decide) rfl (fun ls hl => ?_)
    refine lv_aload hx hb dX0_isGroupFull_23 (lv_at hl 0 rfl) ?_
    refine lv_iload_n hx hb dX0_isGroupFull_25 rfl (lv_at hl 3 rfl) ?_
    refine qC_Vi (As := [.int a2]) (rest := []) C0 (c_X1_isLockedByOther l w7 h) (cwV 1 C0.2.2.2.2 (tbV mC4_5_83 ⟨mC4_5_84, mC4_5_85, mC4_1_7, mC4_5_86⟩) rfl rfl rfl (by decide +kernel) ⟨Nat.le_of_ble_eq_true rfl, Nat.le_of_ble_eq_true rfl⟩) (rcC_21 hR w7) hR hT hS rfl hl.1 rfl (Nat.le_of_ble_eq_true rfl) dX0_isGroupFull_26 ⟨Nat.zero_le _, Nat.zero_le _⟩ (fun r8 S9 H locs h hR hS => ?_)
    refine lv_if_ne (tgt := 45) hx hb dX0_isGroupFull_29 (by decide) (fun c10 => ?_) (fun c10 => ?_)
    · have h := h.1 c10
      exact Bw_X0_isGroupFull_45 C0 hr hlk hT ih5 a0 a1 a2 a3 a4 (S.2 14 a0 j6) S9 _ _ _ av0 w7 h hR hS (lv_sub hl [1, 2, 3, 4, 5, 0] rfl)
    · have h := h.2 c10
      refine lv_aload hx hb dX0_isGroupFull_32 (lv_at hl 0 rfl) ?_
      refine lv_iload_n hx hb dX0_isGroupFull_34 rfl (lv_at hl 3 rfl) ?_
      refine qC_Vr (As := [.int a2]) (rest := []) C0 (c_X1_seenBy l w7 h) (cwV 1 C0.2.2.2.2 (tbV mC4_5_79 ⟨mC4_5_80, mC4_5_81, mC4_1_7, mC4_5_82⟩) rfl rfl rfl (by decide +kernel) ⟨Nat.le_of_ble_eq_true rfl, Nat.le_of_ble_eq_true rfl⟩) (rcC_21 hR w7) hR hT hS rfl hl.1 rfl (Nat.le_of_ble_eq_true rfl) dX0_isGroupFull_35 ⟨Nat.zero_le _, Nat.zero_le _⟩ (fun r15 S16 H locs vr15 h hR hS => ?_)
      refine gCn_22_0 C0 hR vr15 tbs_wsX90 mC4_1_158 hT dX0_isGroupFull_38 ?_
      refine lv_iconst (v := 1) hx hb dX0_isGroupFull_41 (by decide) ?_
      refine lv_icmp_ne (tgt := 49) hx hb dX0_isGroupFull_42 (by decide) (fun c17 => ?_) (fun c17 => ?_)
      · have h := h.1 c17
        refine lv_iconst (v := 0) hx hb dX0_isGroupFull_49 (by decide) ?_
        exact Bw_X0_isGroupFull_50 C0 hr hlk hT ih5 a0 a1 a2 a3 a4 (S.2 14 a0 j6) 0 S16 _ _ _ av0 w7 h hR hS (lv_sub hl [1, 2, 3, 4, 5, 0] rfl)
      · have h := h.2 c17
        exact Bw_X0_isGroupFull_45 C0 hr hlk hT ih5 a0 a1 a2 a3 a4 (S.2 14 a0 j6) S16 _ _ _ av0 w7 h hR hS (lv_sub hl [1, 2, 3, 4, 5, 0] rfl)
def B_X0_isGroupFull_5 (n9 : Nat) (a0 : Nat) (a1 : Int32) (a2 : Int32) (a3 : Int32) (a4 : Int32) (S : sSt) (k : Int32 → sSt → Prop) : Prop := (Nat.rec (motive := fun _ => Nat → Int32 → Int32 → Int32 → Int32 → sSt → Prop) (fun _ _ _ _ _ _ => False) (fun _ r9 => fun a0 a1 a2 a3 a4 S => Bb_X0_isGroupFull_5 r9 a0 a1 a2 a3 a4 S k) n9 : Nat → Int32 → Int32 → Int32 → Int32 → sSt → Prop) a0 a1 a2 a3 a4 S
theorem B_X0_isGroupFull_5_s (n9 : Nat) (a0 : Nat) (a1 : Int32) (a2 : Int32) (a3 : Int32) (a4 : Int32) (S : sSt) (k : Int32 → sSt → Prop) : B_X0_isGroupFull_5 (n9 + 1) a0 a1 a2 a3 a4 S k = Bb_X0_isGroupFull_5 (fun a0 a1 a2 a3 a4 S => B_X0_isGroupFull_5 n9 a0 a1 a2 a3 a4 S k) a0 a1 a2 a3 a4 S k := rfl
set_option maxHeartbeats 4000000 in
set_option maxRecDepth 100000 in
theorem Bw_X0_isGroupFull_5 {p : Program} {l : Launch} {e : Env} {s : State} {m : MethodId} {args : Array Value} {below : List Frame} {meth : Method} {c : Code} {D : va_G} {cy : Nat → ClassId} {b z : Nat} {tx : TX} (C0 : CallFix p m c cX0_isGroupFull 7 s args TB RX0) (hr : meth.sig.returnType = (some .boolean)) (hlk : meth.locks = false) (hT : TxR tx s) {k : Int32 → sSt → Prop} : ∀ (n9 : Nat), ∀ (a0 : Nat) (a1 : Int32) (a2 : Int32) (a3 : Int32) (a4 : Int32) (S : sSt) (H : Heap) (locs : List Loc) (ls : Array Slot) (av0 : a0 < 3), B_X0_isGroupFull_5 n9 a0 a1 a2 a3 a4 S k → RelC D cy b z tx S s H → va_S (gA b 709 z) s.heap H locs → lv_has ls 7 [(0, .ref (b + adC 13 a0)), (1, .int a1), (2, .int a2), (3, .int a3), (4, .int a4)] → W p l e rm_X0_isGroupFull s m args below meth c H locs 0 0 (MQ below (PiC D cy b z tx k) args s 0 0 (gA b 709 z)) (F0 m 5 ls []) := by
  intro n9
  induction n9 with
  | zero => intro a0 a1 a2 a3 a4 S H locs ls av0 h; exact h.elim
  | succ n9 ih =>
    intro a0 a1 a2 a3 a4 S H locs ls av0 h hR hS hl
    exact Bbw_X0_isGroupFull_5 C0 hr hlk hT ih a0 a1 a2 a3 a4 S H locs ls av0 h hR hS hl
def F_X0_isGroupFull (a0 : Nat) (a1 : Int32) (a2 : Int32) (S : sSt) (k : Int32 → sSt → Prop) : Prop := B_X0_isGroupFull_5 fuel a0 a1 a2 0 0 S k
set_option maxHeartbeats 4000000 in
set_option maxRecDepth 100000 in
theorem c_X0_isGroupFull (l : Launch) {D : va_G} {cy : Nat → ClassId} {b z : Nat} {tx : TX} {a0 : Nat} {a1 : Int32} {a2 : Int32} {S : sSt} {k : Int32 → sSt → Prop} (av0 : a0 < 3) (h : F_X0_isGroupFull a0 a1 a2 S k) : Met l yX0_isGroupFull (Cond.code yX0_isGroupFull cX0_isGroupFull 7 (some .boolean) :: TB) rm_X0_isGroupFull (va_Pc [.ref (b + adC 13 a0), .int a1, .int a2] (fun U => RelC D cy b z tx S U U.heap ∧ TxR tx U)) (PiC D cy b z tx k) 0 0 (gA b 709 z) := by
  refine Met.ofW (cc := cX0_isGroupFull) (maxL := 7) (ret := (some .boolean)) (by decide) rfl ?_
  intro p e s m args below meth c s₁ B hml hv
  obtain ⟨rfl, hR, hT⟩ := hv
  have C0 : CallFix p m c cX0_isGroupFull 7 s _ TB RX0 := ⟨B.exec, B.bytes, hml, findClass_of_methodNamed B.named, fun w hw => atoms_spec B.pre w (List.mem_cons_of_mem _ hw)⟩
  have hr := B.returns
  have hlk := B.notSynchronized
  have hx := C0.1
  have hb := C0.2.1
  have hS : va_S (gA b 709 z) s.heap s.heap [] := va_S.rf
  have hl := lv_entry ([.ref (b + adC 13 a0), .int a1, .int a2]) (n := 7) (Nat.le_of_ble_eq_true rfl)
  rw [lg_entry_eq]
  generalize (lg_sl ([.ref (b + adC 13 a0), .int a1, .int a2]) ++ List.replicate (7 - (lg_sl ([.ref (b + adC 13 a0), .int a1, .int a2])).length) Slot.unset).toArray = ls at hl ⊢
  have hl : lv_has ls 7 [(0, .ref (b + adC 13 a0)), (1, .int a1), (2, .int a2)] := hl
  show W p l e rm_X0_isGroupFull s m _ below meth c s.heap [] 0 0 (MQ below (PiC D cy b z tx k) _ s 0 0 (gA b 709 z)) _
  unfold F_X0_isGroupFull at h
  refine lv_iconst (v := 0) hx hb dX0_isGroupFull_0 (by decide) ?_
  refine lv_istore_n (lv' := [(3, .int 0), (0, .ref (b + adC 13 a0)), (1, .int a1), (2, .int a2)]) hx hb dX0_isGroupFull_1 rfl hl (by decide) rfl (fun ls hl => ?_)
  refine lv_iconst (v := 0) hx hb dX0_isGroupFull_2 (by decide) ?_
  refine lv_istore (lv' := [(4, .int 0), (3, .int 0), (0, .ref (b + adC 13 a0)), (1, .int a1), (2, .int a2)]) hx hb dX0_isGroupFull_3 hl (by decide) rfl (fun ls hl => ?_)
  exact Bw_X0_isGroupFull_5 C0 hr hlk hT fuel a0 a1 a2 0 0 S _ _ _ av0 h hR hS (lv_sub hl [2, 3, 4, 1, 0] rfl)

def rm_X0_hindrance : Room := { frames := 2, cells := 0, slots := 0, locals := 47 }
def F_X0_hindrance (a0 : Nat) (a1 : Nat) (a2 : Int32) (S : sSt) (k : Int32 → sSt → Prop) : Prop := F_X1_seenBy a1 a2 S (fun r1 S2 => F_X1_isLockedByOther a1 a2 S2 (fun r3 S4 => ((r3 = 0 → (((S4.1 22 r1 0) = 0 → (((S4.1 22 r1 1) ≤ (S4.1 13 a0 10) → F_X0_isLesserWaiting a0 a1 a2 S4 (fun r8 S9 => ((r8 = 0 → F_X0_isGroupFull a0 (S9.1 21 a1 7) a2 S9 (fun r11 S12 => ((r11 = 0 → k 0 S12) ∧ (¬ r11 = 0 → k 5 S12)))) ∧ (¬ r8 = 0 → k 4 S9)))) ∧ (¬ (S4.1 22 r1 1) ≤ (S4.1 13 a0 10) → k 3 S4))) ∧ (¬ (S4.1 22 r1 0) = 0 → k 2 S4))) ∧ (¬ r3 = 0 → k 1 S4))))
set_option maxHeartbeats 4000000 in
set_option maxRecDepth 100000 in
theorem c_X0_hindrance (l : Launch) {D : va_G} {cy : Nat → ClassId} {b z : Nat} {tx : TX} {a0 : Nat} {a1 : Nat} {a2 : Int32} {S : sSt} {k : Int32 → sSt → Prop} (av0 : a0 < 3) (av1 : a1 < 72) (h : F_X0_hindrance a0 a1 a2 S k) : Met l yX0_hindrance (Cond.code yX0_hindrance cX0_hindrance 4 (some .int) :: TB) rm_X0_hindrance (va_Pc [.ref (b + adC 13 a0), .ref (b + adC 21 a1), .int a2] (fun U => RelC D cy b z tx S U U.heap ∧ TxR tx U)) (PiC D cy b z tx k) 0 0 (gA b 709 z) := by
  refine Met.ofW (cc := cX0_hindrance) (maxL := 4) (ret := (some .int)) (by decide) rfl ?_
  intro p e s m args below meth c s₁ B hml hv
  obtain ⟨rfl, hR, hT⟩ := hv
  have C0 : CallFix p m c cX0_hindrance 4 s _ TB RX0 := ⟨B.exec, B.bytes, hml, findClass_of_methodNamed B.named, fun w hw => atoms_spec B.pre w (List.mem_cons_of_mem _ hw)⟩
  have hr := B.returns
  have hlk := B.notSynchronized
  have hx := C0.1
  have hb := C0.2.1
  have hS : va_S (gA b 709 z) s.heap s.heap [] := va_S.rf
  have hl := lv_entry ([.ref (b + adC 13 a0), .ref (b + adC 21 a1), .int a2]) (n := 4) (Nat.le_of_ble_eq_true rfl)
  rw [lg_entry_eq]
  generalize (lg_sl ([.ref (b + adC 13 a0), .ref (b + adC 21 a1), .int a2]) ++ List.replicate (4 - (lg_sl ([.ref (b + adC 13 a0), .ref (b + adC 21 a1), .int a2])).length) Slot.unset).toArray = ls at hl ⊢
  have hl : lv_has ls 4 [(0, .ref (b + adC 13 a0)), (1, .ref (b + adC 21 a1)), (2, .int a2)] := hl
  show W p l e rm_X0_hindrance s m _ below meth c s.heap [] 0 0 (MQ below (PiC D cy b z tx k) _ s 0 0 (gA b 709 z)) _
  unfold F_X0_hindrance at h
  refine lv_aload_n hx hb dX0_hindrance_0 rfl (lv_at hl 1 rfl) ?_
  refine lv_iload_n hx hb dX0_hindrance_1 rfl (lv_at hl 2 rfl) ?_
  refine qC_Vr (As := [.int a2]) (rest := []) C0 (c_X1_seenBy l av1 h) (cwV 1 C0.2.2.2.2 (tbV mC4_5_79 ⟨mC4_5_80, mC4_5_81, mC4_1_7, mC4_5_82⟩) rfl rfl rfl (by decide +kernel) ⟨Nat.le_of_ble_eq_true rfl, Nat.le_of_ble_eq_true rfl⟩) (rcC_21 hR av1) hR hT hS rfl hl.1 rfl (Nat.le_of_ble_eq_true rfl) dX0_hindrance_2 ⟨Nat.zero_le _, Nat.zero_le _⟩ (fun r1 S2 H locs vr1 h hR hS => ?_)
  refine lv_astore_n (lv' := [(3, .ref (b + adC 22 r1)), (0, .ref (b + adC 13 a0)), (1, .ref (b + adC 21 a1)), (2, .int a2)]) hx hb dX0_hindrance_5 rfl hl (by decide) rfl (fun ls hl => ?_)
  refine lv_aload_n hx hb dX0_hindrance_6 rfl (lv_at hl 2 rfl) ?_
  refine lv_iload_n hx hb dX0_hindrance_7 rfl (lv_at hl 3 rfl) ?_
  refine qC_Vi (As := [.int a2]) (rest := []) C0 (c_X1_isLockedByOther l av1 h) (cwV 1 C0.2.2.2.2 (tbV mC4_5_83 ⟨mC4_5_84, mC4_5_85, mC4_1_7, mC4_5_86⟩) rfl rfl rfl (by decide +kernel) ⟨Nat.le_of_ble_eq_true rfl, Nat.le_of_ble_eq_true rfl⟩) (rcC_21 hR av1) hR hT hS rfl hl.1 rfl (Nat.le_of_ble_eq_true rfl) dX0_hindrance_8 ⟨Nat.zero_le _, Nat.zero_le _⟩ (fun r3 S4 H locs h hR hS => ?_)
  refine lv_if_eq (tgt := 16) hx hb dX0_hindrance_11 (by decide) (fun c5 => ?_) (fun c5 => ?_)
  · have h := h.1 c5
    refine lv_aload_n hx hb dX0_hindrance_16 rfl (lv_at hl 0 rfl) ?_
    refine gCn_22_0 C0 hR vr1 tbs_wsX90 mC4_1_158 hT dX0_hindrance_17 ?_
    refine lv_if_eq (tgt := 25) hx hb dX0_hindrance_20 (by decide) (fun c6 => ?_) (fun c6 => ?_)
    · have h := h.1 c6
      refine lv_aload_n hx hb dX0_hindrance_25 rfl (lv_at hl 0 rfl) ?_
      refine gCn_22_1 C0 hR vr1 tbs_wsX90 mC4_1_164 hT dX0_hindrance_26 ?_
      refine lv_aload_n hx hb dX0_hindrance_29 rfl (lv_at hl 1 rfl) ?_
      refine gCn_13_10 C0 hR av0 tbs_wsX60 mC4_2_159 hT dX0_hindrance_30 ?_
      refine lv_icmp_le (tgt := 38) hx hb dX0_hindrance_33 (by decide) (fun c7 => ?_) (fun c7 => ?_)
      · have h := h.1 c7
        refine lv_aload_n hx hb dX0_hindrance_38 rfl (lv_at hl 1 rfl) ?_
        refine lv_aload_n hx hb dX0_hindrance_39 rfl (lv_at hl 2 rfl) ?_
        refine lv_iload_n hx hb dX0_hindrance_40 rfl (lv_at hl 3 rfl) ?_
        refine qC_Si (As := [.ref (b + adC 13 a0), .ref (b + adC 21 a1), .int a2]) (rest := []) C0 (c_X0_isLesserWaiting l av0 av1 h) (va_cwS 3 C0.2.2.2.2 (tbS mC4_5_87 ⟨mC4_5_88, mC4_1_4, mC4_5_89⟩) rfl rfl rfl (by decide +kernel) ⟨Nat.le_of_ble_eq_true rfl, Nat.le_of_ble_eq_true rfl⟩) hR hT hS rfl hl.1 rfl (Nat.le_of_ble_eq_true rfl) dX0_hindrance_41 ⟨Nat.zero_le _, Nat.zero_le _⟩ (fun r8 S9 H locs h hR hS => ?_)
        refine lv_if_eq (tgt := 49) hx hb dX0_hindrance_44 (by decide) (fun c10 => ?_) (fun c10 => ?_)
        · have h := h.1 c10
          refine lv_aload_n hx hb dX0_hindrance_49 rfl (lv_at hl 1 rfl) ?_
          refine lv_aload_n hx hb dX0_hindrance_50 rfl (lv_at hl 2 rfl) ?_
          refine gCn_21_7 C0 hR av1 tbs_wsX10 mC4_1_234 hT dX0_hindrance_51 ?_
          refine lv_iload_n hx hb dX0_hindrance_54 rfl (lv_at hl 3 rfl) ?_
          refine qC_Si (As := [.ref (b + adC 13 a0), .int (S9.1 21 a1 7), .int a2]) (rest := []) C0 (c_X0_isGroupFull l av0 h) (va_cwS 3 C0.2.2.2.2 (tbS mC4_5_90 ⟨mC4_5_91, mC4_1_4, mC4_5_92⟩) rfl rfl rfl (by decide +kernel) ⟨Nat.le_of_ble_eq_true rfl, Nat.le_of_ble_eq_true rfl⟩) hR hT hS rfl hl.1 rfl (Nat.le_of_ble_eq_true rfl) dX0_hindrance_55 ⟨Nat.zero_le _, Nat.zero_le _⟩ (fun r11 S12 H locs h hR hS => ?_)
          refine lv_if_eq (tgt := 65) hx hb dX0_hindrance_58 (by decide) (fun c13 => ?_) (fun c13 => ?_)
          · have h := h.1 c13
            refine lv_iconst (v := 0) hx hb dX0_hindrance_65 (by decide) ?_
            exact rtC_i C0 hr hlk hR hS h dX0_hindrance_66
          · have h := h.2 c13
            refine lv_iconst (v := 5) hx hb dX0_hindrance_61 (by decide) ?_
            refine lv_goto (tgt := 66) hx hb dX0_hindrance_62 (by decide) ?_
            exact rtC_i C0 hr hlk hR hS h dX0_hindrance_66
        · have h := h.2 c10
          refine lv_iconst (v := 4) hx hb dX0_hindrance_47 (by decide) ?_
          exact rtC_i C0 hr hlk hR hS h dX0_hindrance_48
      · have h := h.2 c7
        refine lv_iconst (v := 3) hx hb dX0_hindrance_36 (by decide) ?_
        exact rtC_i C0 hr hlk hR hS h dX0_hindrance_37
    · have h := h.2 c6
      refine lv_iconst (v := 2) hx hb dX0_hindrance_23 (by decide) ?_
      exact rtC_i C0 hr hlk hR hS h dX0_hindrance_24
  · have h := h.2 c5
    refine lv_iconst (v := 1) hx hb dX0_hindrance_14 (by decide) ?_
    exact rtC_i C0 hr hlk hR hS h dX0_hindrance_15

def rm_X3_valueOf : Room := { frames := 1, cells := 0, slots := 0, locals := 22 }
def F_X3_valueOf (a0 : Int32) (a1 : Nat) (a2 : Nat) (a3 : Int32) (S : sSt) (k : Int32 → sSt → Prop) : Prop := F_X1_seenBy a2 a3 S (fun r1 S2 => ((a0 = 0 → k (S2.1 21 a2 6) S2) ∧ (¬ a0 = 0 → ((a0 = 1 → k (S2.1 21 a2 7) S2) ∧ (¬ a0 = 1 → ((a0 = 2 → k (S2.1 21 a2 8) S2) ∧ (¬ a0 = 2 → ((a0 = 3 → k (S2.1 21 a2 9) S2) ∧ (¬ a0 = 3 → ((a0 = 4 → k (S2.1 22 r1 2) S2) ∧ (¬ a0 = 4 → ((a0 = 5 → k ((S2.1 13 a1 10) - (S2.1 21 a2 10)) S2) ∧ (¬ a0 = 5 → ((a0 = 6 → k ((S2.1 13 a1 10) - (S2.1 22 r1 1)) S2) ∧ (¬ a0 = 6 → ix a3 4 (fun j11 => k (fmod6 (((S2.1 21 a2 7) - (S2.1 24 (4 * a1 + j11) 2)) - 1)) S2))))))))))))))))
set_option maxHeartbeats 4000000 in
set_option maxRecDepth 100000 in
theorem c_X3_valueOf (l : Launch) {D : va_G} {cy : Nat → ClassId} {b z : Nat} {tx : TX} {a0 : Int32} {a1 : Nat} {a2 : Nat} {a3 : Int32} {S : sSt} {k : Int32 → sSt → Prop} (av1 : a1 < 3) (av2 : a2 < 72) (h : F_X3_valueOf a0 a1 a2 a3 S k) : Met l yX3_valueOf (Cond.code yX3_valueOf cX3_valueOf 5 (some .int) :: TB) rm_X3_valueOf (va_Pc [.int a0, .ref (b + adC 13 a1), .ref (b + adC 21 a2), .int a3] (fun U => RelC D cy b z tx S U U.heap ∧ TxR tx U)) (PiC D cy b z tx k) 0 0 (gA b 709 z) := by
  refine Met.ofW (cc := cX3_valueOf) (maxL := 5) (ret := (some .int)) (by decide) rfl ?_
  intro p e s m args below meth c s₁ B hml hv
  obtain ⟨rfl, hR, hT⟩ := hv
  have C0 : CallFix p m c cX3_valueOf 5 s _ TB RX3 := ⟨B.exec, B.bytes, hml, findClass_of_methodNamed B.named, fun w hw => atoms_spec B.pre w (List.mem_cons_of_mem _ hw)⟩
  have hr := B.returns
  have hlk := B.notSynchronized
  have hx := C0.1
  have hb := C0.2.1
  have hS : va_S (gA b 709 z) s.heap s.heap [] := va_S.rf
  have hl := lv_entry ([.int a0, .ref (b + adC 13 a1), .ref (b + adC 21 a2), .int a3]) (n := 5) (Nat.le_of_ble_eq_true rfl)
  rw [lg_entry_eq]
  generalize (lg_sl ([.int a0, .ref (b + adC 13 a1), .ref (b + adC 21 a2), .int a3]) ++ List.replicate (5 - (lg_sl ([.int a0, .ref (b + adC 13 a1), .ref (b + adC 21 a2), .int a3])).length) Slot.unset).toArray = ls at hl ⊢
  have hl : lv_has ls 5 [(0, .int a0), (1, .ref (b + adC 13 a1)), (2, .ref (b + adC 21 a2)), (3, .int a3)] := hl
  show W p l e rm_X3_valueOf s m _ below meth c s.heap [] 0 0 (MQ below (PiC D cy b z tx k) _ s 0 0 (gA b 709 z)) _
  unfold F_X3_valueOf at h
  refine lv_aload_n hx hb dX3_valueOf_0 rfl (lv_at hl 2 rfl) ?_
  refine lv_iload_n hx hb dX3_valueOf_1 rfl (lv_at hl 3 rfl) ?_
  refine qC_Vr (As := [.int a3]) (rest := []) C0 (c_X1_seenBy l av2 h) (cwV 1 C0.2.2.2.2 (tbV mC4_5_100 ⟨mC4_5_80, mC4_5_81, mC4_1_7, mC4_5_82⟩) rfl rfl rfl (by decide +kernel) ⟨Nat.le_of_ble_eq_true rfl, Nat.le_of_ble_eq_true rfl⟩) (rcC_21 hR av2) hR hT hS rfl hl.1 rfl (Nat.le_of_ble_eq_true rfl) dX3_valueOf_2 ⟨Nat.zero_le _, Nat.zero_le _⟩ (fun r1 S2 H locs vr1 h hR hS => ?_)
  refine lv_astore (lv' := [(4, .ref (b + adC 22 r1)), (0, .int a0), (1, .ref (b + adC 13 a1)), (2, .ref (b + adC 21 a2)), (3, .int a3)]) hx hb dX3_valueOf_5 hl (by decide) rfl (fun ls hl => ?_)
  refine lv_iload_n hx hb dX3_valueOf_7 rfl (lv_at hl 1 rfl) ?_
  by_cases c3 : a0 = 0
  · have h := h.1 c3
    refine lv_tableIn (tgt := 52) hx hb dX3_valueOf_8 (by rw [c3]; decide) (by rw [c3]; decide) (by rw [c3]; rfl) (by decide) ?_
    refine lv_aload_n hx hb dX3_valueOf_52 rfl (lv_at hl 3 rfl) ?_
    refine gCn_21_6 C0 hR av2 tbs_wsX10 mC4_1_231 hT dX3_valueOf_53 ?_
    exact rtC_i C0 hr hlk hR hS h dX3_valueOf_56
  have h := h.2 c3
  by_cases c4 : a0 = 1
  · have h := h.1 c4
    refine lv_tableIn (tgt := 57) hx hb dX3_valueOf_8 (by rw [c4]; decide) (by rw [c4]; decide) (by rw [c4]; rfl) (by decide) ?_
    refine lv_aload_n hx hb dX3_valueOf_57 rfl (lv_at hl 3 rfl) ?_
    refine gCn_21_7 C0 hR av2 tbs_wsX10 mC4_1_237 hT dX3_valueOf_58 ?_
    exact rtC_i C0 hr hlk hR hS h dX3_valueOf_61
  have h := h.2 c4
  by_cases c5 : a0 = 2
  · have h := h.1 c5
    refine lv_tableIn (tgt := 62) hx hb dX3_valueOf_8 (by rw [c5]; decide) (by rw [c5]; decide) (by rw [c5]; rfl) (by decide) ?_
    refine lv_aload_n hx hb dX3_valueOf_62 rfl (lv_at hl 3 rfl) ?_
    refine gCn_21_8 C0 hR av2 tbs_wsX10 mC4_2_1 hT dX3_valueOf_63 ?_
    exact rtC_i C0 hr hlk hR hS h dX3_valueOf_66
  have h := h.2 c5
  by_cases c6 : a0 = 3
  · have h := h.1 c6
    refine lv_tableIn (tgt := 67) hx hb dX3_valueOf_8 (by rw [c6]; decide) (by rw [c6]; decide) (by rw [c6]; rfl) (by decide) ?_
    refine lv_aload_n hx hb dX3_valueOf_67 rfl (lv_at hl 3 rfl) ?_
    refine gCn_21_9 C0 hR av2 tbs_wsX10 mC4_2_6 hT dX3_valueOf_68 ?_
    exact rtC_i C0 hr hlk hR hS h dX3_valueOf_71
  have h := h.2 c6
  by_cases c7 : a0 = 4
  · have h := h.1 c7
    refine lv_tableIn (tgt := 72) hx hb dX3_valueOf_8 (by rw [c7]; decide) (by rw [c7]; decide) (by rw [c7]; rfl) (by decide) ?_
    refine lv_aload hx hb dX3_valueOf_72 (lv_at hl 0 rfl) ?_
    refine gCn_22_2 C0 hR vr1 tbs_wsX90 mC4_1_171 hT dX3_valueOf_74 ?_
    exact rtC_i C0 hr hlk hR hS h dX3_valueOf_77
  have h := h.2 c7
  by_cases c8 : a0 = 5
  · have h := h.1 c8
    refine lv_tableIn (tgt := 78) hx hb dX3_valueOf_8 (by rw [c8]; decide) (by rw [c8]; decide) (by rw [c8]; rfl) (by decide) ?_
    refine lv_aload_n hx hb dX3_valueOf_78 rfl (lv_at hl 2 rfl) ?_
    refine gCn_13_10 C0 hR av1 tbs_wsX60 mC4_2_162 hT dX3_valueOf_79 ?_
    refine lv_aload_n hx hb dX3_valueOf_82 rfl (lv_at hl 3 rfl) ?_
    refine gCn_21_10 C0 hR av2 tbs_wsX10 mC4_2_10 hT dX3_valueOf_83 ?_
    refine lv_isub hx hb dX3_valueOf_86 ?_
    exact rtC_i C0 hr hlk hR hS h dX3_valueOf_87
  have h := h.2 c8
  by_cases c9 : a0 = 6
  · have h := h.1 c9
    refine lv_tableIn (tgt := 88) hx hb dX3_valueOf_8 (by rw [c9]; decide) (by rw [c9]; decide) (by rw [c9]; rfl) (by decide) ?_
    refine lv_aload_n hx hb dX3_valueOf_88 rfl (lv_at hl 2 rfl) ?_
    refine gCn_13_10 C0 hR av1 tbs_wsX60 mC4_2_162 hT dX3_valueOf_89 ?_
    refine lv_aload hx hb dX3_valueOf_92 (lv_at hl 0 rfl) ?_
    refine gCn_22_1 C0 hR vr1 tbs_wsX90 mC4_1_167 hT dX3_valueOf_94 ?_
    refine lv_isub hx hb dX3_valueOf_97 ?_
    exact rtC_i C0 hr hlk hR hS h dX3_valueOf_98
  have h := h.2 c9
  refine lv_tableOut (tgt := 99) hx hb dX3_valueOf_8 (by have a9 := fun j : Int32 => (Int32.toInt_inj (x := a0) (y := j)).mp; have b9 : ∀ j : Int32, a0 ≠ j → (a0 : Int32).toInt ≠ j.toInt := fun j n9 q9 => n9 (a9 j q9); have c3_ := b9 _ c3; have c4_ := b9 _ c4; have c5_ := b9 _ c5; have c6_ := b9 _ c6; have c7_ := b9 _ c7; have c8_ := b9 _ c8; have c9_ := b9 _ c9; simp at c3_ c4_ c5_ c6_ c7_ c8_ c9_; omega) (by decide) ?_
  refine lv_aload_n hx hb dX3_valueOf_99 rfl (lv_at hl 3 rfl) ?_
  refine gCn_21_7 C0 hR av2 tbs_wsX10 mC4_1_237 hT dX3_valueOf_100 ?_
  refine lv_aload_n hx hb dX3_valueOf_103 rfl (lv_at hl 2 rfl) ?_
  refine gCn_13_1 C0 hR av1 tbs_wsX60 mC4_2_132 hT dX3_valueOf_104 ?_
  have w10 : a1 < 3 := by omega
  refine lv_iload_n hx hb dX3_valueOf_107 rfl (lv_at hl 4 rfl) ?_
  obtain ⟨j11, hj11, ej11, h⟩ := h
  refine lC_15 C0 hR w10 hj11 ej11 dX3_valueOf_108 ?_
  have w12 : (4 * a1 + j11) < 12 := by omega
  refine gCn_24_2 C0 hR w12 tbs_wsX50 mC4_2_60 hT dX3_valueOf_109 ?_
  refine lv_isub hx hb dX3_valueOf_112 ?_
  refine lv_iconst (v := 1) hx hb dX3_valueOf_113 (by decide) ?_
  refine lv_isub hx hb dX3_valueOf_114 ?_
  refine lv_bipush (v := 6) hx hb dX3_valueOf_115 (by decide) ?_
  refine q_Js (As := [.int (((S2.1 21 a2 7) - (S2.1 24 (4 * a1 + j11) 2)) - 1), .int 6]) (rest := []) C0 (c_J_fmod l (((S2.1 21 a2 7) - (S2.1 24 (4 * a1 + j11) 2)) - 1)) (va_cwS 2 C0.2.2.2.2 (tbS mC4_5_101 ⟨mC4_5_102, mC4_1_25, mC4_5_103⟩) rfl rfl rfl (by decide +kernel) ⟨Nat.le_of_ble_eq_true rfl, Nat.le_of_ble_eq_true rfl⟩) hR.2.2.2.2 hS rfl hl.1 rfl (Nat.le_of_ble_eq_true rfl) dX3_valueOf_117 ⟨Nat.zero_le _, Nat.zero_le _⟩ (fun H locs hz9 hq9 hS => ?_)
  have hR := hR.stay hz9 hq9
  exact rtC_i C0 hr hlk hR hS h dX3_valueOf_120

def rm_X3_isSo : Room := { frames := 0, cells := 0, slots := 0, locals := 0 }
def F_X3_isSo (a0 : Int32) (a1 : Int32) (a2 : Int32) (S : sSt) (k : Int32 → sSt → Prop) : Prop := ((¬ a1 = 61 → ((¬ a1 = 33 → ((¬ a1 = 60 → ((a0 ≤ a2 → k 0 S) ∧ (¬ a0 ≤ a2 → k 1 S))) ∧ (a1 = 60 → ((a2 ≤ a0 → k 0 S) ∧ (¬ a2 ≤ a0 → k 1 S))))) ∧ (a1 = 33 → ((a0 = a2 → k 0 S) ∧ (¬ a0 = a2 → k 1 S))))) ∧ (a1 = 61 → ((¬ a0 = a2 → k 0 S) ∧ (a0 = a2 → k 1 S))))
set_option maxHeartbeats 4000000 in
set_option maxRecDepth 100000 in
theorem c_X3_isSo (l : Launch) {D : va_G} {cy : Nat → ClassId} {b z : Nat} {tx : TX} {a0 : Int32} {a1 : Int32} {a2 : Int32} {S : sSt} {k : Int32 → sSt → Prop} (h : F_X3_isSo a0 a1 a2 S k) : Met l yX3_isSo (Cond.code yX3_isSo cX3_isSo 3 (some .boolean) :: TB) rm_X3_isSo (va_Pc [.int a0, .int a1, .int a2] (fun U => RelC D cy b z tx S U U.heap ∧ TxR tx U)) (PiC D cy b z tx k) 0 0 (gA b 709 z) := by
  refine Met.ofW (cc := cX3_isSo) (maxL := 3) (ret := (some .boolean)) (by decide) rfl ?_
  intro p e s m args below meth c s₁ B hml hv
  obtain ⟨rfl, hR, hT⟩ := hv
  have C0 : CallFix p m c cX3_isSo 3 s _ TB RX3 := ⟨B.exec, B.bytes, hml, findClass_of_methodNamed B.named, fun w hw => atoms_spec B.pre w (List.mem_cons_of_mem _ hw)⟩
  have hr := B.returns
  have hlk := B.notSynchronized
  have hx := C0.1
  have hb := C0.2.1
  have hS : va_S (gA b 709 z) s.heap s.heap [] := va_S.rf
  have hl := lv_entry ([.int a0, .int a1, .int a2]) (n := 3) (Nat.le_of_ble_eq_true rfl)
  rw [lg_entry_eq]
  generalize (lg_sl ([.int a0, .int a1, .int a2]) ++ List.replicate (3 - (lg_sl ([.int a0, .int a1, .int a2])).length) Slot.unset).toArray = ls at hl ⊢
  have hl : lv_has ls 3 [(0, .int a0), (1, .int a1), (2, .int a2)] := hl
  show W p l e rm_X3_isSo s m _ below meth c s.heap [] 0 0 (MQ below (PiC D cy b z tx k) _ s 0 0 (gA b 709 z)) _
  unfold F_X3_isSo at h
  refine lv_iload_n hx hb dX3_isSo_0 rfl (lv_at hl 1 rfl) ?_
  refine lv_bipush (v := 61) hx hb dX3_isSo_1 (by decide) ?_
  refine lv_icmp_ne (tgt := 17) hx hb dX3_isSo_3 (by decide) (fun c1 => ?_) (fun c1 => ?_)
  · have h := h.1 c1
    refine lv_iload_n hx hb dX3_isSo_17 rfl (lv_at hl 1 rfl) ?_
    refine lv_bipush (v := 33) hx hb dX3_isSo_18 (by decide) ?_
    refine lv_icmp_ne (tgt := 34) hx hb dX3_isSo_20 (by decide) (fun c2 => ?_) (fun c2 => ?_)
    · have h := h.1 c2
      refine lv_iload_n hx hb dX3_isSo_34 rfl (lv_at hl 1 rfl) ?_
      refine lv_bipush (v := 60) hx hb dX3_isSo_35 (by decide) ?_
      refine lv_icmp_ne (tgt := 53) hx hb dX3_isSo_37 (by decide) (fun c3 => ?_) (fun c3 => ?_)
      · have h := h.1 c3
        refine lv_iload_n hx hb dX3_isSo_53 rfl (lv_at hl 0 rfl) ?_
        refine lv_iload_n hx hb dX3_isSo_54 rfl (lv_at hl 2 rfl) ?_
        refine lv_icmp_le (tgt := 62) hx hb dX3_isSo_55 (by decide) (fun c4 => ?_) (fun c4 => ?_)
        · have h := h.1 c4
          refine lv_iconst (v := 0) hx hb dX3_isSo_62 (by decide) ?_
          exact rtC_z C0 hr hlk hR hS (by decide) h dX3_isSo_63
        · have h := h.2 c4
          refine lv_iconst (v := 1) hx hb dX3_isSo_58 (by decide) ?_
          refine lv_goto (tgt := 63) hx hb dX3_isSo_59 (by decide) ?_
          exact rtC_z C0 hr hlk hR hS (by decide) h dX3_isSo_63
      · have h := h.2 c3
        refine lv_iload_n hx hb dX3_isSo_40 rfl (lv_at hl 0 rfl) ?_
        refine lv_iload_n hx hb dX3_isSo_41 rfl (lv_at hl 2 rfl) ?_
        refine lv_icmp_ge (tgt := 49) hx hb dX3_isSo_42 (by decide) (fun c5 => ?_) (fun c5 => ?_)
        · have h := h.1 c5
          refine lv_iconst (v := 0) hx hb dX3_isSo_49 (by decide) ?_
          refine lv_goto (tgt := 63) hx hb dX3_isSo_50 (by decide) ?_
          exact rtC_z C0 hr hlk hR hS (by decide) h dX3_isSo_63
        · have h := h.2 c5
          refine lv_iconst (v := 1) hx hb dX3_isSo_45 (by decide) ?_
          refine lv_goto (tgt := 63) hx hb dX3_isSo_46 (by decide) ?_
          exact rtC_z C0 hr hlk hR hS (by decide) h dX3_isSo_63
    · have h := h.2 c2
      refine lv_iload_n hx hb dX3_isSo_23 rfl (lv_at hl 0 rfl) ?_
      refine lv_iload_n hx hb dX3_isSo_24 rfl (lv_at hl 2 rfl) ?_
      refine lv_icmp_eq (tgt := 32) hx hb dX3_isSo_25 (by decide) (fun c6 => ?_) (fun c6 => ?_)
      · have h := h.1 c6
        refine lv_iconst (v := 0) hx hb dX3_isSo_32 (by decide) ?_
        exact rtC_z C0 hr hlk hR hS (by decide) h dX3_isSo_33
      · have h := h.2 c6
        refine lv_iconst (v := 1) hx hb dX3_isSo_28 (by decide) ?_
        refine lv_goto (tgt := 33) hx hb dX3_isSo_29 (by decide) ?_
        exact rtC_z C0 hr hlk hR hS (by decide) h dX3_isSo_33
  · have h := h.2 c1
    refine lv_iload_n hx hb dX3_isSo_6 rfl (lv_at hl 0 rfl) ?_
    refine lv_iload_n hx hb dX3_isSo_7 rfl (lv_at hl 2 rfl) ?_
    refine lv_icmp_ne (tgt := 15) hx hb dX3_isSo_8 (by decide) (fun c7 => ?_) (fun c7 => ?_)
    · have h := h.1 c7
      refine lv_iconst (v := 0) hx hb dX3_isSo_15 (by decide) ?_
      exact rtC_z C0 hr hlk hR hS (by decide) h dX3_isSo_16
    · have h := h.2 c7
      refine lv_iconst (v := 1) hx hb dX3_isSo_11 (by decide) ?_
      refine lv_goto (tgt := 16) hx hb dX3_isSo_12 (by decide) ?_
      exact rtC_z C0 hr hlk hR hS (by decide) h dX3_isSo_16

def rm_X3_fits : Room := { frames := 2, cells := 0, slots := 0, locals := 46 }
def Bb_X3_fits_3 (kk3 : Nat → Nat → Nat → Int32 → Int32 → sSt → Prop) (a0 : Nat) (a1 : Nat) (a2 : Nat) (a3 : Int32) (a4 : Int32) (S : sSt) (k : Int32 → sSt → Prop) : Prop := (((S.1 3 a0 6) ≤ a4 → k 1 S) ∧ (¬ (S.1 3 a0 6) ≤ a4 → ((4 ≤ a4 → k 1 S) ∧ (¬ 4 ≤ a4 → ix a4 4 (fun j4 => F_X3_valueOf (S.1 4 a0 j4) a1 a2 a3 S (fun r5 S6 => F_X3_isSo r5 (S6.1 5 a0 j4) (S6.1 6 a0 j4) S6 (fun r9 S10 => ((¬ r9 = 0 → ∀ x12 : Int32, x12 = a4 + 1 → kk3 a0 a1 a2 a3 x12 S10) ∧ (r9 = 0 → k 0 S10)))))))))
set_option maxHeartbeats 4000000 in
set_option maxRecDepth 100000 in
theorem Bbw_X3_fits_3 {p : Program} {l : Launch} {e : Env} {s : State} {m : MethodId} {args : Array Value} {below : List Frame} {meth : Method} {c : Code} {D : va_G} {cy : Nat → ClassId} {b z : Nat} {tx : TX} (C0 : CallFix p m c cX3_fits 6 s args TB RX3) (hr : meth.sig.returnType = (some .boolean)) (hlk : meth.locks = false) (hT : TxR tx s) {k : Int32 → sSt → Prop} {kk3 : Nat → Nat → Nat → Int32 → Int32 → sSt → Prop} (ih3 : ∀ (a0 : Nat) (a1 : Nat) (a2 : Nat) (a3 : Int32) (a4 : Int32) (S : sSt) (H : Heap) (locs : List Loc) (ls : Array Slot) (av0 : a0 < 13) (av1 : a1 < 3) (av2 : a2 < 72), kk3 a0 a1 a2 a3 a4 S → RelC D cy b z tx S s H → va_S (gA b 709 z) s.heap H locs → lv_has ls 6 [(0, .ref (b + adC 3 a0)), (1, .ref (b + adC 13 a1)), (2, .ref (b + adC 21 a2)), (3, .int a3), (4, .int a4)] → W p l e rm_X3_fits s m args below meth c H locs 0 0 (MQ below (PiC D cy b z tx k) args s 0 0 (gA b 709 z)) (F0 m 3 ls [])) : ∀ (a0 : Nat) (a1 : Nat) (a2 : Nat) (a3 : Int32) (a4 : Int32) (S : sSt) (H : Heap) (locs : List Loc) (ls : Array Slot) (av0 : a0 < 13) (av1 : a1 < 3) (av2 : a2 < 72), Bb_X3_fits_3 kk3 a0 a1 a2 a3 a4 S k → RelC D cy b z tx S s H → va_S (gA b 709 z) s.heap H locs → lv_has ls 6 [(0, .ref (b + adC 3 a0)), (1, .ref (b + adC 13 a1)), (2, .ref (b + adC 21 a2)), (3, .int a3), (4, .int a4)] → W p l e rm_X3_fits s m args below meth c H locs 0 0 (MQ below (PiC D cy b z tx k) args s 0 0 (gA b 709 z)) (F0 m 3 ls []) := by
  intro a0 a1 a2 a3 a4 S H locs ls av0 av1 av2 h hR hS hl
  have hx := C0.1
  have hb := C0.2.1
  unfold Bb_X3_fits_3 at h
  refine lv_iload hx hb dX3_fits_3 (lv_at hl 4 rfl) ?_
  refine lv_aload_n hx hb dX3_fits_5 rfl (lv_at hl 0 rfl) ?_
  refine gC_3_6 C0 hR av0 tbs_wsX30 mC4_1_75 dX3_fits_6 ?_
  refine lv_icmp_ge (tgt := 63) hx hb dX3_fits_9 (by decide) (fun c1 => ?_) (fun c1 => ?_)
  · have h := h.1 c1
    refine lv_iconst (v := 1) hx hb dX3_fits_63 (by decide) ?_
    exact rtC_z C0 hr hlk hR hS (by decide) h dX3_fits_64
  · have h := h.2 c1
    refine lv_iload hx hb dX3_fits_12 (lv_at hl 4 rfl) ?_
    refine lv_iconst (v := 4) hx hb dX3_fits_14 (by decide) ?_
    refine lv_icmp_ge (tgt := 63) hx hb dX3_fits_15 (by decide) (fun c2 => ?_) (fun c2 => ?_)
    · have h := h.1 c2
      refine lv_iconst (v := 1) hx hb dX3_fits_63 (by decide) ?_
      exact rtC_z C0 hr hlk hR hS (by decide) h dX3_fits_64
    · have h := h.2 c2
      refine lv_aload_n hx hb dX3_fits_18 rfl (lv_at hl 0 rfl) ?_
      refine gC_3_0 C0 hR av0 tbs_wsX30 mC4_1_67 dX3_fits_19 ?_
      have w3 : a0 < 13 := by omega
      refine lv_iload hx hb dX3_fits_22 (lv_at hl 4 rfl) ?_
      obtain ⟨j4, hj4, ej4, h⟩ := h
      refine lC_4 C0 hR w3 hj4 ej4 dX3_fits_24 ?_
      refine lv_aload_n hx hb dX3_fits_25 rfl (lv_at hl 1 rfl) ?_
      refine lv_aload_n hx hb dX3_fits_26 rfl (lv_at hl 2 rfl) ?_
      refine lv_iload_n hx hb dX3_fits_27 rfl (lv_at hl 3 rfl) ?_
      refine qC_Si (As := [.int (S.1 4 a0 j4), .ref (b + adC 13 a1), .ref (b + adC 21 a2), .int a3]) (rest := []) C0 (c_X3_valueOf l av1 av2 h) (va_cwS 4 C0.2.2.2.2 (tbS mC4_5_97 ⟨mC4_5_98, mC4_1_3, mC4_5_99⟩) rfl rfl rfl (by decide +kernel) ⟨Nat.le_of_ble_eq_true rfl, Nat.le_of_ble_eq_true rfl⟩) hR hT hS rfl hl.1 rfl (Nat.le_of_ble_eq_true rfl) dX3_fits_28 ⟨Nat.zero_le _, Nat.zero_le _⟩ (fun r5 S6 H locs h hR hS => ?_)
      refine lv_istore (lv' := [(5, .int r5), (0, .ref (b + adC 3 a0)), (1, .ref (b + adC 13 a1)), (2, .ref (b + adC 21 a2)), (3, .int a3), (4, .int a4)]) hx hb dX3_fits_31 hl (by decide) rfl (fun ls hl => ?_)
      refine lv_iload hx hb dX3_fits_33 (lv_at hl 0 rfl) ?_
      refine lv_aload_n hx hb dX3_fits_35 rfl (lv_at hl 1 rfl) ?_
      refine gC_3_1 C0 hR av0 tbs_wsX30 mC4_1_68 dX3_fits_36 ?_
      have w7 : a0 < 13 := by omega
      refine lv_iload hx hb dX3_fits_39 (lv_at hl 5 rfl) ?_
      refine lC_5 C0 hR w7 hj4 ej4 dX3_fits_41 ?_
      refine lv_aload_n hx hb dX3_fits_42 rfl (lv_at hl 1 rfl) ?_
      refine gC_3_2 C0 hR av0 tbs_wsX30 mC4_1_69 dX3_fits_43 ?_
      have w8 : a0 < 13 := by omega
      refine lv_iload hx hb dX3_fits_46 (lv_at hl 5 rfl) ?_
      refine lC_6 C0 hR w8 hj4 ej4 dX3_fits_48 ?_
      refine qC_Si (As := [.int r5, .int (S6.1 5 a0 j4), .int (S6.1 6 a0 j4)]) (rest := []) C0 (c_X3_isSo l h) (va_cwS 3 C0.2.2.2.2 (tbS mC4_5_104 ⟨mC4_5_105, mC4_1_3, mC4_5_106⟩) rfl rfl rfl (by decide +kernel) ⟨Nat.le_of_ble_eq_true rfl, Nat.le_of_ble_eq_true rfl⟩) hR hT hS rfl hl.1 rfl (Nat.le_of_ble_eq_true rfl) dX3_fits_49 ⟨Nat.zero_le _, Nat.zero_le _⟩ (fun r9 S10 H locs h hR hS => ?_)
      refine lv_if_ne (tgt := 57) hx hb dX3_fits_52 (by decide) (fun c11 => ?_) (fun c11 => ?_)
      · have h := h.1 c11
        obtain ⟨x12, ex12⟩ : ∃ x12 : Int32, x12 = a4 + 1 := ⟨_, rfl⟩
        have h := h x12 ex12
        refine w_iinc (v0 := 1) (lv' := [(4, .int x12), (5, .int r5), (0, .ref (b + adC 3 a0)), (1, .ref (b + adC 13 a1)), (2, .ref (b + adC 21 a2)), (3, .int a3)]) C0 dX3_fits_57 hl (k := 5) rfl (by decide) (by decide) x12 ex12 rfl (fun ls hl => ?_)
        refine lv_goto (tgt := 3) hx hb dX3_fits_60 (by decide) ?_
        exact ih3 a0 a1 a2 a3 x12 S10 _ _ _ av0 av1 av2 h hR hS (lv_sub hl [2, 3, 4, 5, 0] rfl)
      · have h := h.2 c11
        refine lv_iconst (v := 0) hx hb dX3_fits_55 (by decide) ?_
        exact rtC_z C0 hr hlk hR hS (by decide) h dX3_fits_56
def B_X3_fits_3 (n9 : Nat) (a0 : Nat) (a1 : Nat) (a2 : Nat) (a3 : Int32) (a4 : Int32) (S : sSt) (k : Int32 → sSt → Prop) : Prop := (Nat.rec (motive := fun _ => Nat → Nat → Nat → Int32 → Int32 → sSt → Prop) (fun _ _ _ _ _ _ => False) (fun _ r9 => fun a0 a1 a2 a3 a4 S => Bb_X3_fits_3 r9 a0 a1 a2 a3 a4 S k) n9 : Nat → Nat → Nat → Int32 → Int32 → sSt → Prop) a0 a1 a2 a3 a4 S
theorem B_X3_fits_3_s (n9 : Nat) (a0 : Nat) (a1 : Nat) (a2 : Nat) (a3 : Int32) (a4 : Int32) (S : sSt) (k : Int32 → sSt → Prop) : B_X3_fits_3 (n9 + 1) a0 a1 a2 a3 a4 S k = Bb_X3_fits_3 (fun a0 a1 a2 a3 a4 S => B_X3_fits_3 n9 a0 a1 a2 a3 a4 S k) a0 a1 a2 a3 a4 S k := rfl
set_option maxHeartbeats 4000000 in
set_option maxRecDepth 100000 in
theorem Bw_X3_fits_3 {p : Program} {l : Launch} {e : Env} {s : State} {m : MethodId} {args : Array Value} {below : List Frame} {meth : Method} {c : Code} {D : va_G} {cy : Nat → ClassId} {b z : Nat} {tx : TX} (C0 : CallFix p m c cX3_fits 6 s args TB RX3) (hr : meth.sig.returnType = (some .boolean)) (hlk : meth.locks = false) (hT : TxR tx s) {k : Int32 → sSt → Prop} : ∀ (n9 : Nat), ∀ (a0 : Nat) (a1 : Nat) (a2 : Nat) (a3 : Int32) (a4 : Int32) (S : sSt) (H : Heap) (locs : List Loc) (ls : Array Slot) (av0 : a0 < 13) (av1 : a1 < 3) (av2 : a2 < 72), B_X3_fits_3 n9 a0 a1 a2 a3 a4 S k → RelC D cy b z tx S s H → va_S (gA b 709 z) s.heap H locs → lv_has ls 6 [(0, .ref (b + adC 3 a0)), (1, .ref (b + adC 13 a1)), (2, .ref (b + adC 21 a2)), (3, .int a3), (4, .int a4)] → W p l e rm_X3_fits s m args below meth c H locs 0 0 (MQ below (PiC D cy b z tx k) args s 0 0 (gA b 709 z)) (F0 m 3 ls []) := by
  intro n9
  induction n9 with
  | zero => intro a0 a1 a2 a3 a4 S H locs ls av0 av1 av2 h; exact h.elim
  | succ n9 ih =>
    intro a0 a1 a2 a3 a4 S H locs ls av0 av1 av2 h hR hS hl
    exact Bbw_X3_fits_3 C0 hr hlk hT ih a0 a1 a2 a3 a4 S H locs ls av0 av1 av2 h hR hS hl
def F_X3_fits (a0 : Nat) (a1 : Nat) (a2 : Nat) (a3 : Int32) (S : sSt) (k : Int32 → sSt → Prop) : Prop := B_X3_fits_3 fuel a0 a1 a2 a3 0 S k
set_option maxHeartbeats 4000000 in
set_option maxRecDepth 100000 in
theorem c_X3_fits (l : Launch) {D : va_G} {cy : Nat → ClassId} {b z : Nat} {tx : TX} {a0 : Nat} {a1 : Nat} {a2 : Nat} {a3 : Int32} {S : sSt} {k : Int32 → sSt → Prop} (av0 : a0 < 13) (av1 : a1 < 3) (av2 : a2 < 72) (h : F_X3_fits a0 a1 a2 a3 S k) : Met l yX3_fits (Cond.code yX3_fits cX3_fits 6 (some .boolean) :: TB) rm_X3_fits (va_Pc [.ref (b + adC 3 a0), .ref (b + adC 13 a1), .ref (b + adC 21 a2), .int a3] (fun U => RelC D cy b z tx S U U.heap ∧ TxR tx U)) (PiC D cy b z tx k) 0 0 (gA b 709 z) := by
  refine Met.ofW (cc := cX3_fits) (maxL := 6) (ret := (some .boolean)) (by decide) rfl ?_
  intro p e s m args below meth c s₁ B hml hv
  obtain ⟨rfl, hR, hT⟩ := hv
  have C0 : CallFix p m c cX3_fits 6 s _ TB RX3 := ⟨B.exec, B.bytes, hml, findClass_of_methodNamed B.named, fun w hw => atoms_spec B.pre w (List.mem_cons_of_mem _ hw)⟩
  have hr := B.returns
  have hlk := B.notSynchronized
  have hx := C0.1
  have hb := C0.2.1
  have hS : va_S (gA b 709 z) s.heap s.heap [] := va_S.rf
  have hl := lv_entry ([.ref (b + adC 3 a0), .ref (b + adC 13 a1), .ref (b + adC 21 a2), .int a3]) (n := 6) (Nat.le_of_ble_eq_true rfl)
  rw [lg_entry_eq]
  generalize (lg_sl ([.ref (b + adC 3 a0), .ref (b + adC 13 a1), .ref (b + adC 21 a2), .int a3]) ++ List.replicate (6 - (lg_sl ([.ref (b + adC 3 a0), .ref (b + adC 13 a1), .ref (b + adC 21 a2), .int a3])).length) Slot.unset).toArray = ls at hl ⊢
  have hl : lv_has ls 6 [(0, .ref (b + adC 3 a0)), (1, .ref (b + adC 13 a1)), (2, .ref (b + adC 21 a2)), (3, .int a3)] := hl
  show W p l e rm_X3_fits s m _ below meth c s.heap [] 0 0 (MQ below (PiC D cy b z tx k) _ s 0 0 (gA b 709 z)) _
  unfold F_X3_fits at h
  refine lv_iconst (v := 0) hx hb dX3_fits_0 (by decide) ?_
  refine lv_istore (lv' := [(4, .int 0), (0, .ref (b + adC 3 a0)), (1, .ref (b + adC 13 a1)), (2, .ref (b + adC 21 a2)), (3, .int a3)]) hx hb dX3_fits_1 hl (by decide) rfl (fun ls hl => ?_)
  exact Bw_X3_fits_3 C0 hr hlk hT fuel a0 a1 a2 a3 0 S _ _ _ av0 av1 av2 h hR hS (lv_sub hl [1, 2, 3, 4, 0] rfl)

def rm_X3_putsAhead : Room := { frames := 2, cells := 0, slots := 0, locals := 46 }
def Bb_X3_putsAhead_3 (kk3 : Nat → Nat → Nat → Nat → Int32 → Int32 → sSt → Prop) (a0 : Nat) (a1 : Nat) (a2 : Nat) (a3 : Nat) (a4 : Int32) (a5 : Int32) (S : sSt) (k : Int32 → sSt → Prop) : Prop := (((S.1 3 a0 7) ≤ a5 → k 0 S) ∧ (¬ (S.1 3 a0 7) ≤ a5 → ((4 ≤ a5 → k 0 S) ∧ (¬ 4 ≤ a5 → ix a5 4 (fun j4 => F_X3_valueOf (S.1 7 a0 j4) a1 a2 a4 S (fun r5 S6 => F_X3_valueOf (S6.1 7 a0 j4) a1 a3 a4 S6 (fun r8 S9 => ((r5 = r8 → ∀ x11 : Int32, x11 = a5 + 1 → kk3 a0 a1 a2 a3 a4 x11 S9) ∧ (¬ r5 = r8 → (((S9.1 8 a0 j4) = 0 → ((r8 ≤ r5 → k 0 S9) ∧ (¬ r8 ≤ r5 → k 1 S9))) ∧ (¬ (S9.1 8 a0 j4) = 0 → ((r5 ≤ r8 → k 0 S9) ∧ (¬ r5 ≤ r8 → k 1 S9)))))))))))))
set_option maxHeartbeats 4000000 in
set_option maxRecDepth 100000 in
theorem Bbw_X3_putsAhead_3 {p : Program} {l : Launch} {e : Env} {s : State} {m : MethodId} {args : Array Value} {below : List Frame} {meth : Method} {c : Code} {D : va_G} {cy : Nat → ClassId} {b z : Nat} {tx : TX} (C0 : CallFix p m c cX3_putsAhead 8 s args TB RX3) (hr : meth.sig.returnType = (some .boolean)) (hlk : meth.locks = false) (hT : TxR tx s) {k : Int32 → sSt → Prop} {kk3 : Nat → Nat → Nat → Nat → Int32 → Int32 → sSt → Prop} (ih3 : ∀ (a0 : Nat) (a1 : Nat) (a2 : Nat) (a3 : Nat) (a4 : Int32) (a5 : Int32) (S : sSt) (H : Heap) (locs : List Loc) (ls : Array Slot) (av0 : a0 < 13) (av1 : a1 < 3) (av2 : a2 < 72) (av3 : a3 < 72), kk3 a0 a1 a2 a3 a4 a5 S → RelC D cy b z tx S s H → va_S (gA b 709 z) s.heap H locs → lv_has ls 8 [(0, .ref (b + adC 3 a0)), (1, .ref (b + adC 13 a1)), (2, .ref (b + adC 21 a2)), (3, .ref (b + adC 21 a3)), (4, .int a4), (5, .int a5)] → W p l e rm_X3_putsAhead s m args below meth c H locs 0 0 (MQ below (PiC D cy b z tx k) args s 0 0 (gA b 709 z)) (F0 m 3 ls [])) : ∀ (a0 : Nat) (a1 : Nat) (a2 : Nat) (a3 : Nat) (a4 : Int32) (a5 : Int32) (S : sSt) (H : Heap) (locs : List Loc) (ls : Array Slot) (av0 : a0 < 13) (av1 : a1 < 3) (av2 : a2 < 72) (av3 : a3 < 72), Bb_X3_putsAhead_3 kk3 a0 a1 a2 a3 a4 a5 S k → RelC D cy b z tx S s H → va_S (gA b 709 z) s.heap H locs → lv_has ls 8 [(0, .ref (b + adC 3 a0)), (1, .ref (b + adC 13 a1)), (2, .ref (b + adC 21 a2)), (3, .ref (b + adC 21 a3)), (4, .int a4), (5, .int a5)] → W p l e rm_X3_putsAhead s m args below meth c H locs 0 0 (MQ below (PiC D cy b z tx k) args s 0 0 (gA b 709 z)) (F0 m 3 ls []) := by
  intro a0 a1 a2 a3 a4 a5 S H locs ls av0 av1 av2 av3 h hR hS hl
  have hx := C0.1
  have hb := C0.2.1
  unfold Bb_X3_putsAhead_3 at h
  refine lv_iload hx hb dX3_putsAhead_3 (lv_at hl 5 rfl) ?_
  refine lv_aload_n hx hb dX3_putsAhead_5 rfl (lv_at hl 0 rfl) ?_
  refine gC_3_7 C0 hR av0 tbs_wsX30 mC4_1_76 dX3_putsAhead_6 ?_
  refine lv_icmp_ge (tgt := 101) hx hb dX3_putsAhead_9 (by decide) (fun c1 => ?_) (fun c1 => ?_)
  · have h := h.1 c1
    refine lv_iconst (v := 0) hx hb dX3_putsAhead_101 (by decide) ?_
    exact rtC_z C0 hr hlk hR hS (by decide) h dX3_putsAhead_102
  · have h := h.2 c1
    refine lv_iload hx hb dX3_putsAhead_12 (lv_at hl 5 rfl) ?_
    refine lv_iconst (v := 4) hx hb dX3_putsAhead_14 (by decide) ?_
    refine lv_icmp_ge (tgt := 101) hx hb dX3_putsAhead_15 (by decide) (fun c2 => ?_) (fun c2 => ?_)
    · have h := h.1 c2
      refine lv_iconst (v := 0) hx hb dX3_putsAhead_101 (by decide) ?_
      exact rtC_z C0 hr hlk hR hS (by decide) h dX3_putsAhead_102
    · have h := h.2 c2
      refine lv_aload_n hx hb dX3_putsAhead_18 rfl (lv_at hl 0 rfl) ?_
      refine gC_3_3 C0 hR av0 tbs_wsX30 mC4_1_70 dX3_putsAhead_19 ?_
      have w3 : a0 < 13 := by omega
      refine lv_iload hx hb dX3_putsAhead_22 (lv_at hl 5 rfl) ?_
      obtain ⟨j4, hj4, ej4, h⟩ := h
      refine lC_7 C0 hR w3 hj4 ej4 dX3_putsAhead_24 ?_
      refine lv_aload_n hx hb dX3_putsAhead_25 rfl (lv_at hl 1 rfl) ?_
      refine lv_aload_n hx hb dX3_putsAhead_26 rfl (lv_at hl 2 rfl) ?_
      refine lv_iload hx hb dX3_putsAhead_27 (lv_at hl 4 rfl) ?_
      refine qC_Si (As := [.int (S.1 7 a0 j4), .ref (b + adC 13 a1), .ref (b + adC 21 a2), .int a4]) (rest := []) C0 (c_X3_valueOf l av1 av2 h) (va_cwS 4 C0.2.2.2.2 (tbS mC4_5_97 ⟨mC4_5_98, mC4_1_3, mC4_5_99⟩) rfl rfl rfl (by decide +kernel) ⟨Nat.le_of_ble_eq_true rfl, Nat.le_of_ble_eq_true rfl⟩) hR hT hS rfl hl.1 rfl (Nat.le_of_ble_eq_true rfl) dX3_putsAhead_29 ⟨Nat.zero_le _, Nat.zero_le _⟩ (fun r5 S6 H locs h hR hS => ?_)
      refine lv_istore (lv' := [(6, .int r5), (0, .ref (b + adC 3 a0)), (1, .ref (b + adC 13 a1)), (2, .ref (b + adC 21 a2)), (3, .ref (b + adC 21 a3)), (4, .int a4), (5, .int a5)]) hx hb dX3_putsAhead_32 hl (by decide) rfl (fun ls hl => ?_)
      refine lv_aload_n hx hb dX3_putsAhead_34 rfl (lv_at hl 1 rfl) ?_
      refine gC_3_3 C0 hR av0 tbs_wsX30 mC4_1_70 dX3_putsAhead_35 ?_
      have w7 : a0 < 13 := by omega
      refine lv_iload hx hb dX3_putsAhead_38 (lv_at hl 6 rfl) ?_
      refine lC_7 C0 hR w7 hj4 ej4 dX3_putsAhead_40 ?_
      refine lv_aload_n hx hb dX3_putsAhead_41 rfl (lv_at hl 2 rfl) ?_
      refine lv_aload_n hx hb dX3_putsAhead_42 rfl (lv_at hl 4 rfl) ?_
      refine lv_iload hx hb dX3_putsAhead_43 (lv_at hl 5 rfl) ?_
      refine qC_Si (As := [.int (S6.1 7 a0 j4), .ref (b + adC 13 a1), .ref (b + adC 21 a3), .int a4]) (rest := []) C0 (c_X3_valueOf l av1 av3 h) (va_cwS 4 C0.2.2.2.2 (tbS mC4_5_97 ⟨mC4_5_98, mC4_1_3, mC4_5_99⟩) rfl rfl rfl (by decide +kernel) ⟨Nat.le_of_ble_eq_true rfl, Nat.le_of_ble_eq_true rfl⟩) hR hT hS rfl hl.1 rfl (Nat.le_of_ble_eq_true rfl) dX3_putsAhead_45 ⟨Nat.zero_le _, Nat.zero_le _⟩ (fun r8 S9 H locs h hR hS => ?_)
      refine lv_istore (lv' := [(7, .int r8), (6, .int r5), (0, .ref (b + adC 3 a0)), (1, .ref (b + adC 13 a1)), (2, .ref (b + adC 21 a2)), (3, .ref (b + adC 21 a3)), (4, .int a4), (5, .int a5)]) hx hb dX3_putsAhead_48 hl (by decide) rfl (fun ls hl => ?_)
      refine lv_iload hx hb dX3_putsAhead_50 (lv_at hl 1 rfl) ?_
      refine lv_iload hx hb dX3_putsAhead_52 (lv_at hl 0 rfl) ?_
      refine lv_icmp_eq (tgt := 95) hx hb dX3_putsAhead_54 (by decide) (fun c10 => ?_) (fun c10 => ?_)
      · have h := h.1 c10
        obtain ⟨x11, ex11⟩ : ∃ x11 : Int32, x11 = a5 + 1 := ⟨_, rfl⟩
        have h := h x11 ex11
        refine w_iinc (v0 := 1) (lv' := [(5, .int x11), (7, .int r8), (6, .int r5), (0, .ref (b + adC 3 a0)), (1, .ref (b + adC 13 a1)), (2, .ref (b + adC 21 a2)), (3, .ref (b + adC 21 a3)), (4, .int a4)]) C0 dX3_putsAhead_95 hl (k := 7) rfl (by decide) (by decide) x11 ex11 rfl (fun ls hl => ?_)
        refine lv_goto (tgt := 3) hx hb dX3_putsAhead_98 (by decide) ?_
        exact ih3 a0 a1 a2 a3 a4 x11 S9 _ _ _ av0 av1 av2 av3 h hR hS (lv_sub hl [3, 4, 5, 6, 7, 0] rfl)
      · have h := h.2 c10
        refine lv_aload_n hx hb dX3_putsAhead_57 rfl (lv_at hl 2 rfl) ?_
        refine gC_3_4 C0 hR av0 tbs_wsX30 mC4_1_71 dX3_putsAhead_58 ?_
        have w12 : a0 < 13 := by omega
        refine lv_iload hx hb dX3_putsAhead_61 (lv_at hl 7 rfl) ?_
        refine lC_8 C0 hR w12 hj4 ej4 dX3_putsAhead_63 ?_
        refine lv_if_eq (tgt := 82) hx hb dX3_putsAhead_64 (by decide) (fun c13 => ?_) (fun c13 => ?_)
        · have h := h.1 c13
          refine lv_iload hx hb dX3_putsAhead_82 (lv_at hl 1 rfl) ?_
          refine lv_iload hx hb dX3_putsAhead_84 (lv_at hl 0 rfl) ?_
          refine lv_icmp_ge (tgt := 93) hx hb dX3_putsAhead_86 (by decide) (fun c14 => ?_) (fun c14 => ?_)
          · have h := h.1 c14
            refine lv_iconst (v := 0) hx hb dX3_putsAhead_93 (by decide) ?_
            exact rtC_z C0 hr hlk hR hS (by decide) h dX3_putsAhead_94
          · have h := h.2 c14
            refine lv_iconst (v := 1) hx hb dX3_putsAhead_89 (by decide) ?_
            refine lv_goto (tgt := 94) hx hb dX3_putsAhead_90 (by decide) ?_
            exact rtC_z C0 hr hlk hR hS (by decide) h dX3_putsAhead_94
        · have h := h.2 c13
          refine lv_iload hx hb dX3_putsAhead_67 (lv_at hl 1 rfl) ?_
          refine lv_iload hx hb dX3_putsAhead_69 (lv_at hl 0 rfl) ?_
          refine lv_icmp_le (tgt := 78) hx hb dX3_putsAhead_71 (by decide) (fun c15 => ?_) (fun c15 => ?_)
          · have h := h.1 c15
            refine lv_iconst (v := 0) hx hb dX3_putsAhead_78 (by decide) ?_
            refine lv_goto (tgt := 94) hx hb dX3_putsAhead_79 (by decide) ?_
            exact rtC_z C0 hr hlk hR hS (by decide) h dX3_putsAhead_94
          · have h := h.2 c15
            refine lv_iconst (v := 1) hx hb dX3_putsAhead_74 (by decide) ?_
            refine lv_goto (tgt := 94) hx hb dX3_putsAhead_75 (by decide) ?_
            exact rtC_z C0 hr hlk hR hS (by decide) h dX3_putsAhead_94
def B_X3_putsAhead_3 (n9 : Nat) (a0 : Nat) (a1 : Nat) (a2 : Nat) (a3 : Nat) (a4 : Int32) (a5 : Int32) (S : sSt) (k : Int32 → sSt → Prop) : Prop := (Nat.rec (motive := fun _ => Nat → Nat → Nat → Nat → Int32 → Int32 → sSt → Prop) (fun _ _ _ _ _ _ _ => False) (fun _ r9 => fun a0 a1 a2 a3 a4 a5 S => Bb_X3_putsAhead_3 r9 a0 a1 a2 a3 a4 a5 S k) n9 : Nat → Nat → Nat → Nat → Int32 → Int32 → sSt → Prop) a0 a1 a2 a3 a4 a5 S
theorem B_X3_putsAhead_3_s (n9 : Nat) (a0 : Nat) (a1 : Nat) (a2 : Nat) (a3 : Nat) (a4 : Int32) (a5 : Int32) (S : sSt) (k : Int32 → sSt → Prop) : B_X3_putsAhead_3 (n9 + 1) a0 a1 a2 a3 a4 a5 S k = Bb_X3_putsAhead_3 (fun a0 a1 a2 a3 a4 a5 S => B_X3_putsAhead_3 n9 a0 a1 a2 a3 a4 a5 S k) a0 a1 a2 a3 a4 a5 S k := rfl
set_option maxHeartbeats 4000000 in
set_option maxRecDepth 100000 in
theorem Bw_X3_putsAhead_3 {p : Program} {l : Launch} {e : Env} {s : State} {m : MethodId} {args : Array Value} {below : List Frame} {meth : Method} {c : Code} {D : va_G} {cy : Nat → ClassId} {b z : Nat} {tx : TX} (C0 : CallFix p m c cX3_putsAhead 8 s args TB RX3) (hr : meth.sig.returnType = (some .boolean)) (hlk : meth.locks = false) (hT : TxR tx s) {k : Int32 → sSt → Prop} : ∀ (n9 : Nat), ∀ (a0 : Nat) (a1 : Nat) (a2 : Nat) (a3 : Nat) (a4 : Int32) (a5 : Int32) (S : sSt) (H : Heap) (locs : List Loc) (ls : Array Slot) (av0 : a0 < 13) (av1 : a1 < 3) (av2 : a2 < 72) (av3 : a3 < 72), B_X3_putsAhead_3 n9 a0 a1 a2 a3 a4 a5 S k → RelC D cy b z tx S s H → va_S (gA b 709 z) s.heap H locs → lv_has ls 8 [(0, .ref (b + adC 3 a0)), (1, .ref (b + adC 13 a1)), (2, .ref (b + adC 21 a2)), (3, .ref (b + adC 21 a3)), (4, .int a4), (5, .int a5)] → W p l e rm_X3_putsAhead s m args below meth c H locs 0 0 (MQ below (PiC D cy b z tx k) args s 0 0 (gA b 709 z)) (F0 m 3 ls []) := by
  intro n9
  induction n9 with
  | zero => intro a0 a1 a2 a3 a4 a5 S H locs ls av0 av1 av2 av3 h; exact h.elim
  | succ n9 ih =>
    intro a0 a1 a2 a3 a4 a5 S H locs ls av0 av1 av2 av3 h hR hS hl
    exact Bbw_X3_putsAhead_3 C0 hr hlk hT ih a0 a1 a2 a3 a4 a5 S H locs ls av0 av1 av2 av3 h hR hS hl
def F_X3_putsAhead (a0 : Nat) (a1 : Nat) (a2 : Nat) (a3 : Nat) (a4 : Int32) (S : sSt) (k : Int32 → sSt → Prop) : Prop := B_X3_putsAhead_3 fuel a0 a1 a2 a3 a4 0 S k
set_option maxHeartbeats 4000000 in
set_option maxRecDepth 100000 in
theorem c_X3_putsAhead (l : Launch) {D : va_G} {cy : Nat → ClassId} {b z : Nat} {tx : TX} {a0 : Nat} {a1 : Nat} {a2 : Nat} {a3 : Nat} {a4 : Int32} {S : sSt} {k : Int32 → sSt → Prop} (av0 : a0 < 13) (av1 : a1 < 3) (av2 : a2 < 72) (av3 : a3 < 72) (h : F_X3_putsAhead a0 a1 a2 a3 a4 S k) : Met l yX3_putsAhead (Cond.code yX3_putsAhead cX3_putsAhead 8 (some .boolean) :: TB) rm_X3_putsAhead (va_Pc [.ref (b + adC 3 a0), .ref (b + adC 13 a1), .ref (b + adC 21 a2), .ref (b + adC 21 a3), .int a4] (fun U => RelC D cy b z tx S U U.heap ∧ TxR tx U)) (PiC D cy b z tx k) 0 0 (gA b 709 z) := by
  refine Met.ofW (cc := cX3_putsAhead) (maxL := 8) (ret := (some .boolean)) (by decide) rfl ?_
  intro p e s m args below meth c s₁ B hml hv
  obtain ⟨rfl, hR, hT⟩ := hv
  have C0 : CallFix p m c cX3_putsAhead 8 s _ TB RX3 := ⟨B.exec, B.bytes, hml, findClass_of_methodNamed B.named, fun w hw => atoms_spec B.pre w (List.mem_cons_of_mem _ hw)⟩
  have hr := B.returns
  have hlk := B.notSynchronized
  have hx := C0.1
  have hb := C0.2.1
  have hS : va_S (gA b 709 z) s.heap s.heap [] := va_S.rf
  have hl := lv_entry ([.ref (b + adC 3 a0), .ref (b + adC 13 a1), .ref (b + adC 21 a2), .ref (b + adC 21 a3), .int a4]) (n := 8) (Nat.le_of_ble_eq_true rfl)
  rw [lg_entry_eq]
  generalize (lg_sl ([.ref (b + adC 3 a0), .ref (b + adC 13 a1), .ref (b + adC 21 a2), .ref (b + adC 21 a3), .int a4]) ++ List.replicate (8 - (lg_sl ([.ref (b + adC 3 a0), .ref (b + adC 13 a1), .ref (b + adC 21 a2), .ref (b + adC 21 a3), .int a4])).length) Slot.unset).toArray = ls at hl ⊢
  have hl : lv_has ls 8 [(0, .ref (b + adC 3 a0)), (1, .ref (b + adC 13 a1)), (2, .ref (b + adC 21 a2)), (3, .ref (b + adC 21 a3)), (4, .int a4)] := hl
  show W p l e rm_X3_putsAhead s m _ below meth c s.heap [] 0 0 (MQ below (PiC D cy b z tx k) _ s 0 0 (gA b 709 z)) _
  unfold F_X3_putsAhead at h
  refine lv_iconst (v := 0) hx hb dX3_putsAhead_0 (by decide) ?_
  refine lv_istore (lv' := [(5, .int 0), (0, .ref (b + adC 3 a0)), (1, .ref (b + adC 13 a1)), (2, .ref (b + adC 21 a2)), (3, .ref (b + adC 21 a3)), (4, .int a4)]) hx hb dX3_putsAhead_1 hl (by decide) rfl (fun ls hl => ?_)
  exact Bw_X3_putsAhead_3 C0 hr hlk hT fuel a0 a1 a2 a3 a4 0 S _ _ _ av0 av1 av2 av3 h hR hS (lv_sub hl [1, 2, 3, 4, 5, 0] rfl)

def rm_X0_placeToClaim : Room := { frames := 3, cells := 0, slots := 0, locals := 73 }
def B_X0_placeToClaim_100 (kk15 : Nat → Int32 → Nat → Int32 → Int32 → sSt → Prop) (a0 : Nat) (a1 : Int32) (a2 : Nat) (a3 : Int32) (a4 : Int32) (S : sSt) (k : Int32 → sSt → Prop) : Prop := ∀ x13 : Int32, x13 = a4 + 1 → kk15 a0 a1 a2 a3 x13 S
set_option maxHeartbeats 4000000 in
set_option maxRecDepth 100000 in
theorem Bw_X0_placeToClaim_100 {p : Program} {l : Launch} {e : Env} {s : State} {m : MethodId} {args : Array Value} {below : List Frame} {meth : Method} {c : Code} {D : va_G} {cy : Nat → ClassId} {b z : Nat} {tx : TX} (C0 : CallFix p m c cX0_placeToClaim 7 s args TB RX0) (hr : meth.sig.returnType = (some .int)) (hlk : meth.locks = false) (hT : TxR tx s) {k : Int32 → sSt → Prop} {kk15 : Nat → Int32 → Nat → Int32 → Int32 → sSt → Prop} (ih15 : ∀ (a0 : Nat) (a1 : Int32) (a2 : Nat) (a3 : Int32) (a4 : Int32) (S : sSt) (H : Heap) (locs : List Loc) (ls : Array Slot) (av0 : a0 < 3) (av2 : a2 < 13), kk15 a0 a1 a2 a3 a4 S → RelC D cy b z tx S s H → va_S (gA b 709 z) s.heap H locs → lv_has ls 7 [(0, .ref (b + adC 13 a0)), (1, .int a1), (2, .ref (b + adC 3 a2)), (3, .int a3), (4, .int a4)] → W p l e rm_X0_placeToClaim s m args below meth c H locs 0 0 (MQ below (PiC D cy b z tx k) args s 0 0 (gA b 709 z)) (F0 m 15 ls [])) : ∀ (a0 : Nat) (a1 : Int32) (a2 : Nat) (a3 : Int32) (a4 : Int32) (S : sSt) (H : Heap) (locs : List Loc) (ls : Array Slot) (av0 : a0 < 3) (av2 : a2 < 13), B_X0_placeToClaim_100 kk15 a0 a1 a2 a3 a4 S k → RelC D cy b z tx S s H → va_S (gA b 709 z) s.heap H locs → lv_has ls 7 [(0, .ref (b + adC 13 a0)), (1, .int a1), (2, .ref (b + adC 3 a2)), (3, .int a3), (4, .int a4)] → W p l e rm_X0_placeToClaim s m args below meth c H locs 0 0 (MQ below (PiC D cy b z tx k) args s 0 0 (gA b 709 z)) (F0 m 100 ls []) := by
  intro a0 a1 a2 a3 a4 S H locs ls av0 av2 h hR hS hl
  have hx := C0.1
  have hb := C0.2.1
  unfold B_X0_placeToClaim_100 at h
  obtain ⟨x13, ex13⟩ : ∃ x13 : Int32, x13 = a4 + 1 := ⟨_, rfl⟩
  have h := h x13 ex13
  refine w_iinc (v0 := 1) (lv' := [(4, .int x13), (0, .ref (b + adC 13 a0)), (1, .int a1), (2, .ref (b + adC 3 a2)), (3, .int a3)]) C0 dX0_placeToClaim_100 hl (k := 4) rfl (by decide) (by decide) x13 ex13 rfl (fun ls hl => ?_)
  refine lv_goto (tgt := 15) hx hb dX0_placeToClaim_103 (by decide) ?_
  exact ih15 a0 a1 a2 a3 x13 S _ _ _ av0 av2 h hR hS (lv_sub hl [1, 2, 3, 4, 0] rfl)
def B_X0_placeToClaim_97 (kk15 : Nat → Int32 → Nat → Int32 → Int32 → sSt → Prop) (a0 : Nat) (a1 : Int32) (a2 : Nat) (a4 : Int32) (S : sSt) (k : Int32 → sSt → Prop) : Prop := B_X0_placeToClaim_100 kk15 a0 a1 a2 a4 a4 S k
set_option maxHeartbeats 4000000 in
set_option maxRecDepth 100000 in
theorem Bw_X0_placeToClaim_97 {p : Program} {l : Launch} {e : Env} {s : State} {m : MethodId} {args : Array Value} {below : List Frame} {meth : Method} {c : Code} {D : va_G} {cy : Nat → ClassId} {b z : Nat} {tx : TX} (C0 : CallFix p m c cX0_placeToClaim 7 s args TB RX0) (hr : meth.sig.returnType = (some .int)) (hlk : meth.locks = false) (hT : TxR tx s) {k : Int32 → sSt → Prop} {kk15 : Nat → Int32 → Nat → Int32 → Int32 → sSt → Prop} (ih15 : ∀ (a0 : Nat) (a1 : Int32) (a2 : Nat) (a3 : Int32) (a4 : Int32) (S : sSt) (H : Heap) (locs : List Loc) (ls : Array Slot) (av0 : a0 < 3) (av2 : a2 < 13), kk15 a0 a1 a2 a3 a4 S → RelC D cy b z tx S s H → va_S (gA b 709 z) s.heap H locs → lv_has ls 7 [(0, .ref (b + adC 13 a0)), (1, .int a1), (2, .ref (b + adC 3 a2)), (3, .int a3), (4, .int a4)] → W p l e rm_X0_placeToClaim s m args below meth c H locs 0 0 (MQ below (PiC D cy b z tx k) args s 0 0 (gA b 709 z)) (F0 m 15 ls [])) : ∀ (a0 : Nat) (a1 : Int32) (a2 : Nat) (a4 : Int32) (S : sSt) (H : Heap) (locs : List Loc) (ls : Array Slot) (av0 : a0 < 3) (av2 : a2 < 13), B_X0_placeToClaim_97 kk15 a0 a1 a2 a4 S k → RelC D cy b z tx S s H → va_S (gA b 709 z) s.heap H locs → lv_has ls 7 [(0, .ref (b + adC 13 a0)), (1, .int a1), (2, .ref (b + adC 3 a2)), (4, .int a4)] → W p l e rm_X0_placeToClaim s m args below meth c H locs 0 0 (MQ below (PiC D cy b z tx k) args s 0 0 (gA b 709 z)) (F0 m 97 ls []) := by
  intro a0 a1 a2 a4 S H locs ls av0 av2 h hR hS hl
  have hx := C0.1
  have hb := C0.2.1
  unfold B_X0_placeToClaim_97 at h
  refine lv_iload hx hb dX0_placeToClaim_97 (lv_at hl 3 rfl) ?_
  refine lv_istore_n (lv' := [(3, .int a4), (0, .ref (b + adC 13 a0)), (1, .int a1), (2, .ref (b + adC 3 a2)), (4, .int a4)]) hx hb dX0_placeToClaim_99 rfl hl (by decide) rfl (fun ls hl => ?_)
  exact Bw_X0_placeToClaim_100 C0 hr hlk hT ih15 a0 a1 a2 a4 a4 S _ _ _ av0 av2 h hR hS (lv_sub hl [1, 2, 3, 0, 4] rfl)
def B_X0_placeToClaim_68 (kk15 : Nat → Int32 → Nat → Int32 → Int32 → sSt → Prop) (a0 : Nat) (a1 : Int32) (a2 : Nat) (a3 : Int32) (a4 : Int32) (a5 : Nat) (t0 : Int32) (S : sSt) (k : Int32 → sSt → Prop) : Prop := ((t0 = 0 → B_X0_placeToClaim_100 kk15 a0 a1 a2 a3 a4 S k) ∧ (¬ t0 = 0 → ((a3 = (-1) → B_X0_placeToClaim_97 kk15 a0 a1 a2 a4 S k) ∧ (¬ a3 = (-1) → ix a3 24 (fun j16 => F_X3_putsAhead a2 a0 a5 (S.2 14 a0 j16) a1 S (fun r18 S19 => ((r18 = 0 → B_X0_placeToClaim_100 kk15 a0 a1 a2 a3 a4 S19 k) ∧ (¬ r18 = 0 → B_X0_placeToClaim_97 kk15 a0 a1 a2 a4 S19 k))))))))
set_option maxHeartbeats 4000000 in
set_option maxRecDepth 100000 in
theorem Bw_X0_placeToClaim_68 {p : Program} {l : Launch} {e : Env} {s : State} {m : MethodId} {args : Array Value} {below : List Frame} {meth : Method} {c : Code} {D : va_G} {cy : Nat → ClassId} {b z : Nat} {tx : TX} (C0 : CallFix p m c cX0_placeToClaim 7 s args TB RX0) (hr : meth.sig.returnType = (some .int)) (hlk : meth.locks = false) (hT : TxR tx s) {k : Int32 → sSt → Prop} {kk15 : Nat → Int32 → Nat → Int32 → Int32 → sSt → Prop} (ih15 : ∀ (a0 : Nat) (a1 : Int32) (a2 : Nat) (a3 : Int32) (a4 : Int32) (S : sSt) (H : Heap) (locs : List Loc) (ls : Array Slot) (av0 : a0 < 3) (av2 : a2 < 13), kk15 a0 a1 a2 a3 a4 S → RelC D cy b z tx S s H → va_S (gA b 709 z) s.heap H locs → lv_has ls 7 [(0, .ref (b + adC 13 a0)), (1, .int a1), (2, .ref (b + adC 3 a2)), (3, .int a3), (4, .int a4)] → W p l e rm_X0_placeToClaim s m args below meth c H locs 0 0 (MQ below (PiC D cy b z tx k) args s 0 0 (gA b 709 z)) (F0 m 15 ls [])) : ∀ (a0 : Nat) (a1 : Int32) (a2 : Nat) (a3 : Int32) (a4 : Int32) (a5 : Nat) (t0 : Int32) (S : sSt) (H : Heap) (locs : List Loc) (ls : Array Slot) (av0 : a0 < 3) (av2 : a2 < 13) (av5 : a5 < 72), B_X0_placeToClaim_68 kk15 a0 a1 a2 a3 a4 a5 t0 S k → RelC D cy b z tx S s H → va_S (gA b 709 z) s.heap H locs → lv_has ls 7 [(0, .ref (b + adC 13 a0)), (1, .int a1), (2, .ref (b + adC 3 a2)), (3, .int a3), (4, .int a4), (5, .ref (b + adC 21 a5))] → W p l e rm_X0_placeToClaim s m args below meth c H locs 0 0 (MQ below (PiC D cy b z tx k) args s 0 0 (gA b 709 z)) (F0 m 68 ls [.int t0]) := by
  intro a0 a1 a2 a3 a4 a5 t0 S H locs ls av0 av2 av5 h hR hS hl
  have hx := C0.1
  have hb := C0.2.1
  unfold B_X0_placeToClaim_68 at h
  refine lv_istore (lv' := [(6, .int t0), (0, .ref (b + adC 13 a0)), (1, .int a1), (2, .ref (b + adC 3 a2)), (3, .int a3), (4, .int a4), (5, .ref (b + adC 21 a5))]) hx hb dX0_placeToClaim_68 hl (by decide) rfl (fun ls hl => ?_)
  refine lv_iload hx hb dX0_placeToClaim_70 (lv_at hl 0 rfl) ?_
  refine lv_if_eq (tgt := 100) hx hb dX0_placeToClaim_72 (by decide) (fun c12 => ?_) (fun c12 => ?_)
  · have h := h.1 c12
    exact Bw_X0_placeToClaim_100 C0 hr hlk hT ih15 a0 a1 a2 a3 a4 S _ _ _ av0 av2 h hR hS (lv_sub hl [1, 2, 3, 4, 5] rfl)
  · have h := h.2 c12
    refine lv_iload_n hx hb dX0_placeToClaim_75 rfl (lv_at hl 4 rfl) ?_
    refine lv_iconst (v := (-1)) hx hb dX0_placeToClaim_76 (by decide) ?_
    refine lv_icmp_eq (tgt := 97) hx hb dX0_placeToClaim_77 (by decide) (fun c14 => ?_) (fun c14 => ?_)
    · have h := h.1 c14
      exact Bw_X0_placeToClaim_97 C0 hr hlk hT ih15 a0 a1 a2 a4 S _ _ _ av0 av2 h hR hS (lv_sub hl [1, 2, 3, 5] rfl)
    · have h := h.2 c14
      refine lv_aload_n hx hb dX0_placeToClaim_80 rfl (lv_at hl 3 rfl) ?_
      refine lv_aload_n hx hb dX0_placeToClaim_81 rfl (lv_at hl 1 rfl) ?_
      refine lv_aload hx hb dX0_placeToClaim_82 (lv_at hl 6 rfl) ?_
      refine lv_aload_n hx hb dX0_placeToClaim_84 rfl (lv_at hl 1 rfl) ?_
      refine gCn_13_0 C0 hR av0 tbs_wsX60 mC4_2_127 hT dX0_placeToClaim_85 ?_
      have w15 : a0 < 3 := by omega
      refine lv_iload_n hx hb dX0_placeToClaim_88 rfl (lv_at hl 4 rfl) ?_
      obtain ⟨j16, hj16, ej16, h⟩ := h
      refine lC_14 C0 hR w15 hj16 ej16 dX0_placeToClaim_89 ?_
      have w17 : (S.2 14 a0 j16) < 72 := hR.2.1.1 _ _ w15 hj16
      refine lv_iload_n hx hb dX0_placeToClaim_90 rfl (lv_at hl 2 rfl) ?_
      refine qC_Vi (As := [.ref (b + adC 13 a0), .ref (b + adC 21 a5), .ref (b + adC 21 (S.2 14 a0 j16)), .int a1]) (rest := []) C0 (c_X3_putsAhead l av2 av0 av5 w17 h) (cwV 4 C0.2.2.2.2 (tbV mC4_5_107 ⟨mC4_5_108, mC4_5_109, mC4_1_3, mC4_5_110⟩) rfl rfl rfl (by decide +kernel) ⟨Nat.le_of_ble_eq_true rfl, Nat.le_of_ble_eq_true rfl⟩) (rcC_3 hR av2) hR hT hS rfl hl.1 rfl (Nat.le_of_ble_eq_true rfl) dX0_placeToClaim_91 ⟨Nat.zero_le _, Nat.zero_le _⟩ (fun r18 S19 H locs h hR hS => ?_)
      refine lv_if_eq (tgt := 100) hx hb dX0_placeToClaim_94 (by decide) (fun c20 => ?_) (fun c20 => ?_)
      · have h := h.1 c20
        exact Bw_X0_placeToClaim_100 C0 hr hlk hT ih15 a0 a1 a2 a3 a4 S19 _ _ _ av0 av2 h hR hS (lv_sub hl [1, 2, 3, 4, 5] rfl)
      · have h := h.2 c20
        exact Bw_X0_placeToClaim_97 C0 hr hlk hT ih15 a0 a1 a2 a4 S19 _ _ _ av0 av2 h hR hS (lv_sub hl [1, 2, 3, 5] rfl)
def B_X0_placeToClaim_67 (kk15 : Nat → Int32 → Nat → Int32 → Int32 → sSt → Prop) (a0 : Nat) (a1 : Int32) (a2 : Nat) (a3 : Int32) (a4 : Int32) (a5 : Nat) (S : sSt) (k : Int32 → sSt → Prop) : Prop := B_X0_placeToClaim_68 kk15 a0 a1 a2 a3 a4 a5 0 S k
set_option maxHeartbeats 4000000 in
set_option maxRecDepth 100000 in
theorem Bw_X0_placeToClaim_67 {p : Program} {l : Launch} {e : Env} {s : State} {m : MethodId} {args : Array Value} {below : List Frame} {meth : Method} {c : Code} {D : va_G} {cy : Nat → ClassId} {b z : Nat} {tx : TX} (C0 : CallFix p m c cX0_placeToClaim 7 s args TB RX0) (hr : meth.sig.returnType = (some .int)) (hlk : meth.locks = false) (hT : TxR tx s) {k : Int32 → sSt → Prop} {kk15 : Nat → Int32 → Nat → Int32 → Int32 → sSt → Prop} (ih15 : ∀ (a0 : Nat) (a1 : Int32) (a2 : Nat) (a3 : Int32) (a4 : Int32) (S : sSt) (H : Heap) (locs : List Loc) (ls : Array Slot) (av0 : a0 < 3) (av2 : a2 < 13), kk15 a0 a1 a2 a3 a4 S → RelC D cy b z tx S s H → va_S (gA b 709 z) s.heap H locs → lv_has ls 7 [(0, .ref (b + adC 13 a0)), (1, .int a1), (2, .ref (b + adC 3 a2)), (3, .int a3), (4, .int a4)] → W p l e rm_X0_placeToClaim s m args below meth c H locs 0 0 (MQ below (PiC D cy b z tx k) args s 0 0 (gA b 709 z)) (F0 m 15 ls [])) : ∀ (a0 : Nat) (a1 : Int32) (a2 : Nat) (a3 : Int32) (a4 : Int32) (a5 : Nat) (S : sSt) (H : Heap) (locs : List Loc) (ls : Array Slot) (av0 : a0 < 3) (av2 : a2 < 13) (av5 : a5 < 72), B_X0_placeToClaim_67 kk15 a0 a1 a2 a3 a4 a5 S k → RelC D cy b z tx S s H → va_S (gA b 709 z) s.heap H locs → lv_has ls 7 [(0, .ref (b + adC 13 a0)), (1, .int a1), (2, .ref (b + adC 3 a2)), (3, .int a3), (4, .int a4), (5, .ref (b + adC 21 a5))] → W p l e rm_X0_placeToClaim s m args below meth c H locs 0 0 (MQ below (PiC D cy b z tx k) args s 0 0 (gA b 709 z)) (F0 m 67 ls []) := by
  intro a0 a1 a2 a3 a4 a5 S H locs ls av0 av2 av5 h hR hS hl
  have hx := C0.1
  have hb := C0.2.1
  unfold B_X0_placeToClaim_67 at h
  refine lv_iconst (v := 0) hx hb dX0_placeToClaim_67 (by decide) ?_
  exact Bw_X0_placeToClaim_68 C0 hr hlk hT ih15 a0 a1 a2 a3 a4 a5 0 S _ _ _ av0 av2 av5 h hR hS (lv_sub hl [0, 1, 2, 3, 4, 5] rfl)
def Bb_X0_placeToClaim_15 (kk15 : Nat → Int32 → Nat → Int32 → Int32 → sSt → Prop) (a0 : Nat) (a1 : Int32) (a2 : Nat) (a3 : Int32) (a4 : Int32) (S : sSt) (k : Int32 → sSt → Prop) : Prop := (((S.1 13 a0 6) ≤ a4 → k a3 S) ∧ (¬ (S.1 13 a0 6) ≤ a4 → ix a4 24 (fun j7 => F_X1_isSeenBy (S.2 14 a0 j7) a1 S (fun r9 S10 => ((r9 = 0 → B_X0_placeToClaim_67 kk15 a0 a1 a2 a3 a4 (S.2 14 a0 j7) S10 k) ∧ (¬ r9 = 0 → F_X0_hindrance a0 (S.2 14 a0 j7) a1 S10 (fun r21 S22 => ((¬ r21 = 0 → B_X0_placeToClaim_67 kk15 a0 a1 a2 a3 a4 (S.2 14 a0 j7) S22 k) ∧ (r21 = 0 → F_X3_fits a2 a0 (S.2 14 a0 j7) a1 S22 (fun r24 S25 => ((r24 = 0 → B_X0_placeToClaim_67 kk15 a0 a1 a2 a3 a4 (S.2 14 a0 j7) S25 k) ∧ (¬ r24 = 0 → B_X0_placeToClaim_68 kk15 a0 a1 a2 a3 a4 (S.2 14 a0 j7) 1 S25 k))))))))))))
set_option maxHeartbeats 4000000 in
set_option maxRecDepth 100000 in
theorem Bbw_X0_placeToClaim_15 {p : Program} {l : Launch} {e : Env} {s : State} {m : MethodId} {args : Array Value} {below : List Frame} {meth : Method} {c : Code} {D : va_G} {cy : Nat → ClassId} {b z : Nat} {tx : TX} (C0 : CallFix p m c cX0_placeToClaim 7 s args TB RX0) (hr : meth.sig.returnType = (some .int)) (hlk : meth.locks = false) (hT : TxR tx s) {k : Int32 → sSt → Prop} {kk15 : Nat → Int32 → Nat → Int32 → Int32 → sSt → Prop} (ih15 : ∀ (a0 : Nat) (a1 : Int32) (a2 : Nat) (a3 : Int32) (a4 : Int32) (S : sSt) (H : Heap) (locs : List Loc) (ls : Array Slot) (av0 : a0 < 3) (av2 : a2 < 13), kk15 a0 a1 a2 a3 a4 S → RelC D cy b z tx S s H → va_S (gA b 709 z) s.heap H locs → lv_has ls 7 [(0, .ref (b + adC 13 a0)), (1, .int a1), (2, .ref (b + adC 3 a2)), (3, .int a3), (4, .int a4)] → W p l e rm_X0_placeToClaim s m args below meth c H locs 0 0 (MQ below (PiC D cy b z tx k) args s 0 0 (gA b 709 z)) (F0 m 15 ls [])) : ∀ (a0 : Nat) (a1 : Int32) (a2 : Nat) (a3 : Int32) (a4 : Int32) (S : sSt) (H : Heap) (locs : List Loc) (ls : Array Slot) (av0 : a0 < 3) (av2 : a2 < 13), Bb_X0_placeToClaim_15 kk15 a0 a1 a2 a3 a4 S k → RelC D cy b z tx S s H → va_S (gA b 709 z) s.heap H locs → lv_has ls 7 [(0, .ref (b + adC 13 a0)), (1, .int a1), (2, .ref (b + adC 3 a2)), (3, .int a3), (4, .int a4)] → W p l e rm_X0_placeToClaim s m args below meth c H locs 0 0 (MQ below (PiC D cy b z tx k) args s 0 0 (gA b 709 z)) (F0 m 15 ls []) := by
  intro a0 a1 a2 a3 a4 S H locs ls av0 av2 h hR hS hl
  have hx := C0.1
  have hb := C0.2.1
  unfold Bb_X0_placeToClaim_15 at h
  refine lv_iload hx hb dX0_placeToClaim_15 (lv_at hl 4 rfl) ?_
  refine lv_aload_n hx hb dX0_placeToClaim_17 rfl (lv_at hl 0 rfl) ?_
  refine gCn_13_6 C0 hR av0 tbs_wsX60 mC4_2_148 hT dX0_placeToClaim_18 ?_
  refine lv_icmp_ge (tgt := 106) hx hb dX0_placeToClaim_21 (by decide) (fun c5 => ?_) (fun c5 => ?_)
  · have h := h.1 c5
    refine lv_iload_n hx hb dX0_placeToClaim_106 rfl (lv_at hl 3 rfl) ?_
    exact rtC_i C0 hr hlk hR hS h dX0_placeToClaim_107
  · have h := h.2 c5
    refine lv_aload_n hx hb dX0_placeToClaim_24 rfl (lv_at hl 0 rfl) ?_
    refine gCn_13_0 C0 hR av0 tbs_wsX60 mC4_2_127 hT dX0_placeToClaim_25 ?_
    have w6 : a0 < 3 := by omega
    refine lv_iload hx hb dX0_placeToClaim_28 (lv_at hl 4 rfl) ?_
    obtain ⟨j7, hj7, ej7, h⟩ := h
    refine lC_14 C0 hR w6 hj7 ej7 dX0_placeToClaim_30 ?_
    have w8 : (S.2 14 a0 j7) < 72 := hR.2.1.1 _ _ w6 hj7
    refine lv_astore (lv' := [(5, .ref (b + adC 21 (S.2 14 a0 j7))), (0, .ref (b + adC 13 a0)), (1, .int a1), (2, .ref (b + adC 3 a2)), (3, .int a3), (4, .int a4)]) hx hb dX0_placeToClaim_31 hl (by decide) rfl (fun ls hl => ?_)
    refine lv_aload hx hb dX0_placeToClaim_33 (lv_at hl 0 rfl) ?_
    refine lv_iload_n hx hb dX0_placeToClaim_35 rfl (lv_at hl 2 rfl) ?_
    refine qC_Vi (As := [.int a1]) (rest := []) C0 (c_X1_isSeenBy l w8 h) (cwV 1 C0.2.2.2.2 (tbV mC4_5_72 ⟨mC4_5_73, mC4_5_74, mC4_1_7, mC4_5_75⟩) rfl rfl rfl (by decide +kernel) ⟨Nat.le_of_ble_eq_true rfl, Nat.le_of_ble_eq_true rfl⟩) (rcC_21 hR w8) hR hT hS rfl hl.1 rfl (Nat.le_of_ble_eq_true rfl) dX0_placeToClaim_36 ⟨Nat.zero_le _, Nat.zero_le _⟩ (fun r9 S10 H locs h hR hS => ?_)
    refine lv_if_eq (tgt := 67) hx hb dX0_placeToClaim_39 (by decide) (fun c11 => ?_) (fun c11 => ?_)
    · have h := h.1 c11
      exact Bw_X0_placeToClaim_67 C0 hr hlk hT ih15 a0 a1 a2 a3 a4 (S.2 14 a0 j7) S10 _ _ _ av0 av2 w8 h hR hS (lv_sub hl [1, 2, 3, 4, 5, 0] rfl)
    · have h := h.2 c11
      refine lv_aload_n hx hb dX0_placeToClaim_42 rfl (lv_at hl 1 rfl) ?_
      refine lv_aload hx hb dX0_placeToClaim_43 (lv_at hl 0 rfl) ?_
      refine lv_iload_n hx hb dX0_placeToClaim_45 rfl (lv_at hl 2 rfl) ?_
      refine qC_Si (As := [.ref (b + adC 13 a0), .ref (b + adC 21 (S.2 14 a0 j7)), .int a1]) (rest := []) C0 (c_X0_hindrance l av0 w8 h) (va_cwS 3 C0.2.2.2.2 (tbS mC4_5_76 ⟨mC4_5_77, mC4_1_4, mC4_5_78⟩) rfl rfl rfl (by decide +kernel) ⟨Nat.le_of_ble_eq_true rfl, Nat.le_of_ble_eq_true rfl⟩) hR hT hS rfl hl.1 rfl (Nat.le_of_ble_eq_true rfl) dX0_placeToClaim_46 ⟨Nat.zero_le _, Nat.zero_le _⟩ (fun r21 S22 H locs h hR hS => ?_)
      refine lv_if_ne (tgt := 67) hx hb dX0_placeToClaim_49 (by decide) (fun c23 => ?_) (fun c23 => ?_)
      · have h := h.1 c23
        exact Bw_X0_placeToClaim_67 C0 hr hlk hT ih15 a0 a1 a2 a3 a4 (S.2 14 a0 j7) S22 _ _ _ av0 av2 w8 h hR hS (lv_sub hl [1, 2, 3, 4, 5, 0] rfl)
      · have h := h.2 c23
        refine lv_aload_n hx hb dX0_placeToClaim_52 rfl (lv_at hl 3 rfl) ?_
        refine lv_aload_n hx hb dX0_placeToClaim_53 rfl (lv_at hl 1 rfl) ?_
        refine lv_aload hx hb dX0_placeToClaim_54 (lv_at hl 0 rfl) ?_
        refine lv_iload_n hx hb dX0_placeToClaim_56 rfl (lv_at hl 2 rfl) ?_
        refine qC_Vi (As := [.ref (b + adC 13 a0), .ref (b + adC 21 (S.2 14 a0 j7)), .int a1]) (rest := []) C0 (c_X3_fits l av2 av0 w8 h) (cwV 3 C0.2.2.2.2 (tbV mC4_5_93 ⟨mC4_5_94, mC4_5_95, mC4_1_3, mC4_5_96⟩) rfl rfl rfl (by decide +kernel) ⟨Nat.le_of_ble_eq_true rfl, Nat.le_of_ble_eq_true rfl⟩) (rcC_3 hR av2) hR hT hS rfl hl.1 rfl (Nat.le_of_ble_eq_true rfl) dX0_placeToClaim_57 ⟨Nat.zero_le _, Nat.zero_le _⟩ (fun r24 S25 H locs h hR hS => ?_)
        refine lv_if_eq (tgt := 67) hx hb dX0_placeToClaim_60 (by decide) (fun c26 => ?_) (fun c26 => ?_)
        · have h := h.1 c26
          exact Bw_X0_placeToClaim_67 C0 hr hlk hT ih15 a0 a1 a2 a3 a4 (S.2 14 a0 j7) S25 _ _ _ av0 av2 w8 h hR hS (lv_sub hl [1, 2, 3, 4, 5, 0] rfl)
        · have h := h.2 c26
          refine lv_iconst (v := 1) hx hb dX0_placeToClaim_63 (by decide) ?_
          refine lv_goto (tgt := 68) hx hb dX0_placeToClaim_64 (by decide) ?_
          exact Bw_X0_placeToClaim_68 C0 hr hlk hT ih15 a0 a1 a2 a3 a4 (S.2 14 a0 j7) 1 S25 _ _ _ av0 av2 w8 h hR hS (lv_sub hl [1, 2, 3, 4, 5, 0] rfl)
def B_X0_placeToClaim_15 (n9 : Nat) (a0 : Nat) (a1 : Int32) (a2 : Nat) (a3 : Int32) (a4 : Int32) (S : sSt) (k : Int32 → sSt → Prop) : Prop := (Nat.rec (motive := fun _ => Nat → Int32 → Nat → Int32 → Int32 → sSt → Prop) (fun _ _ _ _ _ _ => False) (fun _ r9 => fun a0 a1 a2 a3 a4 S => Bb_X0_placeToClaim_15 r9 a0 a1 a2 a3 a4 S k) n9 : Nat → Int32 → Nat → Int32 → Int32 → sSt → Prop) a0 a1 a2 a3 a4 S
theorem B_X0_placeToClaim_15_s (n9 : Nat) (a0 : Nat) (a1 : Int32) (a2 : Nat) (a3 : Int32) (a4 : Int32) (S : sSt) (k : Int32 → sSt → Prop) : B_X0_placeToClaim_15 (n9 + 1) a0 a1 a2 a3 a4 S k = Bb_X0_placeToClaim_15 (fun a0 a1 a2 a3 a4 S => B_X0_placeToClaim_15 n9 a0 a1 a2 a3 a4 S k) a0 a1 a2 a3 a4 S k := rfl
set_option maxHeartbeats 4000000 in
set_option maxRecDepth 100000 in
theorem Bw_X0_placeToClaim_15 {p : Program} {l : Launch} {e : Env} {s : State} {m : MethodId} {args : Array Value} {below : List Frame} {meth : Method} {c : Code} {D : va_G} {cy : Nat → ClassId} {b z : Nat} {tx : TX} (C0 : CallFix p m c cX0_placeToClaim 7 s args TB RX0) (hr : meth.sig.returnType = (some .int)) (hlk : meth.locks = false) (hT : TxR tx s) {k : Int32 → sSt → Prop} : ∀ (n9 : Nat), ∀ (a0 : Nat) (a1 : Int32) (a2 : Nat) (a3 : Int32) (a4 : Int32) (S : sSt) (H : Heap) (locs : List Loc) (ls : Array Slot) (av0 : a0 < 3) (av2 : a2 < 13), B_X0_placeToClaim_15 n9 a0 a1 a2 a3 a4 S k → RelC D cy b z tx S s H → va_S (gA b 709 z) s.heap H locs → lv_has ls 7 [(0, .ref (b + adC 13 a0)), (1, .int a1), (2, .ref (b + adC 3 a2)), (3, .int a3), (4, .int a4)] → W p l e rm_X0_placeToClaim s m args below meth c H locs 0 0 (MQ below (PiC D cy b z tx k) args s 0 0 (gA b 709 z)) (F0 m 15 ls []) := by
  intro n9
  induction n9 with
  | zero => intro a0 a1 a2 a3 a4 S H locs ls av0 av2 h; exact h.elim
  | succ n9 ih =>
    intro a0 a1 a2 a3 a4 S H locs ls av0 av2 h hR hS hl
    exact Bbw_X0_placeToClaim_15 C0 hr hlk hT ih a0 a1 a2 a3 a4 S H locs ls av0 av2 h hR hS hl
def F_X0_placeToClaim (a0 : Nat) (a1 : Int32) (S : sSt) (k : Int32 → sSt → Prop) : Prop := ix a1 4 (fun j2 => B_X0_placeToClaim_15 fuel a0 a1 ((4 * a0 + j2) + 1) (-1) 0 S k)
set_option maxHeartbeats 4000000 in
set_option maxRecDepth 100000 in
theorem c_X0_placeToClaim (l : Launch) {D : va_G} {cy : Nat → ClassId} {b z : Nat} {tx : TX} {a0 : Nat} {a1 : Int32} {S : sSt} {k : Int32 → sSt → Prop} (av0 : a0 < 3) (h : F_X0_placeToClaim a0 a1 S k) : Met l yX0_placeToClaim (Cond.code yX0_placeToClaim cX0_placeToClaim 7 (some .int) :: TB) rm_X0_placeToClaim (va_Pc [.ref (b + adC 13 a0), .int a1] (fun U => RelC D cy b z tx S U U.heap ∧ TxR tx U)) (PiC D cy b z tx k) 0 0 (gA b 709 z) := by
  refine Met.ofW (cc := cX0_placeToClaim) (maxL := 7) (ret := (some .int)) (by decide) rfl ?_
  intro p e s m args below meth c s₁ B hml hv
  obtain ⟨rfl, hR, hT⟩ := hv
  have C0 : CallFix p m c cX0_placeToClaim 7 s _ TB RX0 := ⟨B.exec, B.bytes, hml, findClass_of_methodNamed B.named, fun w hw => atoms_spec B.pre w (List.mem_cons_of_mem _ hw)⟩
  have hr := B.returns
  have hlk := B.notSynchronized
  have hx := C0.1
  have hb := C0.2.1
  have hS : va_S (gA b 709 z) s.heap s.heap [] := va_S.rf
  have hl := lv_entry ([.ref (b + adC 13 a0), .int a1]) (n := 7) (Nat.le_of_ble_eq_true rfl)
  rw [lg_entry_eq]
  generalize (lg_sl ([.ref (b + adC 13 a0), .int a1]) ++ List.replicate (7 - (lg_sl ([.ref (b + adC 13 a0), .int a1])).length) Slot.unset).toArray = ls at hl ⊢
  have hl : lv_has ls 7 [(0, .ref (b + adC 13 a0)), (1, .int a1)] := hl
  show W p l e rm_X0_placeToClaim s m _ below meth c s.heap [] 0 0 (MQ below (PiC D cy b z tx k) _ s 0 0 (gA b 709 z)) _
  unfold F_X0_placeToClaim at h
  refine lv_aload_n hx hb dX0_placeToClaim_0 rfl (lv_at hl 0 rfl) ?_
  refine gCn_13_1 C0 hR av0 tbs_wsX60 mC4_2_130 hT dX0_placeToClaim_1 ?_
  have w1 : a0 < 3 := by omega
  refine lv_iload_n hx hb dX0_placeToClaim_4 rfl (lv_at hl 1 rfl) ?_
  obtain ⟨j2, hj2, ej2, h⟩ := h
  refine lC_15 C0 hR w1 hj2 ej2 dX0_placeToClaim_5 ?_
  have w3 : (4 * a0 + j2) < 12 := by omega
  refine gCn_24_0 C0 hR w3 tbs_wsX50 mC4_2_53 hT dX0_placeToClaim_6 ?_
  have w4 : ((4 * a0 + j2) + 1) < 13 := by omega
  refine lv_astore_n (lv' := [(2, .ref (b + adC 3 ((4 * a0 + j2) + 1))), (0, .ref (b + adC 13 a0)), (1, .int a1)]) hx hb dX0_placeToClaim_9 rfl hl (by decide) rfl (fun ls hl => ?_)
  refine lv_iconst (v := (-1)) hx hb dX0_placeToClaim_10 (by decide) ?_
  refine lv_istore_n (lv' := [(3, .int (-1)), (2, .ref (b + adC 3 ((4 * a0 + j2) + 1))), (0, .ref (b + adC 13 a0)), (1, .int a1)]) hx hb dX0_placeToClaim_11 rfl hl (by decide) rfl (fun ls hl => ?_)
  refine lv_iconst (v := 0) hx hb dX0_placeToClaim_12 (by decide) ?_
  refine lv_istore (lv' := [(4, .int 0), (3, .int (-1)), (2, .ref (b + adC 3 ((4 * a0 + j2) + 1))), (0, .ref (b + adC 13 a0)), (1, .int a1)]) hx hb dX0_placeToClaim_13 hl (by decide) rfl (fun ls hl => ?_)
  exact Bw_X0_placeToClaim_15 C0 hr hlk hT fuel a0 a1 ((4 * a0 + j2) + 1) (-1) 0 S _ _ _ av0 w4 h hR hS (lv_sub hl [3, 4, 2, 1, 0] rfl)
