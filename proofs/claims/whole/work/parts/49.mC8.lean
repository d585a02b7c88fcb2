theorem mC8_1_104 : Cond.fieldLink RX0 15 "ClaimTable$Claims" "takers" "[I" ∈ TB := tbT_1 _ (List.mem_of_getElem? (i := 104) rfl) rfl
theorem mC8_1_105 : Cond.fieldLink RX0 18 "ClaimTable$Claims" "otherTakers" "[I" ∈ TB := tbT_1 _ (List.mem_of_getElem? (i := 105) rfl) rfl
theorem mC8_4_133 : Cond.methodLink RX11 77 yX11_needSession ∈ TB := tbT_4 _ (List.mem_of_getElem? (i := 133) rfl) rfl
theorem mC8_4_136 : Cond.code yX11_needSession cX11_needSession 2 none ∈ TB := tbT_4 _ (List.mem_of_getElem? (i := 136) rfl) rfl
theorem mC8_4_135 : Cond.instanceMethod yX11_needSession ∈ TB := tbT_4 _ (List.mem_of_getElem? (i := 135) rfl) rfl
theorem mpC8_1_5 : Cond.selects RX11 yX11_needSession yX11_needSession ∈ TB := tbP_1 (yX11_needSession, 8) (List.mem_of_getElem? (i := 5) rfl)
theorem mC8_1_1 : Cond.initialized RX11 ∈ TB := tbT_1 _ (List.mem_of_getElem? (i := 1) rfl) rfl
theorem mC8_2_211 : Cond.fieldLink RX11 26 "ClaimTable" "claims" "LClaimTable$Claims;" ∈ TB := tbT_2 _ (List.mem_of_getElem? (i := 211) rfl) rfl
theorem mC8_6_146 : Cond.methodLink RX11 310 yX0_startRace ∈ TB := tbT_6 _ (List.mem_of_getElem? (i := 146) rfl) rfl
theorem mC8_6_149 : Cond.code yX0_startRace cX0_startRace 2 none ∈ TB := tbT_6 _ (List.mem_of_getElem? (i := 149) rfl) rfl
theorem mC8_6_147 : Cond.instanceMethod yX0_startRace ∈ TB := tbT_6 _ (List.mem_of_getElem? (i := 147) rfl) rfl
theorem mC8_6_148 : Cond.selects RX0 yX0_startRace yX0_startRace ∈ TB := tbT_6 _ (List.mem_of_getElem? (i := 148) rfl) rfl
theorem mC8_1_4 : Cond.initialized RX0 ∈ TB := tbT_1 _ (List.mem_of_getElem? (i := 4) rfl) rfl
theorem mC8_6_150 : Cond.methodLink RX11 313 yX11_tryBoth ∈ TB := tbT_6 _ (List.mem_of_getElem? (i := 150) rfl) rfl
theorem mC8_6_153 : Cond.code yX11_tryBoth cX11_tryBoth 3 none ∈ TB := tbT_6 _ (List.mem_of_getElem? (i := 153) rfl) rfl
theorem mC8_6_152 : Cond.instanceMethod yX11_tryBoth ∈ TB := tbT_6 _ (List.mem_of_getElem? (i := 152) rfl) rfl
theorem mpC8_2_5 : Cond.selects RX11 yX11_tryBoth yX11_tryBoth ∈ TB := tbP_2 (yX11_tryBoth, 8) (List.mem_of_getElem? (i := 5) rfl)
theorem mC8_6_154 : Cond.methodLink RX11 317 yX0_turnRace ∈ TB := tbT_6 _ (List.mem_of_getElem? (i := 154) rfl) rfl
theorem mC8_6_157 : Cond.code yX0_turnRace cX0_turnRace 1 none ∈ TB := tbT_6 _ (List.mem_of_getElem? (i := 157) rfl) rfl
theorem mC8_6_155 : Cond.instanceMethod yX0_turnRace ∈ TB := tbT_6 _ (List.mem_of_getElem? (i := 155) rfl) rfl
theorem mC8_6_156 : Cond.selects RX0 yX0_turnRace yX0_turnRace ∈ TB := tbT_6 _ (List.mem_of_getElem? (i := 156) rfl) rfl
theorem mC8_6_160 : Cond.methodLink RX11 320 yX0_unlikeTakers ∈ TB := tbT_6 _ (List.mem_of_getElem? (i := 160) rfl) rfl
theorem mC8_6_163 : Cond.code yX0_unlikeTakers cX0_unlikeTakers 3 (some .int) ∈ TB := tbT_6 _ (List.mem_of_getElem? (i := 163) rfl) rfl
theorem mC8_6_161 : Cond.instanceMethod yX0_unlikeTakers ∈ TB := tbT_6 _ (List.mem_of_getElem? (i := 161) rfl) rfl
theorem mC8_6_162 : Cond.selects RX0 yX0_unlikeTakers yX0_unlikeTakers ∈ TB := tbT_6 _ (List.mem_of_getElem? (i := 162) rfl) rfl
theorem mC8_4_45 : Cond.classLink RX11 68 "java/lang/IllegalArgumentException" ∈ TB := tbT_4 _ (List.mem_of_getElem? (i := 45) rfl) rfl
theorem mC8_1_21 : Cond.initialized "java/lang/IllegalArgumentException" ∈ TB := tbT_1 _ (List.mem_of_getElem? (i := 21) rfl) rfl
theorem mC8_5_69 : Cond.methodLink RX0 128 yX0_placeToClaim ∈ TB := tbT_5 _ (List.mem_of_getElem? (i := 69) rfl) rfl
theorem mC8_5_71 : Cond.code yX0_placeToClaim cX0_placeToClaim 7 (some .int) ∈ TB := tbT_5 _ (List.mem_of_getElem? (i := 71) rfl) rfl
theorem mC8_5_70 : Cond.static yX0_placeToClaim ∈ TB := tbT_5 _ (List.mem_of_getElem? (i := 70) rfl) rfl
theorem mC8_2_127 : Cond.fieldLinkNest RX0 59 "ClaimTable$Table" "jobs" "[LClaimTable$Job;" "ClaimTable" ∈ NB := nbT_2 _ (List.mem_of_getElem? (i := 127) rfl) rfl
theorem mC8_1_228 : Cond.fieldLinkNest RX0 63 "ClaimTable$Job" "number" "I" "ClaimTable" ∈ NB := nbT_1 _ (List.mem_of_getElem? (i := 228) rfl) rfl
theorem mC8_5_111 : Cond.methodLink RX0 132 yX0_hold ∈ TB := tbT_5 _ (List.mem_of_getElem? (i := 111) rfl) rfl
theorem mC8_5_113 : Cond.code yX0_hold cX0_hold 5 none ∈ TB := tbT_5 _ (List.mem_of_getElem? (i := 113) rfl) rfl
theorem mC8_5_112 : Cond.static yX0_hold ∈ TB := tbT_5 _ (List.mem_of_getElem? (i := 112) rfl) rfl
theorem mC8_1_217 : Cond.fieldLinkNest RX0 145 "ClaimTable$Job" "own" "LClaimTable$Version;" "ClaimTable" ∈ NB := nbT_1 _ (List.mem_of_getElem? (i := 217) rfl) rfl
theorem mC8_1_158 : Cond.fieldLinkNest RX0 31 "ClaimTable$Version" "state" "I" "ClaimTable" ∈ NB := nbT_1 _ (List.mem_of_getElem? (i := 158) rfl) rfl
theorem mC8_5_134 : Cond.methodLink RX11 168 yX11_needJob ∈ TB := tbT_5 _ (List.mem_of_getElem? (i := 134) rfl) rfl
theorem mC8_5_137 : Cond.code yX11_needJob cX11_needJob 4 (some (.object "ClaimTable$Job")) ∈ TB := tbT_5 _ (List.mem_of_getElem? (i := 137) rfl) rfl
theorem mC8_5_136 : Cond.instanceMethod yX11_needJob ∈ TB := tbT_5 _ (List.mem_of_getElem? (i := 136) rfl) rfl
theorem mpC8_1_12 : Cond.selects RX11 yX11_needJob yX11_needJob ∈ TB := tbP_1 (yX11_needJob, 8) (List.mem_of_getElem? (i := 12) rfl)
theorem mC8_2_214 : Cond.fieldLink RX11 40 "ClaimTable" "spare" "LClaimTable$Table;" ∈ TB := tbT_2 _ (List.mem_of_getElem? (i := 214) rfl) rfl
theorem mC8_2_213 : Cond.fieldLink RX11 37 "ClaimTable" "live" "LClaimTable$Table;" ∈ TB := tbT_2 _ (List.mem_of_getElem? (i := 213) rfl) rfl
theorem mC8_3_53 : Cond.methodLink RX11 58 yX6_copyFrom ∈ TB := tbT_3 _ (List.mem_of_getElem? (i := 53) rfl) rfl
theorem mC8_3_56 : Cond.code yX6_copyFrom cX6_copyFrom 3 none ∈ TB := tbT_3 _ (List.mem_of_getElem? (i := 56) rfl) rfl
theorem mC8_3_54 : Cond.instanceMethod yX6_copyFrom ∈ TB := tbT_3 _ (List.mem_of_getElem? (i := 54) rfl) rfl
theorem mC8_3_55 : Cond.selects RX6 yX6_copyFrom yX6_copyFrom ∈ TB := tbT_3 _ (List.mem_of_getElem? (i := 55) rfl) rfl
theorem mC8_1_5 : Cond.initialized RX6 ∈ TB := tbT_1 _ (List.mem_of_getElem? (i := 5) rfl) rfl
theorem mC8_6_171 : Cond.methodLink RX11 323 yX0_claimedAhead ∈ TB := tbT_6 _ (List.mem_of_getElem? (i := 171) rfl) rfl
theorem mC8_6_173 : Cond.code yX0_claimedAhead cX0_claimedAhead 6 (some .int) ∈ TB := tbT_6 _ (List.mem_of_getElem? (i := 173) rfl) rfl
theorem mC8_6_172 : Cond.static yX0_claimedAhead ∈ TB := tbT_6 _ (List.mem_of_getElem? (i := 172) rfl) rfl
theorem mC8_1_161 : Cond.fieldLinkNest RX6 141 "ClaimTable$Version" "state" "I" "ClaimTable" ∈ NB := nbT_1 _ (List.mem_of_getElem? (i := 161) rfl) rfl
theorem mC8_1_168 : Cond.fieldLinkNest RX6 192 "ClaimTable$Version" "due" "I" "ClaimTable" ∈ NB := nbT_1 _ (List.mem_of_getElem? (i := 168) rfl) rfl
theorem mC8_2_160 : Cond.fieldLink RX6 78 "ClaimTable$Table" "mono" "I" ∈ TB := tbT_2 _ (List.mem_of_getElem? (i := 160) rfl) rfl
theorem mC8_6_33 : Cond.methodLink RX6 200 Lib.Math.max.name ∈ TB := tbT_6 _ (List.mem_of_getElem? (i := 33) rfl) rfl
theorem mC8_3_47 : Cond.static Lib.Math.max.name ∈ TB := tbT_3 _ (List.mem_of_getElem? (i := 47) rfl) rfl
theorem mC8_1_25 : Cond.initialized "java/lang/Math" ∈ TB := tbT_1 _ (List.mem_of_getElem? (i := 25) rfl) rfl
theorem mC8_3_48 : Cond.code Lib.Math.max.name Lib.Math.max.code 2 (some .int) ∈ TB := tbT_3 _ (List.mem_of_getElem? (i := 48) rfl) rfl
theorem mC8_1_172 : Cond.fieldLinkNest RX6 182 "ClaimTable$Version" "tries" "I" "ClaimTable" ∈ NB := nbT_1 _ (List.mem_of_getElem? (i := 172) rfl) rfl
theorem mC8_2_140 : Cond.fieldLink RX6 33 "ClaimTable$Table" "settings" "[I" ∈ TB := tbT_2 _ (List.mem_of_getElem? (i := 140) rfl) rfl
theorem mC8_5_174 : Cond.methodLink RX6 188 yX6_waitOf ∈ TB := tbT_5 _ (List.mem_of_getElem? (i := 174) rfl) rfl
theorem mC8_5_177 : Cond.code yX6_waitOf cX6_waitOf 5 (some .int) ∈ TB := tbT_5 _ (List.mem_of_getElem? (i := 177) rfl) rfl
theorem mC8_5_176 : Cond.instanceMethod yX6_waitOf ∈ TB := tbT_5 _ (List.mem_of_getElem? (i := 176) rfl) rfl
theorem mpC8_1_14 : Cond.selects RX6 yX6_waitOf yX6_waitOf ∈ TB := tbP_1 (yX6_waitOf, 16) (List.mem_of_getElem? (i := 14) rfl)
theorem mC8_6_42 : Cond.methodLink RX11 214 yX11_needViewer ∈ TB := tbT_6 _ (List.mem_of_getElem? (i := 42) rfl) rfl
theorem mC8_6_45 : Cond.code yX11_needViewer cX11_needViewer 2 none ∈ TB := tbT_6 _ (List.mem_of_getElem? (i := 45) rfl) rfl
theorem mC8_6_44 : Cond.instanceMethod yX11_needViewer ∈ TB := tbT_6 _ (List.mem_of_getElem? (i := 44) rfl) rfl
theorem mpC8_2_3 : Cond.selects RX11 yX11_needViewer yX11_needViewer ∈ TB := tbP_2 (yX11_needViewer, 8) (List.mem_of_getElem? (i := 3) rfl)
theorem mC8_5_147 : Cond.methodLink RX11 217 yX1_seenBy ∈ TB := tbT_5 _ (List.mem_of_getElem? (i := 147) rfl) rfl
theorem mC8_5_82 : Cond.code yX1_seenBy cX1_seenBy 2 (some (.object "ClaimTable$Version")) ∈ TB := tbT_5 _ (List.mem_of_getElem? (i := 82) rfl) rfl
theorem mC8_5_80 : Cond.instanceMethod yX1_seenBy ∈ TB := tbT_5 _ (List.mem_of_getElem? (i := 80) rfl) rfl
theorem mC8_5_81 : Cond.selects RX1 yX1_seenBy yX1_seenBy ∈ TB := tbT_5 _ (List.mem_of_getElem? (i := 81) rfl) rfl
theorem mC8_1_7 : Cond.initialized RX1 ∈ TB := tbT_1 _ (List.mem_of_getElem? (i := 7) rfl) rfl
theorem mC8_6_181 : Cond.methodLink RX11 327 yX6_tryTime ∈ TB := tbT_6 _ (List.mem_of_getElem? (i := 181) rfl) rfl
theorem mC8_6_184 : Cond.code yX6_tryTime cX6_tryTime 7 (some .int) ∈ TB := tbT_6 _ (List.mem_of_getElem? (i := 184) rfl) rfl
theorem mC8_6_182 : Cond.instanceMethod yX6_tryTime ∈ TB := tbT_6 _ (List.mem_of_getElem? (i := 182) rfl) rfl
theorem mC8_6_183 : Cond.selects RX6 yX6_tryTime yX6_tryTime ∈ TB := tbT_6 _ (List.mem_of_getElem? (i := 183) rfl) rfl
theorem mC8_5_239 : Cond.methodLink RX11 208 yX6_tickTimes ∈ TB := tbT_5 _ (List.mem_of_getElem? (i := 239) rfl) rfl
theorem mC8_6_2 : Cond.code yX6_tickTimes cX6_tickTimes 4 (some .int) ∈ TB := tbT_6 _ (List.mem_of_getElem? (i := 2) rfl) rfl
theorem mC8_6_0 : Cond.instanceMethod yX6_tickTimes ∈ TB := tbT_6 _ (List.mem_of_getElem? (i := 0) rfl) rfl
theorem mC8_6_1 : Cond.selects RX6 yX6_tickTimes yX6_tickTimes ∈ TB := tbT_6 _ (List.mem_of_getElem? (i := 1) rfl) rfl
theorem mC8_6_29 : Cond.methodLink RX11 211 yX6_jumpBy ∈ TB := tbT_6 _ (List.mem_of_getElem? (i := 29) rfl) rfl
theorem mC8_6_32 : Cond.code yX6_jumpBy cX6_jumpBy 3 (some .int) ∈ TB := tbT_6 _ (List.mem_of_getElem? (i := 32) rfl) rfl
theorem mC8_6_30 : Cond.instanceMethod yX6_jumpBy ∈ TB := tbT_6 _ (List.mem_of_getElem? (i := 30) rfl) rfl
theorem mC8_6_31 : Cond.selects RX6 yX6_jumpBy yX6_jumpBy ∈ TB := tbT_6 _ (List.mem_of_getElem? (i := 31) rfl) rfl
theorem mC8_2_149 : Cond.fieldLinkNest RX10 60 "ClaimTable$Table" "size" "I" "ClaimTable" ∈ NB := nbT_2 _ (List.mem_of_getElem? (i := 149) rfl) rfl
theorem mC8_2_128 : Cond.fieldLinkNest RX10 63 "ClaimTable$Table" "jobs" "[LClaimTable$Job;" "ClaimTable" ∈ NB := nbT_2 _ (List.mem_of_getElem? (i := 128) rfl) rfl
theorem mC8_1_211 : Cond.fieldLinkNest RX10 39 "ClaimTable$Job" "base" "LClaimTable$Version;" "ClaimTable" ∈ NB := nbT_1 _ (List.mem_of_getElem? (i := 211) rfl) rfl
theorem mC8_1_224 : Cond.fieldLinkNest RX10 67 "ClaimTable$Job" "stored" "Z" "ClaimTable" ∈ NB := nbT_1 _ (List.mem_of_getElem? (i := 224) rfl) rfl
theorem mC8_1_159 : Cond.fieldLinkNest RX10 43 "ClaimTable$Version" "state" "I" "ClaimTable" ∈ NB := nbT_1 _ (List.mem_of_getElem? (i := 159) rfl) rfl
theorem mC8_2_158 : Cond.fieldLinkNest RX10 15 "ClaimTable$Table" "mono" "I" "ClaimTable" ∈ NB := nbT_2 _ (List.mem_of_getElem? (i := 158) rfl) rfl
theorem mC8_1_165 : Cond.fieldLinkNest RX10 71 "ClaimTable$Version" "due" "I" "ClaimTable" ∈ NB := nbT_1 _ (List.mem_of_getElem? (i := 165) rfl) rfl
theorem mC8_1_188 : Cond.fieldLinkNest RX10 51 "ClaimTable$Version" "until" "I" "ClaimTable" ∈ NB := nbT_1 _ (List.mem_of_getElem? (i := 188) rfl) rfl
theorem mC8_2_139 : Cond.fieldLinkNest RX10 81 "ClaimTable$Table" "parallel" "[I" "ClaimTable" ∈ NB := nbT_2 _ (List.mem_of_getElem? (i := 139) rfl) rfl
theorem mC8_1_236 : Cond.fieldLinkNest RX10 78 "ClaimTable$Job" "group" "I" "ClaimTable" ∈ NB := nbT_1 _ (List.mem_of_getElem? (i := 236) rfl) rfl
theorem mC8_1_227 : Cond.fieldLinkNest RX10 34 "ClaimTable$Job" "number" "I" "ClaimTable" ∈ NB := nbT_1 _ (List.mem_of_getElem? (i := 227) rfl) rfl
theorem mC8_6_215 : Cond.methodLink RX10 74 yX10_isGroupReady ∈ TB := tbT_6 _ (List.mem_of_getElem? (i := 215) rfl) rfl
theorem mC8_6_217 : Cond.code yX10_isGroupReady cX10_isGroupReady 5 (some .boolean) ∈ TB := tbT_6 _ (List.mem_of_getElem? (i := 217) rfl) rfl
theorem mC8_6_216 : Cond.static yX10_isGroupReady ∈ TB := tbT_6 _ (List.mem_of_getElem? (i := 216) rfl) rfl
theorem mC8_1_27 : Cond.initialized RX10 ∈ TB := tbT_1 _ (List.mem_of_getElem? (i := 27) rfl) rfl
def rm_X0_unlikeTakers : Room := { frames := 0, cells := 0, slots := 0, locals := 0 }
def B_X0_unlikeTakers_34 (kk4 : Int32 → Int32 → sSt → Prop) (a2 : Int32) (t0 : Int32) (t1 : Int32) (S : sSt) (k : Int32 → sSt → Prop) : Prop := ∀ x4 : Int32, x4 = (t0 + t1) → ∀ x5 : Int32, x5 = a2 + 1 → kk4 x4 x5 S
set_option maxHeartbeats 4000000 in
set_option maxRecDepth 100000 in
theorem Bw_X0_unlikeTakers_34 {p : Program} {l : Launch} {e : Env} {s : State} {m : MethodId} {args : Array Value} {below : List Frame} {meth : Method} {c : Code} {D : va_G} {cy : Nat → ClassId} {b z : Nat} {tx : TX} (C0 : CallFix p m c cX0_unlikeTakers 3 s args TB RX0) (hr : meth.sig.returnType = (some .int)) (hlk : meth.locks = false) (hT : TxR tx s) {k : Int32 → sSt → Prop} {kk4 : Int32 → Int32 → sSt → Prop} (ih4 : ∀ (a1 : Int32) (a2 : Int32) (S : sSt) (H : Heap) (locs : List Loc) (ls : Array Slot) , kk4 a1 a2 S → RelC D cy b z tx S s H → va_S (gA b 709 z) s.heap H locs → lv_has ls 3 [(0, .ref (b + adC 9 0)), (1, .int a1), (2, .int a2)] → W p l e rm_X0_unlikeTakers s m args below meth c H locs 0 0 (MQ below (PiC D cy b z tx k) args s 0 0 (gA b 709 z)) (F0 m 4 ls [])) : ∀ (a2 : Int32) (t0 : Int32) (t1 : Int32) (S : sSt) (H : Heap) (locs : List Loc) (ls : Array Slot) , B_X0_unlikeTakers_34 kk4 a2 t0 t1 S k → RelC D cy b z tx S s H → va_S (gA b 709 z) s.heap H locs → lv_has ls 3 [(0, .ref (b + adC 9 0)), (2, .int a2)] → W p l e rm_X0_unlikeTakers s m args below meth c H locs 0 0 (MQ below (PiC D cy b z tx k) args s 0 0 (gA b 709 z)) (F0 m 34 ls [.int t1, .int t0]) := by
  intro a2 t0 t1 S H locs ls h hR hS hl
  have hx := C0.1
  have hb := C0.2.1
  unfold B_X0_unlikeTakers_34 at h
  refine lv_iadd hx hb dX0_unlikeTakers_34 ?_
  refine lv_topi (fun x4 ex4 => ?_)
  have h := h x4 ex4
  refine lv_istore_n (lv' := [(1, .int x4), (0, .ref (b + adC 9 0)), (2, .int a2)]) hx hb dX0_unlikeTakers_35 rfl hl (by decide) rfl (fun ls hl => ?_)
  obtain ⟨x5, ex5⟩ : ∃ x5 : Int32, x5 = a2 + 1 := ⟨_, rfl⟩
  have h := h x5 ex5
  refine w_iinc (v0 := 1) (lv' := [(2, .int x5), (1, .int x4), (0, .ref (b + adC 9 0))]) C0 dX0_unlikeTakers_36 hl (k := 2) rfl (by decide) (by decide) x5 ex5 rfl (fun ls hl => ?_)
  refine lv_goto (tgt := 4) hx hb dX0_unlikeTakers_39 (by decide) ?_
  exact ih4 x4 x5 S _ _ _  h hR hS (lv_sub hl [2, 1, 0] rfl)
def Bb_X0_unlikeTakers_4 (kk4 : Int32 → Int32 → sSt → Prop) (a1 : Int32) (a2 : Int32) (S : sSt) (k : Int32 → sSt → Prop) : Prop := ((24 ≤ a2 → k a1 S) ∧ (¬ 24 ≤ a2 → ix a2 24 (fun j2 => (((S.1 11 0 j2) = (S.1 12 0 j2) → B_X0_unlikeTakers_34 kk4 a2 a1 0 S k) ∧ (¬ (S.1 11 0 j2) = (S.1 12 0 j2) → B_X0_unlikeTakers_34 kk4 a2 a1 1 S k)))))
set_option maxHeartbeats 4000000 in
set_option maxRecDepth 100000 in
theorem Bbw_X0_unlikeTakers_4 {p : Program} {l : Launch} {e : Env} {s : State} {m : MethodId} {args : Array Value} {below : List Frame} {meth : Method} {c : Code} {D : va_G} {cy : Nat → ClassId} {b z : Nat} {tx : TX} (C0 : CallFix p m c cX0_unlikeTakers 3 s args TB RX0) (hr : meth.sig.returnType = (some .int)) (hlk : meth.locks = false) (hT : TxR tx s) {k : Int32 → sSt → Prop} {kk4 : Int32 → Int32 → sSt → Prop} (ih4 : ∀ (a1 : Int32) (a2 : Int32) (S : sSt) (H : Heap) (locs : List Loc) (ls : Array Slot) , kk4 a1 a2 S → RelC D cy b z tx S s H → va_S (gA b 709 z) s.heap H locs → lv_has ls 3 [(0, .ref (b + adC 9 0)), (1, .int a1), (2, .int a2)] → W p l e rm_X0_unlikeTakers s m args below meth c H locs 0 0 (MQ below (PiC D cy b z tx k) args s 0 0 (gA b 709 z)) (F0 m 4 ls [])) : ∀ (a1 : Int32) (a2 : Int32) (S : sSt) (H : Heap) (locs : List Loc) (ls : Array Slot) , Bb_X0_unlikeTakers_4 kk4 a1 a2 S k → RelC D cy b z tx S s H → va_S (gA b 709 z) s.heap H locs → lv_has ls 3 [(0, .ref (b + adC 9 0)), (1, .int a1), (2, .int a2)] → W p l e rm_X0_unlikeTakers s m args below meth c H locs 0 0 (MQ below (PiC D cy b z tx k) args s 0 0 (gA b 709 z)) (F0 m 4 ls []) := by
  intro a1 a2 S H locs ls h hR hS hl
  have hx := C0.1
  have hb := C0.2.1
  unfold Bb_X0_unlikeTakers_4 at h
  refine lv_iload_n hx hb dX0_unlikeTakers_4 rfl (lv_at hl 2 rfl) ?_
  refine lv_aload_n hx hb dX0_unlikeTakers_5 rfl (lv_at hl 0 rfl) ?_
  refine gC_9_1 C0 hR Nat.zero_lt_one tbs_wsX00 mC8_1_104 dX0_unlikeTakers_6 ?_
  refine nC_11 C0 hR Nat.zero_lt_one dX0_unlikeTakers_9 ?_
  refine lv_icmp_ge (tgt := 42) hx hb dX0_unlikeTakers_10 (by decide) (fun c1 => ?_) (fun c1 => ?_)
  · have h := h.1 c1
    refine lv_iload_n hx hb dX0_unlikeTakers_42 rfl (lv_at hl 1 rfl) ?_
    exact rtC_i C0 hr hlk hR hS h dX0_unlikeTakers_43
  · have h := h.2 c1
    refine lv_iload_n hx hb dX0_unlikeTakers_13 rfl (lv_at hl 1 rfl) ?_
    refine lv_aload_n hx hb dX0_unlikeTakers_14 rfl (lv_at hl 0 rfl) ?_
    refine gC_9_1 C0 hR Nat.zero_lt_one tbs_wsX00 mC8_1_104 dX0_unlikeTakers_15 ?_
    refine lv_iload_n hx hb dX0_unlikeTakers_18 rfl (lv_at hl 2 rfl) ?_
    obtain ⟨j2, hj2, ej2, h⟩ := h
    refine lC_11 C0 hR Nat.zero_lt_one hj2 ej2 dX0_unlikeTakers_19 ?_
    refine lv_aload_n hx hb dX0_unlikeTakers_20 rfl (lv_at hl 0 rfl) ?_
    refine gC_9_2 C0 hR Nat.zero_lt_one tbs_wsX00 mC8_1_105 dX0_unlikeTakers_21 ?_
    refine lv_iload_n hx hb dX0_unlikeTakers_24 rfl (lv_at hl 2 rfl) ?_
    refine lC_12 C0 hR Nat.zero_lt_one hj2 ej2 dX0_unlikeTakers_25 ?_
    refine lv_icmp_eq (tgt := 33) hx hb dX0_unlikeTakers_26 (by decide) (fun c3 => ?_) (fun c3 => ?_)
    · have h := h.1 c3
      refine lv_iconst (v := 0) hx hb dX0_unlikeTakers_33 (by decide) ?_
      exact Bw_X0_unlikeTakers_34 C0 hr hlk hT ih4 a2 a1 0 S _ _ _ h hR hS (lv_sub hl [0, 2] rfl)
    · have h := h.2 c3
      refine lv_iconst (v := 1) hx hb dX0_unlikeTakers_29 (by decide) ?_
      refine lv_goto (tgt := 34) hx hb dX0_unlikeTakers_30 (by decide) ?_
      exact Bw_X0_unlikeTakers_34 C0 hr hlk hT ih4 a2 a1 1 S _ _ _ h hR hS (lv_sub hl [0, 2] rfl)
def B_X0_unlikeTakers_4 (n9 : Nat) (a1 : Int32) (a2 : Int32) (S : sSt) (k : Int32 → sSt → Prop) : Prop := (Nat.rec (motive := fun _ => Int32 → Int32 → sSt → Prop) (fun _ _ _ => False) (fun _ r9 => fun a1 a2 S => Bb_X0_unlikeTakers_4 r9 a1 a2 S k) n9 : Int32 → Int32 → sSt → Prop) a1 a2 S
theorem B_X0_unlikeTakers_4_s (n9 : Nat) (a1 : Int32) (a2 : Int32) (S : sSt) (k : Int32 → sSt → Prop) : B_X0_unlikeTakers_4 (n9 + 1) a1 a2 S k = Bb_X0_unlikeTakers_4 (fun a1 a2 S => B_X0_unlikeTakers_4 n9 a1 a2 S k) a1 a2 S k := rfl
set_option maxHeartbeats 4000000 in
set_option maxRecDepth 100000 in
theorem Bw_X0_unlikeTakers_4 {p : Program} {l : Launch} {e : Env} {s : State} {m : MethodId} {args : Array Value} {below : List Frame} {meth : Method} {c : Code} {D : va_G} {cy : Nat → ClassId} {b z : Nat} {tx : TX} (C0 : CallFix p m c cX0_unlikeTakers 3 s args TB RX0) (hr : meth.sig.returnType = (some .int)) (hlk : meth.locks = false) (hT : TxR tx s) {k : Int32 → sSt → Prop} : ∀ (n9 : Nat), ∀ (a1 : Int32) (a2 : Int32) (S : sSt) (H : Heap) (locs : List Loc) (ls : Array Slot) , B_X0_unlikeTakers_4 n9 a1 a2 S k → RelC D cy b z tx S s H → va_S (gA b 709 z) s.heap H locs → lv_has ls 3 [(0, .ref (b + adC 9 0)), (1, .int a1), (2, .int a2)] → W p l e rm_X0_unlikeTakers s m args below meth c H locs 0 0 (MQ below (PiC D cy b z tx k) args s 0 0 (gA b 709 z)) (F0 m 4 ls []) := by
  intro n9
  induction n9 with
  | zero => intro a1 a2 S H locs ls h; exact h.elim
  | succ n9 ih =>
    intro a1 a2 S H locs ls h hR hS hl
    exact Bbw_X0_unlikeTakers_4 C0 hr hlk hT ih a1 a2 S H locs ls h hR hS hl
def F_X0_unlikeTakers (S : sSt) (k : Int32 → sSt → Prop) : Prop := B_X0_unlikeTakers_4 fuel 0 0 S k
set_option maxHeartbeats 4000000 in
set_option maxRecDepth 100000 in
theorem c_X0_unlikeTakers (l : Launch) {D : va_G} {cy : Nat → ClassId} {b z : Nat} {tx : TX} {S : sSt} {k : Int32 → sSt → Prop} (h : F_X0_unlikeTakers S k) : Met l yX0_unlikeTakers (Cond.code yX0_unlikeTakers cX0_unlikeTakers 3 (some .int) :: TB) rm_X0_unlikeTakers (va_Pc [.ref (b + adC 9 0)] (fun U => RelC D cy b z tx S U U.heap ∧ TxR tx U)) (PiC D cy b z tx k) 0 0 (gA b 709 z) := by
  refine Met.ofW (cc := cX0_unlikeTakers) (maxL := 3) (ret := (some .int)) (by decide) rfl ?_
  intro p e s m args below meth c s₁ B hml hv
  obtain ⟨rfl, hR, hT⟩ := hv
  have C0 : CallFix p m c cX0_unlikeTakers 3 s _ TB RX0 := ⟨B.exec, B.bytes, hml, findClass_of_methodNamed B.named, fun w hw => atoms_spec B.pre w (List.mem_cons_of_mem _ hw)⟩
  have hr := B.returns
  have hlk := B.notSynchronized
  have hx := C0.1
  have hb := C0.2.1
  have hS : va_S (gA b 709 z) s.heap s.heap [] := va_S.rf
  have hl := lv_entry ([.ref (b + adC 9 0)]) (n := 3) (Nat.le_of_ble_eq_true rfl)
  rw [lg_entry_eq]
  generalize (lg_sl ([.ref (b + adC 9 0)]) ++ List.replicate (3 - (lg_sl ([.ref (b + adC 9 0)])).length) Slot.unset).toArray = ls at hl ⊢
  have hl : lv_has ls 3 [(0, .ref (b + adC 9 0))] := hl
  show W p l e rm_X0_unlikeTakers s m _ below meth c s.heap [] 0 0 (MQ below (PiC D cy b z tx k) _ s 0 0 (gA b 709 z)) _
  unfold F_X0_unlikeTakers at h
  refine lv_iconst (v := 0) hx hb dX0_unlikeTakers_0 (by decide) ?_
  refine lv_istore_n (lv' := [(1, .int 0), (0, .ref (b + adC 9 0))]) hx hb dX0_unlikeTakers_1 rfl hl (by decide) rfl (fun ls hl => ?_)
  refine lv_iconst (v := 0) hx hb dX0_unlikeTakers_2 (by decide) ?_
  refine lv_istore_n (lv' := [(2, .int 0), (1, .int 0), (0, .ref (b + adC 9 0))]) hx hb dX0_unlikeTakers_3 rfl hl (by decide) rfl (fun ls hl => ?_)
  exact Bw_X0_unlikeTakers_4 C0 hr hlk hT fuel 0 0 S _ _ _ h hR hS (lv_sub hl [2, 1, 0] rfl)

def rm_X11_race : Room := { frames := 7, cells := 3, slots := 18, locals := 146 }
def F_X11_race (a1 : Int32) (a2 : Int32) (S : sSt) (k : Int32 → sSt → Prop) (kx : String → sSt → Prop) : Prop := F_X11_needSession a1 S (fun S2 => F_X11_needSession a2 S2 (fun S4 => ((¬ a1 = a2 → F_X0_startRace S4 (fun S7 => F_X11_tryBoth a1 a2 S7 (fun S9 => F_X0_turnRace S9 (fun S11 => F_X11_tryBoth a2 a1 S11 (fun S13 => F_X0_unlikeTakers S13 (fun r14 S15 => k r14 S15)))))) ∧ (a1 = a2 → kx "java/lang/IllegalArgumentException" S4))) kx) kx
set_option maxHeartbeats 4000000 in
set_option maxRecDepth 100000 in
theorem c_X11_race (l : Launch) (hl0 : l.stackTraces = false) {D : va_G} {cy : Nat → ClassId} {b z : Nat} {tx : TX} {a1 : Int32} {a2 : Int32} {S : sSt} {k : Int32 → sSt → Prop} {kx : String → sSt → Prop} (h : F_X11_race a1 a2 S k kx) : vx_Met l yX11_race (Cond.code yX11_race cX11_race 3 (some .int) :: TB) rm_X11_race (va_Pc [.ref (b + adC 0 0), .int a1, .int a2] (fun U => RelC D cy b z tx S U U.heap ∧ TxR tx U)) (PiC D cy b z tx k) (XeC D cy b z tx kx) 3 18 (gA b 709 z) := by
  refine vx_ofW (cc := cX11_race) (maxL := 3) (ret := (some .int)) (by decide) rfl ?_
  intro p e s m args below meth c s₁ B hml hexc hv
  obtain ⟨rfl, hR, hT⟩ := hv
  have hX0 := hR.2.2
  have C0 : CallFix p m c cX11_race 3 s _ TB RX11 := ⟨B.exec, B.bytes, hml, findClass_of_methodNamed B.named, fun w hw => atoms_spec B.pre w (List.mem_cons_of_mem _ hw)⟩
  have hr := B.returns
  have hlk := B.notSynchronized
  have hx := C0.1
  have hb := C0.2.1
  have hS : va_S (gA b 709 z) s.heap s.heap [] := va_S.rf
  have hl := lv_entry ([.ref (b + adC 0 0), .int a1, .int a2]) (n := 3) (Nat.le_of_ble_eq_true rfl)
  rw [lg_entry_eq]
  generalize (lg_sl ([.ref (b + adC 0 0), .int a1, .int a2]) ++ List.replicate (3 - (lg_sl ([.ref (b + adC 0 0), .int a1, .int a2])).length) Slot.unset).toArray = ls at hl ⊢
  have hl : lv_has ls 3 [(0, .ref (b + adC 0 0)), (1, .int a1), (2, .int a2)] := hl
  show W p l e rm_X11_race s m _ below meth c s.heap [] 0 0 (vx_MQ below (PiC D cy b z tx k) (XeC D cy b z tx kx) _ s 3 18 (gA b 709 z)) _
  unfold F_X11_race at h
  refine lv_aload_n hx hb dX11_race_0 rfl (lv_at hl 0 rfl) ?_
  refine lv_iload_n hx hb dX11_race_1 rfl (lv_at hl 1 rfl) ?_
  refine qx_Vv (As := [.int a1]) (rest := []) C0 hlk hexc (c_X11_needSession l hl0 h) (cwV 1 C0.2.2.2.2 (tbV mC8_4_133 ⟨mC8_4_135, mpC8_1_5, mC8_1_1, mC8_4_136⟩) rfl rfl rfl (by decide +kernel) ⟨Nat.le_of_ble_eq_true rfl, Nat.le_of_ble_eq_true rfl⟩) (rcC_0 hR Nat.zero_lt_one) hR hT hS rfl hl.1 rfl (Nat.le_of_ble_eq_true rfl) dX11_race_2 ⟨Nat.le_of_ble_eq_true rfl, Nat.le_of_ble_eq_true rfl⟩ ⟨Nat.le_of_ble_eq_true rfl, Nat.le_of_ble_eq_true rfl⟩ (fun S2 H locs h hR hS => ?_)
  refine lv_aload_n hx hb dX11_race_5 rfl (lv_at hl 0 rfl) ?_
  refine lv_iload_n hx hb dX11_race_6 rfl (lv_at hl 2 rfl) ?_
  refine qx_Vv (As := [.int a2]) (rest := []) C0 hlk hexc (c_X11_needSession l hl0 h) (cwV 1 C0.2.2.2.2 (tbV mC8_4_133 ⟨mC8_4_135, mpC8_1_5, mC8_1_1, mC8_4_136⟩) rfl rfl rfl (by decide +kernel) ⟨Nat.le_of_ble_eq_true rfl, Nat.le_of_ble_eq_true rfl⟩) (rcC_0 hR Nat.zero_lt_one) hR hT hS rfl hl.1 rfl (Nat.le_of_ble_eq_true rfl) dX11_race_7 ⟨Nat.le_of_ble_eq_true rfl, Nat.le_of_ble_eq_true rfl⟩ ⟨Nat.le_of_ble_eq_true rfl, Nat.le_of_ble_eq_true rfl⟩ (fun S4 H locs h hR hS => ?_)
  refine lv_iload_n hx hb dX11_race_10 rfl (lv_at hl 1 rfl) ?_
  refine lv_iload_n hx hb dX11_race_11 rfl (lv_at hl 2 rfl) ?_
  refine lv_icmp_ne (tgt := 23) hx hb dX11_race_12 (by decide) (fun c5 => ?_) (fun c5 => ?_)
  · have h := h.1 c5
    refine lv_aload_n hx hb dX11_race_23 rfl (lv_at hl 0 rfl) ?_
    refine gC_0_2 C0 hR Nat.zero_lt_one tbs_wsX110 mC8_2_211 dX11_race_24 ?_
    refine qC_Vv (As := []) (rest := []) C0 (c_X0_startRace l h) (cwV 0 C0.2.2.2.2 (tbV mC8_6_146 ⟨mC8_6_147, mC8_6_148, mC8_1_4, mC8_6_149⟩) rfl rfl rfl (by decide +kernel) ⟨Nat.le_of_ble_eq_true rfl, Nat.le_of_ble_eq_true rfl⟩) (rcC_9 hR Nat.zero_lt_one) hR hT hS rfl hl.1 rfl (Nat.le_of_ble_eq_true rfl) dX11_race_27 ⟨Nat.le_of_ble_eq_true rfl, Nat.le_of_ble_eq_true rfl⟩ (fun S7 H locs h hR hS => ?_)
    refine lv_aload_n hx hb dX11_race_30 rfl (lv_at hl 0 rfl) ?_
    refine lv_iload_n hx hb dX11_race_31 rfl (lv_at hl 1 rfl) ?_
    refine lv_iload_n hx hb dX11_race_32 rfl (lv_at hl 2 rfl) ?_
    refine qC_Vv (As := [.int a1, .int a2]) (rest := []) C0 (c_X11_tryBoth l h) (cwV 2 C0.2.2.2.2 (tbV mC8_6_150 ⟨mC8_6_152, mpC8_2_5, mC8_1_1, mC8_6_153⟩) rfl rfl rfl (by decide +kernel) ⟨Nat.le_of_ble_eq_true rfl, Nat.le_of_ble_eq_true rfl⟩) (rcC_0 hR Nat.zero_lt_one) hR hT hS rfl hl.1 rfl (Nat.le_of_ble_eq_true rfl) dX11_race_33 ⟨Nat.le_of_ble_eq_true rfl, Nat.le_of_ble_eq_true rfl⟩ (fun S9 H locs h hR hS => ?_)
    refine lv_aload_n hx hb dX11_race_36 rfl (lv_at hl 0 rfl) ?_
    refine gC_0_2 C0 hR Nat.zero_lt_one tbs_wsX110 mC8_2_211 dX11_race_37 ?_
    refine qC_Vv (As := []) (rest := []) C0 (c_X0_turnRace l h) (cwV 0 C0.2.2.2.2 (tbV mC8_6_154 ⟨mC8_6_155, mC8_6_156, mC8_1_4, mC8_6_157⟩) rfl rfl rfl (by decide +kernel) ⟨Nat.le_of_ble_eq_true rfl, Nat.le_of_ble_eq_true rfl⟩) (rcC_9 hR Nat.zero_lt_one) hR hT hS rfl hl.1 rfl (Nat.le_of_ble_eq_true rfl) dX11_race_40 ⟨Nat.le_of_ble_eq_true rfl, Nat.le_of_ble_eq_true rfl⟩ (fun S11 H locs h hR hS => ?_)
    refine lv_aload_n hx hb dX11_race_43 rfl (lv_at hl 0 rfl) ?_
    refine lv_iload_n hx hb dX11_race_44 rfl (lv_at hl 2 rfl) ?_
    refine lv_iload_n hx hb dX11_race_45 rfl (lv_at hl 1 rfl) ?_
    refine qC_Vv (As := [.int a2, .int a1]) (rest := []) C0 (c_X11_tryBoth l h) (cwV 2 C0.2.2.2.2 (tbV mC8_6_150 ⟨mC8_6_152, mpC8_2_5, mC8_1_1, mC8_6_153⟩) rfl rfl rfl (by decide +kernel) ⟨Nat.le_of_ble_eq_true rfl, Nat.le_of_ble_eq_true rfl⟩) (rcC_0 hR Nat.zero_lt_one) hR hT hS rfl hl.1 rfl (Nat.le_of_ble_eq_true rfl) dX11_race_46 ⟨Nat.le_of_ble_eq_true rfl, Nat.le_of_ble_eq_true rfl⟩ (fun S13 H locs h hR hS => ?_)
    refine lv_aload_n hx hb dX11_race_49 rfl (lv_at hl 0 rfl) ?_
    refine gC_0_2 C0 hR Nat.zero_lt_one tbs_wsX110 mC8_2_211 dX11_race_50 ?_
    refine qC_Vi (As := []) (rest := []) C0 (c_X0_unlikeTakers l h) (cwV 0 C0.2.2.2.2 (tbV mC8_6_160 ⟨mC8_6_161, mC8_6_162, mC8_1_4, mC8_6_163⟩) rfl rfl rfl (by decide +kernel) ⟨Nat.le_of_ble_eq_true rfl, Nat.le_of_ble_eq_true rfl⟩) (rcC_9 hR Nat.zero_lt_one) hR hT hS rfl hl.1 rfl (Nat.le_of_ble_eq_true rfl) dX11_race_53 ⟨Nat.le_of_ble_eq_true rfl, Nat.le_of_ble_eq_true rfl⟩ (fun r14 S15 H locs h hR hS => ?_)
    refine vx_ret (W.widen (k := 3) (n := 18) (Nat.le_of_ble_eq_true rfl) (Nat.le_of_ble_eq_true rfl) ?_); exact rtC_i C0 hr hlk hR hS h dX11_race_56
  · have h := h.2 c5
    exact w_throw_0 C0 hl0 hX0 hT hR hS hl.1 hexc hlk h mC8_4_45 mC8_1_21 dX11_race_15 dX11_race_18 dX11_race_19 dX11_race_22 (Nat.le_of_ble_eq_true rfl) (Nat.le_of_ble_eq_true rfl) (Nat.le_of_ble_eq_true rfl) (Nat.le_of_ble_eq_true rfl) (Nat.le_of_ble_eq_true rfl) (Nat.le_of_ble_eq_true rfl)

def rm_X0_claimedAhead : Room := { frames := 4, cells := 0, slots := 0, locals := 99 }
def Bb_X0_claimedAhead_2 (kk2 : Nat → Int32 → Int32 → Int32 → sSt → Prop) (a0 : Nat) (a1 : Int32) (a2 : Int32) (a3 : Int32) (S : sSt) (k : Int32 → sSt → Prop) : Prop := ((24 ≤ a3 → k (-1) S) ∧ (¬ 24 ≤ a3 → F_X0_placeToClaim a0 a1 S (fun r2 S3 => ((¬ r2 = (-1) → ix r2 24 (fun j6 => ((¬ (S3.1 21 (S3.2 14 a0 j6) 6) = a2 → F_X0_hold a0 r2 a1 S3 (fun S10 => ∀ S12, S12 = uI S10 22 (6 * (S3.2 14 a0 j6) + 1) 0 2 → ∀ x13 : Int32, x13 = a3 + 1 → kk2 a0 a1 a2 x13 S12)) ∧ ((S3.1 21 (S3.2 14 a0 j6) 6) = a2 → k a3 S3)))) ∧ (r2 = (-1) → k (-1) S3)))))
set_option maxHeartbeats 4000000 in
set_option maxRecDepth 100000 in
theorem Bbw_X0_claimedAhead_2 {p : Program} {l : Launch} {e : Env} {s : State} {m : MethodId} {args : Array Value} {below : List Frame} {meth : Method} {c : Code} {D : va_G} {cy : Nat → ClassId} {b z : Nat} {tx : TX} (C0 : CallFix p m c cX0_claimedAhead 6 s args TB RX0) (hr : meth.sig.returnType = (some .int)) (hlk : meth.locks = false) (hT : TxR tx s) {k : Int32 → sSt → Prop} {kk2 : Nat → Int32 → Int32 → Int32 → sSt → Prop} (ih2 : ∀ (a0 : Nat) (a1 : Int32) (a2 : Int32) (a3 : Int32) (S : sSt) (H : Heap) (locs : List Loc) (ls : Array Slot) (av0 : a0 < 3), kk2 a0 a1 a2 a3 S → RelC D cy b z tx S s H → va_S (gA b 709 z) s.heap H locs → lv_has ls 6 [(0, .ref (b + adC 13 a0)), (1, .int a1), (2, .int a2), (3, .int a3)] → W p l e rm_X0_claimedAhead s m args below meth c H locs 0 0 (MQ below (PiC D cy b z tx k) args s 0 0 (gA b 709 z)) (F0 m 2 ls [])) : ∀ (a0 : Nat) (a1 : Int32) (a2 : Int32) (a3 : Int32) (S : sSt) (H : Heap) (locs : List Loc) (ls : Array Slot) (av0 : a0 < 3), Bb_X0_claimedAhead_2 kk2 a0 a1 a2 a3 S k → RelC D cy b z tx S s H → va_S (gA b 709 z) s.heap H locs → lv_has ls 6 [(0, .ref (b + adC 13 a0)), (1, .int a1), (2, .int a2), (3, .int a3)] → W p l e rm_X0_claimedAhead s m args below meth c H locs 0 0 (MQ below (PiC D cy b z tx k) args s 0 0 (gA b 709 z)) (F0 m 2 ls []) := by
  intro a0 a1 a2 a3 S H locs ls av0 h hR hS hl
  have hx := C0.1
  have hb := C0.2.1
  unfold Bb_X0_claimedAhead_2 at h
  refine lv_iload_n hx hb dX0_claimedAhead_2 rfl (lv_at hl 3 rfl) ?_
  refine lv_bipush (v := 24) hx hb dX0_claimedAhead_3 (by decide) ?_
  refine lv_icmp_ge (tgt := 65) hx hb dX0_claimedAhead_5 (by decide) (fun c1 => ?_) (fun c1 => ?_)
  · have h := h.1 c1
    refine lv_iconst (v := (-1)) hx hb dX0_claimedAhead_65 (by decide) ?_
    exact rtC_i C0 hr hlk hR hS h dX0_claimedAhead_66
  · have h := h.2 c1
    refine lv_aload_n hx hb dX0_claimedAhead_8 rfl (lv_at hl 0 rfl) ?_
    refine lv_iload_n hx hb dX0_claimedAhead_9 rfl (lv_at hl 1 rfl) ?_
    refine qC_Si (As := [.ref (b + adC 13 a0), .int a1]) (rest := []) C0 (c_X0_placeToClaim l av0 h) (va_cwS 2 C0.2.2.2.2 (tbS mC8_5_69 ⟨mC8_5_70, mC8_1_4, mC8_5_71⟩) rfl rfl rfl (by decide +kernel) ⟨Nat.le_of_ble_eq_true rfl, Nat.le_of_ble_eq_true rfl⟩) hR hT hS rfl hl.1 rfl (Nat.le_of_ble_eq_true rfl) dX0_claimedAhead_10 ⟨Nat.zero_le _, Nat.zero_le _⟩ (fun r2 S3 H locs h hR hS => ?_)
    refine lv_istore (lv' := [(4, .int r2), (0, .ref (b + adC 13 a0)), (1, .int a1), (2, .int a2), (3, .int a3)]) hx hb dX0_claimedAhead_13 hl (by decide) rfl (fun ls hl => ?_)
    refine lv_iload hx hb dX0_claimedAhead_15 (lv_at hl 0 rfl) ?_
    refine lv_iconst (v := (-1)) hx hb dX0_claimedAhead_17 (by decide) ?_
    refine lv_icmp_ne (tgt := 23) hx hb dX0_claimedAhead_18 (by decide) (fun c4 => ?_) (fun c4 => ?_)
    · have h := h.1 c4
      refine lv_aload_n hx hb dX0_claimedAhead_23 rfl (lv_at hl 1 rfl) ?_
      refine gCn_13_0 C0 hR av0 tbs_wsX60 mC8_2_127 hT dX0_claimedAhead_24 ?_
      have w5 : a0 < 3 := by omega
      refine lv_iload hx hb dX0_claimedAhead_27 (lv_at hl 0 rfl) ?_
      obtain ⟨j6, hj6, ej6, h⟩ := h
      refine lC_14 C0 hR w5 hj6 ej6 dX0_claimedAhead_29 ?_
      have w7 : (S3.2 14 a0 j6) < 72 := hR.2.1.1 _ _ w5 hj6
      refine lv_astore (lv' := [(5, .ref (b + adC 21 (S3.2 14 a0 j6))), (4, .int r2), (0, .ref (b + adC 13 a0)), (1, .int a1), (2, .int a2), (3, .int a3)]) hx hb dX0_claimedAhead_30 hl (by decide) rfl (fun ls hl => ?_)
      refine lv_aload hx hb dX0_claimedAhead_32 (lv_at hl 0 rfl) ?_
      refine gCn_21_6 C0 hR w7 tbs_wsX10 mC8_1_228 hT dX0_claimedAhead_34 ?_
      refine lv_iload_n hx hb dX0_claimedAhead_37 rfl (lv_at hl 4 rfl) ?_
      refine lv_icmp_ne (tgt := 43) hx hb dX0_claimedAhead_38 (by decide) (fun c8 => ?_) (fun c8 => ?_)
      · have h := h.1 c8
        refine lv_aload_n hx hb dX0_claimedAhead_43 rfl (lv_at hl 2 rfl) ?_
        refine lv_iload hx hb dX0_claimedAhead_44 (lv_at hl 1 rfl) ?_
        refine lv_iload_n hx hb dX0_claimedAhead_46 rfl (lv_at hl 3 rfl) ?_
        refine qC_Sv (As := [.ref (b + adC 13 a0), .int r2, .int a1]) (rest := []) C0 (c_X0_hold l av0 h) (va_cwS 3 C0.2.2.2.2 (tbS mC8_5_111 ⟨mC8_5_112, mC8_1_4, mC8_5_113⟩) rfl rfl rfl (by decide +kernel) ⟨Nat.le_of_ble_eq_true rfl, Nat.le_of_ble_eq_true rfl⟩) hR hT hS rfl hl.1 rfl (Nat.le_of_ble_eq_true rfl) dX0_claimedAhead_47 ⟨Nat.zero_le _, Nat.zero_le _⟩ (fun S10 H locs h hR hS => ?_)
        refine lv_aload hx hb dX0_claimedAhead_50 (lv_at hl 0 rfl) ?_
        refine gCn_21_1 C0 hR w7 tbs_wsX10 mC8_1_217 hT dX0_claimedAhead_52 ?_
        have w11 : (6 * (S3.2 14 a0 j6) + 1) < 432 := by omega
        refine lv_iconst (v := 2) hx hb dX0_claimedAhead_55 (by decide) ?_
        refine pCn_22_0 C0 hR hS w11 tbs_wsX90 mC8_1_158 hT dX0_claimedAhead_56 (fun S12 eS12 H locs hR hS => ?_)
        have h := h S12 eS12
        obtain ⟨x13, ex13⟩ : ∃ x13 : Int32, x13 = a3 + 1 := ⟨_, rfl⟩
        have h := h x13 ex13
        refine w_iinc (v0 := 1) (lv' := [(3, .int x13), (5, .ref (b + adC 21 (S3.2 14 a0 j6))), (4, .int r2), (0, .ref (b + adC 13 a0)), (1, .int a1), (2, .int a2)]) C0 dX0_claimedAhead_59 hl (k := 5) rfl (by decide) (by decide) x13 ex13 rfl (fun ls hl => ?_)
        refine lv_goto (tgt := 2) hx hb dX0_claimedAhead_62 (by decide) ?_
        exact ih2 a0 a1 a2 x13 S12 _ _ _ av0 h hR hS (lv_sub hl [3, 4, 5, 0] rfl)
      · have h := h.2 c8
        refine lv_iload_n hx hb dX0_claimedAhead_41 rfl (lv_at hl 5 rfl) ?_
        exact rtC_i C0 hr hlk hR hS h dX0_claimedAhead_42
    · have h := h.2 c4
      refine lv_iconst (v := (-1)) hx hb dX0_claimedAhead_21 (by decide) ?_
      exact rtC_i C0 hr hlk hR hS h dX0_claimedAhead_22
def B_X0_claimedAhead_2 (n9 : Nat) (a0 : Nat) (a1 : Int32) (a2 : Int32) (a3 : Int32) (S : sSt) (k : Int32 → sSt → Prop) : Prop := (Nat.rec (motive := fun _ => Nat → Int32 → Int32 → Int32 → sSt → Prop) (fun _ _ _ _ _ => False) (fun _ r9 => fun a0 a1 a2 a3 S => Bb_X0_claimedAhead_2 r9 a0 a1 a2 a3 S k) n9 : Nat → Int32 → Int32 → Int32 → sSt → Prop) a0 a1 a2 a3 S
theorem B_X0_claimedAhead_2_s (n9 : Nat) (a0 : Nat) (a1 : Int32) (a2 : Int32) (a3 : Int32) (S : sSt) (k : Int32 → sSt → Prop) : B_X0_claimedAhead_2 (n9 + 1) a0 a1 a2 a3 S k = Bb_X0_claimedAhead_2 (fun a0 a1 a2 a3 S => B_X0_claimedAhead_2 n9 a0 a1 a2 a3 S k) a0 a1 a2 a3 S k := rfl
set_option maxHeartbeats 4000000 in
set_option maxRecDepth 100000 in
theorem Bw_X0_claimedAhead_2 {p : Program} {l : Launch} {e : Env} {s : State} {m : MethodId} {args : Array Value} {below : List Frame} {meth : Method} {c : Code} {D : va_G} {cy : Nat → ClassId} {b z : Nat} {tx : TX} (C0 : CallFix p m c cX0_claimedAhead 6 s args TB RX0) (hr : meth.sig.returnType = (some .int)) (hlk : meth.locks = false) (hT : TxR tx s) {k : Int32 → sSt → Prop} : ∀ (n9 : Nat), ∀ (a0 : Nat) (a1 : Int32) (a2 : Int32) (a3 : Int32) (S : sSt) (H : Heap) (locs : List Loc) (ls : Array Slot) (av0 : a0 < 3), B_X0_claimedAhead_2 n9 a0 a1 a2 a3 S k → RelC D cy b z tx S s H → va_S (gA b 709 z) s.heap H locs → lv_has ls 6 [(0, .ref (b + adC 13 a0)), (1, .int a1), (2, .int a2), (3, .int a3)] → W p l e rm_X0_claimedAhead s m args below meth c H locs 0 0 (MQ below (PiC D cy b z tx k) args s 0 0 (gA b 709 z)) (F0 m 2 ls []) := by
  intro n9
  induction n9 with
  | zero => intro a0 a1 a2 a3 S H locs ls av0 h; exact h.elim
  | succ n9 ih =>
    intro a0 a1 a2 a3 S H locs ls av0 h hR hS hl
    exact Bbw_X0_claimedAhead_2 C0 hr hlk hT ih a0 a1 a2 a3 S H locs ls av0 h hR hS hl
def F_X0_claimedAhead (a0 : Nat) (a1 : Int32) (a2 : Int32) (S : sSt) (k : Int32 → sSt → Prop) : Prop := B_X0_claimedAhead_2 fuel a0 a1 a2 0 S k
set_option maxHeartbeats 4000000 in
set_option maxRecDepth 100000 in
theorem c_X0_claimedAhead (l : Launch) {D : va_G} {cy : Nat → ClassId} {b z : Nat} {tx : TX} {a0 : Nat} {a1 : Int32} {a2 : Int32} {S : sSt} {k : Int32 → sSt → Prop} (av0 : a0 < 3) (h : F_X0_claimedAhead a0 a1 a2 S k) : Met l yX0_claimedAhead (Cond.code yX0_claimedAhead cX0_claimedAhead 6 (some .int) :: TB) rm_X0_claimedAhead (va_Pc [.ref (b + adC 13 a0), .int a1, .int a2] (fun U => RelC D cy b z tx S U U.heap ∧ TxR tx U)) (PiC D cy b z tx k) 0 0 (gA b 709 z) := by
  refine Met.ofW (cc := cX0_claimedAhead) (maxL := 6) (ret := (some .int)) (by decide) rfl ?_
  intro p e s m args below meth c s₁ B hml hv
  obtain ⟨rfl, hR, hT⟩ := hv
  have C0 : CallFix p m c cX0_claimedAhead 6 s _ TB RX0 := ⟨B.exec, B.bytes, hml, findClass_of_methodNamed B.named, fun w hw => atoms_spec B.pre w (List.mem_cons_of_mem _ hw)⟩
  have hr := B.returns
  have hlk := B.notSynchronized
  have hx := C0.1
  have hb := C0.2.1
  have hS : va_S (gA b 709 z) s.heap s.heap [] := va_S.rf
  have hl := lv_entry ([.ref (b + adC 13 a0), .int a1, .int a2]) (n := 6) (Nat.le_of_ble_eq_true rfl)
  rw [lg_entry_eq]
  generalize (lg_sl ([.ref (b + adC 13 a0), .int a1, .int a2]) ++ List.replicate (6 - (lg_sl ([.ref (b + adC 13 a0), .int a1, .int a2])).length) Slot.unset).toArray = ls at hl ⊢
  have hl : lv_has ls 6 [(0, .ref (b + adC 13 a0)), (1, .int a1), (2, .int a2)] := hl
  show W p l e rm_X0_claimedAhead s m _ below meth c s.heap [] 0 0 (MQ below (PiC D cy b z tx k) _ s 0 0 (gA b 709 z)) _
  unfold F_X0_claimedAhead at h
  refine lv_iconst (v := 0) hx hb dX0_claimedAhead_0 (by decide) ?_
  refine lv_istore_n (lv' := [(3, .int 0), (0, .ref (b + adC 13 a0)), (1, .int a1), (2, .int a2)]) hx hb dX0_claimedAhead_1 rfl hl (by decide) rfl (fun ls hl => ?_)
  exact Bw_X0_claimedAhead_2 C0 hr hlk hT fuel a0 a1 a2 0 S _ _ _ av0 h hR hS (lv_sub hl [1, 2, 3, 0] rfl)

def rm_X11_passed : Room := { frames := 7, cells := 2, slots := 12, locals := 124 }
def F_X11_passed (a1 : Int32) (a2 : Int32) (S : sSt) (k : Int32 → sSt → Prop) (kx : String → sSt → Prop) : Prop := F_X11_needSession a1 S (fun S2 => F_X11_needJob a1 a2 S2 (fun r3 S4 => F_X6_copyFrom (S4.2 0 0 5) (S4.2 0 0 4) S4 (fun S8 => F_X0_claimedAhead (S8.2 0 0 5) a1 a2 S8 (fun r10 S11 => k r10 S11))) kx) kx
set_option maxHeartbeats 4000000 in
set_option maxRecDepth 100000 in
theorem c_X11_passed (l : Launch) (hl0 : l.stackTraces = false) {D : va_G} {cy : Nat → ClassId} {b z : Nat} {tx : TX} {a1 : Int32} {a2 : Int32} {S : sSt} {k : Int32 → sSt → Prop} {kx : String → sSt → Prop} (h : F_X11_passed a1 a2 S k kx) : vx_Met l yX11_passed (Cond.code yX11_passed cX11_passed 3 (some .int) :: TB) rm_X11_passed (va_Pc [.ref (b + adC 0 0), .int a1, .int a2] (fun U => RelC D cy b z tx S U U.heap ∧ TxR tx U)) (PiC D cy b z tx k) (XeC D cy b z tx kx) 2 12 (gA b 709 z) := by
  refine vx_ofW (cc := cX11_passed) (maxL := 3) (ret := (some .int)) (by decide) rfl ?_
  intro p e s m args below meth c s₁ B hml hexc hv
  obtain ⟨rfl, hR, hT⟩ := hv
  have hX0 := hR.2.2
  have C0 : CallFix p m c cX11_passed 3 s _ TB RX11 := ⟨B.exec, B.bytes, hml, findClass_of_methodNamed B.named, fun w hw => atoms_spec B.pre w (List.mem_cons_of_mem _ hw)⟩
  have hr := B.returns
  have hlk := B.notSynchronized
  have hx := C0.1
  have hb := C0.2.1
  have hS : va_S (gA b 709 z) s.heap s.heap [] := va_S.rf
  have hl := lv_entry ([.ref (b + adC 0 0), .int a1, .int a2]) (n := 3) (Nat.le_of_ble_eq_true rfl)
  rw [lg_entry_eq]
  generalize (lg_sl ([.ref (b + adC 0 0), .int a1, .int a2]) ++ List.replicate (3 - (lg_sl ([.ref (b + adC 0 0), .int a1, .int a2])).length) Slot.unset).toArray = ls at hl ⊢
  have hl : lv_has ls 3 [(0, .ref (b + adC 0 0)), (1, .int a1), (2, .int a2)] := hl
  show W p l e rm_X11_passed s m _ below meth c s.heap [] 0 0 (vx_MQ below (PiC D cy b z tx k) (XeC D cy b z tx kx) _ s 2 12 (gA b 709 z)) _
  unfold F_X11_passed at h
  refine lv_aload_n hx hb dX11_passed_0 rfl (lv_at hl 0 rfl) ?_
  refine lv_iload_n hx hb dX11_passed_1 rfl (lv_at hl 1 rfl) ?_
  refine qx_Vv (As := [.int a1]) (rest := []) C0 hlk hexc (c_X11_needSession l hl0 h) (cwV 1 C0.2.2.2.2 (tbV mC8_4_133 ⟨mC8_4_135, mpC8_1_5, mC8_1_1, mC8_4_136⟩) rfl rfl rfl (by decide +kernel) ⟨Nat.le_of_ble_eq_true rfl, Nat.le_of_ble_eq_true rfl⟩) (rcC_0 hR Nat.zero_lt_one) hR hT hS rfl hl.1 rfl (Nat.le_of_ble_eq_true rfl) dX11_passed_2 ⟨Nat.le_of_ble_eq_true rfl, Nat.le_of_ble_eq_true rfl⟩ ⟨Nat.le_of_ble_eq_true rfl, Nat.le_of_ble_eq_true rfl⟩ (fun S2 H locs h hR hS => ?_)
  refine lv_aload_n hx hb dX11_passed_5 rfl (lv_at hl 0 rfl) ?_
  refine lv_iload_n hx hb dX11_passed_6 rfl (lv_at hl 1 rfl) ?_
  refine lv_iload_n hx hb dX11_passed_7 rfl (lv_at hl 2 rfl) ?_
  refine qx_Vr (As := [.int a1, .int a2]) (rest := []) C0 hlk hexc (c_X11_needJob l hl0 h) (cwV 2 C0.2.2.2.2 (tbV mC8_5_134 ⟨mC8_5_136, mpC8_1_12, mC8_1_1, mC8_5_137⟩) rfl rfl rfl (by decide +kernel) ⟨Nat.le_of_ble_eq_true rfl, Nat.le_of_ble_eq_true rfl⟩) (rcC_0 hR Nat.zero_lt_one) hR hT hS rfl hl.1 rfl (Nat.le_of_ble_eq_true rfl) dX11_passed_8 ⟨Nat.le_of_ble_eq_true rfl, Nat.le_of_ble_eq_true rfl⟩ ⟨Nat.le_of_ble_eq_true rfl, Nat.le_of_ble_eq_true rfl⟩ (fun r3 S4 H locs vr3 h hR hS => ?_)
  refine lv_pop hx hb dX11_passed_11 rfl ?_
  refine lv_aload_n hx hb dX11_passed_12 rfl (lv_at hl 0 rfl) ?_
  refine gC_0_5 C0 hR Nat.zero_lt_one tbs_wsX110 mC8_2_214 dX11_passed_13 ?_
  have w5 : (S4.2 0 0 5) < 3 := hR.2.1.2.2
  refine lv_aload_n hx hb dX11_passed_16 rfl (lv_at hl 0 rfl) ?_
  refine gC_0_4 C0 hR Nat.zero_lt_one tbs_wsX110 mC8_2_213 dX11_passed_17 ?_
  have w6 : (S4.2 0 0 4) < 3 := hR.2.1.2.1
  refine qC_Vv (As := [.ref (b + adC 13 (S4.2 0 0 4))]) (rest := []) C0 (c_X6_copyFrom l w5 w6 h) (cwV 1 C0.2.2.2.2 (tbV mC8_3_53 ⟨mC8_3_54, mC8_3_55, mC8_1_5, mC8_3_56⟩) rfl rfl rfl (by decide +kernel) ⟨Nat.le_of_ble_eq_true rfl, Nat.le_of_ble_eq_true rfl⟩) (rcC_13 hR w5) hR hT hS rfl hl.1 rfl (Nat.le_of_ble_eq_true rfl) dX11_passed_20 ⟨Nat.le_of_ble_eq_true rfl, Nat.le_of_ble_eq_true rfl⟩ (fun S8 H locs h hR hS => ?_)
  refine lv_aload_n hx hb dX11_passed_23 rfl (lv_at hl 0 rfl) ?_
  refine gC_0_5 C0 hR Nat.zero_lt_one tbs_wsX110 mC8_2_214 dX11_passed_24 ?_
  have w9 : (S8.2 0 0 5) < 3 := hR.2.1.2.2
  refine lv_iload_n hx hb dX11_passed_27 rfl (lv_at hl 1 rfl) ?_
  refine lv_iload_n hx hb dX11_passed_28 rfl (lv_at hl 2 rfl) ?_
  refine qC_Si (As := [.ref (b + adC 13 (S8.2 0 0 5)), .int a1, .int a2]) (rest := []) C0 (c_X0_claimedAhead l w9 h) (va_cwS 3 C0.2.2.2.2 (tbS mC8_6_171 ⟨mC8_6_172, mC8_1_4, mC8_6_173⟩) rfl rfl rfl (by decide +kernel) ⟨Nat.le_of_ble_eq_true rfl, Nat.le_of_ble_eq_true rfl⟩) hR hT hS rfl hl.1 rfl (Nat.le_of_ble_eq_true rfl) dX11_passed_29 ⟨Nat.le_of_ble_eq_true rfl, Nat.le_of_ble_eq_true rfl⟩ (fun r10 S11 H locs h hR hS => ?_)
  refine vx_ret (W.widen (k := 2) (n := 12) (Nat.le_of_ble_eq_true rfl) (Nat.le_of_ble_eq_true rfl) ?_); exact rtC_i C0 hr hlk hR hS h dX11_passed_32

def rm_X6_tryTime : Room := { frames := 2, cells := 0, slots := 0, locals := 46 }
def Bb_X6_tryTime_36 (kk36 : Nat → Int32 → Int32 → Int32 → Int32 → Int32 → sSt → Prop) (a0 : Nat) (a2 : Int32) (a3 : Int32) (a4 : Int32) (a5 : Int32) (a6 : Int32) (S : sSt) (k : Int32 → sSt → Prop) : Prop := ((a3 ≤ a6 → k a4 S) ∧ (¬ a3 ≤ a6 → ∀ x6 : Int32, x6 = a5 + 1 → ((x6 < (S.1 18 a0 4) → F_X6_waitOf a0 a2 x6 S (fun r9 S10 => ∀ x11 : Int32, x11 = (a4 + r9) → ∀ x12 : Int32, x12 = a6 + 1 → kk36 a0 a2 a3 x11 x6 x12 S10)) ∧ (¬ x6 < (S.1 18 a0 4) → k (-1) S))))
set_option maxHeartbeats 4000000 in
set_option maxRecDepth 100000 in
theorem Bbw_X6_tryTime_36 {p : Program} {l : Launch} {e : Env} {s : State} {m : MethodId} {args : Array Value} {below : List Frame} {meth : Method} {c : Code} {D : va_G} {cy : Nat → ClassId} {b z : Nat} {tx : TX} (C0 : CallFix p m c cX6_tryTime 7 s args TB RX6) (hr : meth.sig.returnType = (some .int)) (hlk : meth.locks = false) (hT : TxR tx s) {k : Int32 → sSt → Prop} {kk36 : Nat → Int32 → Int32 → Int32 → Int32 → Int32 → sSt → Prop} (ih36 : ∀ (a0 : Nat) (a2 : Int32) (a3 : Int32) (a4 : Int32) (a5 : Int32) (a6 : Int32) (S : sSt) (H : Heap) (locs : List Loc) (ls : Array Slot) (av0 : a0 < 3), kk36 a0 a2 a3 a4 a5 a6 S → RelC D cy b z tx S s H → va_S (gA b 709 z) s.heap H locs → lv_has ls 7 [(0, .ref (b + adC 13 a0)), (2, .int a2), (3, .int a3), (4, .int a4), (5, .int a5), (6, .int a6)] → W p l e rm_X6_tryTime s m args below meth c H locs 0 0 (MQ below (PiC D cy b z tx k) args s 0 0 (gA b 709 z)) (F0 m 36 ls [])) : ∀ (a0 : Nat) (a2 : Int32) (a3 : Int32) (a4 : Int32) (a5 : Int32) (a6 : Int32) (S : sSt) (H : Heap) (locs : List Loc) (ls : Array Slot) (av0 : a0 < 3), Bb_X6_tryTime_36 kk36 a0 a2 a3 a4 a5 a6 S k → RelC D cy b z tx S s H → va_S (gA b 709 z) s.heap H locs → lv_has ls 7 [(0, .ref (b + adC 13 a0)), (2, .int a2), (3, .int a3), (4, .int a4), (5, .int a5), (6, .int a6)] → W p l e rm_X6_tryTime s m args below meth c H locs 0 0 (MQ below (PiC D cy b z tx k) args s 0 0 (gA b 709 z)) (F0 m 36 ls []) := by
  intro a0 a2 a3 a4 a5 a6 S H locs ls av0 h hR hS hl
  have hx := C0.1
  have hb := C0.2.1
  unfold Bb_X6_tryTime_36 at h
  refine lv_iload hx hb dX6_tryTime_36 (lv_at hl 5 rfl) ?_
  refine lv_iload_n hx hb dX6_tryTime_38 rfl (lv_at hl 2 rfl) ?_
  refine lv_icmp_ge (tgt := 76) hx hb dX6_tryTime_39 (by decide) (fun c5 => ?_) (fun c5 => ?_)
  · have h := h.1 c5
    refine lv_iload hx hb dX6_tryTime_76 (lv_at hl 3 rfl) ?_
    exact rtC_i C0 hr hlk hR hS h dX6_tryTime_78
  · have h := h.2 c5
    obtain ⟨x6, ex6⟩ : ∃ x6 : Int32, x6 = a5 + 1 := ⟨_, rfl⟩
    have h := h x6 ex6
    refine w_iinc (v0 := 1) (lv' := [(5, .int x6), (0, .ref (b + adC 13 a0)), (2, .int a2), (3, .int a3), (4, .int a4), (6, .int a6)]) C0 dX6_tryTime_42 hl (k := 4) rfl (by decide) (by decide) x6 ex6 rfl (fun ls hl => ?_)
    refine lv_iload hx hb dX6_tryTime_45 (lv_at hl 0 rfl) ?_
    refine lv_aload_n hx hb dX6_tryTime_47 rfl (lv_at hl 1 rfl) ?_
    refine gC_13_4 C0 hR av0 tbs_wsX60 mC8_2_140 dX6_tryTime_48 ?_
    have w7 : a0 < 3 := by omega
    refine lv_iconst (v := 4) hx hb dX6_tryTime_51 (by decide) ?_
    refine lC_18 C0 hR w7 (by decide) rfl dX6_tryTime_52 ?_
    refine lv_icmp_lt (tgt := 58) hx hb dX6_tryTime_53 (by decide) (fun c8 => ?_) (fun c8 => ?_)
    · have h := h.1 c8
      refine lv_iload hx hb dX6_tryTime_58 (lv_at hl 4 rfl) ?_
      refine lv_aload_n hx hb dX6_tryTime_60 rfl (lv_at hl 1 rfl) ?_
      refine lv_iload_n hx hb dX6_tryTime_61 rfl (lv_at hl 2 rfl) ?_
      refine lv_iload hx hb dX6_tryTime_62 (lv_at hl 0 rfl) ?_
      refine qC_Vi (As := [.int a2, .int x6]) (rest := [.int a4]) C0 (c_X6_waitOf l av0 h) (cwV 2 C0.2.2.2.2 (tbV mC8_5_174 ⟨mC8_5_176, mpC8_1_14, mC8_1_5, mC8_5_177⟩) rfl rfl rfl (by decide +kernel) ⟨Nat.le_of_ble_eq_true rfl, Nat.le_of_ble_eq_true rfl⟩) (rcC_13 hR av0) hR hT hS rfl hl.1 rfl (Nat.le_of_ble_eq_true rfl) dX6_tryTime_64 ⟨Nat.zero_le _, Nat.zero_le _⟩ (fun r9 S10 H locs h hR hS => ?_)
      refine lv_iadd hx hb dX6_tryTime_67 ?_
      refine lv_topi (fun x11 ex11 => ?_)
      have h := h x11 ex11
      refine lv_istore (lv' := [(4, .int x11), (5, .int x6), (0, .ref (b + adC 13 a0)), (2, .int a2), (3, .int a3), (6, .int a6)]) hx hb dX6_tryTime_68 hl (by decide) rfl (fun ls hl => ?_)
      obtain ⟨x12, ex12⟩ : ∃ x12 : Int32, x12 = a6 + 1 := ⟨_, rfl⟩
      have h := h x12 ex12
      refine w_iinc (v0 := 1) (lv' := [(6, .int x12), (4, .int x11), (5, .int x6), (0, .ref (b + adC 13 a0)), (2, .int a2), (3, .int a3)]) C0 dX6_tryTime_70 hl (k := 5) rfl (by decide) (by decide) x12 ex12 rfl (fun ls hl => ?_)
      refine lv_goto (tgt := 36) hx hb dX6_tryTime_73 (by decide) ?_
      exact ih36 a0 a2 a3 x11 x6 x12 S10 _ _ _ av0 h hR hS (lv_sub hl [3, 4, 5, 1, 2, 0] rfl)
    · have h := h.2 c8
      refine lv_iconst (v := (-1)) hx hb dX6_tryTime_56 (by decide) ?_
      exact rtC_i C0 hr hlk hR hS h dX6_tryTime_57
def B_X6_tryTime_36 (n9 : Nat) (a0 : Nat) (a2 : Int32) (a3 : Int32) (a4 : Int32) (a5 : Int32) (a6 : Int32) (S : sSt) (k : Int32 → sSt → Prop) : Prop := (Nat.rec (motive := fun _ => Nat → Int32 → Int32 → Int32 → Int32 → Int32 → sSt → Prop) (fun _ _ _ _ _ _ _ => False) (fun _ r9 => fun a0 a2 a3 a4 a5 a6 S => Bb_X6_tryTime_36 r9 a0 a2 a3 a4 a5 a6 S k) n9 : Nat → Int32 → Int32 → Int32 → Int32 → Int32 → sSt → Prop) a0 a2 a3 a4 a5 a6 S
theorem B_X6_tryTime_36_s (n9 : Nat) (a0 : Nat) (a2 : Int32) (a3 : Int32) (a4 : Int32) (a5 : Int32) (a6 : Int32) (S : sSt) (k : Int32 → sSt → Prop) : B_X6_tryTime_36 (n9 + 1) a0 a2 a3 a4 a5 a6 S k = Bb_X6_tryTime_36 (fun a0 a2 a3 a4 a5 a6 S => B_X6_tryTime_36 n9 a0 a2 a3 a4 a5 a6 S k) a0 a2 a3 a4 a5 a6 S k := rfl
set_option maxHeartbeats 4000000 in
set_option maxRecDepth 100000 in
theorem Bw_X6_tryTime_36 {p : Program} {l : Launch} {e : Env} {s : State} {m : MethodId} {args : Array Value} {below : List Frame} {meth : Method} {c : Code} {D : va_G} {cy : Nat → ClassId} {b z : Nat} {tx : TX} (C0 : CallFix p m c cX6_tryTime 7 s args TB RX6) (hr : meth.sig.returnType = (some .int)) (hlk : meth.locks = false) (hT : TxR tx s) {k : Int32 → sSt → Prop} : ∀ (n9 : Nat), ∀ (a0 : Nat) (a2 : Int32) (a3 : Int32) (a4 : Int32) (a5 : Int32) (a6 : Int32) (S : sSt) (H : Heap) (locs : List Loc) (ls : Array Slot) (av0 : a0 < 3), B_X6_tryTime_36 n9 a0 a2 a3 a4 a5 a6 S k → RelC D cy b z tx S s H → va_S (gA b 709 z) s.heap H locs → lv_has ls 7 [(0, .ref (b + adC 13 a0)), (2, .int a2), (3, .int a3), (4, .int a4), (5, .int a5), (6, .int a6)] → W p l e rm_X6_tryTime s m args below meth c H locs 0 0 (MQ below (PiC D cy b z tx k) args s 0 0 (gA b 709 z)) (F0 m 36 ls []) := by
  intro n9
  induction n9 with
  | zero => intro a0 a2 a3 a4 a5 a6 S H locs ls av0 h; exact h.elim
  | succ n9 ih =>
    intro a0 a2 a3 a4 a5 a6 S H locs ls av0 h hR hS hl
    exact Bbw_X6_tryTime_36 C0 hr hlk hT ih a0 a2 a3 a4 a5 a6 S H locs ls av0 h hR hS hl
def F_X6_tryTime (a0 : Nat) (a1 : Nat) (a2 : Int32) (a3 : Int32) (S : sSt) (k : Int32 → sSt → Prop) : Prop := ((¬ (S.1 22 a1 0) = 0 → k (-1) S) ∧ ((S.1 22 a1 0) = 0 → ((1 ≤ a3 → ∀ x3 : Int32, x3 = (if (S.1 22 a1 1) < (S.1 13 a0 10) then (S.1 13 a0 10) else (S.1 22 a1 1)) → ∀ x4 : Int32, x4 = (S.1 22 a1 2) → B_X6_tryTime_36 fuel a0 a2 a3 x3 x4 1 S k) ∧ (¬ 1 ≤ a3 → k (-1) S))))
set_option maxHeartbeats 4000000 in
set_option maxRecDepth 100000 in
theorem c_X6_tryTime (l : Launch) {D : va_G} {cy : Nat → ClassId} {b z : Nat} {tx : TX} {a0 : Nat} {a1 : Nat} {a2 : Int32} {a3 : Int32} {S : sSt} {k : Int32 → sSt → Prop} (av0 : a0 < 3) (av1 : a1 < 432) (h : F_X6_tryTime a0 a1 a2 a3 S k) : Met l yX6_tryTime (Cond.code yX6_tryTime cX6_tryTime 7 (some .int) :: TB) rm_X6_tryTime (va_Pc [.ref (b + adC 13 a0), .ref (b + adC 22 a1), .int a2, .int a3] (fun U => RelC D cy b z tx S U U.heap ∧ TxR tx U)) (PiC D cy b z tx k) 0 0 (gA b 709 z) := by
  refine Met.ofW (cc := cX6_tryTime) (maxL := 7) (ret := (some .int)) (by decide) rfl ?_
  intro p e s m args below meth c s₁ B hml hv
  obtain ⟨rfl, hR, hT⟩ := hv
  have C0 : CallFix p m c cX6_tryTime 7 s _ TB RX6 := ⟨B.exec, B.bytes, hml, findClass_of_methodNamed B.named, fun w hw => atoms_spec B.pre w (List.mem_cons_of_mem _ hw)⟩
  have hr := B.returns
  have hlk := B.notSynchronized
  have hx := C0.1
  have hb := C0.2.1
  have hS : va_S (gA b 709 z) s.heap s.heap [] := va_S.rf
  have hl := lv_entry ([.ref (b + adC 13 a0), .ref (b + adC 22 a1), .int a2, .int a3]) (n := 7) (Nat.le_of_ble_eq_true rfl)
  rw [lg_entry_eq]
  generalize (lg_sl ([.ref (b + adC 13 a0), .ref (b + adC 22 a1), .int a2, .int a3]) ++ List.replicate (7 - (lg_sl ([.ref (b + adC 13 a0), .ref (b + adC 22 a1), .int a2, .int a3])).length) Slot.unset).toArray = ls at hl ⊢
  have hl : lv_has ls 7 [(0, .ref (b + adC 13 a0)), (1, .ref (b + adC 22 a1)), (2, .int a2), (3, .int a3)] := hl
  show W p l e rm_X6_tryTime s m _ below meth c s.heap [] 0 0 (MQ below (PiC D cy b z tx k) _ s 0 0 (gA b 709 z)) _
  unfold F_X6_tryTime at h
  refine lv_aload_n hx hb dX6_tryTime_0 rfl (lv_at hl 1 rfl) ?_
  refine gCn_22_0 C0 hR av1 tbs_wsX90 mC8_1_161 hT dX6_tryTime_1 ?_
  refine lv_if_ne (tgt := 12) hx hb dX6_tryTime_4 (by decide) (fun c1 => ?_) (fun c1 => ?_)
  · have h := h.1 c1
    refine lv_iconst (v := (-1)) hx hb dX6_tryTime_12 (by decide) ?_
    exact rtC_i C0 hr hlk hR hS h dX6_tryTime_13
  · have h := h.2 c1
    refine lv_iload_n hx hb dX6_tryTime_7 rfl (lv_at hl 3 rfl) ?_
    refine lv_iconst (v := 1) hx hb dX6_tryTime_8 (by decide) ?_
    refine lv_icmp_ge (tgt := 14) hx hb dX6_tryTime_9 (by decide) (fun c2 => ?_) (fun c2 => ?_)
    · have h := h.1 c2
      refine lv_aload_n hx hb dX6_tryTime_14 rfl (lv_at hl 1 rfl) ?_
      refine gCn_22_1 C0 hR av1 tbs_wsX90 mC8_1_168 hT dX6_tryTime_15 ?_
      refine lv_aload_n hx hb dX6_tryTime_18 rfl (lv_at hl 0 rfl) ?_
      refine gC_13_10 C0 hR av0 tbs_wsX60 mC8_2_160 dX6_tryTime_19 ?_
      refine va_mmax hx hb (C0.2.2.1.trans hl.1.symm) C0.2.2.2.1 (C0.2.2.2.2 _ mC8_6_33) (C0.2.2.2.2 _ mC8_3_47) (C0.2.2.2.2 _ mC8_1_25) (C0.2.2.2.2 _ mC8_3_48) (Nat.le_of_ble_eq_true rfl) (Nat.le_of_ble_eq_true rfl) (Nat.zero_le _) (Nat.zero_le _) dX6_tryTime_22 ?_
      refine lv_topi (fun x3 ex3 => ?_)
      have h := h x3 ex3
      refine lv_istore (lv' := [(4, .int x3), (0, .ref (b + adC 13 a0)), (1, .ref (b + adC 22 a1)), (2, .int a2), (3, .int a3)]) hx hb dX6_tryTime_25 hl (by decide) rfl (fun ls hl => ?_)
      refine lv_aload_n hx hb dX6_tryTime_27 rfl (lv_at hl 2 rfl) ?_
      refine gCn_22_2 C0 hR av1 tbs_wsX90 mC8_1_172 hT dX6_tryTime_28 ?_
      refine lv_topi (fun x4 ex4 => ?_)
      have h := h x4 ex4
      refine lv_istore (lv' := [(5, .int x4), (4, .int x3), (0, .ref (b + adC 13 a0)), (1, .ref (b + adC 22 a1)), (2, .int a2), (3, .int a3)]) hx hb dX6_tryTime_31 hl (by decide) rfl (fun ls hl => ?_)
      refine lv_iconst (v := 1) hx hb dX6_tryTime_33 (by decide) ?_
      refine lv_istore (lv' := [(6, .int 1), (5, .int x4), (4, .int x3), (0, .ref (b + adC 13 a0)), (1, .ref (b + adC 22 a1)), (2, .int a2), (3, .int a3)]) hx hb dX6_tryTime_34 hl (by decide) rfl (fun ls hl => ?_)
      exact Bw_X6_tryTime_36 C0 hr hlk hT fuel a0 a2 a3 x3 x4 1 S _ _ _ av0 h hR hS (lv_sub hl [3, 5, 6, 2, 1, 0] rfl)
    · have h := h.2 c2
      refine lv_iconst (v := (-1)) hx hb dX6_tryTime_12 (by decide) ?_
      exact rtC_i C0 hr hlk hR hS h dX6_tryTime_13

def rm_X11_again : Room := { frames := 8, cells := 2, slots := 12, locals := 131 }
def F_X11_again (a1 : Int32) (a2 : Int32) (a3 : Int32) (S : sSt) (k : Int32 → sSt → Prop) (kx : String → sSt → Prop) : Prop := F_X11_needViewer a1 S (fun S2 => F_X11_needJob a1 a2 S2 (fun r3 S4 => F_X1_seenBy r3 a1 S4 (fun r6 S7 => F_X6_tryTime (S4.2 0 0 4) r6 a2 a3 S7 (fun r8 S9 => k r8 S9))) kx) kx
set_option maxHeartbeats 4000000 in
set_option maxRecDepth 100000 in
theorem c_X11_again (l : Launch) (hl0 : l.stackTraces = false) {D : va_G} {cy : Nat → ClassId} {b z : Nat} {tx : TX} {a1 : Int32} {a2 : Int32} {a3 : Int32} {S : sSt} {k : Int32 → sSt → Prop} {kx : String → sSt → Prop} (h : F_X11_again a1 a2 a3 S k kx) : vx_Met l yX11_again (Cond.code yX11_again cX11_again 5 (some .int) :: TB) rm_X11_again (va_Pc [.ref (b + adC 0 0), .int a1, .int a2, .int a3] (fun U => RelC D cy b z tx S U U.heap ∧ TxR tx U)) (PiC D cy b z tx k) (XeC D cy b z tx kx) 2 12 (gA b 709 z) := by
  refine vx_ofW (cc := cX11_again) (maxL := 5) (ret := (some .int)) (by decide) rfl ?_
  intro p e s m args below meth c s₁ B hml hexc hv
  obtain ⟨rfl, hR, hT⟩ := hv
  have hX0 := hR.2.2
  have C0 : CallFix p m c cX11_again 5 s _ TB RX11 := ⟨B.exec, B.bytes, hml, findClass_of_methodNamed B.named, fun w hw => atoms_spec B.pre w (List.mem_cons_of_mem _ hw)⟩
  have hr := B.returns
  have hlk := B.notSynchronized
  have hx := C0.1
  have hb := C0.2.1
  have hS : va_S (gA b 709 z) s.heap s.heap [] := va_S.rf
  have hl := lv_entry ([.ref (b + adC 0 0), .int a1, .int a2, .int a3]) (n := 5) (Nat.le_of_ble_eq_true rfl)
  rw [lg_entry_eq]
  generalize (lg_sl ([.ref (b + adC 0 0), .int a1, .int a2, .int a3]) ++ List.replicate (5 - (lg_sl ([.ref (b + adC 0 0), .int a1, .int a2, .int a3])).length) Slot.unset).toArray = ls at hl ⊢
  have hl : lv_has ls 5 [(0, .ref (b + adC 0 0)), (1, .int a1), (2, .int a2), (3, .int a3)] := hl
  show W p l e rm_X11_again s m _ below meth c s.heap [] 0 0 (vx_MQ below (PiC D cy b z tx k) (XeC D cy b z tx kx) _ s 2 12 (gA b 709 z)) _
  unfold F_X11_again at h
  refine lv_aload_n hx hb dX11_again_0 rfl (lv_at hl 0 rfl) ?_
  refine lv_iload_n hx hb dX11_again_1 rfl (lv_at hl 1 rfl) ?_
  refine qx_Vv (As := [.int a1]) (rest := []) C0 hlk hexc (c_X11_needViewer l hl0 h) (cwV 1 C0.2.2.2.2 (tbV mC8_6_42 ⟨mC8_6_44, mpC8_2_3, mC8_1_1, mC8_6_45⟩) rfl rfl rfl (by decide +kernel) ⟨Nat.le_of_ble_eq_true rfl, Nat.le_of_ble_eq_true rfl⟩) (rcC_0 hR Nat.zero_lt_one) hR hT hS rfl hl.1 rfl (Nat.le_of_ble_eq_true rfl) dX11_again_2 ⟨Nat.le_of_ble_eq_true rfl, Nat.le_of_ble_eq_true rfl⟩ ⟨Nat.le_of_ble_eq_true rfl, Nat.le_of_ble_eq_true rfl⟩ (fun S2 H locs h hR hS => ?_)
  refine lv_aload_n hx hb dX11_again_5 rfl (lv_at hl 0 rfl) ?_
  refine lv_iload_n hx hb dX11_again_6 rfl (lv_at hl 1 rfl) ?_
  refine lv_iload_n hx hb dX11_again_7 rfl (lv_at hl 2 rfl) ?_
  refine qx_Vr (As := [.int a1, .int a2]) (rest := []) C0 hlk hexc (c_X11_needJob l hl0 h) (cwV 2 C0.2.2.2.2 (tbV mC8_5_134 ⟨mC8_5_136, mpC8_1_12, mC8_1_1, mC8_5_137⟩) rfl rfl rfl (by decide +kernel) ⟨Nat.le_of_ble_eq_true rfl, Nat.le_of_ble_eq_true rfl⟩) (rcC_0 hR Nat.zero_lt_one) hR hT hS rfl hl.1 rfl (Nat.le_of_ble_eq_true rfl) dX11_again_8 ⟨Nat.le_of_ble_eq_true rfl, Nat.le_of_ble_eq_true rfl⟩ ⟨Nat.le_of_ble_eq_true rfl, Nat.le_of_ble_eq_true rfl⟩ (fun r3 S4 H locs vr3 h hR hS => ?_)
  refine lv_astore (lv' := [(4, .ref (b + adC 21 r3)), (0, .ref (b + adC 0 0)), (1, .int a1), (2, .int a2), (3, .int a3)]) hx hb dX11_again_11 hl (by decide) rfl (fun ls hl => ?_)
  refine lv_aload_n hx hb dX11_again_13 rfl (lv_at hl 1 rfl) ?_
  refine gC_0_4 C0 hR Nat.zero_lt_one tbs_wsX110 mC8_2_213 dX11_again_14 ?_
  have w5 : (S4.2 0 0 4) < 3 := hR.2.1.2.1
  refine lv_aload hx hb dX11_again_17 (lv_at hl 0 rfl) ?_
  refine lv_iload_n hx hb dX11_again_19 rfl (lv_at hl 2 rfl) ?_
  refine qC_Vr (As := [.int a1]) (rest := [.ref (b + adC 13 (S4.2 0 0 4))]) C0 (c_X1_seenBy l vr3 h) (cwV 1 C0.2.2.2.2 (tbV mC8_5_147 ⟨mC8_5_80, mC8_5_81, mC8_1_7, mC8_5_82⟩) rfl rfl rfl (by decide +kernel) ⟨Nat.le_of_ble_eq_true rfl, Nat.le_of_ble_eq_true rfl⟩) (rcC_21 hR vr3) hR hT hS rfl hl.1 rfl (Nat.le_of_ble_eq_true rfl) dX11_again_20 ⟨Nat.le_of_ble_eq_true rfl, Nat.le_of_ble_eq_true rfl⟩ (fun r6 S7 H locs vr6 h hR hS => ?_)
  refine lv_iload_n hx hb dX11_again_23 rfl (lv_at hl 3 rfl) ?_
  refine lv_iload_n hx hb dX11_again_24 rfl (lv_at hl 4 rfl) ?_
  refine qC_Vi (As := [.ref (b + adC 22 r6), .int a2, .int a3]) (rest := []) C0 (c_X6_tryTime l w5 vr6 h) (cwV 3 C0.2.2.2.2 (tbV mC8_6_181 ⟨mC8_6_182, mC8_6_183, mC8_1_5, mC8_6_184⟩) rfl rfl rfl (by decide +kernel) ⟨Nat.le_of_ble_eq_true rfl, Nat.le_of_ble_eq_true rfl⟩) (rcC_13 hR w5) hR hT hS rfl hl.1 rfl (Nat.le_of_ble_eq_true rfl) dX11_again_25 ⟨Nat.le_of_ble_eq_true rfl, Nat.le_of_ble_eq_true rfl⟩ (fun r8 S9 H locs h hR hS => ?_)
  refine vx_ret (W.widen (k := 2) (n := 12) (Nat.le_of_ble_eq_true rfl) (Nat.le_of_ble_eq_true rfl) ?_); exact rtC_i C0 hr hlk hR hS h dX11_again_28

def rm_X11_would : Room := { frames := 6, cells := 1, slots := 6, locals := 116 }
def B_X11_would_10 (S : sSt) (k : Int32 → sSt → Prop) (kx : String → sSt → Prop) : Prop := kx "java/lang/IllegalArgumentException" S
set_option maxHeartbeats 4000000 in
set_option maxRecDepth 100000 in
theorem Bw_X11_would_10 {p : Program} {l : Launch} {e : Env} {s : State} {m : MethodId} {args : Array Value} {below : List Frame} {meth : Method} {c : Code} {D : va_G} {cy : Nat → ClassId} {b z : Nat} {tx : TX} (C0 : CallFix p m c cX11_would 3 s args TB RX11) (hr : meth.sig.returnType = (some .int)) (hlk : meth.locks = false) (hT : TxR tx s) (hl0 : l.stackTraces = false) (hX0 : TxP tx b z s s.heap) (hexc : ∀ x ∈ c.exceptionTable.toList, False) {k : Int32 → sSt → Prop} {kx : String → sSt → Prop} : ∀ (S : sSt) (H : Heap) (locs : List Loc) (ls : Array Slot) , B_X11_would_10 S k kx → RelC D cy b z tx S s H → va_S (gA b 709 z) s.heap H locs → lv_has ls 3 [] → W p l e rm_X11_would s m args below meth c H locs 0 0 (vx_MQ below (PiC D cy b z tx k) (XeC D cy b z tx kx) args s 1 6 (gA b 709 z)) (F0 m 10 ls []) := by
  intro S H locs ls h hR hS hl
  have hx := C0.1
  have hb := C0.2.1
  unfold B_X11_would_10 at h
  exact w_throw_0 C0 hl0 hX0 hT hR hS hl.1 hexc hlk h mC8_4_45 mC8_1_21 dX11_would_10 dX11_would_13 dX11_would_14 dX11_would_17 (Nat.le_of_ble_eq_true rfl) (Nat.le_of_ble_eq_true rfl) (Nat.le_of_ble_eq_true rfl) (Nat.le_of_ble_eq_true rfl) (Nat.le_of_ble_eq_true rfl) (Nat.le_of_ble_eq_true rfl)
def F_X11_would (a1 : Int32) (a2 : Int32) (S : sSt) (k : Int32 → sSt → Prop) (kx : String → sSt → Prop) : Prop := ((a1 < 0 → B_X11_would_10 S k kx) ∧ (¬ a1 < 0 → ((a1 ≤ 60 → F_X6_copyFrom (S.2 0 0 5) (S.2 0 0 4) S (fun S6 => ((a2 = 0 → F_X6_tickTimes (S6.2 0 0 5) a1 S6 (fun r9 S10 => k r9 S10)) ∧ (¬ a2 = 0 → F_X6_jumpBy (S6.2 0 0 5) a1 S6 (fun r12 S13 => k r12 S13))))) ∧ (¬ a1 ≤ 60 → B_X11_would_10 S k kx))))
set_option maxHeartbeats 4000000 in
set_option maxRecDepth 100000 in
theorem c_X11_would (l : Launch) (hl0 : l.stackTraces = false) {D : va_G} {cy : Nat → ClassId} {b z : Nat} {tx : TX} {a1 : Int32} {a2 : Int32} {S : sSt} {k : Int32 → sSt → Prop} {kx : String → sSt → Prop} (h : F_X11_would a1 a2 S k kx) : vx_Met l yX11_would (Cond.code yX11_would cX11_would 3 (some .int) :: TB) rm_X11_would (va_Pc [.ref (b + adC 0 0), .int a1, .int a2] (fun U => RelC D cy b z tx S U U.heap ∧ TxR tx U)) (PiC D cy b z tx k) (XeC D cy b z tx kx) 1 6 (gA b 709 z) := by
  refine vx_ofW (cc := cX11_would) (maxL := 3) (ret := (some .int)) (by decide) rfl ?_
  intro p e s m args below meth c s₁ B hml hexc hv
  obtain ⟨rfl, hR, hT⟩ := hv
  have hX0 := hR.2.2
  have C0 : CallFix p m c cX11_would 3 s _ TB RX11 := ⟨B.exec, B.bytes, hml, findClass_of_methodNamed B.named, fun w hw => atoms_spec B.pre w (List.mem_cons_of_mem _ hw)⟩
  have hr := B.returns
  have hlk := B.notSynchronized
  have hx := C0.1
  have hb := C0.2.1
  have hS : va_S (gA b 709 z) s.heap s.heap [] := va_S.rf
  have hl := lv_entry ([.ref (b + adC 0 0), .int a1, .int a2]) (n := 3) (Nat.le_of_ble_eq_true rfl)
  rw [lg_entry_eq]
  generalize (lg_sl ([.ref (b + adC 0 0), .int a1, .int a2]) ++ List.replicate (3 - (lg_sl ([.ref (b + adC 0 0), .int a1, .int a2])).length) Slot.unset).toArray = ls at hl ⊢
  have hl : lv_has ls 3 [(0, .ref (b + adC 0 0)), (1, .int a1), (2, .int a2)] := hl
  show W p l e rm_X11_would s m _ below meth c s.heap [] 0 0 (vx_MQ below (PiC D cy b z tx k) (XeC D cy b z tx kx) _ s 1 6 (gA b 709 z)) _
  unfold F_X11_would at h
  refine lv_iload_n hx hb dX11_would_0 rfl (lv_at hl 1 rfl) ?_
  refine lv_if_lt (tgt := 10) hx hb dX11_would_1 (by decide) (fun c1 => ?_) (fun c1 => ?_)
  · have h := h.1 c1
    refine W.widen (k := 0) (n := 0) (Nat.le_of_ble_eq_true rfl) (Nat.le_of_ble_eq_true rfl) ?_
    exact Bw_X11_would_10 C0 hr hlk hT hl0 hX0 hexc S _ _ _ h hR hS (lv_sub hl [] rfl)
  · have h := h.2 c1
    refine lv_iload_n hx hb dX11_would_4 rfl (lv_at hl 1 rfl) ?_
    refine lv_bipush (v := 60) hx hb dX11_would_5 (by decide) ?_
    refine lv_icmp_le (tgt := 18) hx hb dX11_would_7 (by decide) (fun c2 => ?_) (fun c2 => ?_)
    · have h := h.1 c2
      refine lv_aload_n hx hb dX11_would_18 rfl (lv_at hl 0 rfl) ?_
      refine gC_0_5 C0 hR Nat.zero_lt_one tbs_wsX110 mC8_2_214 dX11_would_19 ?_
      have w3 : (S.2 0 0 5) < 3 := hR.2.1.2.2
      refine lv_aload_n hx hb dX11_would_22 rfl (lv_at hl 0 rfl) ?_
      refine gC_0_4 C0 hR Nat.zero_lt_one tbs_wsX110 mC8_2_213 dX11_would_23 ?_
      have w4 : (S.2 0 0 4) < 3 := hR.2.1.2.1
      refine qC_Vv (As := [.ref (b + adC 13 (S.2 0 0 4))]) (rest := []) C0 (c_X6_copyFrom l w3 w4 h) (cwV 1 C0.2.2.2.2 (tbV mC8_3_53 ⟨mC8_3_54, mC8_3_55, mC8_1_5, mC8_3_56⟩) rfl rfl rfl (by decide +kernel) ⟨Nat.le_of_ble_eq_true rfl, Nat.le_of_ble_eq_true rfl⟩) (rcC_13 hR w3) hR hT hS rfl hl.1 rfl (Nat.le_of_ble_eq_true rfl) dX11_would_26 ⟨Nat.le_of_ble_eq_true rfl, Nat.le_of_ble_eq_true rfl⟩ (fun S6 H locs h hR hS => ?_)
      refine lv_iload_n hx hb dX11_would_29 rfl (lv_at hl 2 rfl) ?_
      refine lv_if_eq (tgt := 44) hx hb dX11_would_30 (by decide) (fun c7 => ?_) (fun c7 => ?_)
      · have h := h.1 c7
        refine lv_aload_n hx hb dX11_would_44 rfl (lv_at hl 0 rfl) ?_
        refine gC_0_5 C0 hR Nat.zero_lt_one tbs_wsX110 mC8_2_214 dX11_would_45 ?_
        have w8 : (S6.2 0 0 5) < 3 := hR.2.1.2.2
        refine lv_iload_n hx hb dX11_would_48 rfl (lv_at hl 1 rfl) ?_
        refine qC_Vi (As := [.int a1]) (rest := []) C0 (c_X6_tickTimes l w8 h) (cwV 1 C0.2.2.2.2 (tbV mC8_5_239 ⟨mC8_6_0, mC8_6_1, mC8_1_5, mC8_6_2⟩) rfl rfl rfl (by decide +kernel) ⟨Nat.le_of_ble_eq_true rfl, Nat.le_of_ble_eq_true rfl⟩) (rcC_13 hR w8) hR hT hS rfl hl.1 rfl (Nat.le_of_ble_eq_true rfl) dX11_would_49 ⟨Nat.le_of_ble_eq_true rfl, Nat.le_of_ble_eq_true rfl⟩ (fun r9 S10 H locs h hR hS => ?_)
        refine vx_ret (W.widen (k := 1) (n := 6) (Nat.le_of_ble_eq_true rfl) (Nat.le_of_ble_eq_true rfl) ?_); exact rtC_i C0 hr hlk hR hS h dX11_would_52
      · have h := h.2 c7
        refine lv_aload_n hx hb dX11_would_33 rfl (lv_at hl 0 rfl) ?_
        refine gC_0_5 C0 hR Nat.zero_lt_one tbs_wsX110 mC8_2_214 dX11_would_34 ?_
        have w11 : (S6.2 0 0 5) < 3 := hR.2.1.2.2
        refine lv_iload_n hx hb dX11_would_37 rfl (lv_at hl 1 rfl) ?_
        refine qC_Vi (As := [.int a1]) (rest := []) C0 (c_X6_jumpBy l w11 h) (cwV 1 C0.2.2.2.2 (tbV mC8_6_29 ⟨mC8_6_30, mC8_6_31, mC8_1_5, mC8_6_32⟩) rfl rfl rfl (by decide +kernel) ⟨Nat.le_of_ble_eq_true rfl, Nat.le_of_ble_eq_true rfl⟩) (rcC_13 hR w11) hR hT hS rfl hl.1 rfl (Nat.le_of_ble_eq_true rfl) dX11_would_38 ⟨Nat.le_of_ble_eq_true rfl, Nat.le_of_ble_eq_true rfl⟩ (fun r12 S13 H locs h hR hS => ?_)
        refine lv_goto (tgt := 52) hx hb dX11_would_41 (by decide) ?_
        refine vx_ret (W.widen (k := 1) (n := 6) (Nat.le_of_ble_eq_true rfl) (Nat.le_of_ble_eq_true rfl) ?_); exact rtC_i C0 hr hlk hR hS h dX11_would_52
    · have h := h.2 c2
      refine W.widen (k := 0) (n := 0) (Nat.le_of_ble_eq_true rfl) (Nat.le_of_ble_eq_true rfl) ?_
      exact Bw_X11_would_10 C0 hr hlk hT hl0 hX0 hexc S _ _ _ h hR hS (lv_sub hl [] rfl)

def rm_X10_prepare : Room := { frames := 0, cells := 0, slots := 0, locals := 0 }
def B_X10_prepare_58 (kk2 : Nat → Int32 → sSt → Prop) (a0 : Nat) (a1 : Int32) (S : sSt) (k : sSt → Prop) : Prop := ∀ x10 : Int32, x10 = a1 + 1 → kk2 a0 x10 S
set_option maxHeartbeats 4000000 in
set_option maxRecDepth 100000 in
theorem Bw_X10_prepare_58 {p : Program} {l : Launch} {e : Env} {s : State} {m : MethodId} {args : Array Value} {below : List Frame} {meth : Method} {c : Code} {D : va_G} {cy : Nat → ClassId} {b z : Nat} {tx : TX} (C0 : CallFix p m c cX10_prepare 3 s args TB RX10) (hr : meth.sig.returnType = none) (hlk : meth.locks = false) (hT : TxR tx s) {k : sSt → Prop} {kk2 : Nat → Int32 → sSt → Prop} (ih2 : ∀ (a0 : Nat) (a1 : Int32) (S : sSt) (H : Heap) (locs : List Loc) (ls : Array Slot) (av0 : a0 < 3), kk2 a0 a1 S → RelC D cy b z tx S s H → va_S (gA b 709 z) s.heap H locs → lv_has ls 3 [(0, .ref (b + adC 13 a0)), (1, .int a1)] → W p l e rm_X10_prepare s m args below meth c H locs 0 0 (MQ below (PvC D cy b z tx k) args s 0 0 (gA b 709 z)) (F0 m 2 ls [])) : ∀ (a0 : Nat) (a1 : Int32) (S : sSt) (H : Heap) (locs : List Loc) (ls : Array Slot) (av0 : a0 < 3), B_X10_prepare_58 kk2 a0 a1 S k → RelC D cy b z tx S s H → va_S (gA b 709 z) s.heap H locs → lv_has ls 3 [(0, .ref (b + adC 13 a0)), (1, .int a1)] → W p l e rm_X10_prepare s m args below meth c H locs 0 0 (MQ below (PvC D cy b z tx k) args s 0 0 (gA b 709 z)) (F0 m 58 ls []) := by
  intro a0 a1 S H locs ls av0 h hR hS hl
  have hx := C0.1
  have hb := C0.2.1
  unfold B_X10_prepare_58 at h
  obtain ⟨x10, ex10⟩ : ∃ x10 : Int32, x10 = a1 + 1 := ⟨_, rfl⟩
  have h := h x10 ex10
  refine w_iinc (v0 := 1) (lv' := [(1, .int x10), (0, .ref (b + adC 13 a0))]) C0 dX10_prepare_58 hl (k := 1) rfl (by decide) (by decide) x10 ex10 rfl (fun ls hl => ?_)
  refine lv_goto (tgt := 2) hx hb dX10_prepare_61 (by decide) ?_
  exact ih2 a0 x10 S _ _ _ av0 h hR hS (lv_sub hl [1, 0] rfl)
def B_X10_prepare_37 (kk2 : Nat → Int32 → sSt → Prop) (a0 : Nat) (a1 : Int32) (a2 : Nat) (S : sSt) (k : sSt → Prop) : Prop := ((¬ (S.1 22 a2 0) = 1 → B_X10_prepare_58 kk2 a0 a1 S k) ∧ ((S.1 22 a2 0) = 1 → ∀ S11, S11 = uI S 22 a2 0 0 → ∀ S12, S12 = uI S11 22 a2 1 (S11.1 13 a0 10) → B_X10_prepare_58 kk2 a0 a1 S12 k))
set_option maxHeartbeats 4000000 in
set_option maxRecDepth 100000 in
theorem Bw_X10_prepare_37 {p : Program} {l : Launch} {e : Env} {s : State} {m : MethodId} {args : Array Value} {below : List Frame} {meth : Method} {c : Code} {D : va_G} {cy : Nat → ClassId} {b z : Nat} {tx : TX} (C0 : CallFix p m c cX10_prepare 3 s args TB RX10) (hr : meth.sig.returnType = none) (hlk : meth.locks = false) (hT : TxR tx s) {k : sSt → Prop} {kk2 : Nat → Int32 → sSt → Prop} (ih2 : ∀ (a0 : Nat) (a1 : Int32) (S : sSt) (H : Heap) (locs : List Loc) (ls : Array Slot) (av0 : a0 < 3), kk2 a0 a1 S → RelC D cy b z tx S s H → va_S (gA b 709 z) s.heap H locs → lv_has ls 3 [(0, .ref (b + adC 13 a0)), (1, .int a1)] → W p l e rm_X10_prepare s m args below meth c H locs 0 0 (MQ below (PvC D cy b z tx k) args s 0 0 (gA b 709 z)) (F0 m 2 ls [])) : ∀ (a0 : Nat) (a1 : Int32) (a2 : Nat) (S : sSt) (H : Heap) (locs : List Loc) (ls : Array Slot) (av0 : a0 < 3) (av2 : a2 < 432), B_X10_prepare_37 kk2 a0 a1 a2 S k → RelC D cy b z tx S s H → va_S (gA b 709 z) s.heap H locs → lv_has ls 3 [(0, .ref (b + adC 13 a0)), (1, .int a1), (2, .ref (b + adC 22 a2))] → W p l e rm_X10_prepare s m args below meth c H locs 0 0 (MQ below (PvC D cy b z tx k) args s 0 0 (gA b 709 z)) (F0 m 37 ls []) := by
  intro a0 a1 a2 S H locs ls av0 av2 h hR hS hl
  have hx := C0.1
  have hb := C0.2.1
  unfold B_X10_prepare_37 at h
  refine lv_aload_n hx hb dX10_prepare_37 rfl (lv_at hl 2 rfl) ?_
  refine gCn_22_0 C0 hR av2 tbs_wsX90 mC8_1_159 hT dX10_prepare_38 ?_
  refine lv_iconst (v := 1) hx hb dX10_prepare_41 (by decide) ?_
  refine lv_icmp_ne (tgt := 58) hx hb dX10_prepare_42 (by decide) (fun c9 => ?_) (fun c9 => ?_)
  · have h := h.1 c9
    exact Bw_X10_prepare_58 C0 hr hlk hT ih2 a0 a1 S _ _ _ av0 h hR hS (lv_sub hl [0, 1] rfl)
  · have h := h.2 c9
    refine lv_aload_n hx hb dX10_prepare_45 rfl (lv_at hl 2 rfl) ?_
    refine lv_iconst (v := 0) hx hb dX10_prepare_46 (by decide) ?_
    refine pCn_22_0 C0 hR hS av2 tbs_wsX90 mC8_1_159 hT dX10_prepare_47 (fun S11 eS11 H locs hR hS => ?_)
    have h := h S11 eS11
    refine lv_aload_n hx hb dX10_prepare_50 rfl (lv_at hl 2 rfl) ?_
    refine lv_aload_n hx hb dX10_prepare_51 rfl (lv_at hl 0 rfl) ?_
    refine gCn_13_10 C0 hR av0 tbs_wsX60 mC8_2_158 hT dX10_prepare_52 ?_
    refine pCn_22_1 C0 hR hS av2 tbs_wsX90 mC8_1_165 hT dX10_prepare_55 (fun S12 eS12 H locs hR hS => ?_)
    have h := h S12 eS12
    exact Bw_X10_prepare_58 C0 hr hlk hT ih2 a0 a1 S12 _ _ _ av0 h hR hS (lv_sub hl [0, 1] rfl)
def Bb_X10_prepare_2 (kk2 : Nat → Int32 → sSt → Prop) (a0 : Nat) (a1 : Int32) (S : sSt) (k : sSt → Prop) : Prop := (((S.1 13 a0 6) ≤ a1 → k S) ∧ (¬ (S.1 13 a0 6) ≤ a1 → ix a1 24 (fun j3 => ((¬ (S.1 21 (S.2 14 a0 j3) 5) = 0 → B_X10_prepare_37 kk2 a0 a1 (6 * (S.2 14 a0 j3)) S k) ∧ ((S.1 21 (S.2 14 a0 j3) 5) = 0 → ∀ S13, S13 = uI S 22 (6 * (S.2 14 a0 j3)) 0 2 → B_X10_prepare_37 kk2 a0 a1 (6 * (S.2 14 a0 j3)) S13 k)))))
set_option maxHeartbeats 4000000 in
set_option maxRecDepth 100000 in
theorem Bbw_X10_prepare_2 {p : Program} {l : Launch} {e : Env} {s : State} {m : MethodId} {args : Array Value} {below : List Frame} {meth : Method} {c : Code} {D : va_G} {cy : Nat → ClassId} {b z : Nat} {tx : TX} (C0 : CallFix p m c cX10_prepare 3 s args TB RX10) (hr : meth.sig.returnType = none) (hlk : meth.locks = false) (hT : TxR tx s) {k : sSt → Prop} {kk2 : Nat → Int32 → sSt → Prop} (ih2 : ∀ (a0 : Nat) (a1 : Int32) (S : sSt) (H : Heap) (locs : List Loc) (ls : Array Slot) (av0 : a0 < 3), kk2 a0 a1 S → RelC D cy b z tx S s H → va_S (gA b 709 z) s.heap H locs → lv_has ls 3 [(0, .ref (b + adC 13 a0)), (1, .int a1)] → W p l e rm_X10_prepare s m args below meth c H locs 0 0 (MQ below (PvC D cy b z tx k) args s 0 0 (gA b 709 z)) (F0 m 2 ls [])) : ∀ (a0 : Nat) (a1 : Int32) (S : sSt) (H : Heap) (locs : List Loc) (ls : Array Slot) (av0 : a0 < 3), Bb_X10_prepare_2 kk2 a0 a1 S k → RelC D cy b z tx S s H → va_S (gA b 709 z) s.heap H locs → lv_has ls 3 [(0, .ref (b + adC 13 a0)), (1, .int a1)] → W p l e rm_X10_prepare s m args below meth c H locs 0 0 (MQ below (PvC D cy b z tx k) args s 0 0 (gA b 709 z)) (F0 m 2 ls []) := by
  intro a0 a1 S H locs ls av0 h hR hS hl
  have hx := C0.1
  have hb := C0.2.1
  unfold Bb_X10_prepare_2 at h
  refine lv_iload_n hx hb dX10_prepare_2 rfl (lv_at hl 1 rfl) ?_
  refine lv_aload_n hx hb dX10_prepare_3 rfl (lv_at hl 0 rfl) ?_
  refine gCn_13_6 C0 hR av0 tbs_wsX60 mC8_2_149 hT dX10_prepare_4 ?_
  refine lv_icmp_ge (tgt := 64) hx hb dX10_prepare_7 (by decide) (fun c1 => ?_) (fun c1 => ?_)
  · have h := h.1 c1
    exact rtC_v C0 hr hlk hR hS h dX10_prepare_64
  · have h := h.2 c1
    refine lv_aload_n hx hb dX10_prepare_10 rfl (lv_at hl 0 rfl) ?_
    refine gCn_13_0 C0 hR av0 tbs_wsX60 mC8_2_128 hT dX10_prepare_11 ?_
    have w2 : a0 < 3 := by omega
    refine lv_iload_n hx hb dX10_prepare_14 rfl (lv_at hl 1 rfl) ?_
    obtain ⟨j3, hj3, ej3, h⟩ := h
    refine lC_14 C0 hR w2 hj3 ej3 dX10_prepare_15 ?_
    have w4 : (S.2 14 a0 j3) < 72 := hR.2.1.1 _ _ w2 hj3
    refine gCn_21_0 C0 hR w4 tbs_wsX10 mC8_1_211 hT dX10_prepare_16 ?_
    have w5 : (6 * (S.2 14 a0 j3)) < 432 := by omega
    refine lv_astore_n (lv' := [(2, .ref (b + adC 22 (6 * (S.2 14 a0 j3)))), (0, .ref (b + adC 13 a0)), (1, .int a1)]) hx hb dX10_prepare_19 rfl hl (by decide) rfl (fun ls hl => ?_)
    refine lv_aload_n hx hb dX10_prepare_20 rfl (lv_at hl 1 rfl) ?_
    refine gCn_13_0 C0 hR av0 tbs_wsX60 mC8_2_128 hT dX10_prepare_21 ?_
    have w6 : a0 < 3 := by omega
    refine lv_iload_n hx hb dX10_prepare_24 rfl (lv_at hl 2 rfl) ?_
    refine lC_14 C0 hR w6 hj3 ej3 dX10_prepare_25 ?_
    have w7 : (S.2 14 a0 j3) < 72 := hR.2.1.1 _ _ w6 hj3
    refine gCn_21_5 C0 hR w7 tbs_wsX10 mC8_1_224 hT dX10_prepare_26 ?_
    refine lv_if_ne (tgt := 37) hx hb dX10_prepare_29 (by decide) (fun c8 => ?_) (fun c8 => ?_)
    · have h := h.1 c8
      exact Bw_X10_prepare_37 C0 hr hlk hT ih2 a0 a1 (6 * (S.2 14 a0 j3)) S _ _ _ av0 w5 h hR hS (lv_sub hl [1, 2, 0] rfl)
    · have h := h.2 c8
      refine lv_aload_n hx hb dX10_prepare_32 rfl (lv_at hl 0 rfl) ?_
      refine lv_iconst (v := 2) hx hb dX10_prepare_33 (by decide) ?_
      refine pCn_22_0 C0 hR hS w5 tbs_wsX90 mC8_1_159 hT dX10_prepare_34 (fun S13 eS13 H locs hR hS => ?_)
      have h := h S13 eS13
      exact Bw_X10_prepare_37 C0 hr hlk hT ih2 a0 a1 (6 * (S.2 14 a0 j3)) S13 _ _ _ av0 w5 h hR hS (lv_sub hl [1, 2, 0] rfl)
def B_X10_prepare_2 (n9 : Nat) (a0 : Nat) (a1 : Int32) (S : sSt) (k : sSt → Prop) : Prop := (Nat.rec (motive := fun _ => Nat → Int32 → sSt → Prop) (fun _ _ _ => False) (fun _ r9 => fun a0 a1 S => Bb_X10_prepare_2 r9 a0 a1 S k) n9 : Nat → Int32 → sSt → Prop) a0 a1 S
theorem B_X10_prepare_2_s (n9 : Nat) (a0 : Nat) (a1 : Int32) (S : sSt) (k : sSt → Prop) : B_X10_prepare_2 (n9 + 1) a0 a1 S k = Bb_X10_prepare_2 (fun a0 a1 S => B_X10_prepare_2 n9 a0 a1 S k) a0 a1 S k := rfl
set_option maxHeartbeats 4000000 in
set_option maxRecDepth 100000 in
theorem Bw_X10_prepare_2 {p : Program} {l : Launch} {e : Env} {s : State} {m : MethodId} {args : Array Value} {below : List Frame} {meth : Method} {c : Code} {D : va_G} {cy : Nat → ClassId} {b z : Nat} {tx : TX} (C0 : CallFix p m c cX10_prepare 3 s args TB RX10) (hr : meth.sig.returnType = none) (hlk : meth.locks = false) (hT : TxR tx s) {k : sSt → Prop} : ∀ (n9 : Nat), ∀ (a0 : Nat) (a1 : Int32) (S : sSt) (H : Heap) (locs : List Loc) (ls : Array Slot) (av0 : a0 < 3), B_X10_prepare_2 n9 a0 a1 S k → RelC D cy b z tx S s H → va_S (gA b 709 z) s.heap H locs → lv_has ls 3 [(0, .ref (b + adC 13 a0)), (1, .int a1)] → W p l e rm_X10_prepare s m args below meth c H locs 0 0 (MQ below (PvC D cy b z tx k) args s 0 0 (gA b 709 z)) (F0 m 2 ls []) := by
  intro n9
  induction n9 with
  | zero => intro a0 a1 S H locs ls av0 h; exact h.elim
  | succ n9 ih =>
    intro a0 a1 S H locs ls av0 h hR hS hl
    exact Bbw_X10_prepare_2 C0 hr hlk hT ih a0 a1 S H locs ls av0 h hR hS hl
def F_X10_prepare (a0 : Nat) (S : sSt) (k : sSt → Prop) : Prop := B_X10_prepare_2 fuel a0 0 S k
set_option maxHeartbeats 4000000 in
set_option maxRecDepth 100000 in
theorem c_X10_prepare (l : Launch) {D : va_G} {cy : Nat → ClassId} {b z : Nat} {tx : TX} {a0 : Nat} {S : sSt} {k : sSt → Prop} (av0 : a0 < 3) (h : F_X10_prepare a0 S k) : Met l yX10_prepare (Cond.code yX10_prepare cX10_prepare 3 none :: TB) rm_X10_prepare (va_Pc [.ref (b + adC 13 a0)] (fun U => RelC D cy b z tx S U U.heap ∧ TxR tx U)) (PvC D cy b z tx k) 0 0 (gA b 709 z) := by
  refine Met.ofW (cc := cX10_prepare) (maxL := 3) (ret := none) (by decide) rfl ?_
  intro p e s m args below meth c s₁ B hml hv
  obtain ⟨rfl, hR, hT⟩ := hv
  have C0 : CallFix p m c cX10_prepare 3 s _ TB RX10 := ⟨B.exec, B.bytes, hml, findClass_of_methodNamed B.named, fun w hw => atoms_spec B.pre w (List.mem_cons_of_mem _ hw)⟩
  have hr := B.returns
  have hlk := B.notSynchronized
  have hx := C0.1
  have hb := C0.2.1
  have hS : va_S (gA b 709 z) s.heap s.heap [] := va_S.rf
  have hl := lv_entry ([.ref (b + adC 13 a0)]) (n := 3) (Nat.le_of_ble_eq_true rfl)
  rw [lg_entry_eq]
  generalize (lg_sl ([.ref (b + adC 13 a0)]) ++ List.replicate (3 - (lg_sl ([.ref (b + adC 13 a0)])).length) Slot.unset).toArray = ls at hl ⊢
  have hl : lv_has ls 3 [(0, .ref (b + adC 13 a0))] := hl
  show W p l e rm_X10_prepare s m _ below meth c s.heap [] 0 0 (MQ below (PvC D cy b z tx k) _ s 0 0 (gA b 709 z)) _
  unfold F_X10_prepare at h
  refine lv_iconst (v := 0) hx hb dX10_prepare_0 (by decide) ?_
  refine lv_istore_n (lv' := [(1, .int 0), (0, .ref (b + adC 13 a0))]) hx hb dX10_prepare_1 rfl hl (by decide) rfl (fun ls hl => ?_)
  exact Bw_X10_prepare_2 C0 hr hlk hT fuel a0 0 S _ _ _ av0 h hR hS (lv_sub hl [1, 0] rfl)

def rm_X10_inState : Room := { frames := 0, cells := 0, slots := 0, locals := 0 }
def B_X10_inState_34 (kk4 : Nat → Int32 → Int32 → Int32 → sSt → Prop) (a0 : Nat) (a1 : Int32) (a3 : Int32) (t0 : Int32) (t1 : Int32) (S : sSt) (k : Int32 → sSt → Prop) : Prop := ∀ x7 : Int32, x7 = (t0 + t1) → ∀ x8 : Int32, x8 = a3 + 1 → kk4 a0 a1 x7 x8 S
set_option maxHeartbeats 4000000 in
set_option maxRecDepth 100000 in
theorem Bw_X10_inState_34 {p : Program} {l : Launch} {e : Env} {s : State} {m : MethodId} {args : Array Value} {below : List Frame} {meth : Method} {c : Code} {D : va_G} {cy : Nat → ClassId} {b z : Nat} {tx : TX} (C0 : CallFix p m c cX10_inState 4 s args TB RX10) (hr : meth.sig.returnType = (some .int)) (hlk : meth.locks = false) (hT : TxR tx s) {k : Int32 → sSt → Prop} {kk4 : Nat → Int32 → Int32 → Int32 → sSt → Prop} (ih4 : ∀ (a0 : Nat) (a1 : Int32) (a2 : Int32) (a3 : Int32) (S : sSt) (H : Heap) (locs : List Loc) (ls : Array Slot) (av0 : a0 < 3), kk4 a0 a1 a2 a3 S → RelC D cy b z tx S s H → va_S (gA b 709 z) s.heap H locs → lv_has ls 4 [(0, .ref (b + adC 13 a0)), (1, .int a1), (2, .int a2), (3, .int a3)] → W p l e rm_X10_inState s m args below meth c H locs 0 0 (MQ below (PiC D cy b z tx k) args s 0 0 (gA b 709 z)) (F0 m 4 ls [])) : ∀ (a0 : Nat) (a1 : Int32) (a3 : Int32) (t0 : Int32) (t1 : Int32) (S : sSt) (H : Heap) (locs : List Loc) (ls : Array Slot) (av0 : a0 < 3), B_X10_inState_34 kk4 a0 a1 a3 t0 t1 S k → RelC D cy b z tx S s H → va_S (gA b 709 z) s.heap H locs → lv_has ls 4 [(0, .ref (b + adC 13 a0)), (1, .int a1), (3, .int a3)] → W p l e rm_X10_inState s m args below meth c H locs 0 0 (MQ below (PiC D cy b z tx k) args s 0 0 (gA b 709 z)) (F0 m 34 ls [.int t1, .int t0]) := by
  intro a0 a1 a3 t0 t1 S H locs ls av0 h hR hS hl
  have hx := C0.1
  have hb := C0.2.1
  unfold B_X10_inState_34 at h
  refine lv_iadd hx hb dX10_inState_34 ?_
  refine lv_topi (fun x7 ex7 => ?_)
  have h := h x7 ex7
  refine lv_istore_n (lv' := [(2, .int x7), (0, .ref (b + adC 13 a0)), (1, .int a1), (3, .int a3)]) hx hb dX10_inState_35 rfl hl (by decide) rfl (fun ls hl => ?_)
  obtain ⟨x8, ex8⟩ : ∃ x8 : Int32, x8 = a3 + 1 := ⟨_, rfl⟩
  have h := h x8 ex8
  refine w_iinc (v0 := 1) (lv' := [(3, .int x8), (2, .int x7), (0, .ref (b + adC 13 a0)), (1, .int a1)]) C0 dX10_inState_36 hl (k := 3) rfl (by decide) (by decide) x8 ex8 rfl (fun ls hl => ?_)
  refine lv_goto (tgt := 4) hx hb dX10_inState_39 (by decide) ?_
  exact ih4 a0 a1 x7 x8 S _ _ _ av0 h hR hS (lv_sub hl [2, 3, 1, 0] rfl)
def Bb_X10_inState_4 (kk4 : Nat → Int32 → Int32 → Int32 → sSt → Prop) (a0 : Nat) (a1 : Int32) (a2 : Int32) (a3 : Int32) (S : sSt) (k : Int32 → sSt → Prop) : Prop := (((S.1 13 a0 6) ≤ a3 → k a2 S) ∧ (¬ (S.1 13 a0 6) ≤ a3 → ix a3 24 (fun j3 => ((¬ (S.1 22 (6 * (S.2 14 a0 j3)) 0) = a1 → B_X10_inState_34 kk4 a0 a1 a3 a2 0 S k) ∧ ((S.1 22 (6 * (S.2 14 a0 j3)) 0) = a1 → B_X10_inState_34 kk4 a0 a1 a3 a2 1 S k)))))
set_option maxHeartbeats 4000000 in
set_option maxRecDepth 100000 in
theorem Bbw_X10_inState_4 {p : Program} {l : Launch} {e : Env} {s : State} {m : MethodId} {args : Array Value} {below : List Frame} {meth : Method} {c : Code} {D : va_G} {cy : Nat → ClassId} {b z : Nat} {tx : TX} (C0 : CallFix p m c cX10_inState 4 s args TB RX10) (hr : meth.sig.returnType = (some .int)) (hlk : meth.locks = false) (hT : TxR tx s) {k : Int32 → sSt → Prop} {kk4 : Nat → Int32 → Int32 → Int32 → sSt → Prop} (ih4 : ∀ (a0 : Nat) (a1 : Int32) (a2 : Int32) (a3 : Int32) (S : sSt) (H : Heap) (locs : List Loc) (ls : Array Slot) (av0 : a0 < 3), kk4 a0 a1 a2 a3 S → RelC D cy b z tx S s H → va_S (gA b 709 z) s.heap H locs → lv_has ls 4 [(0, .ref (b + adC 13 a0)), (1, .int a1), (2, .int a2), (3, .int a3)] → W p l e rm_X10_inState s m args below meth c H locs 0 0 (MQ below (PiC D cy b z tx k) args s 0 0 (gA b 709 z)) (F0 m 4 ls [])) : ∀ (a0 : Nat) (a1 : Int32) (a2 : Int32) (a3 : Int32) (S : sSt) (H : Heap) (locs : List Loc) (ls : Array Slot) (av0 : a0 < 3), Bb_X10_inState_4 kk4 a0 a1 a2 a3 S k → RelC D cy b z tx S s H → va_S (gA b 709 z) s.heap H locs → lv_has ls 4 [(0, .ref (b + adC 13 a0)), (1, .int a1), (2, .int a2), (3, .int a3)] → W p l e rm_X10_inState s m args below meth c H locs 0 0 (MQ below (PiC D cy b z tx k) args s 0 0 (gA b 709 z)) (F0 m 4 ls []) := by
  intro a0 a1 a2 a3 S H locs ls av0 h hR hS hl
  have hx := C0.1
  have hb := C0.2.1
  unfold Bb_X10_inState_4 at h
  refine lv_iload_n hx hb dX10_inState_4 rfl (lv_at hl 3 rfl) ?_
  refine lv_aload_n hx hb dX10_inState_5 rfl (lv_at hl 0 rfl) ?_
  refine gCn_13_6 C0 hR av0 tbs_wsX60 mC8_2_149 hT dX10_inState_6 ?_
  refine lv_icmp_ge (tgt := 42) hx hb dX10_inState_9 (by decide) (fun c1 => ?_) (fun c1 => ?_)
  · have h := h.1 c1
    refine lv_iload_n hx hb dX10_inState_42 rfl (lv_at hl 2 rfl) ?_
    exact rtC_i C0 hr hlk hR hS h dX10_inState_43
  · have h := h.2 c1
    refine lv_iload_n hx hb dX10_inState_12 rfl (lv_at hl 2 rfl) ?_
    refine lv_aload_n hx hb dX10_inState_13 rfl (lv_at hl 0 rfl) ?_
    refine gCn_13_0 C0 hR av0 tbs_wsX60 mC8_2_128 hT dX10_inState_14 ?_
    have w2 : a0 < 3 := by omega
    refine lv_iload_n hx hb dX10_inState_17 rfl (lv_at hl 3 rfl) ?_
    obtain ⟨j3, hj3, ej3, h⟩ := h
    refine lC_14 C0 hR w2 hj3 ej3 dX10_inState_18 ?_
    have w4 : (S.2 14 a0 j3) < 72 := hR.2.1.1 _ _ w2 hj3
    refine gCn_21_0 C0 hR w4 tbs_wsX10 mC8_1_211 hT dX10_inState_19 ?_
    have w5 : (6 * (S.2 14 a0 j3)) < 432 := by omega
    refine gCn_22_0 C0 hR w5 tbs_wsX90 mC8_1_159 hT dX10_inState_22 ?_
    refine lv_iload_n hx hb dX10_inState_25 rfl (lv_at hl 1 rfl) ?_
    refine lv_icmp_ne (tgt := 33) hx hb dX10_inState_26 (by decide) (fun c6 => ?_) (fun c6 => ?_)
    · have h := h.1 c6
      refine lv_iconst (v := 0) hx hb dX10_inState_33 (by decide) ?_
      exact Bw_X10_inState_34 C0 hr hlk hT ih4 a0 a1 a3 a2 0 S _ _ _ av0 h hR hS (lv_sub hl [0, 1, 3] rfl)
    · have h := h.2 c6
      refine lv_iconst (v := 1) hx hb dX10_inState_29 (by decide) ?_
      refine lv_goto (tgt := 34) hx hb dX10_inState_30 (by decide) ?_
      exact Bw_X10_inState_34 C0 hr hlk hT ih4 a0 a1 a3 a2 1 S _ _ _ av0 h hR hS (lv_sub hl [0, 1, 3] rfl)
def B_X10_inState_4 (n9 : Nat) (a0 : Nat) (a1 : Int32) (a2 : Int32) (a3 : Int32) (S : sSt) (k : Int32 → sSt → Prop) : Prop := (Nat.rec (motive := fun _ => Nat → Int32 → Int32 → Int32 → sSt → Prop) (fun _ _ _ _ _ => False) (fun _ r9 => fun a0 a1 a2 a3 S => Bb_X10_inState_4 r9 a0 a1 a2 a3 S k) n9 : Nat → Int32 → Int32 → Int32 → sSt → Prop) a0 a1 a2 a3 S
theorem B_X10_inState_4_s (n9 : Nat) (a0 : Nat) (a1 : Int32) (a2 : Int32) (a3 : Int32) (S : sSt) (k : Int32 → sSt → Prop) : B_X10_inState_4 (n9 + 1) a0 a1 a2 a3 S k = Bb_X10_inState_4 (fun a0 a1 a2 a3 S => B_X10_inState_4 n9 a0 a1 a2 a3 S k) a0 a1 a2 a3 S k := rfl
set_option maxHeartbeats 4000000 in
set_option maxRecDepth 100000 in
theorem Bw_X10_inState_4 {p : Program} {l : Launch} {e : Env} {s : State} {m : MethodId} {args : Array Value} {below : List Frame} {meth : Method} {c : Code} {D : va_G} {cy : Nat → ClassId} {b z : Nat} {tx : TX} (C0 : CallFix p m c cX10_inState 4 s args TB RX10) (hr : meth.sig.returnType = (some .int)) (hlk : meth.locks = false) (hT : TxR tx s) {k : Int32 → sSt → Prop} : ∀ (n9 : Nat), ∀ (a0 : Nat) (a1 : Int32) (a2 : Int32) (a3 : Int32) (S : sSt) (H : Heap) (locs : List Loc) (ls : Array Slot) (av0 : a0 < 3), B_X10_inState_4 n9 a0 a1 a2 a3 S k → RelC D cy b z tx S s H → va_S (gA b 709 z) s.heap H locs → lv_has ls 4 [(0, .ref (b + adC 13 a0)), (1, .int a1), (2, .int a2), (3, .int a3)] → W p l e rm_X10_inState s m args below meth c H locs 0 0 (MQ below (PiC D cy b z tx k) args s 0 0 (gA b 709 z)) (F0 m 4 ls []) := by
  intro n9
  induction n9 with
  | zero => intro a0 a1 a2 a3 S H locs ls av0 h; exact h.elim
  | succ n9 ih =>
    intro a0 a1 a2 a3 S H locs ls av0 h hR hS hl
    exact Bbw_X10_inState_4 C0 hr hlk hT ih a0 a1 a2 a3 S H locs ls av0 h hR hS hl
def F_X10_inState (a0 : Nat) (a1 : Int32) (S : sSt) (k : Int32 → sSt → Prop) : Prop := B_X10_inState_4 fuel a0 a1 0 0 S k
set_option maxHeartbeats 4000000 in
set_option maxRecDepth 100000 in
theorem c_X10_inState (l : Launch) {D : va_G} {cy : Nat → ClassId} {b z : Nat} {tx : TX} {a0 : Nat} {a1 : Int32} {S : sSt} {k : Int32 → sSt → Prop} (av0 : a0 < 3) (h : F_X10_inState a0 a1 S k) : Met l yX10_inState (Cond.code yX10_inState cX10_inState 4 (some .int) :: TB) rm_X10_inState (va_Pc [.ref (b + adC 13 a0), .int a1] (fun U => RelC D cy b z tx S U U.heap ∧ TxR tx U)) (PiC D cy b z tx k) 0 0 (gA b 709 z) := by
  refine Met.ofW (cc := cX10_inState) (maxL := 4) (ret := (some .int)) (by decide) rfl ?_
  intro p e s m args below meth c s₁ B hml hv
  obtain ⟨rfl, hR, hT⟩ := hv
  have C0 : CallFix p m c cX10_inState 4 s _ TB RX10 := ⟨B.exec, B.bytes, hml, findClass_of_methodNamed B.named, fun w hw => atoms_spec B.pre w (List.mem_cons_of_mem _ hw)⟩
  have hr := B.returns
  have hlk := B.notSynchronized
  have hx := C0.1
  have hb := C0.2.1
  have hS : va_S (gA b 709 z) s.heap s.heap [] := va_S.rf
  have hl := lv_entry ([.ref (b + adC 13 a0), .int a1]) (n := 4) (Nat.le_of_ble_eq_true rfl)
  rw [lg_entry_eq]
  generalize (lg_sl ([.ref (b + adC 13 a0), .int a1]) ++ List.replicate (4 - (lg_sl ([.ref (b + adC 13 a0), .int a1])).length) Slot.unset).toArray = ls at hl ⊢
  have hl : lv_has ls 4 [(0, .ref (b + adC 13 a0)), (1, .int a1)] := hl
  show W p l e rm_X10_inState s m _ below meth c s.heap [] 0 0 (MQ below (PiC D cy b z tx k) _ s 0 0 (gA b 709 z)) _
  unfold F_X10_inState at h
  refine lv_iconst (v := 0) hx hb dX10_inState_0 (by decide) ?_
  refine lv_istore_n (lv' := [(2, .int 0), (0, .ref (b + adC 13 a0)), (1, .int a1)]) hx hb dX10_inState_1 rfl hl (by decide) rfl (fun ls hl => ?_)
  refine lv_iconst (v := 0) hx hb dX10_inState_2 (by decide) ?_
  refine lv_istore_n (lv' := [(3, .int 0), (2, .int 0), (0, .ref (b + adC 13 a0)), (1, .int a1)]) hx hb dX10_inState_3 rfl hl (by decide) rfl (fun ls hl => ?_)
  exact Bw_X10_inState_4 C0 hr hlk hT fuel a0 a1 0 0 S _ _ _ av0 h hR hS (lv_sub hl [2, 3, 1, 0] rfl)

def rm_X10_endDone : Room := { frames := 0, cells := 0, slots := 0, locals := 0 }
def B_X10_endDone_41 (kk2 : Nat → Int32 → Int32 → sSt → Prop) (a0 : Nat) (a1 : Int32) (a2 : Int32) (S : sSt) (k : sSt → Prop) : Prop := ∀ x7 : Int32, x7 = a2 + 1 → kk2 a0 a1 x7 S
set_option maxHeartbeats 4000000 in
set_option maxRecDepth 100000 in
theorem Bw_X10_endDone_41 {p : Program} {l : Launch} {e : Env} {s : State} {m : MethodId} {args : Array Value} {below : List Frame} {meth : Method} {c : Code} {D : va_G} {cy : Nat → ClassId} {b z : Nat} {tx : TX} (C0 : CallFix p m c cX10_endDone 4 s args TB RX10) (hr : meth.sig.returnType = none) (hlk : meth.locks = false) (hT : TxR tx s) {k : sSt → Prop} {kk2 : Nat → Int32 → Int32 → sSt → Prop} (ih2 : ∀ (a0 : Nat) (a1 : Int32) (a2 : Int32) (S : sSt) (H : Heap) (locs : List Loc) (ls : Array Slot) (av0 : a0 < 3), kk2 a0 a1 a2 S → RelC D cy b z tx S s H → va_S (gA b 709 z) s.heap H locs → lv_has ls 4 [(0, .ref (b + adC 13 a0)), (1, .int a1), (2, .int a2)] → W p l e rm_X10_endDone s m args below meth c H locs 0 0 (MQ below (PvC D cy b z tx k) args s 0 0 (gA b 709 z)) (F0 m 2 ls [])) : ∀ (a0 : Nat) (a1 : Int32) (a2 : Int32) (S : sSt) (H : Heap) (locs : List Loc) (ls : Array Slot) (av0 : a0 < 3), B_X10_endDone_41 kk2 a0 a1 a2 S k → RelC D cy b z tx S s H → va_S (gA b 709 z) s.heap H locs → lv_has ls 4 [(0, .ref (b + adC 13 a0)), (1, .int a1), (2, .int a2)] → W p l e rm_X10_endDone s m args below meth c H locs 0 0 (MQ below (PvC D cy b z tx k) args s 0 0 (gA b 709 z)) (F0 m 41 ls []) := by
  intro a0 a1 a2 S H locs ls av0 h hR hS hl
  have hx := C0.1
  have hb := C0.2.1
  unfold B_X10_endDone_41 at h
  obtain ⟨x7, ex7⟩ : ∃ x7 : Int32, x7 = a2 + 1 := ⟨_, rfl⟩
  have h := h x7 ex7
  refine w_iinc (v0 := 1) (lv' := [(2, .int x7), (0, .ref (b + adC 13 a0)), (1, .int a1)]) C0 dX10_endDone_41 hl (k := 2) rfl (by decide) (by decide) x7 ex7 rfl (fun ls hl => ?_)
  refine lv_goto (tgt := 2) hx hb dX10_endDone_44 (by decide) ?_
  exact ih2 a0 a1 x7 S _ _ _ av0 h hR hS (lv_sub hl [1, 2, 0] rfl)
def Bb_X10_endDone_2 (kk2 : Nat → Int32 → Int32 → sSt → Prop) (a0 : Nat) (a1 : Int32) (a2 : Int32) (S : sSt) (k : sSt → Prop) : Prop := (((S.1 13 a0 6) ≤ a2 → k S) ∧ (¬ (S.1 13 a0 6) ≤ a2 → ix a2 24 (fun j3 => ((¬ (S.1 22 (6 * (S.2 14 a0 j3)) 0) = 1 → B_X10_endDone_41 kk2 a0 a1 a2 S k) ∧ ((S.1 22 (6 * (S.2 14 a0 j3)) 0) = 1 → ((a1 < (S.1 22 (6 * (S.2 14 a0 j3)) 7) → B_X10_endDone_41 kk2 a0 a1 a2 S k) ∧ (¬ a1 < (S.1 22 (6 * (S.2 14 a0 j3)) 7) → ∀ S9, S9 = uI S 22 (6 * (S.2 14 a0 j3)) 0 2 → B_X10_endDone_41 kk2 a0 a1 a2 S9 k)))))))
set_option maxHeartbeats 4000000 in
set_option maxRecDepth 100000 in
theorem Bbw_X10_endDone_2 {p : Program} {l : Launch} {e : Env} {s : State} {m : MethodId} {args : Array Value} {below : List Frame} {meth : Method} {c : Code} {D : va_G} {cy : Nat → ClassId} {b z : Nat} {tx : TX} (C0 : CallFix p m c cX10_endDone 4 s args TB RX10) (hr : meth.sig.returnType = none) (hlk : meth.locks = false) (hT : TxR tx s) {k : sSt → Prop} {kk2 : Nat → Int32 → Int32 → sSt → Prop} (ih2 : ∀ (a0 : Nat) (a1 : Int32) (a2 : Int32) (S : sSt) (H : Heap) (locs : List Loc) (ls : Array Slot) (av0 : a0 < 3), kk2 a0 a1 a2 S → RelC D cy b z tx S s H → va_S (gA b 709 z) s.heap H locs → lv_has ls 4 [(0, .ref (b + adC 13 a0)), (1, .int a1), (2, .int a2)] → W p l e rm_X10_endDone s m args below meth c H locs 0 0 (MQ below (PvC D cy b z tx k) args s 0 0 (gA b 709 z)) (F0 m 2 ls [])) : ∀ (a0 : Nat) (a1 : Int32) (a2 : Int32) (S : sSt) (H : Heap) (locs : List Loc) (ls : Array Slot) (av0 : a0 < 3), Bb_X10_endDone_2 kk2 a0 a1 a2 S k → RelC D cy b z tx S s H → va_S (gA b 709 z) s.heap H locs → lv_has ls 4 [(0, .ref (b + adC 13 a0)), (1, .int a1), (2, .int a2)] → W p l e rm_X10_endDone s m args below meth c H locs 0 0 (MQ below (PvC D cy b z tx k) args s 0 0 (gA b 709 z)) (F0 m 2 ls []) := by
  intro a0 a1 a2 S H locs ls av0 h hR hS hl
  have hx := C0.1
  have hb := C0.2.1
  unfold Bb_X10_endDone_2 at h
  refine lv_iload_n hx hb dX10_endDone_2 rfl (lv_at hl 2 rfl) ?_
  refine lv_aload_n hx hb dX10_endDone_3 rfl (lv_at hl 0 rfl) ?_
  refine gCn_13_6 C0 hR av0 tbs_wsX60 mC8_2_149 hT dX10_endDone_4 ?_
  refine lv_icmp_ge (tgt := 47) hx hb dX10_endDone_7 (by decide) (fun c1 => ?_) (fun c1 => ?_)
  · have h := h.1 c1
    exact rtC_v C0 hr hlk hR hS h dX10_endDone_47
  · have h := h.2 c1
    refine lv_aload_n hx hb dX10_endDone_10 rfl (lv_at hl 0 rfl) ?_
    refine gCn_13_0 C0 hR av0 tbs_wsX60 mC8_2_128 hT dX10_endDone_11 ?_
    have w2 : a0 < 3 := by omega
    refine lv_iload_n hx hb dX10_endDone_14 rfl (lv_at hl 2 rfl) ?_
    obtain ⟨j3, hj3, ej3, h⟩ := h
    refine lC_14 C0 hR w2 hj3 ej3 dX10_endDone_15 ?_
    have w4 : (S.2 14 a0 j3) < 72 := hR.2.1.1 _ _ w2 hj3
    refine gCn_21_0 C0 hR w4 tbs_wsX10 mC8_1_211 hT dX10_endDone_16 ?_
    have w5 : (6 * (S.2 14 a0 j3)) < 432 := by omega
    refine lv_astore_n (lv' := [(3, .ref (b + adC 22 (6 * (S.2 14 a0 j3)))), (0, .ref (b + adC 13 a0)), (1, .int a1), (2, .int a2)]) hx hb dX10_endDone_19 rfl hl (by decide) rfl (fun ls hl => ?_)
    refine lv_aload_n hx hb dX10_endDone_20 rfl (lv_at hl 0 rfl) ?_
    refine gCn_22_0 C0 hR w5 tbs_wsX90 mC8_1_159 hT dX10_endDone_21 ?_
    refine lv_iconst (v := 1) hx hb dX10_endDone_24 (by decide) ?_
    refine lv_icmp_ne (tgt := 41) hx hb dX10_endDone_25 (by decide) (fun c6 => ?_) (fun c6 => ?_)
    · have h := h.1 c6
      exact Bw_X10_endDone_41 C0 hr hlk hT ih2 a0 a1 a2 S _ _ _ av0 h hR hS (lv_sub hl [1, 2, 3] rfl)
    · have h := h.2 c6
      refine lv_aload_n hx hb dX10_endDone_28 rfl (lv_at hl 0 rfl) ?_
      refine gCn_22_7 C0 hR w5 tbs_wsX90 mC8_1_188 hT dX10_endDone_29 ?_
      refine lv_iload_n hx hb dX10_endDone_32 rfl (lv_at hl 2 rfl) ?_
      refine lv_icmp_gt (tgt := 41) hx hb dX10_endDone_33 (by decide) (fun c8 => ?_) (fun c8 => ?_)
      · have h := h.1 c8
        exact Bw_X10_endDone_41 C0 hr hlk hT ih2 a0 a1 a2 S _ _ _ av0 h hR hS (lv_sub hl [1, 2, 3] rfl)
      · have h := h.2 c8
        refine lv_aload_n hx hb dX10_endDone_36 rfl (lv_at hl 0 rfl) ?_
        refine lv_iconst (v := 2) hx hb dX10_endDone_37 (by decide) ?_
        refine pCn_22_0 C0 hR hS w5 tbs_wsX90 mC8_1_159 hT dX10_endDone_38 (fun S9 eS9 H locs hR hS => ?_)
        have h := h S9 eS9
        exact Bw_X10_endDone_41 C0 hr hlk hT ih2 a0 a1 a2 S9 _ _ _ av0 h hR hS (lv_sub hl [1, 2, 3] rfl)
def B_X10_endDone_2 (n9 : Nat) (a0 : Nat) (a1 : Int32) (a2 : Int32) (S : sSt) (k : sSt → Prop) : Prop := (Nat.rec (motive := fun _ => Nat → Int32 → Int32 → sSt → Prop) (fun _ _ _ _ => False) (fun _ r9 => fun a0 a1 a2 S => Bb_X10_endDone_2 r9 a0 a1 a2 S k) n9 : Nat → Int32 → Int32 → sSt → Prop) a0 a1 a2 S
theorem B_X10_endDone_2_s (n9 : Nat) (a0 : Nat) (a1 : Int32) (a2 : Int32) (S : sSt) (k : sSt → Prop) : B_X10_endDone_2 (n9 + 1) a0 a1 a2 S k = Bb_X10_endDone_2 (fun a0 a1 a2 S => B_X10_endDone_2 n9 a0 a1 a2 S k) a0 a1 a2 S k := rfl
set_option maxHeartbeats 4000000 in
set_option maxRecDepth 100000 in
theorem Bw_X10_endDone_2 {p : Program} {l : Launch} {e : Env} {s : State} {m : MethodId} {args : Array Value} {below : List Frame} {meth : Method} {c : Code} {D : va_G} {cy : Nat → ClassId} {b z : Nat} {tx : TX} (C0 : CallFix p m c cX10_endDone 4 s args TB RX10) (hr : meth.sig.returnType = none) (hlk : meth.locks = false) (hT : TxR tx s) {k : sSt → Prop} : ∀ (n9 : Nat), ∀ (a0 : Nat) (a1 : Int32) (a2 : Int32) (S : sSt) (H : Heap) (locs : List Loc) (ls : Array Slot) (av0 : a0 < 3), B_X10_endDone_2 n9 a0 a1 a2 S k → RelC D cy b z tx S s H → va_S (gA b 709 z) s.heap H locs → lv_has ls 4 [(0, .ref (b + adC 13 a0)), (1, .int a1), (2, .int a2)] → W p l e rm_X10_endDone s m args below meth c H locs 0 0 (MQ below (PvC D cy b z tx k) args s 0 0 (gA b 709 z)) (F0 m 2 ls []) := by
  intro n9
  induction n9 with
  | zero => intro a0 a1 a2 S H locs ls av0 h; exact h.elim
  | succ n9 ih =>
    intro a0 a1 a2 S H locs ls av0 h hR hS hl
    exact Bbw_X10_endDone_2 C0 hr hlk hT ih a0 a1 a2 S H locs ls av0 h hR hS hl
def F_X10_endDone (a0 : Nat) (a1 : Int32) (S : sSt) (k : sSt → Prop) : Prop := B_X10_endDone_2 fuel a0 a1 0 S k
set_option maxHeartbeats 4000000 in
set_option maxRecDepth 100000 in
theorem c_X10_endDone (l : Launch) {D : va_G} {cy : Nat → ClassId} {b z : Nat} {tx : TX} {a0 : Nat} {a1 : Int32} {S : sSt} {k : sSt → Prop} (av0 : a0 < 3) (h : F_X10_endDone a0 a1 S k) : Met l yX10_endDone (Cond.code yX10_endDone cX10_endDone 4 none :: TB) rm_X10_endDone (va_Pc [.ref (b + adC 13 a0), .int a1] (fun U => RelC D cy b z tx S U U.heap ∧ TxR tx U)) (PvC D cy b z tx k) 0 0 (gA b 709 z) := by
  refine Met.ofW (cc := cX10_endDone) (maxL := 4) (ret := none) (by decide) rfl ?_
  intro p e s m args below meth c s₁ B hml hv
  obtain ⟨rfl, hR, hT⟩ := hv
  have C0 : CallFix p m c cX10_endDone 4 s _ TB RX10 := ⟨B.exec, B.bytes, hml, findClass_of_methodNamed B.named, fun w hw => atoms_spec B.pre w (List.mem_cons_of_mem _ hw)⟩
  have hr := B.returns
  have hlk := B.notSynchronized
  have hx := C0.1
  have hb := C0.2.1
  have hS : va_S (gA b 709 z) s.heap s.heap [] := va_S.rf
  have hl := lv_entry ([.ref (b + adC 13 a0), .int a1]) (n := 4) (Nat.le_of_ble_eq_true rfl)
  rw [lg_entry_eq]
  generalize (lg_sl ([.ref (b + adC 13 a0), .int a1]) ++ List.replicate (4 - (lg_sl ([.ref (b + adC 13 a0), .int a1])).length) Slot.unset).toArray = ls at hl ⊢
  have hl : lv_has ls 4 [(0, .ref (b + adC 13 a0)), (1, .int a1)] := hl
  show W p l e rm_X10_endDone s m _ below meth c s.heap [] 0 0 (MQ below (PvC D cy b z tx k) _ s 0 0 (gA b 709 z)) _
  unfold F_X10_endDone at h
  refine lv_iconst (v := 0) hx hb dX10_endDone_0 (by decide) ?_
  refine lv_istore_n (lv' := [(2, .int 0), (0, .ref (b + adC 13 a0)), (1, .int a1)]) hx hb dX10_endDone_1 rfl hl (by decide) rfl (fun ls hl => ?_)
  exact Bw_X10_endDone_2 C0 hr hlk hT fuel a0 a1 0 S _ _ _ av0 h hR hS (lv_sub hl [1, 2, 0] rfl)

def rm_X10_isGroupReady : Room := { frames := 0, cells := 0, slots := 0, locals := 0 }
def B_X10_isGroupReady_77 (kk4 : Nat → Nat → Int32 → Int32 → sSt → Prop) (a0 : Nat) (a1 : Nat) (a2 : Int32) (a3 : Int32) (S : sSt) (k : Int32 → sSt → Prop) : Prop := ∀ x9 : Int32, x9 = a3 + 1 → kk4 a0 a1 a2 x9 S
set_option maxHeartbeats 4000000 in
set_option maxRecDepth 100000 in
theorem Bw_X10_isGroupReady_77 {p : Program} {l : Launch} {e : Env} {s : State} {m : MethodId} {args : Array Value} {below : List Frame} {meth : Method} {c : Code} {D : va_G} {cy : Nat → ClassId} {b z : Nat} {tx : TX} (C0 : CallFix p m c cX10_isGroupReady 5 s args TB RX10) (hr : meth.sig.returnType = (some .boolean)) (hlk : meth.locks = false) (hT : TxR tx s) {k : Int32 → sSt → Prop} {kk4 : Nat → Nat → Int32 → Int32 → sSt → Prop} (ih4 : ∀ (a0 : Nat) (a1 : Nat) (a2 : Int32) (a3 : Int32) (S : sSt) (H : Heap) (locs : List Loc) (ls : Array Slot) (av0 : a0 < 3) (av1 : a1 < 72), kk4 a0 a1 a2 a3 S → RelC D cy b z tx S s H → va_S (gA b 709 z) s.heap H locs → lv_has ls 5 [(0, .ref (b + adC 13 a0)), (1, .ref (b + adC 21 a1)), (2, .int a2), (3, .int a3)] → W p l e rm_X10_isGroupReady s m args below meth c H locs 0 0 (MQ below (PiC D cy b z tx k) args s 0 0 (gA b 709 z)) (F0 m 4 ls [])) : ∀ (a0 : Nat) (a1 : Nat) (a2 : Int32) (a3 : Int32) (S : sSt) (H : Heap) (locs : List Loc) (ls : Array Slot) (av0 : a0 < 3) (av1 : a1 < 72), B_X10_isGroupReady_77 kk4 a0 a1 a2 a3 S k → RelC D cy b z tx S s H → va_S (gA b 709 z) s.heap H locs → lv_has ls 5 [(0, .ref (b + adC 13 a0)), (1, .ref (b + adC 21 a1)), (2, .int a2), (3, .int a3)] → W p l e rm_X10_isGroupReady s m args below meth c H locs 0 0 (MQ below (PiC D cy b z tx k) args s 0 0 (gA b 709 z)) (F0 m 77 ls []) := by
  intro a0 a1 a2 a3 S H locs ls av0 av1 h hR hS hl
  have hx := C0.1
  have hb := C0.2.1
  unfold B_X10_isGroupReady_77 at h
  obtain ⟨x9, ex9⟩ : ∃ x9 : Int32, x9 = a3 + 1 := ⟨_, rfl⟩
  have h := h x9 ex9
  refine w_iinc (v0 := 1) (lv' := [(3, .int x9), (0, .ref (b + adC 13 a0)), (1, .ref (b + adC 21 a1)), (2, .int a2)]) C0 dX10_isGroupReady_77 hl (k := 3) rfl (by decide) (by decide) x9 ex9 rfl (fun ls hl => ?_)
  refine lv_goto (tgt := 4) hx hb dX10_isGroupReady_80 (by decide) ?_
  exact ih4 a0 a1 a2 x9 S _ _ _ av0 av1 h hR hS (lv_sub hl [1, 2, 3, 0] rfl)
def B_X10_isGroupReady_75 (kk4 : Nat → Nat → Int32 → Int32 → sSt → Prop) (a0 : Nat) (a1 : Nat) (a3 : Int32) (t0 : Int32) (t1 : Int32) (S : sSt) (k : Int32 → sSt → Prop) : Prop := ∀ x13 : Int32, x13 = (t0 + t1) → B_X10_isGroupReady_77 kk4 a0 a1 x13 a3 S k
set_option maxHeartbeats 4000000 in
set_option maxRecDepth 100000 in
theorem Bw_X10_isGroupReady_75 {p : Program} {l : Launch} {e : Env} {s : State} {m : MethodId} {args : Array Value} {below : List Frame} {meth : Method} {c : Code} {D : va_G} {cy : Nat → ClassId} {b z : Nat} {tx : TX} (C0 : CallFix p m c cX10_isGroupReady 5 s args TB RX10) (hr : meth.sig.returnType = (some .boolean)) (hlk : meth.locks = false) (hT : TxR tx s) {k : Int32 → sSt → Prop} {kk4 : Nat → Nat → Int32 → Int32 → sSt → Prop} (ih4 : ∀ (a0 : Nat) (a1 : Nat) (a2 : Int32) (a3 : Int32) (S : sSt) (H : Heap) (locs : List Loc) (ls : Array Slot) (av0 : a0 < 3) (av1 : a1 < 72), kk4 a0 a1 a2 a3 S → RelC D cy b z tx S s H → va_S (gA b 709 z) s.heap H locs → lv_has ls 5 [(0, .ref (b + adC 13 a0)), (1, .ref (b + adC 21 a1)), (2, .int a2), (3, .int a3)] → W p l e rm_X10_isGroupReady s m args below meth c H locs 0 0 (MQ below (PiC D cy b z tx k) args s 0 0 (gA b 709 z)) (F0 m 4 ls [])) : ∀ (a0 : Nat) (a1 : Nat) (a3 : Int32) (t0 : Int32) (t1 : Int32) (S : sSt) (H : Heap) (locs : List Loc) (ls : Array Slot) (av0 : a0 < 3) (av1 : a1 < 72), B_X10_isGroupReady_75 kk4 a0 a1 a3 t0 t1 S k → RelC D cy b z tx S s H → va_S (gA b 709 z) s.heap H locs → lv_has ls 5 [(0, .ref (b + adC 13 a0)), (1, .ref (b + adC 21 a1)), (3, .int a3)] → W p l e rm_X10_isGroupReady s m args below meth c H locs 0 0 (MQ below (PiC D cy b z tx k) args s 0 0 (gA b 709 z)) (F0 m 75 ls [.int t1, .int t0]) := by
  intro a0 a1 a3 t0 t1 S H locs ls av0 av1 h hR hS hl
  have hx := C0.1
  have hb := C0.2.1
  unfold B_X10_isGroupReady_75 at h
  refine lv_iadd hx hb dX10_isGroupReady_75 ?_
  refine lv_topi (fun x13 ex13 => ?_)
  have h := h x13 ex13
  refine lv_istore_n (lv' := [(2, .int x13), (0, .ref (b + adC 13 a0)), (1, .ref (b + adC 21 a1)), (3, .int a3)]) hx hb dX10_isGroupReady_76 rfl hl (by decide) rfl (fun ls hl => ?_)
  exact Bw_X10_isGroupReady_77 C0 hr hlk hT ih4 a0 a1 x13 a3 S _ _ _ av0 av1 h hR hS (lv_sub hl [1, 2, 0, 3] rfl)
def B_X10_isGroupReady_57 (kk4 : Nat → Nat → Int32 → Int32 → sSt → Prop) (a0 : Nat) (a1 : Nat) (a2 : Int32) (a3 : Int32) (a4 : Nat) (S : sSt) (k : Int32 → sSt → Prop) : Prop := ((¬ (S.1 22 (6 * a4) 0) = 1 → B_X10_isGroupReady_75 kk4 a0 a1 a3 a2 0 S k) ∧ ((S.1 22 (6 * a4) 0) = 1 → B_X10_isGroupReady_75 kk4 a0 a1 a3 a2 1 S k))
set_option maxHeartbeats 4000000 in
set_option maxRecDepth 100000 in
theorem Bw_X10_isGroupReady_57 {p : Program} {l : Launch} {e : Env} {s : State} {m : MethodId} {args : Array Value} {below : List Frame} {meth : Method} {c : Code} {D : va_G} {cy : Nat → ClassId} {b z : Nat} {tx : TX} (C0 : CallFix p m c cX10_isGroupReady 5 s args TB RX10) (hr : meth.sig.returnType = (some .boolean)) (hlk : meth.locks = false) (hT : TxR tx s) {k : Int32 → sSt → Prop} {kk4 : Nat → Nat → Int32 → Int32 → sSt → Prop} (ih4 : ∀ (a0 : Nat) (a1 : Nat) (a2 : Int32) (a3 : Int32) (S : sSt) (H : Heap) (locs : List Loc) (ls : Array Slot) (av0 : a0 < 3) (av1 : a1 < 72), kk4 a0 a1 a2 a3 S → RelC D cy b z tx S s H → va_S (gA b 709 z) s.heap H locs → lv_has ls 5 [(0, .ref (b + adC 13 a0)), (1, .ref (b + adC 21 a1)), (2, .int a2), (3, .int a3)] → W p l e rm_X10_isGroupReady s m args below meth c H locs 0 0 (MQ below (PiC D cy b z tx k) args s 0 0 (gA b 709 z)) (F0 m 4 ls [])) : ∀ (a0 : Nat) (a1 : Nat) (a2 : Int32) (a3 : Int32) (a4 : Nat) (S : sSt) (H : Heap) (locs : List Loc) (ls : Array Slot) (av0 : a0 < 3) (av1 : a1 < 72) (av4 : a4 < 72), B_X10_isGroupReady_57 kk4 a0 a1 a2 a3 a4 S k → RelC D cy b z tx S s H → va_S (gA b 709 z) s.heap H locs → lv_has ls 5 [(0, .ref (b + adC 13 a0)), (1, .ref (b + adC 21 a1)), (2, .int a2), (3, .int a3), (4, .ref (b + adC 21 a4))] → W p l e rm_X10_isGroupReady s m args below meth c H locs 0 0 (MQ below (PiC D cy b z tx k) args s 0 0 (gA b 709 z)) (F0 m 57 ls []) := by
  intro a0 a1 a2 a3 a4 S H locs ls av0 av1 av4 h hR hS hl
  have hx := C0.1
  have hb := C0.2.1
  unfold B_X10_isGroupReady_57 at h
  refine lv_iload_n hx hb dX10_isGroupReady_57 rfl (lv_at hl 2 rfl) ?_
  refine lv_aload hx hb dX10_isGroupReady_58 (lv_at hl 4 rfl) ?_
  refine gCn_21_0 C0 hR av4 tbs_wsX10 mC8_1_211 hT dX10_isGroupReady_60 ?_
  have w11 : (6 * a4) < 432 := by omega
  refine gCn_22_0 C0 hR w11 tbs_wsX90 mC8_1_159 hT dX10_isGroupReady_63 ?_
  refine lv_iconst (v := 1) hx hb dX10_isGroupReady_66 (by decide) ?_
  refine lv_icmp_ne (tgt := 74) hx hb dX10_isGroupReady_67 (by decide) (fun c12 => ?_) (fun c12 => ?_)
  · have h := h.1 c12
    refine lv_iconst (v := 0) hx hb dX10_isGroupReady_74 (by decide) ?_
    exact Bw_X10_isGroupReady_75 C0 hr hlk hT ih4 a0 a1 a3 a2 0 S _ _ _ av0 av1 h hR hS (lv_sub hl [0, 1, 3] rfl)
  · have h := h.2 c12
    refine lv_iconst (v := 1) hx hb dX10_isGroupReady_70 (by decide) ?_
    refine lv_goto (tgt := 75) hx hb dX10_isGroupReady_71 (by decide) ?_
    exact Bw_X10_isGroupReady_75 C0 hr hlk hT ih4 a0 a1 a3 a2 1 S _ _ _ av0 av1 h hR hS (lv_sub hl [0, 1, 3] rfl)
def Bb_X10_isGroupReady_4 (kk4 : Nat → Nat → Int32 → Int32 → sSt → Prop) (a0 : Nat) (a1 : Nat) (a2 : Int32) (a3 : Int32) (S : sSt) (k : Int32 → sSt → Prop) : Prop := (((S.1 13 a0 6) ≤ a3 → ix (S.1 21 a1 7) 6 (fun j3 => (((S.1 17 a0 j3) ≤ a2 → k 0 S) ∧ (¬ (S.1 17 a0 j3) ≤ a2 → k 1 S)))) ∧ (¬ (S.1 13 a0 6) ≤ a3 → ix a3 24 (fun j6 => ((¬ (S.1 21 (S.2 14 a0 j6) 7) = (S.1 21 a1 7) → B_X10_isGroupReady_77 kk4 a0 a1 a2 a3 S k) ∧ ((S.1 21 (S.2 14 a0 j6) 7) = (S.1 21 a1 7) → (((S.1 21 a1 6) ≤ (S.1 21 (S.2 14 a0 j6) 6) → B_X10_isGroupReady_57 kk4 a0 a1 a2 a3 (S.2 14 a0 j6) S k) ∧ (¬ (S.1 21 a1 6) ≤ (S.1 21 (S.2 14 a0 j6) 6) → ((¬ (S.1 22 (6 * (S.2 14 a0 j6)) 0) = 0 → B_X10_isGroupReady_57 kk4 a0 a1 a2 a3 (S.2 14 a0 j6) S k) ∧ ((S.1 22 (6 * (S.2 14 a0 j6)) 0) = 0 → k 0 S)))))))))
set_option maxHeartbeats 4000000 in
set_option maxRecDepth 100000 in
theorem Bbw_X10_isGroupReady_4 {p : Program} {l : Launch} {e : Env} {s : State} {m : MethodId} {args : Array Value} {below : List Frame} {meth : Method} {c : Code} {D : va_G} {cy : Nat → ClassId} {b z : Nat} {tx : TX} (C0 : CallFix p m c cX10_isGroupReady 5 s args TB RX10) (hr : meth.sig.returnType = (some .boolean)) (hlk : meth.locks = false) (hT : TxR tx s) {k : Int32 → sSt → Prop} {kk4 : Nat → Nat → Int32 → Int32 → sSt → Prop} (ih4 : ∀ (a0 : Nat) (a1 : Nat) (a2 : Int32) (a3 : Int32) (S : sSt) (H : Heap) (locs : List Loc) (ls : Array Slot) (av0 : a0 < 3) (av1 : a1 < 72), kk4 a0 a1 a2 a3 S → RelC D cy b z tx S s H → va_S (gA b 709 z) s.heap H locs → lv_has ls 5 [(0, .ref (b + adC 13 a0)), (1, .ref (b + adC 21 a1)), (2, .int a2), (3, .int a3)] → W p l e rm_X10_isGroupReady s m args below meth c H locs 0 0 (MQ below (PiC D cy b z tx k) args s 0 0 (gA b 709 z)) (F0 m 4 ls [])) : ∀ (a0 : Nat) (a1 : Nat) (a2 : Int32) (a3 : Int32) (S : sSt) (H : Heap) (locs : List Loc) (ls : Array Slot) (av0 : a0 < 3) (av1 : a1 < 72), Bb_X10_isGroupReady_4 kk4 a0 a1 a2 a3 S k → RelC D cy b z tx S s H → va_S (gA b 709 z) s.heap H locs → lv_has ls 5 [(0, .ref (b + adC 13 a0)), (1, .ref (b + adC 21 a1)), (2, .int a2), (3, .int a3)] → W p l e rm_X10_isGroupReady s m args below meth c H locs 0 0 (MQ below (PiC D cy b z tx k) args s 0 0 (gA b 709 z)) (F0 m 4 ls []) := by
  intro a0 a1 a2 a3 S H locs ls av0 av1 h hR hS hl
  have hx := C0.1
  have hb := C0.2.1
  unfold Bb_X10_isGroupReady_4 at h
  refine lv_iload_n hx hb dX10_isGroupReady_4 rfl (lv_at hl 3 rfl) ?_
  refine lv_aload_n hx hb dX10_isGroupReady_5 rfl (lv_at hl 0 rfl) ?_
  refine gCn_13_6 C0 hR av0 tbs_wsX60 mC8_2_149 hT dX10_isGroupReady_6 ?_
  refine lv_icmp_ge (tgt := 83) hx hb dX10_isGroupReady_9 (by decide) (fun c1 => ?_) (fun c1 => ?_)
  · have h := h.1 c1
    refine lv_iload_n hx hb dX10_isGroupReady_83 rfl (lv_at hl 2 rfl) ?_
    refine lv_aload_n hx hb dX10_isGroupReady_84 rfl (lv_at hl 0 rfl) ?_
    refine gCn_13_3 C0 hR av0 tbs_wsX60 mC8_2_139 hT dX10_isGroupReady_85 ?_
    have w2 : a0 < 3 := by omega
    refine lv_aload_n hx hb dX10_isGroupReady_88 rfl (lv_at hl 1 rfl) ?_
    refine gCn_21_7 C0 hR av1 tbs_wsX10 mC8_1_236 hT dX10_isGroupReady_89 ?_
    obtain ⟨j3, hj3, ej3, h⟩ := h
    refine lC_17 C0 hR w2 hj3 ej3 dX10_isGroupReady_92 ?_
    refine lv_icmp_ge (tgt := 100) hx hb dX10_isGroupReady_93 (by decide) (fun c4 => ?_) (fun c4 => ?_)
    · have h := h.1 c4
      refine lv_iconst (v := 0) hx hb dX10_isGroupReady_100 (by decide) ?_
      exact rtC_z C0 hr hlk hR hS (by decide) h dX10_isGroupReady_101
    · have h := h.2 c4
      refine lv_iconst (v := 1) hx hb dX10_isGroupReady_96 (by decide) ?_
      refine lv_goto (tgt := 101) hx hb dX10_isGroupReady_97 (by decide) ?_
      exact rtC_z C0 hr hlk hR hS (by decide) h dX10_isGroupReady_101
  · have h := h.2 c1
    refine lv_aload_n hx hb dX10_isGroupReady_12 rfl (lv_at hl 0 rfl) ?_
    refine gCn_13_0 C0 hR av0 tbs_wsX60 mC8_2_128 hT dX10_isGroupReady_13 ?_
    have w5 : a0 < 3 := by omega
    refine lv_iload_n hx hb dX10_isGroupReady_16 rfl (lv_at hl 3 rfl) ?_
    obtain ⟨j6, hj6, ej6, h⟩ := h
    refine lC_14 C0 hR w5 hj6 ej6 dX10_isGroupReady_17 ?_
    have w7 : (S.2 14 a0 j6) < 72 := hR.2.1.1 _ _ w5 hj6
    refine lv_astore (lv' := [(4, .ref (b + adC 21 (S.2 14 a0 j6))), (0, .ref (b + adC 13 a0)), (1, .ref (b + adC 21 a1)), (2, .int a2), (3, .int a3)]) hx hb dX10_isGroupReady_18 hl (by decide) rfl (fun ls hl => ?_)
    refine lv_aload hx hb dX10_isGroupReady_20 (lv_at hl 0 rfl) ?_
    refine gCn_21_7 C0 hR w7 tbs_wsX10 mC8_1_236 hT dX10_isGroupReady_22 ?_
    refine lv_aload_n hx hb dX10_isGroupReady_25 rfl (lv_at hl 2 rfl) ?_
    refine gCn_21_7 C0 hR av1 tbs_wsX10 mC8_1_236 hT dX10_isGroupReady_26 ?_
    refine lv_icmp_ne (tgt := 77) hx hb dX10_isGroupReady_29 (by decide) (fun c8 => ?_) (fun c8 => ?_)
    · have h := h.1 c8
      exact Bw_X10_isGroupReady_77 C0 hr hlk hT ih4 a0 a1 a2 a3 S _ _ _ av0 av1 h hR hS (lv_sub hl [1, 2, 3, 4] rfl)
    · have h := h.2 c8
      refine lv_aload hx hb dX10_isGroupReady_32 (lv_at hl 0 rfl) ?_
      refine gCn_21_6 C0 hR w7 tbs_wsX10 mC8_1_227 hT dX10_isGroupReady_34 ?_
      refine lv_aload_n hx hb dX10_isGroupReady_37 rfl (lv_at hl 2 rfl) ?_
      refine gCn_21_6 C0 hR av1 tbs_wsX10 mC8_1_227 hT dX10_isGroupReady_38 ?_
      refine lv_icmp_ge (tgt := 57) hx hb dX10_isGroupReady_41 (by decide) (fun c10 => ?_) (fun c10 => ?_)
      · have h := h.1 c10
        exact Bw_X10_isGroupReady_57 C0 hr hlk hT ih4 a0 a1 a2 a3 (S.2 14 a0 j6) S _ _ _ av0 av1 w7 h hR hS (lv_sub hl [1, 2, 3, 4, 0] rfl)
      · have h := h.2 c10
        refine lv_aload hx hb dX10_isGroupReady_44 (lv_at hl 0 rfl) ?_
        refine gCn_21_0 C0 hR w7 tbs_wsX10 mC8_1_211 hT dX10_isGroupReady_46 ?_
        have w14 : (6 * (S.2 14 a0 j6)) < 432 := by omega
        refine gCn_22_0 C0 hR w14 tbs_wsX90 mC8_1_159 hT dX10_isGroupReady_49 ?_
        refine lv_if_ne (tgt := 57) hx hb dX10_isGroupReady_52 (by decide) (fun c15 => ?_) (fun c15 => ?_)
        · have h := h.1 c15
          exact Bw_X10_isGroupReady_57 C0 hr hlk hT ih4 a0 a1 a2 a3 (S.2 14 a0 j6) S _ _ _ av0 av1 w7 h hR hS (lv_sub hl [1, 2, 3, 4, 0] rfl)
        · have h := h.2 c15
          refine lv_iconst (v := 0) hx hb dX10_isGroupReady_55 (by decide) ?_
          exact rtC_z C0 hr hlk hR hS (by decide) h dX10_isGroupReady_56
def B_X10_isGroupReady_4 (n9 : Nat) (a0 : Nat) (a1 : Nat) (a2 : Int32) (a3 : Int32) (S : sSt) (k : Int32 → sSt → Prop) : Prop := (Nat.rec (motive := fun _ => Nat → Nat → Int32 → Int32 → sSt → Prop) (fun _ _ _ _ _ => False) (fun _ r9 => fun a0 a1 a2 a3 S => Bb_X10_isGroupReady_4 r9 a0 a1 a2 a3 S k) n9 : Nat → Nat → Int32 → Int32 → sSt → Prop) a0 a1 a2 a3 S
theorem B_X10_isGroupReady_4_s (n9 : Nat) (a0 : Nat) (a1 : Nat) (a2 : Int32) (a3 : Int32) (S : sSt) (k : Int32 → sSt → Prop) : B_X10_isGroupReady_4 (n9 + 1) a0 a1 a2 a3 S k = Bb_X10_isGroupReady_4 (fun a0 a1 a2 a3 S => B_X10_isGroupReady_4 n9 a0 a1 a2 a3 S k) a0 a1 a2 a3 S k := rfl
set_option maxHeartbeats 4000000 in
set_option maxRecDepth 100000 in
theorem Bw_X10_isGroupReady_4 {p : Program} {l : Launch} {e : Env} {s : State} {m : MethodId} {args : Array Value} {below : List Frame} {meth : Method} {c : Code} {D : va_G} {cy : Nat → ClassId} {b z : Nat} {tx : TX} (C0 : CallFix p m c cX10_isGroupReady 5 s args TB RX10) (hr : meth.sig.returnType = (some .boolean)) (hlk : meth.locks = false) (hT : TxR tx s) {k : Int32 → sSt → Prop} : ∀ (n9 : Nat), ∀ (a0 : Nat) (a1 : Nat) (a2 : Int32) (a3 : Int32) (S : sSt) (H : Heap) (locs : List Loc) (ls : Array Slot) (av0 : a0 < 3) (av1 : a1 < 72), B_X10_isGroupReady_4 n9 a0 a1 a2 a3 S k → RelC D cy b z tx S s H → va_S (gA b 709 z) s.heap H locs → lv_has ls 5 [(0, .ref (b + adC 13 a0)), (1, .ref (b + adC 21 a1)), (2, .int a2), (3, .int a3)] → W p l e rm_X10_isGroupReady s m args below meth c H locs 0 0 (MQ below (PiC D cy b z tx k) args s 0 0 (gA b 709 z)) (F0 m 4 ls []) := by
  intro n9
  induction n9 with
  | zero => intro a0 a1 a2 a3 S H locs ls av0 av1 h; exact h.elim
  | succ n9 ih =>
    intro a0 a1 a2 a3 S H locs ls av0 av1 h hR hS hl
    exact Bbw_X10_isGroupReady_4 C0 hr hlk hT ih a0 a1 a2 a3 S H locs ls av0 av1 h hR hS hl
def F_X10_isGroupReady (a0 : Nat) (a1 : Nat) (S : sSt) (k : Int32 → sSt → Prop) : Prop := B_X10_isGroupReady_4 fuel a0 a1 0 0 S k
set_option maxHeartbeats 4000000 in
set_option maxRecDepth 100000 in
theorem c_X10_isGroupReady (l : Launch) {D : va_G} {cy : Nat → ClassId} {b z : Nat} {tx : TX} {a0 : Nat} {a1 : Nat} {S : sSt} {k : Int32 → sSt → Prop} (av0 : a0 < 3) (av1 : a1 < 72) (h : F_X10_isGroupReady a0 a1 S k) : Met l yX10_isGroupReady (Cond.code yX10_isGroupReady cX10_isGroupReady 5 (some .boolean) :: TB) rm_X10_isGroupReady (va_Pc [.ref (b + adC 13 a0), .ref (b + adC 21 a1)] (fun U => RelC D cy b z tx S U U.heap ∧ TxR tx U)) (PiC D cy b z tx k) 0 0 (gA b 709 z) := by
  refine Met.ofW (cc := cX10_isGroupReady) (maxL := 5) (ret := (some .boolean)) (by decide) rfl ?_
  intro p e s m args below meth c s₁ B hml hv
  obtain ⟨rfl, hR, hT⟩ := hv
  have C0 : CallFix p m c cX10_isGroupReady 5 s _ TB RX10 := ⟨B.exec, B.bytes, hml, findClass_of_methodNamed B.named, fun w hw => atoms_spec B.pre w (List.mem_cons_of_mem _ hw)⟩
  have hr := B.returns
  have hlk := B.notSynchronized
  have hx := C0.1
  have hb := C0.2.1
  have hS : va_S (gA b 709 z) s.heap s.heap [] := va_S.rf
  have hl := lv_entry ([.ref (b + adC 13 a0), .ref (b + adC 21 a1)]) (n := 5) (Nat.le_of_ble_eq_true rfl)
  rw [lg_entry_eq]
  generalize (lg_sl ([.ref (b + adC 13 a0), .ref (b + adC 21 a1)]) ++ List.replicate (5 - (lg_sl ([.ref (b + adC 13 a0), .ref (b + adC 21 a1)])).length) Slot.unset).toArray = ls at hl ⊢
  have hl : lv_has ls 5 [(0, .ref (b + adC 13 a0)), (1, .ref (b + adC 21 a1))] := hl
  show W p l e rm_X10_isGroupReady s m _ below meth c s.heap [] 0 0 (MQ below (PiC D cy b z tx k) _ s 0 0 (gA b 709 z)) _
  unfold F_X10_isGroupReady at h
  refine lv_iconst (v := 0) hx hb dX10_isGroupReady_0 (by decide) ?_
  refine lv_istore_n (lv' := [(2, .int 0), (0, .ref (b + adC 13 a0)), (1, .ref (b + adC 21 a1))]) hx hb dX10_isGroupReady_1 rfl hl (by decide) rfl (fun ls hl => ?_)
  refine lv_iconst (v := 0) hx hb dX10_isGroupReady_2 (by decide) ?_
  refine lv_istore_n (lv' := [(3, .int 0), (2, .int 0), (0, .ref (b + adC 13 a0)), (1, .ref (b + adC 21 a1))]) hx hb dX10_isGroupReady_3 rfl hl (by decide) rfl (fun ls hl => ?_)
  exact Bw_X10_isGroupReady_4 C0 hr hlk hT fuel a0 a1 0 0 S _ _ _ av0 av1 h hR hS (lv_sub hl [2, 3, 1, 0] rfl)

def rm_X10_firstReady : Room := { frames := 1, cells := 0, slots := 0, locals := 24 }
def B_X10_firstReady_48 (kk2 : Nat → Int32 → Int32 → sSt → Prop) (a0 : Nat) (a1 : Int32) (a2 : Int32) (S : sSt) (k : Option Nat → sSt → Prop) : Prop := ∀ x7 : Int32, x7 = a2 + 1 → kk2 a0 a1 x7 S
set_option maxHeartbeats 4000000 in
set_option maxRecDepth 100000 in
theorem Bw_X10_firstReady_48 {p : Program} {l : Launch} {e : Env} {s : State} {m : MethodId} {args : Array Value} {below : List Frame} {meth : Method} {c : Code} {D : va_G} {cy : Nat → ClassId} {b z : Nat} {tx : TX} (C0 : CallFix p m c cX10_firstReady 4 s args TB RX10) (hr : meth.sig.returnType = (some (.object "ClaimTable$Job"))) (hlk : meth.locks = false) (hT : TxR tx s) {k : Option Nat → sSt → Prop} {kk2 : Nat → Int32 → Int32 → sSt → Prop} (ih2 : ∀ (a0 : Nat) (a1 : Int32) (a2 : Int32) (S : sSt) (H : Heap) (locs : List Loc) (ls : Array Slot) (av0 : a0 < 3), kk2 a0 a1 a2 S → RelC D cy b z tx S s H → va_S (gA b 709 z) s.heap H locs → lv_has ls 4 [(0, .ref (b + adC 13 a0)), (1, .int a1), (2, .int a2)] → W p l e rm_X10_firstReady s m args below meth c H locs 0 0 (MQ below (PqC D cy b z tx 21 72 k) args s 0 0 (gA b 709 z)) (F0 m 2 ls [])) : ∀ (a0 : Nat) (a1 : Int32) (a2 : Int32) (S : sSt) (H : Heap) (locs : List Loc) (ls : Array Slot) (av0 : a0 < 3), B_X10_firstReady_48 kk2 a0 a1 a2 S k → RelC D cy b z tx S s H → va_S (gA b 709 z) s.heap H locs → lv_has ls 4 [(0, .ref (b + adC 13 a0)), (1, .int a1), (2, .int a2)] → W p l e rm_X10_firstReady s m args below meth c H locs 0 0 (MQ below (PqC D cy b z tx 21 72 k) args s 0 0 (gA b 709 z)) (F0 m 48 ls []) := by
  intro a0 a1 a2 S H locs ls av0 h hR hS hl
  have hx := C0.1
  have hb := C0.2.1
  unfold B_X10_firstReady_48 at h
  obtain ⟨x7, ex7⟩ : ∃ x7 : Int32, x7 = a2 + 1 := ⟨_, rfl⟩
  have h := h x7 ex7
  refine w_iinc (v0 := 1) (lv' := [(2, .int x7), (0, .ref (b + adC 13 a0)), (1, .int a1)]) C0 dX10_firstReady_48 hl (k := 2) rfl (by decide) (by decide) x7 ex7 rfl (fun ls hl => ?_)
  refine lv_goto (tgt := 2) hx hb dX10_firstReady_51 (by decide) ?_
  exact ih2 a0 a1 x7 S _ _ _ av0 h hR hS (lv_sub hl [1, 2, 0] rfl)
def Bb_X10_firstReady_2 (kk2 : Nat → Int32 → Int32 → sSt → Prop) (a0 : Nat) (a1 : Int32) (a2 : Int32) (S : sSt) (k : Option Nat → sSt → Prop) : Prop := (((S.1 13 a0 6) ≤ a2 → k none S) ∧ (¬ (S.1 13 a0 6) ≤ a2 → ix a2 24 (fun j3 => ((¬ (S.1 22 (6 * (S.2 14 a0 j3)) 0) = 0 → B_X10_firstReady_48 kk2 a0 a1 a2 S k) ∧ ((S.1 22 (6 * (S.2 14 a0 j3)) 0) = 0 → ((a1 < (S.1 22 (6 * (S.2 14 a0 j3)) 1) → B_X10_firstReady_48 kk2 a0 a1 a2 S k) ∧ (¬ a1 < (S.1 22 (6 * (S.2 14 a0 j3)) 1) → F_X10_isGroupReady a0 (S.2 14 a0 j3) S (fun r10 S11 => ((r10 = 0 → B_X10_firstReady_48 kk2 a0 a1 a2 S11 k) ∧ (¬ r10 = 0 → k (some (S.2 14 a0 j3)) S11))))))))))
set_option maxHeartbeats 4000000 in
set_option maxRecDepth 100000 in
theorem Bbw_X10_firstReady_2 {p : Program} {l : Launch} {e : Env} {s : State} {m : MethodId} {args : Array Value} {below : List Frame} {meth : Method} {c : Code} {D : va_G} {cy : Nat → ClassId} {b z : Nat} {tx : TX} (C0 : CallFix p m c cX10_firstReady 4 s args TB RX10) (hr : meth.sig.returnType = (some (.object "ClaimTable$Job"))) (hlk : meth.locks = false) (hT : TxR tx s) {k : Option Nat → sSt → Prop} {kk2 : Nat → Int32 → Int32 → sSt → Prop} (ih2 : ∀ (a0 : Nat) (a1 : Int32) (a2 : Int32) (S : sSt) (H : Heap) (locs : List Loc) (ls : Array Slot) (av0 : a0 < 3), kk2 a0 a1 a2 S → RelC D cy b z tx S s H → va_S (gA b 709 z) s.heap H locs → lv_has ls 4 [(0, .ref (b + adC 13 a0)), (1, .int a1), (2, .int a2)] → W p l e rm_X10_firstReady s m args below meth c H locs 0 0 (MQ below (PqC D cy b z tx 21 72 k) args s 0 0 (gA b 709 z)) (F0 m 2 ls [])) : ∀ (a0 : Nat) (a1 : Int32) (a2 : Int32) (S : sSt) (H : Heap) (locs : List Loc) (ls : Array Slot) (av0 : a0 < 3), Bb_X10_firstReady_2 kk2 a0 a1 a2 S k → RelC D cy b z tx S s H → va_S (gA b 709 z) s.heap H locs → lv_has ls 4 [(0, .ref (b + adC 13 a0)), (1, .int a1), (2, .int a2)] → W p l e rm_X10_firstReady s m args below meth c H locs 0 0 (MQ below (PqC D cy b z tx 21 72 k) args s 0 0 (gA b 709 z)) (F0 m 2 ls []) := by
  intro a0 a1 a2 S H locs ls av0 h hR hS hl
  have hx := C0.1
  have hb := C0.2.1
  unfold Bb_X10_firstReady_2 at h
  refine lv_iload_n hx hb dX10_firstReady_2 rfl (lv_at hl 2 rfl) ?_
  refine lv_aload_n hx hb dX10_firstReady_3 rfl (lv_at hl 0 rfl) ?_
  refine gCn_13_6 C0 hR av0 tbs_wsX60 mC8_2_149 hT dX10_firstReady_4 ?_
  refine lv_icmp_ge (tgt := 54) hx hb dX10_firstReady_7 (by decide) (fun c1 => ?_) (fun c1 => ?_)
  · have h := h.1 c1
    refine lv_null hx hb dX10_firstReady_54 ?_
    exact rtC_n C0 hr hlk hR hS h dX10_firstReady_55
  · have h := h.2 c1
    refine lv_aload_n hx hb dX10_firstReady_10 rfl (lv_at hl 0 rfl) ?_
    refine gCn_13_0 C0 hR av0 tbs_wsX60 mC8_2_128 hT dX10_firstReady_11 ?_
    have w2 : a0 < 3 := by omega
    refine lv_iload_n hx hb dX10_firstReady_14 rfl (lv_at hl 2 rfl) ?_
    obtain ⟨j3, hj3, ej3, h⟩ := h
    refine lC_14 C0 hR w2 hj3 ej3 dX10_firstReady_15 ?_
    have w4 : (S.2 14 a0 j3) < 72 := hR.2.1.1 _ _ w2 hj3
    refine lv_astore_n (lv' := [(3, .ref (b + adC 21 (S.2 14 a0 j3))), (0, .ref (b + adC 13 a0)), (1, .int a1), (2, .int a2)]) hx hb dX10_firstReady_16 rfl hl (by decide) rfl (fun ls hl => ?_)
    refine lv_aload_n hx hb dX10_firstReady_17 rfl (lv_at hl 0 rfl) ?_
    refine gCn_21_0 C0 hR w4 tbs_wsX10 mC8_1_211 hT dX10_firstReady_18 ?_
    have w5 : (6 * (S.2 14 a0 j3)) < 432 := by omega
    refine gCn_22_0 C0 hR w5 tbs_wsX90 mC8_1_159 hT dX10_firstReady_21 ?_
    refine lv_if_ne (tgt := 48) hx hb dX10_firstReady_24 (by decide) (fun c6 => ?_) (fun c6 => ?_)
    · have h := h.1 c6
      exact Bw_X10_firstReady_48 C0 hr hlk hT ih2 a0 a1 a2 S _ _ _ av0 h hR hS (lv_sub hl [1, 2, 3] rfl)
    · have h := h.2 c6
      refine lv_aload_n hx hb dX10_firstReady_27 rfl (lv_at hl 0 rfl) ?_
      refine gCn_21_0 C0 hR w4 tbs_wsX10 mC8_1_211 hT dX10_firstReady_28 ?_
      have w8 : (6 * (S.2 14 a0 j3)) < 432 := by omega
      refine gCn_22_1 C0 hR w8 tbs_wsX90 mC8_1_165 hT dX10_firstReady_31 ?_
      refine lv_iload_n hx hb dX10_firstReady_34 rfl (lv_at hl 2 rfl) ?_
      refine lv_icmp_gt (tgt := 48) hx hb dX10_firstReady_35 (by decide) (fun c9 => ?_) (fun c9 => ?_)
      · have h := h.1 c9
        exact Bw_X10_firstReady_48 C0 hr hlk hT ih2 a0 a1 a2 S _ _ _ av0 h hR hS (lv_sub hl [1, 2, 3] rfl)
      · have h := h.2 c9
        refine lv_aload_n hx hb dX10_firstReady_38 rfl (lv_at hl 1 rfl) ?_
        refine lv_aload_n hx hb dX10_firstReady_39 rfl (lv_at hl 0 rfl) ?_
        refine qC_Si (As := [.ref (b + adC 13 a0), .ref (b + adC 21 (S.2 14 a0 j3))]) (rest := []) C0 (c_X10_isGroupReady l av0 w4 h) (va_cwS 2 C0.2.2.2.2 (tbS mC8_6_215 ⟨mC8_6_216, mC8_1_27, mC8_6_217⟩) rfl rfl rfl (by decide +kernel) ⟨Nat.le_of_ble_eq_true rfl, Nat.le_of_ble_eq_true rfl⟩) hR hT hS rfl hl.1 rfl (Nat.le_of_ble_eq_true rfl) dX10_firstReady_40 ⟨Nat.zero_le _, Nat.zero_le _⟩ (fun r10 S11 H locs h hR hS => ?_)
        refine lv_if_eq (tgt := 48) hx hb dX10_firstReady_43 (by decide) (fun c12 => ?_) (fun c12 => ?_)
        · have h := h.1 c12
          exact Bw_X10_firstReady_48 C0 hr hlk hT ih2 a0 a1 a2 S11 _ _ _ av0 h hR hS (lv_sub hl [1, 2, 3] rfl)
        · have h := h.2 c12
          refine lv_aload_n hx hb dX10_firstReady_46 rfl (lv_at hl 0 rfl) ?_
          exact rtC_q C0 hr hlk hR hS w4 h dX10_firstReady_47
def B_X10_firstReady_2 (n9 : Nat) (a0 : Nat) (a1 : Int32) (a2 : Int32) (S : sSt) (k : Option Nat → sSt → Prop) : Prop := (Nat.rec (motive := fun _ => Nat → Int32 → Int32 → sSt → Prop) (fun _ _ _ _ => False) (fun _ r9 => fun a0 a1 a2 S => Bb_X10_firstReady_2 r9 a0 a1 a2 S k) n9 : Nat → Int32 → Int32 → sSt → Prop) a0 a1 a2 S
theorem B_X10_firstReady_2_s (n9 : Nat) (a0 : Nat) (a1 : Int32) (a2 : Int32) (S : sSt) (k : Option Nat → sSt → Prop) : B_X10_firstReady_2 (n9 + 1) a0 a1 a2 S k = Bb_X10_firstReady_2 (fun a0 a1 a2 S => B_X10_firstReady_2 n9 a0 a1 a2 S k) a0 a1 a2 S k := rfl
set_option maxHeartbeats 4000000 in
set_option maxRecDepth 100000 in
theorem Bw_X10_firstReady_2 {p : Program} {l : Launch} {e : Env} {s : State} {m : MethodId} {args : Array Value} {below : List Frame} {meth : Method} {c : Code} {D : va_G} {cy : Nat → ClassId} {b z : Nat} {tx : TX} (C0 : CallFix p m c cX10_firstReady 4 s args TB RX10) (hr : meth.sig.returnType = (some (.object "ClaimTable$Job"))) (hlk : meth.locks = false) (hT : TxR tx s) {k : Option Nat → sSt → Prop} : ∀ (n9 : Nat), ∀ (a0 : Nat) (a1 : Int32) (a2 : Int32) (S : sSt) (H : Heap) (locs : List Loc) (ls : Array Slot) (av0 : a0 < 3), B_X10_firstReady_2 n9 a0 a1 a2 S k → RelC D cy b z tx S s H → va_S (gA b 709 z) s.heap H locs → lv_has ls 4 [(0, .ref (b + adC 13 a0)), (1, .int a1), (2, .int a2)] → W p l e rm_X10_firstReady s m args below meth c H locs 0 0 (MQ below (PqC D cy b z tx 21 72 k) args s 0 0 (gA b 709 z)) (F0 m 2 ls []) := by
  intro n9
  induction n9 with
  | zero => intro a0 a1 a2 S H locs ls av0 h; exact h.elim
  | succ n9 ih =>
    intro a0 a1 a2 S H locs ls av0 h hR hS hl
    exact Bbw_X10_firstReady_2 C0 hr hlk hT ih a0 a1 a2 S H locs ls av0 h hR hS hl
def F_X10_firstReady (a0 : Nat) (a1 : Int32) (S : sSt) (k : Option Nat → sSt → Prop) : Prop := B_X10_firstReady_2 fuel a0 a1 0 S k
set_option maxHeartbeats 4000000 in
set_option maxRecDepth 100000 in
theorem c_X10_firstReady (l : Launch) {D : va_G} {cy : Nat → ClassId} {b z : Nat} {tx : TX} {a0 : Nat} {a1 : Int32} {S : sSt} {k : Option Nat → sSt → Prop} (av0 : a0 < 3) (h : F_X10_firstReady a0 a1 S k) : Met l yX10_firstReady (Cond.code yX10_firstReady cX10_firstReady 4 (some (.object "ClaimTable$Job")) :: TB) rm_X10_firstReady (va_Pc [.ref (b + adC 13 a0), .int a1] (fun U => RelC D cy b z tx S U U.heap ∧ TxR tx U)) (PqC D cy b z tx 21 72 k) 0 0 (gA b 709 z) := by
  refine Met.ofW (cc := cX10_firstReady) (maxL := 4) (ret := (some (.object "ClaimTable$Job"))) (by decide) rfl ?_
  intro p e s m args below meth c s₁ B hml hv
  obtain ⟨rfl, hR, hT⟩ := hv
  have C0 : CallFix p m c cX10_firstReady 4 s _ TB RX10 := ⟨B.exec, B.bytes, hml, findClass_of_methodNamed B.named, fun w hw => atoms_spec B.pre w (List.mem_cons_of_mem _ hw)⟩
  have hr := B.returns
  have hlk := B.notSynchronized
  have hx := C0.1
  have hb := C0.2.1
  have hS : va_S (gA b 709 z) s.heap s.heap [] := va_S.rf
  have hl := lv_entry ([.ref (b + adC 13 a0), .int a1]) (n := 4) (Nat.le_of_ble_eq_true rfl)
  rw [lg_entry_eq]
  generalize (lg_sl ([.ref (b + adC 13 a0), .int a1]) ++ List.replicate (4 - (lg_sl ([.ref (b + adC 13 a0), .int a1])).length) Slot.unset).toArray = ls at hl ⊢
  have hl : lv_has ls 4 [(0, .ref (b + adC 13 a0)), (1, .int a1)] := hl
  show W p l e rm_X10_firstReady s m _ below meth c s.heap [] 0 0 (MQ below (PqC D cy b z tx 21 72 k) _ s 0 0 (gA b 709 z)) _
  unfold F_X10_firstReady at h
  refine lv_iconst (v := 0) hx hb dX10_firstReady_0 (by decide) ?_
  refine lv_istore_n (lv' := [(2, .int 0), (0, .ref (b + adC 13 a0)), (1, .int a1)]) hx hb dX10_firstReady_1 rfl hl (by decide) rfl (fun ls hl => ?_)
  exact Bw_X10_firstReady_2 C0 hr hlk hT fuel a0 a1 0 S _ _ _ av0 h hR hS (lv_sub hl [1, 2, 0] rfl)
