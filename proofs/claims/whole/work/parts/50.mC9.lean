theorem mC9_6_202 : Cond.methodLink RX10 9 yX10_prepare ∈ TB := tbT_6 _ (List.mem_of_getElem? (i := 202) rfl) rfl
theorem mC9_6_204 : Cond.code yX10_prepare cX10_prepare 3 none ∈ TB := tbT_6 _ (List.mem_of_getElem? (i := 204) rfl) rfl
theorem mC9_6_203 : Cond.static yX10_prepare ∈ TB := tbT_6 _ (List.mem_of_getElem? (i := 203) rfl) rfl
theorem mC9_1_27 : Cond.initialized RX10 ∈ TB := tbT_1 _ (List.mem_of_getElem? (i := 27) rfl) rfl
theorem mC9_2_158 : Cond.fieldLinkNest RX10 15 "ClaimTable$Table" "mono" "I" "ClaimTable" ∈ NB := nbT_2 _ (List.mem_of_getElem? (i := 158) rfl) rfl
theorem mC9_6_205 : Cond.constant RX10 21 100000 ∈ TB := tbT_6 _ (List.mem_of_getElem? (i := 205) rfl) rfl
theorem mC9_6_206 : Cond.methodLink RX10 22 yX10_inState ∈ TB := tbT_6 _ (List.mem_of_getElem? (i := 206) rfl) rfl
theorem mC9_6_208 : Cond.code yX10_inState cX10_inState 4 (some .int) ∈ TB := tbT_6 _ (List.mem_of_getElem? (i := 208) rfl) rfl
theorem mC9_6_207 : Cond.static yX10_inState ∈ TB := tbT_6 _ (List.mem_of_getElem? (i := 207) rfl) rfl
theorem mC9_6_209 : Cond.methodLink RX10 26 yX10_endDone ∈ TB := tbT_6 _ (List.mem_of_getElem? (i := 209) rfl) rfl
theorem mC9_6_211 : Cond.code yX10_endDone cX10_endDone 4 none ∈ TB := tbT_6 _ (List.mem_of_getElem? (i := 211) rfl) rfl
theorem mC9_6_210 : Cond.static yX10_endDone ∈ TB := tbT_6 _ (List.mem_of_getElem? (i := 210) rfl) rfl
theorem mC9_6_212 : Cond.methodLink RX10 30 yX10_firstReady ∈ TB := tbT_6 _ (List.mem_of_getElem? (i := 212) rfl) rfl
theorem mC9_6_214 : Cond.code yX10_firstReady cX10_firstReady 4 (some (.object "ClaimTable$Job")) ∈ TB := tbT_6 _ (List.mem_of_getElem? (i := 214) rfl) rfl
theorem mC9_6_213 : Cond.static yX10_firstReady ∈ TB := tbT_6 _ (List.mem_of_getElem? (i := 213) rfl) rfl
theorem mC9_1_227 : Cond.fieldLinkNest RX10 34 "ClaimTable$Job" "number" "I" "ClaimTable" ∈ NB := nbT_1 _ (List.mem_of_getElem? (i := 227) rfl) rfl
theorem mC9_1_211 : Cond.fieldLinkNest RX10 39 "ClaimTable$Job" "base" "LClaimTable$Version;" "ClaimTable" ∈ NB := nbT_1 _ (List.mem_of_getElem? (i := 211) rfl) rfl
theorem mC9_1_159 : Cond.fieldLinkNest RX10 43 "ClaimTable$Version" "state" "I" "ClaimTable" ∈ NB := nbT_1 _ (List.mem_of_getElem? (i := 159) rfl) rfl
theorem mC9_2_4 : Cond.fieldLinkNest RX10 48 "ClaimTable$Job" "cost" "I" "ClaimTable" ∈ NB := nbT_2 _ (List.mem_of_getElem? (i := 4) rfl) rfl
theorem mC9_1_188 : Cond.fieldLinkNest RX10 51 "ClaimTable$Version" "until" "I" "ClaimTable" ∈ NB := nbT_1 _ (List.mem_of_getElem? (i := 188) rfl) rfl
theorem mC9_6_218 : Cond.methodLink RX10 54 Lib.Math.max.name ∈ TB := tbT_6 _ (List.mem_of_getElem? (i := 218) rfl) rfl
theorem mC9_3_47 : Cond.static Lib.Math.max.name ∈ TB := tbT_3 _ (List.mem_of_getElem? (i := 47) rfl) rfl
theorem mC9_1_25 : Cond.initialized "java/lang/Math" ∈ TB := tbT_1 _ (List.mem_of_getElem? (i := 25) rfl) rfl
theorem mC9_3_48 : Cond.code Lib.Math.max.name Lib.Math.max.code 2 (some .int) ∈ TB := tbT_3 _ (List.mem_of_getElem? (i := 48) rfl) rfl
theorem mC9_4_45 : Cond.classLink RX11 68 "java/lang/IllegalArgumentException" ∈ TB := tbT_4 _ (List.mem_of_getElem? (i := 45) rfl) rfl
theorem mC9_1_21 : Cond.initialized "java/lang/IllegalArgumentException" ∈ TB := tbT_1 _ (List.mem_of_getElem? (i := 21) rfl) rfl
theorem mC9_2_214 : Cond.fieldLink RX11 40 "ClaimTable" "spare" "LClaimTable$Table;" ∈ TB := tbT_2 _ (List.mem_of_getElem? (i := 214) rfl) rfl
theorem mC9_2_213 : Cond.fieldLink RX11 37 "ClaimTable" "live" "LClaimTable$Table;" ∈ TB := tbT_2 _ (List.mem_of_getElem? (i := 213) rfl) rfl
theorem mC9_3_53 : Cond.methodLink RX11 58 yX6_copyFrom ∈ TB := tbT_3 _ (List.mem_of_getElem? (i := 53) rfl) rfl
theorem mC9_3_56 : Cond.code yX6_copyFrom cX6_copyFrom 3 none ∈ TB := tbT_3 _ (List.mem_of_getElem? (i := 56) rfl) rfl
theorem mC9_3_54 : Cond.instanceMethod yX6_copyFrom ∈ TB := tbT_3 _ (List.mem_of_getElem? (i := 54) rfl) rfl
theorem mC9_3_55 : Cond.selects RX6 yX6_copyFrom yX6_copyFrom ∈ TB := tbT_3 _ (List.mem_of_getElem? (i := 55) rfl) rfl
theorem mC9_1_5 : Cond.initialized RX6 ∈ TB := tbT_1 _ (List.mem_of_getElem? (i := 5) rfl) rfl
theorem mC9_6_199 : Cond.methodLink RX11 331 yX10_timeOf ∈ TB := tbT_6 _ (List.mem_of_getElem? (i := 199) rfl) rfl
theorem mC9_6_201 : Cond.code yX10_timeOf cX10_timeOf 8 (some .int) ∈ TB := tbT_6 _ (List.mem_of_getElem? (i := 201) rfl) rfl
theorem mC9_6_200 : Cond.static yX10_timeOf ∈ TB := tbT_6 _ (List.mem_of_getElem? (i := 200) rfl) rfl
theorem mC9_5_134 : Cond.methodLink RX11 168 yX11_needJob ∈ TB := tbT_5 _ (List.mem_of_getElem? (i := 134) rfl) rfl
theorem mC9_5_137 : Cond.code yX11_needJob cX11_needJob 4 (some (.object "ClaimTable$Job")) ∈ TB := tbT_5 _ (List.mem_of_getElem? (i := 137) rfl) rfl
theorem mC9_5_136 : Cond.instanceMethod yX11_needJob ∈ TB := tbT_5 _ (List.mem_of_getElem? (i := 136) rfl) rfl
theorem mpC9_1_12 : Cond.selects RX11 yX11_needJob yX11_needJob ∈ TB := tbP_1 (yX11_needJob, 8) (List.mem_of_getElem? (i := 12) rfl)
theorem mC9_1_1 : Cond.initialized RX11 ∈ TB := tbT_1 _ (List.mem_of_getElem? (i := 1) rfl) rfl
theorem mC9_1_137 : Cond.fieldLink RX2 25 "ClaimTable$Log" "size" "I" ∈ TB := tbT_1 _ (List.mem_of_getElem? (i := 137) rfl) rfl
theorem mC9_1_135 : Cond.fieldLink RX2 11 "ClaimTable$Log" "cells" "[I" ∈ TB := tbT_1 _ (List.mem_of_getElem? (i := 135) rfl) rfl
theorem mC9_1_136 : Cond.fieldLink RX2 21 "ClaimTable$Log" "first" "I" ∈ TB := tbT_1 _ (List.mem_of_getElem? (i := 136) rfl) rfl
theorem mC9_3_38 : Cond.methodLink RX2 48 yX2_cell ∈ TB := tbT_3 _ (List.mem_of_getElem? (i := 38) rfl) rfl
theorem mC9_3_41 : Cond.code yX2_cell cX2_cell 3 (some .int) ∈ TB := tbT_3 _ (List.mem_of_getElem? (i := 41) rfl) rfl
theorem mC9_3_39 : Cond.instanceMethod yX2_cell ∈ TB := tbT_3 _ (List.mem_of_getElem? (i := 39) rfl) rfl
theorem mC9_3_40 : Cond.selects RX2 yX2_cell yX2_cell ∈ TB := tbT_3 _ (List.mem_of_getElem? (i := 40) rfl) rfl
theorem mC9_1_6 : Cond.initialized RX2 ∈ TB := tbT_1 _ (List.mem_of_getElem? (i := 6) rfl) rfl
theorem mC9_2_145 : Cond.fieldLinkNest RX11 335 "ClaimTable$Table" "log" "LClaimTable$Log;" "ClaimTable" ∈ NB := nbT_2 _ (List.mem_of_getElem? (i := 145) rfl) rfl
theorem mC9_6_226 : Cond.methodLink RX11 339 yX2_tokenAt ∈ TB := tbT_6 _ (List.mem_of_getElem? (i := 226) rfl) rfl
theorem mC9_6_229 : Cond.code yX2_tokenAt cX2_tokenAt 4 (some .int) ∈ TB := tbT_6 _ (List.mem_of_getElem? (i := 229) rfl) rfl
theorem mC9_6_227 : Cond.instanceMethod yX2_tokenAt ∈ TB := tbT_6 _ (List.mem_of_getElem? (i := 227) rfl) rfl
theorem mC9_6_228 : Cond.selects RX2 yX2_tokenAt yX2_tokenAt ∈ TB := tbT_6 _ (List.mem_of_getElem? (i := 228) rfl) rfl
theorem mC9_3_42 : Cond.methodLink RX2 52 yX2_holdFrom ∈ TB := tbT_3 _ (List.mem_of_getElem? (i := 42) rfl) rfl
theorem mC9_3_45 : Cond.code yX2_holdFrom cX2_holdFrom 4 (some .int) ∈ TB := tbT_3 _ (List.mem_of_getElem? (i := 45) rfl) rfl
theorem mC9_3_44 : Cond.instanceMethod yX2_holdFrom ∈ TB := tbT_3 _ (List.mem_of_getElem? (i := 44) rfl) rfl
theorem mpC9_1_1 : Cond.selects RX2 yX2_holdFrom yX2_holdFrom ∈ TB := tbP_1 (yX2_holdFrom, 3) (List.mem_of_getElem? (i := 1) rfl)
theorem mC9_3_46 : Cond.methodLink RX2 56 Lib.Math.max.name ∈ TB := tbT_3 _ (List.mem_of_getElem? (i := 46) rfl) rfl
theorem mC9_3_34 : Cond.methodLink RX11 344 yX2_longestHold ∈ TB := tbT_3 _ (List.mem_of_getElem? (i := 34) rfl) rfl
theorem mC9_3_37 : Cond.code yX2_longestHold cX2_longestHold 3 (some .int) ∈ TB := tbT_3 _ (List.mem_of_getElem? (i := 37) rfl) rfl
theorem mC9_3_35 : Cond.instanceMethod yX2_longestHold ∈ TB := tbT_3 _ (List.mem_of_getElem? (i := 35) rfl) rfl
theorem mC9_3_36 : Cond.selects RX2 yX2_longestHold yX2_longestHold ∈ TB := tbT_3 _ (List.mem_of_getElem? (i := 36) rfl) rfl
theorem mC9_2_126 : Cond.fieldLink RX6 11 "ClaimTable$Table" "jobs" "[LClaimTable$Job;" ∈ TB := tbT_2 _ (List.mem_of_getElem? (i := 126) rfl) rfl
theorem mC9_1_225 : Cond.fieldLinkNest RX6 117 "ClaimTable$Job" "stored" "Z" "ClaimTable" ∈ NB := nbT_1 _ (List.mem_of_getElem? (i := 225) rfl) rfl
theorem mC9_1_235 : Cond.fieldLinkNest RX6 99 "ClaimTable$Job" "group" "I" "ClaimTable" ∈ NB := nbT_1 _ (List.mem_of_getElem? (i := 235) rfl) rfl
theorem mC9_7_13 : Cond.methodLink RX2 61 yX2_isHeldOf ∈ TB := tbT_7 _ (List.mem_of_getElem? (i := 13) rfl) rfl
theorem mC9_7_16 : Cond.code yX2_isHeldOf cX2_isHeldOf 3 (some .boolean) ∈ TB := tbT_7 _ (List.mem_of_getElem? (i := 16) rfl) rfl
theorem mC9_7_15 : Cond.instanceMethod yX2_isHeldOf ∈ TB := tbT_7 _ (List.mem_of_getElem? (i := 15) rfl) rfl
theorem mpC9_2_8 : Cond.selects RX2 yX2_isHeldOf yX2_isHeldOf ∈ TB := tbP_2 (yX2_isHeldOf, 3) (List.mem_of_getElem? (i := 8) rfl)
theorem mC9_2_144 : Cond.fieldLink RX6 39 "ClaimTable$Table" "log" "LClaimTable$Log;" ∈ TB := tbT_2 _ (List.mem_of_getElem? (i := 144) rfl) rfl
theorem mC9_1_230 : Cond.fieldLinkNest RX6 96 "ClaimTable$Job" "number" "I" "ClaimTable" ∈ NB := nbT_1 _ (List.mem_of_getElem? (i := 230) rfl) rfl
theorem mC9_7_9 : Cond.methodLink RX6 262 yX2_firstHold ∈ TB := tbT_7 _ (List.mem_of_getElem? (i := 9) rfl) rfl
theorem mC9_7_12 : Cond.code yX2_firstHold cX2_firstHold 3 (some .int) ∈ TB := tbT_7 _ (List.mem_of_getElem? (i := 12) rfl) rfl
theorem mC9_7_10 : Cond.instanceMethod yX2_firstHold ∈ TB := tbT_7 _ (List.mem_of_getElem? (i := 10) rfl) rfl
theorem mC9_7_11 : Cond.selects RX2 yX2_firstHold yX2_firstHold ∈ TB := tbT_7 _ (List.mem_of_getElem? (i := 11) rfl) rfl
theorem mC9_2_146 : Cond.fieldLink RX6 46 "ClaimTable$Table" "size" "I" ∈ TB := tbT_2 _ (List.mem_of_getElem? (i := 146) rfl) rfl
theorem mC9_7_1 : Cond.methodLink RX6 255 yX6_isStoredIn ∈ TB := tbT_7 _ (List.mem_of_getElem? (i := 1) rfl) rfl
theorem mC9_7_4 : Cond.code yX6_isStoredIn cX6_isStoredIn 3 (some .boolean) ∈ TB := tbT_7 _ (List.mem_of_getElem? (i := 4) rfl) rfl
theorem mC9_7_3 : Cond.instanceMethod yX6_isStoredIn ∈ TB := tbT_7 _ (List.mem_of_getElem? (i := 3) rfl) rfl
theorem mpC9_2_6 : Cond.selects RX6 yX6_isStoredIn yX6_isStoredIn ∈ TB := tbP_2 (yX6_isStoredIn, 16) (List.mem_of_getElem? (i := 6) rfl)
theorem mC9_7_5 : Cond.methodLink RX6 259 yX6_isOvertaken ∈ TB := tbT_7 _ (List.mem_of_getElem? (i := 5) rfl) rfl
theorem mC9_7_8 : Cond.code yX6_isOvertaken cX6_isOvertaken 5 (some .boolean) ∈ TB := tbT_7 _ (List.mem_of_getElem? (i := 8) rfl) rfl
theorem mC9_7_7 : Cond.instanceMethod yX6_isOvertaken ∈ TB := tbT_7 _ (List.mem_of_getElem? (i := 7) rfl) rfl
theorem mpC9_2_7 : Cond.selects RX6 yX6_isOvertaken yX6_isOvertaken ∈ TB := tbP_2 (yX6_isOvertaken, 16) (List.mem_of_getElem? (i := 7) rfl)
def rm_X10_timeOf : Room := { frames := 2, cells := 0, slots := 0, locals := 47 }
def B_X10_timeOf_134 (a2 : Int32) (a3 : Int32) (S : sSt) (k : Int32 → sSt → Prop) : Prop := ((¬ a2 = (-1) → k (-1) S) ∧ (a2 = (-1) → k a3 S))
set_option maxHeartbeats 4000000 in
set_option maxRecDepth 100000 in
theorem Bw_X10_timeOf_134 {p : Program} {l : Launch} {e : Env} {s : State} {m : MethodId} {args : Array Value} {below : List Frame} {meth : Method} {c : Code} {D : va_G} {cy : Nat → ClassId} {b z : Nat} {tx : TX} (C0 : CallFix p m c cX10_timeOf 8 s args TB RX10) (hr : meth.sig.returnType = (some .int)) (hlk : meth.locks = false) (hT : TxR tx s) {k : Int32 → sSt → Prop} : ∀ (a2 : Int32) (a3 : Int32) (S : sSt) (H : Heap) (locs : List Loc) (ls : Array Slot) , B_X10_timeOf_134 a2 a3 S k → RelC D cy b z tx S s H → va_S (gA b 709 z) s.heap H locs → lv_has ls 8 [(2, .int a2), (3, .int a3)] → W p l e rm_X10_timeOf s m args below meth c H locs 0 0 (MQ below (PiC D cy b z tx k) args s 0 0 (gA b 709 z)) (F0 m 134 ls []) := by
  intro a2 a3 S H locs ls h hR hS hl
  have hx := C0.1
  have hb := C0.2.1
  unfold B_X10_timeOf_134 at h
  refine lv_iload_n hx hb dX10_timeOf_134 rfl (lv_at hl 0 rfl) ?_
  refine lv_iconst (v := (-1)) hx hb dX10_timeOf_135 (by decide) ?_
  refine lv_icmp_ne (tgt := 143) hx hb dX10_timeOf_136 (by decide) (fun c5 => ?_) (fun c5 => ?_)
  · have h := h.1 c5
    refine lv_iconst (v := (-1)) hx hb dX10_timeOf_143 (by decide) ?_
    exact rtC_i C0 hr hlk hR hS h dX10_timeOf_144
  · have h := h.2 c5
    refine lv_iload_n hx hb dX10_timeOf_139 rfl (lv_at hl 1 rfl) ?_
    refine lv_goto (tgt := 144) hx hb dX10_timeOf_140 (by decide) ?_
    exact rtC_i C0 hr hlk hR hS h dX10_timeOf_144
def B_X10_timeOf_128 (kk12 : Nat → Int32 → Int32 → Int32 → Int32 → sSt → Prop) (a0 : Nat) (a1 : Int32) (a2 : Int32) (a3 : Int32) (a4 : Int32) (S : sSt) (k : Int32 → sSt → Prop) : Prop := ∀ x16 : Int32, x16 = a4 + 1 → kk12 a0 a1 a2 a3 x16 S
set_option maxHeartbeats 4000000 in
set_option maxRecDepth 100000 in
theorem Bw_X10_timeOf_128 {p : Program} {l : Launch} {e : Env} {s : State} {m : MethodId} {args : Array Value} {below : List Frame} {meth : Method} {c : Code} {D : va_G} {cy : Nat → ClassId} {b z : Nat} {tx : TX} (C0 : CallFix p m c cX10_timeOf 8 s args TB RX10) (hr : meth.sig.returnType = (some .int)) (hlk : meth.locks = false) (hT : TxR tx s) {k : Int32 → sSt → Prop} {kk12 : Nat → Int32 → Int32 → Int32 → Int32 → sSt → Prop} (ih12 : ∀ (a0 : Nat) (a1 : Int32) (a2 : Int32) (a3 : Int32) (a4 : Int32) (S : sSt) (H : Heap) (locs : List Loc) (ls : Array Slot) (av0 : a0 < 3), kk12 a0 a1 a2 a3 a4 S → RelC D cy b z tx S s H → va_S (gA b 709 z) s.heap H locs → lv_has ls 8 [(0, .ref (b + adC 13 a0)), (1, .int a1), (2, .int a2), (3, .int a3), (4, .int a4)] → W p l e rm_X10_timeOf s m args below meth c H locs 0 0 (MQ below (PiC D cy b z tx k) args s 0 0 (gA b 709 z)) (F0 m 12 ls [])) : ∀ (a0 : Nat) (a1 : Int32) (a2 : Int32) (a3 : Int32) (a4 : Int32) (S : sSt) (H : Heap) (locs : List Loc) (ls : Array Slot) (av0 : a0 < 3), B_X10_timeOf_128 kk12 a0 a1 a2 a3 a4 S k → RelC D cy b z tx S s H → va_S (gA b 709 z) s.heap H locs → lv_has ls 8 [(0, .ref (b + adC 13 a0)), (1, .int a1), (2, .int a2), (3, .int a3), (4, .int a4)] → W p l e rm_X10_timeOf s m args below meth c H locs 0 0 (MQ below (PiC D cy b z tx k) args s 0 0 (gA b 709 z)) (F0 m 128 ls []) := by
  intro a0 a1 a2 a3 a4 S H locs ls av0 h hR hS hl
  have hx := C0.1
  have hb := C0.2.1
  unfold B_X10_timeOf_128 at h
  obtain ⟨x16, ex16⟩ : ∃ x16 : Int32, x16 = a4 + 1 := ⟨_, rfl⟩
  have h := h x16 ex16
  refine w_iinc (v0 := 1) (lv' := [(4, .int x16), (0, .ref (b + adC 13 a0)), (1, .int a1), (2, .int a2), (3, .int a3)]) C0 dX10_timeOf_128 hl (k := 4) rfl (by decide) (by decide) x16 ex16 rfl (fun ls hl => ?_)
  refine lv_goto (tgt := 12) hx hb dX10_timeOf_131 (by decide) ?_
  exact ih12 a0 a1 a2 a3 x16 S _ _ _ av0 h hR hS (lv_sub hl [1, 2, 3, 4, 0] rfl)
def Bb_X10_timeOf_51 (kk12 : Nat → Int32 → Int32 → Int32 → Int32 → sSt → Prop) (kk51 : Nat → Int32 → Int32 → Int32 → Int32 → Int32 → Int32 → sSt → Prop) (a0 : Nat) (a1 : Int32) (a2 : Int32) (a3 : Int32) (a4 : Int32) (a5 : Int32) (a6 : Int32) (S : sSt) (k : Int32 → sSt → Prop) : Prop := ((a6 ≤ 0 → B_X10_timeOf_128 kk12 a0 a1 a2 a3 a4 S k) ∧ (¬ a6 ≤ 0 → F_X10_firstReady a0 a5 S (fun o27 S18 => ((o27 = none → B_X10_timeOf_128 kk12 a0 a1 a2 a3 a4 S18 k) ∧ (∀ r17, o27 = some r17 → ((¬ (S18.1 21 r17 6) = a2 → ∀ S21, S21 = uI S18 22 (6 * r17) 0 1 → ∀ S23, S23 = uI S21 22 (6 * r17) 7 (a5 + (S21.1 21 r17 9)) → ∀ x25 : Int32, x25 = (if a3 < (S23.1 22 (6 * r17) 7) then (S23.1 22 (6 * r17) 7) else a3) → ∀ x26 : Int32, x26 = a6 + (-1) → kk51 a0 a1 a2 x25 a4 a5 x26 S23) ∧ ((S18.1 21 r17 6) = a2 → k a5 S18)))))))
set_option maxHeartbeats 4000000 in
set_option maxRecDepth 100000 in
theorem Bbw_X10_timeOf_51 {p : Program} {l : Launch} {e : Env} {s : State} {m : MethodId} {args : Array Value} {below : List Frame} {meth : Method} {c : Code} {D : va_G} {cy : Nat → ClassId} {b z : Nat} {tx : TX} (C0 : CallFix p m c cX10_timeOf 8 s args TB RX10) (hr : meth.sig.returnType = (some .int)) (hlk : meth.locks = false) (hT : TxR tx s) {k : Int32 → sSt → Prop} {kk12 : Nat → Int32 → Int32 → Int32 → Int32 → sSt → Prop} {kk51 : Nat → Int32 → Int32 → Int32 → Int32 → Int32 → Int32 → sSt → Prop} (ih12 : ∀ (a0 : Nat) (a1 : Int32) (a2 : Int32) (a3 : Int32) (a4 : Int32) (S : sSt) (H : Heap) (locs : List Loc) (ls : Array Slot) (av0 : a0 < 3), kk12 a0 a1 a2 a3 a4 S → RelC D cy b z tx S s H → va_S (gA b 709 z) s.heap H locs → lv_has ls 8 [(0, .ref (b + adC 13 a0)), (1, .int a1), (2, .int a2), (3, .int a3), (4, .int a4)] → W p l e rm_X10_timeOf s m args below meth c H locs 0 0 (MQ below (PiC D cy b z tx k) args s 0 0 (gA b 709 z)) (F0 m 12 ls [])) (ih51 : ∀ (a0 : Nat) (a1 : Int32) (a2 : Int32) (a3 : Int32) (a4 : Int32) (a5 : Int32) (a6 : Int32) (S : sSt) (H : Heap) (locs : List Loc) (ls : Array Slot) (av0 : a0 < 3), kk51 a0 a1 a2 a3 a4 a5 a6 S → RelC D cy b z tx S s H → va_S (gA b 709 z) s.heap H locs → lv_has ls 8 [(0, .ref (b + adC 13 a0)), (1, .int a1), (2, .int a2), (3, .int a3), (4, .int a4), (5, .int a5), (6, .int a6)] → W p l e rm_X10_timeOf s m args below meth c H locs 0 0 (MQ below (PiC D cy b z tx k) args s 0 0 (gA b 709 z)) (F0 m 51 ls [])) : ∀ (a0 : Nat) (a1 : Int32) (a2 : Int32) (a3 : Int32) (a4 : Int32) (a5 : Int32) (a6 : Int32) (S : sSt) (H : Heap) (locs : List Loc) (ls : Array Slot) (av0 : a0 < 3), Bb_X10_timeOf_51 kk12 kk51 a0 a1 a2 a3 a4 a5 a6 S k → RelC D cy b z tx S s H → va_S (gA b 709 z) s.heap H locs → lv_has ls 8 [(0, .ref (b + adC 13 a0)), (1, .int a1), (2, .int a2), (3, .int a3), (4, .int a4), (5, .int a5), (6, .int a6)] → W p l e rm_X10_timeOf s m args below meth c H locs 0 0 (MQ below (PiC D cy b z tx k) args s 0 0 (gA b 709 z)) (F0 m 51 ls []) := by
  intro a0 a1 a2 a3 a4 a5 a6 S H locs ls av0 h hR hS hl
  have hx := C0.1
  have hb := C0.2.1
  unfold Bb_X10_timeOf_51 at h
  refine lv_iload hx hb dX10_timeOf_51 (lv_at hl 6 rfl) ?_
  refine lv_if_le (tgt := 128) hx hb dX10_timeOf_53 (by decide) (fun c15 => ?_) (fun c15 => ?_)
  · have h := h.1 c15
    exact Bw_X10_timeOf_128 C0 hr hlk hT ih12 a0 a1 a2 a3 a4 S _ _ _ av0 h hR hS (lv_sub hl [0, 1, 2, 3, 4] rfl)
  · have h := h.2 c15
    refine lv_aload_n hx hb dX10_timeOf_56 rfl (lv_at hl 0 rfl) ?_
    refine lv_iload hx hb dX10_timeOf_57 (lv_at hl 5 rfl) ?_
    refine qC_Sq (As := [.ref (b + adC 13 a0), .int a5]) (rest := []) C0 (c_X10_firstReady l av0 h) (va_cwS 2 C0.2.2.2.2 (tbS mC9_6_212 ⟨mC9_6_213, mC9_1_27, mC9_6_214⟩) rfl rfl rfl (by decide +kernel) ⟨Nat.le_of_ble_eq_true rfl, Nat.le_of_ble_eq_true rfl⟩) hR hT hS rfl hl.1 rfl (Nat.le_of_ble_eq_true rfl) dX10_timeOf_59 ⟨Nat.zero_le _, Nat.zero_le _⟩ (fun S18 H locs h hR hS => ?_) (fun r17 S18 H locs vr17 h hR hS => ?_)
    · have h := h.1 rfl
      refine lv_astoreN (lv' := [(7, .null), (0, .ref (b + adC 13 a0)), (1, .int a1), (2, .int a2), (3, .int a3), (4, .int a4), (5, .int a5), (6, .int a6)]) hx hb dX10_timeOf_62 hl (by decide) rfl (fun ls hl => ?_)
      refine lv_aloadN hx hb dX10_timeOf_64 (lv_at hl 0 rfl) ?_
      refine lv_ifnonnullN hx hb dX10_timeOf_66 ?_
      refine lv_goto (tgt := 128) hx hb dX10_timeOf_69 (by decide) ?_
      exact Bw_X10_timeOf_128 C0 hr hlk hT ih12 a0 a1 a2 a3 a4 S18 _ _ _ av0 h hR hS (lv_sub hl [1, 2, 3, 4, 5] rfl)
    · have h := h.2 r17 rfl
      refine lv_astore (lv' := [(7, .ref (b + adC 21 r17)), (0, .ref (b + adC 13 a0)), (1, .int a1), (2, .int a2), (3, .int a3), (4, .int a4), (5, .int a5), (6, .int a6)]) hx hb dX10_timeOf_62 hl (by decide) rfl (fun ls hl => ?_)
      refine lv_aload hx hb dX10_timeOf_64 (lv_at hl 0 rfl) ?_
      refine lv_ifnonnull (tgt := 72) hx hb dX10_timeOf_66 (by decide) ?_
      refine lv_aload hx hb dX10_timeOf_72 (lv_at hl 0 rfl) ?_
      refine gCn_21_6 C0 hR vr17 tbs_wsX10 mC9_1_227 hT dX10_timeOf_74 ?_
      refine lv_iload_n hx hb dX10_timeOf_77 rfl (lv_at hl 3 rfl) ?_
      refine lv_icmp_ne (tgt := 84) hx hb dX10_timeOf_78 (by decide) (fun c19 => ?_) (fun c19 => ?_)
      · have h := h.1 c19
        refine lv_aload hx hb dX10_timeOf_84 (lv_at hl 0 rfl) ?_
        refine gCn_21_0 C0 hR vr17 tbs_wsX10 mC9_1_211 hT dX10_timeOf_86 ?_
        have w20 : (6 * r17) < 432 := by omega
        refine lv_iconst (v := 1) hx hb dX10_timeOf_89 (by decide) ?_
        refine pCn_22_0 C0 hR hS w20 tbs_wsX90 mC9_1_159 hT dX10_timeOf_90 (fun S21 eS21 H locs hR hS => ?_)
        have h := h S21 eS21
        refine lv_aload hx hb dX10_timeOf_93 (lv_at hl 0 rfl) ?_
        refine gCn_21_0 C0 hR vr17 tbs_wsX10 mC9_1_211 hT dX10_timeOf_95 ?_
        have w22 : (6 * r17) < 432 := by omega
        refine lv_iload hx hb dX10_timeOf_98 (lv_at hl 6 rfl) ?_
        refine lv_aload hx hb dX10_timeOf_100 (lv_at hl 0 rfl) ?_
        refine gCn_21_9 C0 hR vr17 tbs_wsX10 mC9_2_4 hT dX10_timeOf_102 ?_
        refine lv_iadd hx hb dX10_timeOf_105 ?_
        refine pCn_22_7 C0 hR hS w22 tbs_wsX90 mC9_1_188 hT dX10_timeOf_106 (fun S23 eS23 H locs hR hS => ?_)
        have h := h S23 eS23
        refine lv_iload_n hx hb dX10_timeOf_109 rfl (lv_at hl 4 rfl) ?_
        refine lv_aload hx hb dX10_timeOf_110 (lv_at hl 0 rfl) ?_
        refine gCn_21_0 C0 hR vr17 tbs_wsX10 mC9_1_211 hT dX10_timeOf_112 ?_
        have w24 : (6 * r17) < 432 := by omega
        refine gCn_22_7 C0 hR w24 tbs_wsX90 mC9_1_188 hT dX10_timeOf_115 ?_
        refine va_mmax hx hb (C0.2.2.1.trans hl.1.symm) C0.2.2.2.1 (C0.2.2.2.2 _ mC9_6_218) (C0.2.2.2.2 _ mC9_3_47) (C0.2.2.2.2 _ mC9_1_25) (C0.2.2.2.2 _ mC9_3_48) (Nat.le_of_ble_eq_true rfl) (Nat.le_of_ble_eq_true rfl) (Nat.zero_le _) (Nat.zero_le _) dX10_timeOf_118 ?_
        refine lv_topi (fun x25 ex25 => ?_)
        have h := h x25 ex25
        refine lv_istore_n (lv' := [(3, .int x25), (7, .ref (b + adC 21 r17)), (0, .ref (b + adC 13 a0)), (1, .int a1), (2, .int a2), (4, .int a4), (5, .int a5), (6, .int a6)]) hx hb dX10_timeOf_121 rfl hl (by decide) rfl (fun ls hl => ?_)
        obtain ⟨x26, ex26⟩ : ∃ x26 : Int32, x26 = a6 + (-1) := ⟨_, rfl⟩
        have h := h x26 ex26
        refine w_iinc (v0 := (-1)) (lv' := [(6, .int x26), (3, .int x25), (7, .ref (b + adC 21 r17)), (0, .ref (b + adC 13 a0)), (1, .int a1), (2, .int a2), (4, .int a4), (5, .int a5)]) C0 dX10_timeOf_122 hl (k := 7) rfl (by decide) (by decide) x26 ex26 rfl (fun ls hl => ?_)
        refine lv_goto (tgt := 51) hx hb dX10_timeOf_125 (by decide) ?_
        exact ih51 a0 a1 a2 x25 a4 a5 x26 S23 _ _ _ av0 h hR hS (lv_sub hl [3, 4, 5, 1, 6, 7, 0] rfl)
      · have h := h.2 c19
        refine lv_iload hx hb dX10_timeOf_81 (lv_at hl 6 rfl) ?_
        exact rtC_i C0 hr hlk hR hS h dX10_timeOf_83
def B_X10_timeOf_51 (kk12 : Nat → Int32 → Int32 → Int32 → Int32 → sSt → Prop) (n9 : Nat) (a0 : Nat) (a1 : Int32) (a2 : Int32) (a3 : Int32) (a4 : Int32) (a5 : Int32) (a6 : Int32) (S : sSt) (k : Int32 → sSt → Prop) : Prop := (Nat.rec (motive := fun _ => Nat → Int32 → Int32 → Int32 → Int32 → Int32 → Int32 → sSt → Prop) (fun _ _ _ _ _ _ _ _ => False) (fun _ r9 => fun a0 a1 a2 a3 a4 a5 a6 S => Bb_X10_timeOf_51 kk12 r9 a0 a1 a2 a3 a4 a5 a6 S k) n9 : Nat → Int32 → Int32 → Int32 → Int32 → Int32 → Int32 → sSt → Prop) a0 a1 a2 a3 a4 a5 a6 S
theorem B_X10_timeOf_51_s (kk12 : Nat → Int32 → Int32 → Int32 → Int32 → sSt → Prop) (n9 : Nat) (a0 : Nat) (a1 : Int32) (a2 : Int32) (a3 : Int32) (a4 : Int32) (a5 : Int32) (a6 : Int32) (S : sSt) (k : Int32 → sSt → Prop) : B_X10_timeOf_51 kk12 (n9 + 1) a0 a1 a2 a3 a4 a5 a6 S k = Bb_X10_timeOf_51 kk12 (fun a0 a1 a2 a3 a4 a5 a6 S => B_X10_timeOf_51 kk12 n9 a0 a1 a2 a3 a4 a5 a6 S k) a0 a1 a2 a3 a4 a5 a6 S k := rfl
set_option maxHeartbeats 4000000 in
set_option maxRecDepth 100000 in
theorem Bw_X10_timeOf_51 {p : Program} {l : Launch} {e : Env} {s : State} {m : MethodId} {args : Array Value} {below : List Frame} {meth : Method} {c : Code} {D : va_G} {cy : Nat → ClassId} {b z : Nat} {tx : TX} (C0 : CallFix p m c cX10_timeOf 8 s args TB RX10) (hr : meth.sig.returnType = (some .int)) (hlk : meth.locks = false) (hT : TxR tx s) {k : Int32 → sSt → Prop} {kk12 : Nat → Int32 → Int32 → Int32 → Int32 → sSt → Prop} (ih12 : ∀ (a0 : Nat) (a1 : Int32) (a2 : Int32) (a3 : Int32) (a4 : Int32) (S : sSt) (H : Heap) (locs : List Loc) (ls : Array Slot) (av0 : a0 < 3), kk12 a0 a1 a2 a3 a4 S → RelC D cy b z tx S s H → va_S (gA b 709 z) s.heap H locs → lv_has ls 8 [(0, .ref (b + adC 13 a0)), (1, .int a1), (2, .int a2), (3, .int a3), (4, .int a4)] → W p l e rm_X10_timeOf s m args below meth c H locs 0 0 (MQ below (PiC D cy b z tx k) args s 0 0 (gA b 709 z)) (F0 m 12 ls [])) : ∀ (n9 : Nat), ∀ (a0 : Nat) (a1 : Int32) (a2 : Int32) (a3 : Int32) (a4 : Int32) (a5 : Int32) (a6 : Int32) (S : sSt) (H : Heap) (locs : List Loc) (ls : Array Slot) (av0 : a0 < 3), B_X10_timeOf_51 kk12 n9 a0 a1 a2 a3 a4 a5 a6 S k → RelC D cy b z tx S s H → va_S (gA b 709 z) s.heap H locs → lv_has ls 8 [(0, .ref (b + adC 13 a0)), (1, .int a1), (2, .int a2), (3, .int a3), (4, .int a4), (5, .int a5), (6, .int a6)] → W p l e rm_X10_timeOf s m args below meth c H locs 0 0 (MQ below (PiC D cy b z tx k) args s 0 0 (gA b 709 z)) (F0 m 51 ls []) := by
  intro n9
  induction n9 with
  | zero => intro a0 a1 a2 a3 a4 a5 a6 S H locs ls av0 h; exact h.elim
  | succ n9 ih =>
    intro a0 a1 a2 a3 a4 a5 a6 S H locs ls av0 h hR hS hl
    exact Bbw_X10_timeOf_51 C0 hr hlk hT ih12 ih a0 a1 a2 a3 a4 a5 a6 S H locs ls av0 h hR hS hl
def Bb_X10_timeOf_12 (kk12 : Nat → Int32 → Int32 → Int32 → Int32 → sSt → Prop) (a0 : Nat) (a1 : Int32) (a2 : Int32) (a3 : Int32) (a4 : Int32) (S : sSt) (k : Int32 → sSt → Prop) : Prop := ((100000 ≤ a4 → B_X10_timeOf_134 a2 a3 S k) ∧ (¬ 100000 ≤ a4 → F_X10_inState a0 0 S (fun r6 S7 => ((r6 ≤ 0 → B_X10_timeOf_134 a2 a3 S7 k) ∧ (¬ r6 ≤ 0 → ∀ x9 : Int32, x9 = ((S7.1 13 a0 10) + a4) → F_X10_endDone a0 x9 S7 (fun S11 => F_X10_inState a0 1 S11 (fun r12 S13 => ∀ x14 : Int32, x14 = (a1 - r12) → B_X10_timeOf_51 kk12 fuel a0 a1 a2 a3 a4 x9 x14 S13 k)))))))
set_option maxHeartbeats 4000000 in
set_option maxRecDepth 100000 in
theorem Bbw_X10_timeOf_12 {p : Program} {l : Launch} {e : Env} {s : State} {m : MethodId} {args : Array Value} {below : List Frame} {meth : Method} {c : Code} {D : va_G} {cy : Nat → ClassId} {b z : Nat} {tx : TX} (C0 : CallFix p m c cX10_timeOf 8 s args TB RX10) (hr : meth.sig.returnType = (some .int)) (hlk : meth.locks = false) (hT : TxR tx s) {k : Int32 → sSt → Prop} {kk12 : Nat → Int32 → Int32 → Int32 → Int32 → sSt → Prop} (ih12 : ∀ (a0 : Nat) (a1 : Int32) (a2 : Int32) (a3 : Int32) (a4 : Int32) (S : sSt) (H : Heap) (locs : List Loc) (ls : Array Slot) (av0 : a0 < 3), kk12 a0 a1 a2 a3 a4 S → RelC D cy b z tx S s H → va_S (gA b 709 z) s.heap H locs → lv_has ls 8 [(0, .ref (b + adC 13 a0)), (1, .int a1), (2, .int a2), (3, .int a3), (4, .int a4)] → W p l e rm_X10_timeOf s m args below meth c H locs 0 0 (MQ below (PiC D cy b z tx k) args s 0 0 (gA b 709 z)) (F0 m 12 ls [])) : ∀ (a0 : Nat) (a1 : Int32) (a2 : Int32) (a3 : Int32) (a4 : Int32) (S : sSt) (H : Heap) (locs : List Loc) (ls : Array Slot) (av0 : a0 < 3), Bb_X10_timeOf_12 kk12 a0 a1 a2 a3 a4 S k → RelC D cy b z tx S s H → va_S (gA b 709 z) s.heap H locs → lv_has ls 8 [(0, .ref (b + adC 13 a0)), (1, .int a1), (2, .int a2), (3, .int a3), (4, .int a4)] → W p l e rm_X10_timeOf s m args below meth c H locs 0 0 (MQ below (PiC D cy b z tx k) args s 0 0 (gA b 709 z)) (F0 m 12 ls []) := by
  intro a0 a1 a2 a3 a4 S H locs ls av0 h hR hS hl
  have hx := C0.1
  have hb := C0.2.1
  unfold Bb_X10_timeOf_12 at h
  refine lv_iload hx hb dX10_timeOf_12 (lv_at hl 4 rfl) ?_
  refine lv_ldc (v := 100000) hx hb C0.2.2.2.1 (C0.2.2.2.2 _ mC9_6_205) dX10_timeOf_14 ?_
  refine lv_icmp_ge (tgt := 134) hx hb dX10_timeOf_16 (by decide) (fun c4 => ?_) (fun c4 => ?_)
  · have h := h.1 c4
    exact Bw_X10_timeOf_134 C0 hr hlk hT a2 a3 S _ _ _ h hR hS (lv_sub hl [2, 3] rfl)
  · have h := h.2 c4
    refine lv_aload_n hx hb dX10_timeOf_19 rfl (lv_at hl 0 rfl) ?_
    refine lv_iconst (v := 0) hx hb dX10_timeOf_20 (by decide) ?_
    refine qC_Si (As := [.ref (b + adC 13 a0), .int 0]) (rest := []) C0 (c_X10_inState l av0 h) (va_cwS 2 C0.2.2.2.2 (tbS mC9_6_206 ⟨mC9_6_207, mC9_1_27, mC9_6_208⟩) rfl rfl rfl (by decide +kernel) ⟨Nat.le_of_ble_eq_true rfl, Nat.le_of_ble_eq_true rfl⟩) hR hT hS rfl hl.1 rfl (Nat.le_of_ble_eq_true rfl) dX10_timeOf_21 ⟨Nat.zero_le _, Nat.zero_le _⟩ (fun r6 S7 H locs h hR hS => ?_)
    refine lv_if_le (tgt := 134) hx hb dX10_timeOf_24 (by decide) (fun c8 => ?_) (fun c8 => ?_)
    · have h := h.1 c8
      exact Bw_X10_timeOf_134 C0 hr hlk hT a2 a3 S7 _ _ _ h hR hS (lv_sub hl [2, 3] rfl)
    · have h := h.2 c8
      refine lv_aload_n hx hb dX10_timeOf_27 rfl (lv_at hl 0 rfl) ?_
      refine gCn_13_10 C0 hR av0 tbs_wsX60 mC9_2_158 hT dX10_timeOf_28 ?_
      refine lv_iload hx hb dX10_timeOf_31 (lv_at hl 4 rfl) ?_
      refine lv_iadd hx hb dX10_timeOf_33 ?_
      refine lv_topi (fun x9 ex9 => ?_)
      have h := h x9 ex9
      refine lv_istore (lv' := [(5, .int x9), (0, .ref (b + adC 13 a0)), (1, .int a1), (2, .int a2), (3, .int a3), (4, .int a4)]) hx hb dX10_timeOf_34 hl (by decide) rfl (fun ls hl => ?_)
      refine lv_aload_n hx hb dX10_timeOf_36 rfl (lv_at hl 1 rfl) ?_
      refine lv_iload hx hb dX10_timeOf_37 (lv_at hl 0 rfl) ?_
      refine qC_Sv (As := [.ref (b + adC 13 a0), .int x9]) (rest := []) C0 (c_X10_endDone l av0 h) (va_cwS 2 C0.2.2.2.2 (tbS mC9_6_209 ⟨mC9_6_210, mC9_1_27, mC9_6_211⟩) rfl rfl rfl (by decide +kernel) ⟨Nat.le_of_ble_eq_true rfl, Nat.le_of_ble_eq_true rfl⟩) hR hT hS rfl hl.1 rfl (Nat.le_of_ble_eq_true rfl) dX10_timeOf_39 ⟨Nat.zero_le _, Nat.zero_le _⟩ (fun S11 H locs h hR hS => ?_)
      refine lv_iload_n hx hb dX10_timeOf_42 rfl (lv_at hl 2 rfl) ?_
      refine lv_aload_n hx hb dX10_timeOf_43 rfl (lv_at hl 1 rfl) ?_
      refine lv_iconst (v := 1) hx hb dX10_timeOf_44 (by decide) ?_
      refine qC_Si (As := [.ref (b + adC 13 a0), .int 1]) (rest := [.int a1]) C0 (c_X10_inState l av0 h) (va_cwS 2 C0.2.2.2.2 (tbS mC9_6_206 ⟨mC9_6_207, mC9_1_27, mC9_6_208⟩) rfl rfl rfl (by decide +kernel) ⟨Nat.le_of_ble_eq_true rfl, Nat.le_of_ble_eq_true rfl⟩) hR hT hS rfl hl.1 rfl (Nat.le_of_ble_eq_true rfl) dX10_timeOf_45 ⟨Nat.zero_le _, Nat.zero_le _⟩ (fun r12 S13 H locs h hR hS => ?_)
      refine lv_isub hx hb dX10_timeOf_48 ?_
      refine lv_topi (fun x14 ex14 => ?_)
      have h := h x14 ex14
      refine lv_istore (lv' := [(6, .int x14), (5, .int x9), (0, .ref (b + adC 13 a0)), (1, .int a1), (2, .int a2), (3, .int a3), (4, .int a4)]) hx hb dX10_timeOf_49 hl (by decide) rfl (fun ls hl => ?_)
      exact Bw_X10_timeOf_51 C0 hr hlk hT ih12 fuel a0 a1 a2 a3 a4 x9 x14 S13 _ _ _ av0 h hR hS (lv_sub hl [2, 3, 4, 5, 6, 1, 0] rfl)
def B_X10_timeOf_12 (n9 : Nat) (a0 : Nat) (a1 : Int32) (a2 : Int32) (a3 : Int32) (a4 : Int32) (S : sSt) (k : Int32 → sSt → Prop) : Prop := (Nat.rec (motive := fun _ => Nat → Int32 → Int32 → Int32 → Int32 → sSt → Prop) (fun _ _ _ _ _ _ => False) (fun _ r9 => fun a0 a1 a2 a3 a4 S => Bb_X10_timeOf_12 r9 a0 a1 a2 a3 a4 S k) n9 : Nat → Int32 → Int32 → Int32 → Int32 → sSt → Prop) a0 a1 a2 a3 a4 S
theorem B_X10_timeOf_12_s (n9 : Nat) (a0 : Nat) (a1 : Int32) (a2 : Int32) (a3 : Int32) (a4 : Int32) (S : sSt) (k : Int32 → sSt → Prop) : B_X10_timeOf_12 (n9 + 1) a0 a1 a2 a3 a4 S k = Bb_X10_timeOf_12 (fun a0 a1 a2 a3 a4 S => B_X10_timeOf_12 n9 a0 a1 a2 a3 a4 S k) a0 a1 a2 a3 a4 S k := rfl
set_option maxHeartbeats 4000000 in
set_option maxRecDepth 100000 in
theorem Bw_X10_timeOf_12 {p : Program} {l : Launch} {e : Env} {s : State} {m : MethodId} {args : Array Value} {below : List Frame} {meth : Method} {c : Code} {D : va_G} {cy : Nat → ClassId} {b z : Nat} {tx : TX} (C0 : CallFix p m c cX10_timeOf 8 s args TB RX10) (hr : meth.sig.returnType = (some .int)) (hlk : meth.locks = false) (hT : TxR tx s) {k : Int32 → sSt → Prop} : ∀ (n9 : Nat), ∀ (a0 : Nat) (a1 : Int32) (a2 : Int32) (a3 : Int32) (a4 : Int32) (S : sSt) (H : Heap) (locs : List Loc) (ls : Array Slot) (av0 : a0 < 3), B_X10_timeOf_12 n9 a0 a1 a2 a3 a4 S k → RelC D cy b z tx S s H → va_S (gA b 709 z) s.heap H locs → lv_has ls 8 [(0, .ref (b + adC 13 a0)), (1, .int a1), (2, .int a2), (3, .int a3), (4, .int a4)] → W p l e rm_X10_timeOf s m args below meth c H locs 0 0 (MQ below (PiC D cy b z tx k) args s 0 0 (gA b 709 z)) (F0 m 12 ls []) := by
  intro n9
  induction n9 with
  | zero => intro a0 a1 a2 a3 a4 S H locs ls av0 h; exact h.elim
  | succ n9 ih =>
    intro a0 a1 a2 a3 a4 S H locs ls av0 h hR hS hl
    exact Bbw_X10_timeOf_12 C0 hr hlk hT ih a0 a1 a2 a3 a4 S H locs ls av0 h hR hS hl
def F_X10_timeOf (a0 : Nat) (a1 : Int32) (a2 : Int32) (S : sSt) (k : Int32 → sSt → Prop) : Prop := F_X10_prepare a0 S (fun S2 => ∀ x3 : Int32, x3 = (S2.1 13 a0 10) → B_X10_timeOf_12 fuel a0 a1 a2 x3 0 S2 k)
set_option maxHeartbeats 4000000 in
set_option maxRecDepth 100000 in
theorem c_X10_timeOf (l : Launch) {D : va_G} {cy : Nat → ClassId} {b z : Nat} {tx : TX} {a0 : Nat} {a1 : Int32} {a2 : Int32} {S : sSt} {k : Int32 → sSt → Prop} (av0 : a0 < 3) (h : F_X10_timeOf a0 a1 a2 S k) : Met l yX10_timeOf (Cond.code yX10_timeOf cX10_timeOf 8 (some .int) :: TB) rm_X10_timeOf (va_Pc [.ref (b + adC 13 a0), .int a1, .int a2] (fun U => RelC D cy b z tx S U U.heap ∧ TxR tx U)) (PiC D cy b z tx k) 0 0 (gA b 709 z) := by
  refine Met.ofW (cc := cX10_timeOf) (maxL := 8) (ret := (some .int)) (by decide) rfl ?_
  intro p e s m args below meth c s₁ B hml hv
  obtain ⟨rfl, hR, hT⟩ := hv
  have C0 : CallFix p m c cX10_timeOf 8 s _ TB RX10 := ⟨B.exec, B.bytes, hml, findClass_of_methodNamed B.named, fun w hw => atoms_spec B.pre w (List.mem_cons_of_mem _ hw)⟩
  have hr := B.returns
  have hlk := B.notSynchronized
  have hx := C0.1
  have hb := C0.2.1
  have hS : va_S (gA b 709 z) s.heap s.heap [] := va_S.rf
  have hl := lv_entry ([.ref (b + adC 13 a0), .int a1, .int a2]) (n := 8) (Nat.le_of_ble_eq_true rfl)
  rw [lg_entry_eq]
  generalize (lg_sl ([.ref (b + adC 13 a0), .int a1, .int a2]) ++ List.replicate (8 - (lg_sl ([.ref (b + adC 13 a0), .int a1, .int a2])).length) Slot.unset).toArray = ls at hl ⊢
  have hl : lv_has ls 8 [(0, .ref (b + adC 13 a0)), (1, .int a1), (2, .int a2)] := hl
  show W p l e rm_X10_timeOf s m _ below meth c s.heap [] 0 0 (MQ below (PiC D cy b z tx k) _ s 0 0 (gA b 709 z)) _
  unfold F_X10_timeOf at h
  refine lv_aload_n hx hb dX10_timeOf_0 rfl (lv_at hl 0 rfl) ?_
  refine qC_Sv (As := [.ref (b + adC 13 a0)]) (rest := []) C0 (c_X10_prepare l av0 h) (va_cwS 1 C0.2.2.2.2 (tbS mC9_6_202 ⟨mC9_6_203, mC9_1_27, mC9_6_204⟩) rfl rfl rfl (by decide +kernel) ⟨Nat.le_of_ble_eq_true rfl, Nat.le_of_ble_eq_true rfl⟩) hR hT hS rfl hl.1 rfl (Nat.le_of_ble_eq_true rfl) dX10_timeOf_1 ⟨Nat.zero_le _, Nat.zero_le _⟩ (fun S2 H locs h hR hS => ?_)
  refine lv_aload_n hx hb dX10_timeOf_4 rfl (lv_at hl 0 rfl) ?_
  refine gCn_13_10 C0 hR av0 tbs_wsX60 mC9_2_158 hT dX10_timeOf_5 ?_
  refine lv_topi (fun x3 ex3 => ?_)
  have h := h x3 ex3
  refine lv_istore_n (lv' := [(3, .int x3), (0, .ref (b + adC 13 a0)), (1, .int a1), (2, .int a2)]) hx hb dX10_timeOf_8 rfl hl (by decide) rfl (fun ls hl => ?_)
  refine lv_iconst (v := 0) hx hb dX10_timeOf_9 (by decide) ?_
  refine lv_istore (lv' := [(4, .int 0), (3, .int x3), (0, .ref (b + adC 13 a0)), (1, .int a1), (2, .int a2)]) hx hb dX10_timeOf_10 hl (by decide) rfl (fun ls hl => ?_)
  exact Bw_X10_timeOf_12 C0 hr hlk hT fuel a0 a1 a2 x3 0 S2 _ _ _ av0 h hR hS (lv_sub hl [2, 3, 4, 1, 0] rfl)

def rm_X11_work : Room := { frames := 7, cells := 2, slots := 12, locals := 112 }
def B_X11_work_10 (S : sSt) (k : Int32 → sSt → Prop) (kx : String → sSt → Prop) : Prop := kx "java/lang/IllegalArgumentException" S
set_option maxHeartbeats 4000000 in
set_option maxRecDepth 100000 in
theorem Bw_X11_work_10 {p : Program} {l : Launch} {e : Env} {s : State} {m : MethodId} {args : Array Value} {below : List Frame} {meth : Method} {c : Code} {D : va_G} {cy : Nat → ClassId} {b z : Nat} {tx : TX} (C0 : CallFix p m c cX11_work 3 s args TB RX11) (hr : meth.sig.returnType = (some .int)) (hlk : meth.locks = false) (hT : TxR tx s) (hl0 : l.stackTraces = false) (hX0 : TxP tx b z s s.heap) (hexc : ∀ x ∈ c.exceptionTable.toList, False) {k : Int32 → sSt → Prop} {kx : String → sSt → Prop} : ∀ (S : sSt) (H : Heap) (locs : List Loc) (ls : Array Slot) , B_X11_work_10 S k kx → RelC D cy b z tx S s H → va_S (gA b 709 z) s.heap H locs → lv_has ls 3 [] → W p l e rm_X11_work s m args below meth c H locs 0 0 (vx_MQ below (PiC D cy b z tx k) (XeC D cy b z tx kx) args s 2 12 (gA b 709 z)) (F0 m 10 ls []) := by
  intro S H locs ls h hR hS hl
  have hx := C0.1
  have hb := C0.2.1
  unfold B_X11_work_10 at h
  exact w_throw_0 C0 hl0 hX0 hT hR hS hl.1 hexc hlk h mC9_4_45 mC9_1_21 dX11_work_10 dX11_work_13 dX11_work_14 dX11_work_17 (Nat.le_of_ble_eq_true rfl) (Nat.le_of_ble_eq_true rfl) (Nat.le_of_ble_eq_true rfl) (Nat.le_of_ble_eq_true rfl) (Nat.le_of_ble_eq_true rfl) (Nat.le_of_ble_eq_true rfl)
def B_X11_work_30 (a1 : Int32) (a2 : Int32) (S : sSt) (k : Int32 → sSt → Prop) (kx : String → sSt → Prop) : Prop := F_X6_copyFrom (S.2 0 0 5) (S.2 0 0 4) S (fun S7 => F_X10_timeOf (S7.2 0 0 5) a1 a2 S7 (fun r9 S10 => k r9 S10))
set_option maxHeartbeats 4000000 in
set_option maxRecDepth 100000 in
theorem Bw_X11_work_30 {p : Program} {l : Launch} {e : Env} {s : State} {m : MethodId} {args : Array Value} {below : List Frame} {meth : Method} {c : Code} {D : va_G} {cy : Nat → ClassId} {b z : Nat} {tx : TX} (C0 : CallFix p m c cX11_work 3 s args TB RX11) (hr : meth.sig.returnType = (some .int)) (hlk : meth.locks = false) (hT : TxR tx s) (hl0 : l.stackTraces = false) (hX0 : TxP tx b z s s.heap) (hexc : ∀ x ∈ c.exceptionTable.toList, False) {k : Int32 → sSt → Prop} {kx : String → sSt → Prop} : ∀ (a1 : Int32) (a2 : Int32) (S : sSt) (H : Heap) (locs : List Loc) (ls : Array Slot) , B_X11_work_30 a1 a2 S k kx → RelC D cy b z tx S s H → va_S (gA b 709 z) s.heap H locs → lv_has ls 3 [(0, .ref (b + adC 0 0)), (1, .int a1), (2, .int a2)] → W p l e rm_X11_work s m args below meth c H locs 2 12 (vx_MQ below (PiC D cy b z tx k) (XeC D cy b z tx kx) args s 2 12 (gA b 709 z)) (F0 m 30 ls []) := by
  intro a1 a2 S H locs ls h hR hS hl
  have hx := C0.1
  have hb := C0.2.1
  unfold B_X11_work_30 at h
  refine lv_aload_n hx hb dX11_work_30 rfl (lv_at hl 0 rfl) ?_
  refine gC_0_5 C0 hR Nat.zero_lt_one tbs_wsX110 mC9_2_214 dX11_work_31 ?_
  have w4 : (S.2 0 0 5) < 3 := hR.2.1.2.2
  refine lv_aload_n hx hb dX11_work_34 rfl (lv_at hl 0 rfl) ?_
  refine gC_0_4 C0 hR Nat.zero_lt_one tbs_wsX110 mC9_2_213 dX11_work_35 ?_
  have w5 : (S.2 0 0 4) < 3 := hR.2.1.2.1
  refine qC_Vv (As := [.ref (b + adC 13 (S.2 0 0 4))]) (rest := []) C0 (c_X6_copyFrom l w4 w5 h) (cwV 1 C0.2.2.2.2 (tbV mC9_3_53 ⟨mC9_3_54, mC9_3_55, mC9_1_5, mC9_3_56⟩) rfl rfl rfl (by decide +kernel) ⟨Nat.le_of_ble_eq_true rfl, Nat.le_of_ble_eq_true rfl⟩) (rcC_13 hR w4) hR hT hS rfl hl.1 rfl (Nat.le_of_ble_eq_true rfl) dX11_work_38 ⟨Nat.le_of_ble_eq_true rfl, Nat.le_of_ble_eq_true rfl⟩ (fun S7 H locs h hR hS => ?_)
  refine lv_aload_n hx hb dX11_work_41 rfl (lv_at hl 0 rfl) ?_
  refine gC_0_5 C0 hR Nat.zero_lt_one tbs_wsX110 mC9_2_214 dX11_work_42 ?_
  have w8 : (S7.2 0 0 5) < 3 := hR.2.1.2.2
  refine lv_iload_n hx hb dX11_work_45 rfl (lv_at hl 1 rfl) ?_
  refine lv_iload_n hx hb dX11_work_46 rfl (lv_at hl 2 rfl) ?_
  refine qC_Si (As := [.ref (b + adC 13 (S7.2 0 0 5)), .int a1, .int a2]) (rest := []) C0 (c_X10_timeOf l w8 h) (va_cwS 3 C0.2.2.2.2 (tbS mC9_6_199 ⟨mC9_6_200, mC9_1_27, mC9_6_201⟩) rfl rfl rfl (by decide +kernel) ⟨Nat.le_of_ble_eq_true rfl, Nat.le_of_ble_eq_true rfl⟩) hR hT hS rfl hl.1 rfl (Nat.le_of_ble_eq_true rfl) dX11_work_47 ⟨Nat.le_of_ble_eq_true rfl, Nat.le_of_ble_eq_true rfl⟩ (fun r9 S10 H locs h hR hS => ?_)
  refine vx_ret (W.widen (k := 2) (n := 12) (Nat.le_of_ble_eq_true rfl) (Nat.le_of_ble_eq_true rfl) ?_); exact rtC_i C0 hr hlk hR hS h dX11_work_50
def F_X11_work (a1 : Int32) (a2 : Int32) (S : sSt) (k : Int32 → sSt → Prop) (kx : String → sSt → Prop) : Prop := ((a1 < 1 → B_X11_work_10 S k kx) ∧ (¬ a1 < 1 → ((a1 ≤ 4 → ((a2 = (-1) → B_X11_work_30 a1 a2 S k kx) ∧ (¬ a2 = (-1) → F_X11_needJob (-1) a2 S (fun r11 S12 => B_X11_work_30 a1 a2 S12 k kx) kx))) ∧ (¬ a1 ≤ 4 → B_X11_work_10 S k kx))))
set_option maxHeartbeats 4000000 in
set_option maxRecDepth 100000 in
theorem c_X11_work (l : Launch) (hl0 : l.stackTraces = false) {D : va_G} {cy : Nat → ClassId} {b z : Nat} {tx : TX} {a1 : Int32} {a2 : Int32} {S : sSt} {k : Int32 → sSt → Prop} {kx : String → sSt → Prop} (h : F_X11_work a1 a2 S k kx) : vx_Met l yX11_work (Cond.code yX11_work cX11_work 3 (some .int) :: TB) rm_X11_work (va_Pc [.ref (b + adC 0 0), .int a1, .int a2] (fun U => RelC D cy b z tx S U U.heap ∧ TxR tx U)) (PiC D cy b z tx k) (XeC D cy b z tx kx) 2 12 (gA b 709 z) := by
  refine vx_ofW (cc := cX11_work) (maxL := 3) (ret := (some .int)) (by decide) rfl ?_
  intro p e s m args below meth c s₁ B hml hexc hv
  obtain ⟨rfl, hR, hT⟩ := hv
  have hX0 := hR.2.2
  have C0 : CallFix p m c cX11_work 3 s _ TB RX11 := ⟨B.exec, B.bytes, hml, findClass_of_methodNamed B.named, fun w hw => atoms_spec B.pre w (List.mem_cons_of_mem _ hw)⟩
  have hr := B.returns
  have hlk := B.notSynchronized
  have hx := C0.1
  have hb := C0.2.1
  have hS : va_S (gA b 709 z) s.heap s.heap [] := va_S.rf
  have hl := lv_entry ([.ref (b + adC 0 0), .int a1, .int a2]) (n := 3) (Nat.le_of_ble_eq_true rfl)
  rw [lg_entry_eq]
  generalize (lg_sl ([.ref (b + adC 0 0), .int a1, .int a2]) ++ List.replicate (3 - (lg_sl ([.ref (b + adC 0 0), .int a1, .int a2])).length) Slot.unset).toArray = ls at hl ⊢
  have hl : lv_has ls 3 [(0, .ref (b + adC 0 0)), (1, .int a1), (2, .int a2)] := hl
  show W p l e rm_X11_work s m _ below meth c s.heap [] 0 0 (vx_MQ below (PiC D cy b z tx k) (XeC D cy b z tx kx) _ s 2 12 (gA b 709 z)) _
  unfold F_X11_work at h
  refine lv_iload_n hx hb dX11_work_0 rfl (lv_at hl 1 rfl) ?_
  refine lv_iconst (v := 1) hx hb dX11_work_1 (by decide) ?_
  refine lv_icmp_lt (tgt := 10) hx hb dX11_work_2 (by decide) (fun c1 => ?_) (fun c1 => ?_)
  · have h := h.1 c1
    refine W.widen (k := 0) (n := 0) (Nat.le_of_ble_eq_true rfl) (Nat.le_of_ble_eq_true rfl) ?_
    exact Bw_X11_work_10 C0 hr hlk hT hl0 hX0 hexc S _ _ _ h hR hS (lv_sub hl [] rfl)
  · have h := h.2 c1
    refine lv_iload_n hx hb dX11_work_5 rfl (lv_at hl 1 rfl) ?_
    refine lv_iconst (v := 4) hx hb dX11_work_6 (by decide) ?_
    refine lv_icmp_le (tgt := 18) hx hb dX11_work_7 (by decide) (fun c2 => ?_) (fun c2 => ?_)
    · have h := h.1 c2
      refine lv_iload_n hx hb dX11_work_18 rfl (lv_at hl 2 rfl) ?_
      refine lv_iconst (v := (-1)) hx hb dX11_work_19 (by decide) ?_
      refine lv_icmp_eq (tgt := 30) hx hb dX11_work_20 (by decide) (fun c3 => ?_) (fun c3 => ?_)
      · have h := h.1 c3
        refine W.widen (k := 2) (n := 12) (Nat.le_of_ble_eq_true rfl) (Nat.le_of_ble_eq_true rfl) ?_
        exact Bw_X11_work_30 C0 hr hlk hT hl0 hX0 hexc a1 a2 S _ _ _ h hR hS (lv_sub hl [0, 1, 2] rfl)
      · have h := h.2 c3
        refine lv_aload_n hx hb dX11_work_23 rfl (lv_at hl 0 rfl) ?_
        refine lv_iconst (v := (-1)) hx hb dX11_work_24 (by decide) ?_
        refine lv_iload_n hx hb dX11_work_25 rfl (lv_at hl 2 rfl) ?_
        refine qx_Vr (As := [.int (-1), .int a2]) (rest := []) C0 hlk hexc (c_X11_needJob l hl0 h) (cwV 2 C0.2.2.2.2 (tbV mC9_5_134 ⟨mC9_5_136, mpC9_1_12, mC9_1_1, mC9_5_137⟩) rfl rfl rfl (by decide +kernel) ⟨Nat.le_of_ble_eq_true rfl, Nat.le_of_ble_eq_true rfl⟩) (rcC_0 hR Nat.zero_lt_one) hR hT hS rfl hl.1 rfl (Nat.le_of_ble_eq_true rfl) dX11_work_26 ⟨Nat.le_of_ble_eq_true rfl, Nat.le_of_ble_eq_true rfl⟩ ⟨Nat.le_of_ble_eq_true rfl, Nat.le_of_ble_eq_true rfl⟩ (fun r11 S12 H locs vr11 h hR hS => ?_)
        refine lv_pop hx hb dX11_work_29 rfl ?_
        refine W.widen (k := 2) (n := 12) (Nat.le_of_ble_eq_true rfl) (Nat.le_of_ble_eq_true rfl) ?_
        exact Bw_X11_work_30 C0 hr hlk hT hl0 hX0 hexc a1 a2 S12 _ _ _ h hR hS (lv_sub hl [0, 1, 2] rfl)
    · have h := h.2 c2
      refine W.widen (k := 0) (n := 0) (Nat.le_of_ble_eq_true rfl) (Nat.le_of_ble_eq_true rfl) ?_
      exact Bw_X11_work_10 C0 hr hlk hT hl0 hX0 hexc S _ _ _ h hR hS (lv_sub hl [] rfl)

def rm_X2_cell : Room := { frames := 0, cells := 0, slots := 0, locals := 0 }
def F_X2_cell (a0 : Nat) (a1 : Int32) (a2 : Int32) (S : sSt) (k : Int32 → sSt → Prop) : Prop := ((a1 < 0 → k (-1) S) ∧ (¬ a1 < 0 → (((S.1 19 a0 2) ≤ a1 → k (-1) S) ∧ (¬ (S.1 19 a0 2) ≤ a1 → ((a2 < 0 → k (-1) S) ∧ (¬ a2 < 0 → ((a2 < 5 → ix (((((S.1 19 a0 1) + a1) - ((S.1 19 a0 1) + a1) / 60 * 60) * 5) + a2) 300 (fun j6 => k (S.1 20 a0 j6) S)) ∧ (¬ a2 < 5 → k (-1) S))))))))
set_option maxHeartbeats 4000000 in
set_option maxRecDepth 100000 in
theorem c_X2_cell (l : Launch) {D : va_G} {cy : Nat → ClassId} {b z : Nat} {tx : TX} {a0 : Nat} {a1 : Int32} {a2 : Int32} {S : sSt} {k : Int32 → sSt → Prop} (av0 : a0 < 3) (h : F_X2_cell a0 a1 a2 S k) : Met l yX2_cell (Cond.code yX2_cell cX2_cell 3 (some .int) :: TB) rm_X2_cell (va_Pc [.ref (b + adC 19 a0), .int a1, .int a2] (fun U => RelC D cy b z tx S U U.heap ∧ TxR tx U)) (PiC D cy b z tx k) 0 0 (gA b 709 z) := by
  refine Met.ofW (cc := cX2_cell) (maxL := 3) (ret := (some .int)) (by decide) rfl ?_
  intro p e s m args below meth c s₁ B hml hv
  obtain ⟨rfl, hR, hT⟩ := hv
  have C0 : CallFix p m c cX2_cell 3 s _ TB RX2 := ⟨B.exec, B.bytes, hml, findClass_of_methodNamed B.named, fun w hw => atoms_spec B.pre w (List.mem_cons_of_mem _ hw)⟩
  have hr := B.returns
  have hlk := B.notSynchronized
  have hx := C0.1
  have hb := C0.2.1
  have hS : va_S (gA b 709 z) s.heap s.heap [] := va_S.rf
  have hl := lv_entry ([.ref (b + adC 19 a0), .int a1, .int a2]) (n := 3) (Nat.le_of_ble_eq_true rfl)
  rw [lg_entry_eq]
  generalize (lg_sl ([.ref (b + adC 19 a0), .int a1, .int a2]) ++ List.replicate (3 - (lg_sl ([.ref (b + adC 19 a0), .int a1, .int a2])).length) Slot.unset).toArray = ls at hl ⊢
  have hl : lv_has ls 3 [(0, .ref (b + adC 19 a0)), (1, .int a1), (2, .int a2)] := hl
  show W p l e rm_X2_cell s m _ below meth c s.heap [] 0 0 (MQ below (PiC D cy b z tx k) _ s 0 0 (gA b 709 z)) _
  unfold F_X2_cell at h
  refine lv_iload_n hx hb dX2_cell_0 rfl (lv_at hl 1 rfl) ?_
  refine lv_if_lt (tgt := 21) hx hb dX2_cell_1 (by decide) (fun c1 => ?_) (fun c1 => ?_)
  · have h := h.1 c1
    refine lv_iconst (v := (-1)) hx hb dX2_cell_21 (by decide) ?_
    exact rtC_i C0 hr hlk hR hS h dX2_cell_22
  · have h := h.2 c1
    refine lv_iload_n hx hb dX2_cell_4 rfl (lv_at hl 1 rfl) ?_
    refine lv_aload_n hx hb dX2_cell_5 rfl (lv_at hl 0 rfl) ?_
    refine gC_19_2 C0 hR av0 tbs_wsX20 mC9_1_137 dX2_cell_6 ?_
    refine lv_icmp_ge (tgt := 21) hx hb dX2_cell_9 (by decide) (fun c2 => ?_) (fun c2 => ?_)
    · have h := h.1 c2
      refine lv_iconst (v := (-1)) hx hb dX2_cell_21 (by decide) ?_
      exact rtC_i C0 hr hlk hR hS h dX2_cell_22
    · have h := h.2 c2
      refine lv_iload_n hx hb dX2_cell_12 rfl (lv_at hl 2 rfl) ?_
      refine lv_if_lt (tgt := 21) hx hb dX2_cell_13 (by decide) (fun c3 => ?_) (fun c3 => ?_)
      · have h := h.1 c3
        refine lv_iconst (v := (-1)) hx hb dX2_cell_21 (by decide) ?_
        exact rtC_i C0 hr hlk hR hS h dX2_cell_22
      · have h := h.2 c3
        refine lv_iload_n hx hb dX2_cell_16 rfl (lv_at hl 2 rfl) ?_
        refine lv_iconst (v := 5) hx hb dX2_cell_17 (by decide) ?_
        refine lv_icmp_lt (tgt := 23) hx hb dX2_cell_18 (by decide) (fun c4 => ?_) (fun c4 => ?_)
        · have h := h.1 c4
          refine lv_aload_n hx hb dX2_cell_23 rfl (lv_at hl 0 rfl) ?_
          refine gC_19_0 C0 hR av0 tbs_wsX20 mC9_1_135 dX2_cell_24 ?_
          have w5 : a0 < 3 := by omega
          refine lv_aload_n hx hb dX2_cell_27 rfl (lv_at hl 0 rfl) ?_
          refine gC_19_1 C0 hR av0 tbs_wsX20 mC9_1_136 dX2_cell_28 ?_
          refine lv_iload_n hx hb dX2_cell_31 rfl (lv_at hl 1 rfl) ?_
          refine lv_iadd hx hb dX2_cell_32 ?_
          refine lv_bipush (v := 60) hx hb dX2_cell_33 (by decide) ?_
          refine lv_irem hx hb dX2_cell_35 (by decide) ?_
          refine lv_iconst (v := 5) hx hb dX2_cell_36 (by decide) ?_
          refine lv_imul hx hb dX2_cell_37 ?_
          refine lv_iload_n hx hb dX2_cell_38 rfl (lv_at hl 2 rfl) ?_
          refine lv_iadd hx hb dX2_cell_39 ?_
          obtain ⟨j6, hj6, ej6, h⟩ := h
          refine lC_20 C0 hR w5 hj6 ej6 dX2_cell_40 ?_
          exact rtC_i C0 hr hlk hR hS h dX2_cell_41
        · have h := h.2 c4
          refine lv_iconst (v := (-1)) hx hb dX2_cell_21 (by decide) ?_
          exact rtC_i C0 hr hlk hR hS h dX2_cell_22

def rm_X2_tokenAt : Room := { frames := 1, cells := 0, slots := 0, locals := 22 }
def B_X2_tokenAt_52 (kk7 : Nat → Int32 → Int32 → Int32 → sSt → Prop) (a0 : Nat) (a1 : Int32) (a2 : Int32) (a3 : Int32) (S : sSt) (k : Int32 → sSt → Prop) : Prop := ∀ x6 : Int32, x6 = a3 + (-1) → kk7 a0 a1 a2 x6 S
set_option maxHeartbeats 4000000 in
set_option maxRecDepth 100000 in
theorem Bw_X2_tokenAt_52 {p : Program} {l : Launch} {e : Env} {s : State} {m : MethodId} {args : Array Value} {below : List Frame} {meth : Method} {c : Code} {D : va_G} {cy : Nat → ClassId} {b z : Nat} {tx : TX} (C0 : CallFix p m c cX2_tokenAt 4 s args TB RX2) (hr : meth.sig.returnType = (some .int)) (hlk : meth.locks = false) (hT : TxR tx s) {k : Int32 → sSt → Prop} {kk7 : Nat → Int32 → Int32 → Int32 → sSt → Prop} (ih7 : ∀ (a0 : Nat) (a1 : Int32) (a2 : Int32) (a3 : Int32) (S : sSt) (H : Heap) (locs : List Loc) (ls : Array Slot) (av0 : a0 < 3), kk7 a0 a1 a2 a3 S → RelC D cy b z tx S s H → va_S (gA b 709 z) s.heap H locs → lv_has ls 4 [(0, .ref (b + adC 19 a0)), (1, .int a1), (2, .int a2), (3, .int a3)] → W p l e rm_X2_tokenAt s m args below meth c H locs 0 0 (MQ below (PiC D cy b z tx k) args s 0 0 (gA b 709 z)) (F0 m 7 ls [])) : ∀ (a0 : Nat) (a1 : Int32) (a2 : Int32) (a3 : Int32) (S : sSt) (H : Heap) (locs : List Loc) (ls : Array Slot) (av0 : a0 < 3), B_X2_tokenAt_52 kk7 a0 a1 a2 a3 S k → RelC D cy b z tx S s H → va_S (gA b 709 z) s.heap H locs → lv_has ls 4 [(0, .ref (b + adC 19 a0)), (1, .int a1), (2, .int a2), (3, .int a3)] → W p l e rm_X2_tokenAt s m args below meth c H locs 0 0 (MQ below (PiC D cy b z tx k) args s 0 0 (gA b 709 z)) (F0 m 52 ls []) := by
  intro a0 a1 a2 a3 S H locs ls av0 h hR hS hl
  have hx := C0.1
  have hb := C0.2.1
  unfold B_X2_tokenAt_52 at h
  obtain ⟨x6, ex6⟩ : ∃ x6 : Int32, x6 = a3 + (-1) := ⟨_, rfl⟩
  have h := h x6 ex6
  refine w_iinc (v0 := (-1)) (lv' := [(3, .int x6), (0, .ref (b + adC 19 a0)), (1, .int a1), (2, .int a2)]) C0 dX2_tokenAt_52 hl (k := 3) rfl (by decide) (by decide) x6 ex6 rfl (fun ls hl => ?_)
  refine lv_goto (tgt := 7) hx hb dX2_tokenAt_55 (by decide) ?_
  exact ih7 a0 a1 a2 x6 S _ _ _ av0 h hR hS (lv_sub hl [1, 2, 3, 0] rfl)
def Bb_X2_tokenAt_7 (kk7 : Nat → Int32 → Int32 → Int32 → sSt → Prop) (a0 : Nat) (a1 : Int32) (a2 : Int32) (a3 : Int32) (S : sSt) (k : Int32 → sSt → Prop) : Prop := ((a3 < 0 → k (-1) S) ∧ (¬ a3 < 0 → F_X2_cell a0 a3 1 S (fun r3 S4 => ((¬ r3 = a1 → B_X2_tokenAt_52 kk7 a0 a1 a2 a3 S4 k) ∧ (r3 = a1 → F_X2_cell a0 a3 0 S4 (fun r7 S8 => ((a2 < r7 → B_X2_tokenAt_52 kk7 a0 a1 a2 a3 S8 k) ∧ (¬ a2 < r7 → F_X2_cell a0 a3 2 S8 (fun r10 S11 => ((¬ r10 = 1 → k (-1) S11) ∧ (r10 = 1 → F_X2_cell a0 a3 3 S11 (fun r13 S14 => k r13 S14))))))))))))
set_option maxHeartbeats 4000000 in
set_option maxRecDepth 100000 in
theorem Bbw_X2_tokenAt_7 {p : Program} {l : Launch} {e : Env} {s : State} {m : MethodId} {args : Array Value} {below : List Frame} {meth : Method} {c : Code} {D : va_G} {cy : Nat → ClassId} {b z : Nat} {tx : TX} (C0 : CallFix p m c cX2_tokenAt 4 s args TB RX2) (hr : meth.sig.returnType = (some .int)) (hlk : meth.locks = false) (hT : TxR tx s) {k : Int32 → sSt → Prop} {kk7 : Nat → Int32 → Int32 → Int32 → sSt → Prop} (ih7 : ∀ (a0 : Nat) (a1 : Int32) (a2 : Int32) (a3 : Int32) (S : sSt) (H : Heap) (locs : List Loc) (ls : Array Slot) (av0 : a0 < 3), kk7 a0 a1 a2 a3 S → RelC D cy b z tx S s H → va_S (gA b 709 z) s.heap H locs → lv_has ls 4 [(0, .ref (b + adC 19 a0)), (1, .int a1), (2, .int a2), (3, .int a3)] → W p l e rm_X2_tokenAt s m args below meth c H locs 0 0 (MQ below (PiC D cy b z tx k) args s 0 0 (gA b 709 z)) (F0 m 7 ls [])) : ∀ (a0 : Nat) (a1 : Int32) (a2 : Int32) (a3 : Int32) (S : sSt) (H : Heap) (locs : List Loc) (ls : Array Slot) (av0 : a0 < 3), Bb_X2_tokenAt_7 kk7 a0 a1 a2 a3 S k → RelC D cy b z tx S s H → va_S (gA b 709 z) s.heap H locs → lv_has ls 4 [(0, .ref (b + adC 19 a0)), (1, .int a1), (2, .int a2), (3, .int a3)] → W p l e rm_X2_tokenAt s m args below meth c H locs 0 0 (MQ below (PiC D cy b z tx k) args s 0 0 (gA b 709 z)) (F0 m 7 ls []) := by
  intro a0 a1 a2 a3 S H locs ls av0 h hR hS hl
  have hx := C0.1
  have hb := C0.2.1
  unfold Bb_X2_tokenAt_7 at h
  refine lv_iload_n hx hb dX2_tokenAt_7 rfl (lv_at hl 3 rfl) ?_
  refine lv_if_lt (tgt := 58) hx hb dX2_tokenAt_8 (by decide) (fun c2 => ?_) (fun c2 => ?_)
  · have h := h.1 c2
    refine lv_iconst (v := (-1)) hx hb dX2_tokenAt_58 (by decide) ?_
    exact rtC_i C0 hr hlk hR hS h dX2_tokenAt_59
  · have h := h.2 c2
    refine lv_aload_n hx hb dX2_tokenAt_11 rfl (lv_at hl 0 rfl) ?_
    refine lv_iload_n hx hb dX2_tokenAt_12 rfl (lv_at hl 3 rfl) ?_
    refine lv_iconst (v := 1) hx hb dX2_tokenAt_13 (by decide) ?_
    refine qC_Vi (As := [.int a3, .int 1]) (rest := []) C0 (c_X2_cell l av0 h) (cwV 2 C0.2.2.2.2 (tbV mC9_3_38 ⟨mC9_3_39, mC9_3_40, mC9_1_6, mC9_3_41⟩) rfl rfl rfl (by decide +kernel) ⟨Nat.le_of_ble_eq_true rfl, Nat.le_of_ble_eq_true rfl⟩) (rcC_19 hR av0) hR hT hS rfl hl.1 rfl (Nat.le_of_ble_eq_true rfl) dX2_tokenAt_14 ⟨Nat.zero_le _, Nat.zero_le _⟩ (fun r3 S4 H locs h hR hS => ?_)
    refine lv_iload_n hx hb dX2_tokenAt_17 rfl (lv_at hl 1 rfl) ?_
    refine lv_icmp_ne (tgt := 52) hx hb dX2_tokenAt_18 (by decide) (fun c5 => ?_) (fun c5 => ?_)
    · have h := h.1 c5
      exact Bw_X2_tokenAt_52 C0 hr hlk hT ih7 a0 a1 a2 a3 S4 _ _ _ av0 h hR hS (lv_sub hl [0, 1, 2, 3] rfl)
    · have h := h.2 c5
      refine lv_aload_n hx hb dX2_tokenAt_21 rfl (lv_at hl 0 rfl) ?_
      refine lv_iload_n hx hb dX2_tokenAt_22 rfl (lv_at hl 3 rfl) ?_
      refine lv_iconst (v := 0) hx hb dX2_tokenAt_23 (by decide) ?_
      refine qC_Vi (As := [.int a3, .int 0]) (rest := []) C0 (c_X2_cell l av0 h) (cwV 2 C0.2.2.2.2 (tbV mC9_3_38 ⟨mC9_3_39, mC9_3_40, mC9_1_6, mC9_3_41⟩) rfl rfl rfl (by decide +kernel) ⟨Nat.le_of_ble_eq_true rfl, Nat.le_of_ble_eq_true rfl⟩) (rcC_19 hR av0) hR hT hS rfl hl.1 rfl (Nat.le_of_ble_eq_true rfl) dX2_tokenAt_24 ⟨Nat.zero_le _, Nat.zero_le _⟩ (fun r7 S8 H locs h hR hS => ?_)
      refine lv_iload_n hx hb dX2_tokenAt_27 rfl (lv_at hl 2 rfl) ?_
      refine lv_icmp_gt (tgt := 52) hx hb dX2_tokenAt_28 (by decide) (fun c9 => ?_) (fun c9 => ?_)
      · have h := h.1 c9
        exact Bw_X2_tokenAt_52 C0 hr hlk hT ih7 a0 a1 a2 a3 S8 _ _ _ av0 h hR hS (lv_sub hl [0, 1, 2, 3] rfl)
      · have h := h.2 c9
        refine lv_aload_n hx hb dX2_tokenAt_31 rfl (lv_at hl 0 rfl) ?_
        refine lv_iload_n hx hb dX2_tokenAt_32 rfl (lv_at hl 3 rfl) ?_
        refine lv_iconst (v := 2) hx hb dX2_tokenAt_33 (by decide) ?_
        refine qC_Vi (As := [.int a3, .int 2]) (rest := []) C0 (c_X2_cell l av0 h) (cwV 2 C0.2.2.2.2 (tbV mC9_3_38 ⟨mC9_3_39, mC9_3_40, mC9_1_6, mC9_3_41⟩) rfl rfl rfl (by decide +kernel) ⟨Nat.le_of_ble_eq_true rfl, Nat.le_of_ble_eq_true rfl⟩) (rcC_19 hR av0) hR hT hS rfl hl.1 rfl (Nat.le_of_ble_eq_true rfl) dX2_tokenAt_34 ⟨Nat.zero_le _, Nat.zero_le _⟩ (fun r10 S11 H locs h hR hS => ?_)
        refine lv_iconst (v := 1) hx hb dX2_tokenAt_37 (by decide) ?_
        refine lv_icmp_ne (tgt := 50) hx hb dX2_tokenAt_38 (by decide) (fun c12 => ?_) (fun c12 => ?_)
        · have h := h.1 c12
          refine lv_iconst (v := (-1)) hx hb dX2_tokenAt_50 (by decide) ?_
          exact rtC_i C0 hr hlk hR hS h dX2_tokenAt_51
        · have h := h.2 c12
          refine lv_aload_n hx hb dX2_tokenAt_41 rfl (lv_at hl 0 rfl) ?_
          refine lv_iload_n hx hb dX2_tokenAt_42 rfl (lv_at hl 3 rfl) ?_
          refine lv_iconst (v := 3) hx hb dX2_tokenAt_43 (by decide) ?_
          refine qC_Vi (As := [.int a3, .int 3]) (rest := []) C0 (c_X2_cell l av0 h) (cwV 2 C0.2.2.2.2 (tbV mC9_3_38 ⟨mC9_3_39, mC9_3_40, mC9_1_6, mC9_3_41⟩) rfl rfl rfl (by decide +kernel) ⟨Nat.le_of_ble_eq_true rfl, Nat.le_of_ble_eq_true rfl⟩) (rcC_19 hR av0) hR hT hS rfl hl.1 rfl (Nat.le_of_ble_eq_true rfl) dX2_tokenAt_44 ⟨Nat.zero_le _, Nat.zero_le _⟩ (fun r13 S14 H locs h hR hS => ?_)
          refine lv_goto (tgt := 51) hx hb dX2_tokenAt_47 (by decide) ?_
          exact rtC_i C0 hr hlk hR hS h dX2_tokenAt_51
def B_X2_tokenAt_7 (n9 : Nat) (a0 : Nat) (a1 : Int32) (a2 : Int32) (a3 : Int32) (S : sSt) (k : Int32 → sSt → Prop) : Prop := (Nat.rec (motive := fun _ => Nat → Int32 → Int32 → Int32 → sSt → Prop) (fun _ _ _ _ _ => False) (fun _ r9 => fun a0 a1 a2 a3 S => Bb_X2_tokenAt_7 r9 a0 a1 a2 a3 S k) n9 : Nat → Int32 → Int32 → Int32 → sSt → Prop) a0 a1 a2 a3 S
theorem B_X2_tokenAt_7_s (n9 : Nat) (a0 : Nat) (a1 : Int32) (a2 : Int32) (a3 : Int32) (S : sSt) (k : Int32 → sSt → Prop) : B_X2_tokenAt_7 (n9 + 1) a0 a1 a2 a3 S k = Bb_X2_tokenAt_7 (fun a0 a1 a2 a3 S => B_X2_tokenAt_7 n9 a0 a1 a2 a3 S k) a0 a1 a2 a3 S k := rfl
set_option maxHeartbeats 4000000 in
set_option maxRecDepth 100000 in
theorem Bw_X2_tokenAt_7 {p : Program} {l : Launch} {e : Env} {s : State} {m : MethodId} {args : Array Value} {below : List Frame} {meth : Method} {c : Code} {D : va_G} {cy : Nat → ClassId} {b z : Nat} {tx : TX} (C0 : CallFix p m c cX2_tokenAt 4 s args TB RX2) (hr : meth.sig.returnType = (some .int)) (hlk : meth.locks = false) (hT : TxR tx s) {k : Int32 → sSt → Prop} : ∀ (n9 : Nat), ∀ (a0 : Nat) (a1 : Int32) (a2 : Int32) (a3 : Int32) (S : sSt) (H : Heap) (locs : List Loc) (ls : Array Slot) (av0 : a0 < 3), B_X2_tokenAt_7 n9 a0 a1 a2 a3 S k → RelC D cy b z tx S s H → va_S (gA b 709 z) s.heap H locs → lv_has ls 4 [(0, .ref (b + adC 19 a0)), (1, .int a1), (2, .int a2), (3, .int a3)] → W p l e rm_X2_tokenAt s m args below meth c H locs 0 0 (MQ below (PiC D cy b z tx k) args s 0 0 (gA b 709 z)) (F0 m 7 ls []) := by
  intro n9
  induction n9 with
  | zero => intro a0 a1 a2 a3 S H locs ls av0 h; exact h.elim
  | succ n9 ih =>
    intro a0 a1 a2 a3 S H locs ls av0 h hR hS hl
    exact Bbw_X2_tokenAt_7 C0 hr hlk hT ih a0 a1 a2 a3 S H locs ls av0 h hR hS hl
def F_X2_tokenAt (a0 : Nat) (a1 : Int32) (a2 : Int32) (S : sSt) (k : Int32 → sSt → Prop) : Prop := ∀ x1 : Int32, x1 = ((S.1 19 a0 2) - 1) → B_X2_tokenAt_7 fuel a0 a1 a2 x1 S k
set_option maxHeartbeats 4000000 in
set_option maxRecDepth 100000 in
theorem c_X2_tokenAt (l : Launch) {D : va_G} {cy : Nat → ClassId} {b z : Nat} {tx : TX} {a0 : Nat} {a1 : Int32} {a2 : Int32} {S : sSt} {k : Int32 → sSt → Prop} (av0 : a0 < 3) (h : F_X2_tokenAt a0 a1 a2 S k) : Met l yX2_tokenAt (Cond.code yX2_tokenAt cX2_tokenAt 4 (some .int) :: TB) rm_X2_tokenAt (va_Pc [.ref (b + adC 19 a0), .int a1, .int a2] (fun U => RelC D cy b z tx S U U.heap ∧ TxR tx U)) (PiC D cy b z tx k) 0 0 (gA b 709 z) := by
  refine Met.ofW (cc := cX2_tokenAt) (maxL := 4) (ret := (some .int)) (by decide) rfl ?_
  intro p e s m args below meth c s₁ B hml hv
  obtain ⟨rfl, hR, hT⟩ := hv
  have C0 : CallFix p m c cX2_tokenAt 4 s _ TB RX2 := ⟨B.exec, B.bytes, hml, findClass_of_methodNamed B.named, fun w hw => atoms_spec B.pre w (List.mem_cons_of_mem _ hw)⟩
  have hr := B.returns
  have hlk := B.notSynchronized
  have hx := C0.1
  have hb := C0.2.1
  have hS : va_S (gA b 709 z) s.heap s.heap [] := va_S.rf
  have hl := lv_entry ([.ref (b + adC 19 a0), .int a1, .int a2]) (n := 4) (Nat.le_of_ble_eq_true rfl)
  rw [lg_entry_eq]
  generalize (lg_sl ([.ref (b + adC 19 a0), .int a1, .int a2]) ++ List.replicate (4 - (lg_sl ([.ref (b + adC 19 a0), .int a1, .int a2])).length) Slot.unset).toArray = ls at hl ⊢
  have hl : lv_has ls 4 [(0, .ref (b + adC 19 a0)), (1, .int a1), (2, .int a2)] := hl
  show W p l e rm_X2_tokenAt s m _ below meth c s.heap [] 0 0 (MQ below (PiC D cy b z tx k) _ s 0 0 (gA b 709 z)) _
  unfold F_X2_tokenAt at h
  refine lv_aload_n hx hb dX2_tokenAt_0 rfl (lv_at hl 0 rfl) ?_
  refine gC_19_2 C0 hR av0 tbs_wsX20 mC9_1_137 dX2_tokenAt_1 ?_
  refine lv_iconst (v := 1) hx hb dX2_tokenAt_4 (by decide) ?_
  refine lv_isub hx hb dX2_tokenAt_5 ?_
  refine lv_topi (fun x1 ex1 => ?_)
  have h := h x1 ex1
  refine lv_istore_n (lv' := [(3, .int x1), (0, .ref (b + adC 19 a0)), (1, .int a1), (2, .int a2)]) hx hb dX2_tokenAt_6 rfl hl (by decide) rfl (fun ls hl => ?_)
  exact Bw_X2_tokenAt_7 C0 hr hlk hT fuel a0 a1 a2 x1 S _ _ _ av0 h hR hS (lv_sub hl [1, 2, 3, 0] rfl)

def rm_X11_was : Room := { frames := 7, cells := 1, slots := 6, locals := 112 }
def F_X11_was (a1 : Int32) (a2 : Int32) (S : sSt) (k : Int32 → sSt → Prop) (kx : String → sSt → Prop) : Prop := F_X11_needJob (-1) a1 S (fun r1 S2 => F_X2_tokenAt (S2.2 0 0 4) a1 a2 S2 (fun r5 S6 => k r5 S6)) kx
set_option maxHeartbeats 4000000 in
set_option maxRecDepth 100000 in
theorem c_X11_was (l : Launch) (hl0 : l.stackTraces = false) {D : va_G} {cy : Nat → ClassId} {b z : Nat} {tx : TX} {a1 : Int32} {a2 : Int32} {S : sSt} {k : Int32 → sSt → Prop} {kx : String → sSt → Prop} (h : F_X11_was a1 a2 S k kx) : vx_Met l yX11_was (Cond.code yX11_was cX11_was 3 (some .int) :: TB) rm_X11_was (va_Pc [.ref (b + adC 0 0), .int a1, .int a2] (fun U => RelC D cy b z tx S U U.heap ∧ TxR tx U)) (PiC D cy b z tx k) (XeC D cy b z tx kx) 1 6 (gA b 709 z) := by
  refine vx_ofW (cc := cX11_was) (maxL := 3) (ret := (some .int)) (by decide) rfl ?_
  intro p e s m args below meth c s₁ B hml hexc hv
  obtain ⟨rfl, hR, hT⟩ := hv
  have hX0 := hR.2.2
  have C0 : CallFix p m c cX11_was 3 s _ TB RX11 := ⟨B.exec, B.bytes, hml, findClass_of_methodNamed B.named, fun w hw => atoms_spec B.pre w (List.mem_cons_of_mem _ hw)⟩
  have hr := B.returns
  have hlk := B.notSynchronized
  have hx := C0.1
  have hb := C0.2.1
  have hS : va_S (gA b 709 z) s.heap s.heap [] := va_S.rf
  have hl := lv_entry ([.ref (b + adC 0 0), .int a1, .int a2]) (n := 3) (Nat.le_of_ble_eq_true rfl)
  rw [lg_entry_eq]
  generalize (lg_sl ([.ref (b + adC 0 0), .int a1, .int a2]) ++ List.replicate (3 - (lg_sl ([.ref (b + adC 0 0), .int a1, .int a2])).length) Slot.unset).toArray = ls at hl ⊢
  have hl : lv_has ls 3 [(0, .ref (b + adC 0 0)), (1, .int a1), (2, .int a2)] := hl
  show W p l e rm_X11_was s m _ below meth c s.heap [] 0 0 (vx_MQ below (PiC D cy b z tx k) (XeC D cy b z tx kx) _ s 1 6 (gA b 709 z)) _
  unfold F_X11_was at h
  refine lv_aload_n hx hb dX11_was_0 rfl (lv_at hl 0 rfl) ?_
  refine lv_iconst (v := (-1)) hx hb dX11_was_1 (by decide) ?_
  refine lv_iload_n hx hb dX11_was_2 rfl (lv_at hl 1 rfl) ?_
  refine qx_Vr (As := [.int (-1), .int a1]) (rest := []) C0 hlk hexc (c_X11_needJob l hl0 h) (cwV 2 C0.2.2.2.2 (tbV mC9_5_134 ⟨mC9_5_136, mpC9_1_12, mC9_1_1, mC9_5_137⟩) rfl rfl rfl (by decide +kernel) ⟨Nat.le_of_ble_eq_true rfl, Nat.le_of_ble_eq_true rfl⟩) (rcC_0 hR Nat.zero_lt_one) hR hT hS rfl hl.1 rfl (Nat.le_of_ble_eq_true rfl) dX11_was_3 ⟨Nat.le_of_ble_eq_true rfl, Nat.le_of_ble_eq_true rfl⟩ ⟨Nat.le_of_ble_eq_true rfl, Nat.le_of_ble_eq_true rfl⟩ (fun r1 S2 H locs vr1 h hR hS => ?_)
  refine lv_pop hx hb dX11_was_6 rfl ?_
  refine lv_aload_n hx hb dX11_was_7 rfl (lv_at hl 0 rfl) ?_
  refine gC_0_4 C0 hR Nat.zero_lt_one tbs_wsX110 mC9_2_213 dX11_was_8 ?_
  have w3 : (S2.2 0 0 4) < 3 := hR.2.1.2.1
  refine gCn_13_5 C0 hR w3 tbs_wsX60 mC9_2_145 hT dX11_was_11 ?_
  have w4 : (S2.2 0 0 4) < 3 := by omega
  refine lv_iload_n hx hb dX11_was_14 rfl (lv_at hl 1 rfl) ?_
  refine lv_iload_n hx hb dX11_was_15 rfl (lv_at hl 2 rfl) ?_
  refine qC_Vi (As := [.int a1, .int a2]) (rest := []) C0 (c_X2_tokenAt l w4 h) (cwV 2 C0.2.2.2.2 (tbV mC9_6_226 ⟨mC9_6_227, mC9_6_228, mC9_1_6, mC9_6_229⟩) rfl rfl rfl (by decide +kernel) ⟨Nat.le_of_ble_eq_true rfl, Nat.le_of_ble_eq_true rfl⟩) (rcC_19 hR w4) hR hT hS rfl hl.1 rfl (Nat.le_of_ble_eq_true rfl) dX11_was_16 ⟨Nat.le_of_ble_eq_true rfl, Nat.le_of_ble_eq_true rfl⟩ (fun r5 S6 H locs h hR hS => ?_)
  refine vx_ret (W.widen (k := 1) (n := 6) (Nat.le_of_ble_eq_true rfl) (Nat.le_of_ble_eq_true rfl) ?_); exact rtC_i C0 hr hlk hR hS h dX11_was_19

def rm_X2_holdFrom : Room := { frames := 1, cells := 0, slots := 0, locals := 22 }
def B_X2_holdFrom_47 (a0 : Nat) (a1 : Int32) (a2 : Int32) (t0 : Int32) (S : sSt) (k : Int32 → sSt → Prop) : Prop := ((t0 = 0 → k 0 S) ∧ (¬ t0 = 0 → F_X2_cell a0 a2 0 S (fun r15 S16 => F_X2_cell a0 a1 0 S16 (fun r17 S18 => k (r15 - r17) S18))))
set_option maxHeartbeats 4000000 in
set_option maxRecDepth 100000 in
theorem Bw_X2_holdFrom_47 {p : Program} {l : Launch} {e : Env} {s : State} {m : MethodId} {args : Array Value} {below : List Frame} {meth : Method} {c : Code} {D : va_G} {cy : Nat → ClassId} {b z : Nat} {tx : TX} (C0 : CallFix p m c cX2_holdFrom 4 s args TB RX2) (hr : meth.sig.returnType = (some .int)) (hlk : meth.locks = false) (hT : TxR tx s) {k : Int32 → sSt → Prop} : ∀ (a0 : Nat) (a1 : Int32) (a2 : Int32) (t0 : Int32) (S : sSt) (H : Heap) (locs : List Loc) (ls : Array Slot) (av0 : a0 < 3), B_X2_holdFrom_47 a0 a1 a2 t0 S k → RelC D cy b z tx S s H → va_S (gA b 709 z) s.heap H locs → lv_has ls 4 [(0, .ref (b + adC 19 a0)), (1, .int a1), (2, .int a2)] → W p l e rm_X2_holdFrom s m args below meth c H locs 0 0 (MQ below (PiC D cy b z tx k) args s 0 0 (gA b 709 z)) (F0 m 47 ls [.int t0]) := by
  intro a0 a1 a2 t0 S H locs ls av0 h hR hS hl
  have hx := C0.1
  have hb := C0.2.1
  unfold B_X2_holdFrom_47 at h
  refine lv_istore_n (lv' := [(3, .int t0), (0, .ref (b + adC 19 a0)), (1, .int a1), (2, .int a2)]) hx hb dX2_holdFrom_47 rfl hl (by decide) rfl (fun ls hl => ?_)
  refine lv_iload_n hx hb dX2_holdFrom_48 rfl (lv_at hl 0 rfl) ?_
  refine lv_if_eq (tgt := 68) hx hb dX2_holdFrom_49 (by decide) (fun c14 => ?_) (fun c14 => ?_)
  · have h := h.1 c14
    refine lv_iconst (v := 0) hx hb dX2_holdFrom_68 (by decide) ?_
    exact rtC_i C0 hr hlk hR hS h dX2_holdFrom_69
  · have h := h.2 c14
    refine lv_aload_n hx hb dX2_holdFrom_52 rfl (lv_at hl 1 rfl) ?_
    refine lv_iload_n hx hb dX2_holdFrom_53 rfl (lv_at hl 3 rfl) ?_
    refine lv_iconst (v := 0) hx hb dX2_holdFrom_54 (by decide) ?_
    refine qC_Vi (As := [.int a2, .int 0]) (rest := []) C0 (c_X2_cell l av0 h) (cwV 2 C0.2.2.2.2 (tbV mC9_3_38 ⟨mC9_3_39, mC9_3_40, mC9_1_6, mC9_3_41⟩) rfl rfl rfl (by decide +kernel) ⟨Nat.le_of_ble_eq_true rfl, Nat.le_of_ble_eq_true rfl⟩) (rcC_19 hR av0) hR hT hS rfl hl.1 rfl (Nat.le_of_ble_eq_true rfl) dX2_holdFrom_55 ⟨Nat.zero_le _, Nat.zero_le _⟩ (fun r15 S16 H locs h hR hS => ?_)
    refine lv_aload_n hx hb dX2_holdFrom_58 rfl (lv_at hl 1 rfl) ?_
    refine lv_iload_n hx hb dX2_holdFrom_59 rfl (lv_at hl 2 rfl) ?_
    refine lv_iconst (v := 0) hx hb dX2_holdFrom_60 (by decide) ?_
    refine qC_Vi (As := [.int a1, .int 0]) (rest := [.int r15]) C0 (c_X2_cell l av0 h) (cwV 2 C0.2.2.2.2 (tbV mC9_3_38 ⟨mC9_3_39, mC9_3_40, mC9_1_6, mC9_3_41⟩) rfl rfl rfl (by decide +kernel) ⟨Nat.le_of_ble_eq_true rfl, Nat.le_of_ble_eq_true rfl⟩) (rcC_19 hR av0) hR hT hS rfl hl.1 rfl (Nat.le_of_ble_eq_true rfl) dX2_holdFrom_61 ⟨Nat.zero_le _, Nat.zero_le _⟩ (fun r17 S18 H locs h hR hS => ?_)
    refine lv_isub hx hb dX2_holdFrom_64 ?_
    refine lv_goto (tgt := 69) hx hb dX2_holdFrom_65 (by decide) ?_
    exact rtC_i C0 hr hlk hR hS h dX2_holdFrom_69
def Bb_X2_holdFrom_4 (kk4 : Nat → Int32 → Int32 → sSt → Prop) (a0 : Nat) (a1 : Int32) (a2 : Int32) (S : sSt) (k : Int32 → sSt → Prop) : Prop := (((S.1 19 a0 2) ≤ a2 → k 0 S) ∧ (¬ (S.1 19 a0 2) ≤ a2 → F_X2_cell a0 a2 1 S (fun r3 S4 => F_X2_cell a0 a1 1 S4 (fun r5 S6 => ((¬ r3 = r5 → ∀ x8 : Int32, x8 = a2 + 1 → kk4 a0 a1 x8 S6) ∧ (r3 = r5 → F_X2_cell a0 a2 3 S6 (fun r9 S10 => F_X2_cell a0 a1 3 S10 (fun r11 S12 => ((¬ r9 = r11 → B_X2_holdFrom_47 a0 a1 a2 0 S12 k) ∧ (r9 = r11 → B_X2_holdFrom_47 a0 a1 a2 1 S12 k))))))))))
set_option maxHeartbeats 4000000 in
set_option maxRecDepth 100000 in
theorem Bbw_X2_holdFrom_4 {p : Program} {l : Launch} {e : Env} {s : State} {m : MethodId} {args : Array Value} {below : List Frame} {meth : Method} {c : Code} {D : va_G} {cy : Nat → ClassId} {b z : Nat} {tx : TX} (C0 : CallFix p m c cX2_holdFrom 4 s args TB RX2) (hr : meth.sig.returnType = (some .int)) (hlk : meth.locks = false) (hT : TxR tx s) {k : Int32 → sSt → Prop} {kk4 : Nat → Int32 → Int32 → sSt → Prop} (ih4 : ∀ (a0 : Nat) (a1 : Int32) (a2 : Int32) (S : sSt) (H : Heap) (locs : List Loc) (ls : Array Slot) (av0 : a0 < 3), kk4 a0 a1 a2 S → RelC D cy b z tx S s H → va_S (gA b 709 z) s.heap H locs → lv_has ls 4 [(0, .ref (b + adC 19 a0)), (1, .int a1), (2, .int a2)] → W p l e rm_X2_holdFrom s m args below meth c H locs 0 0 (MQ below (PiC D cy b z tx k) args s 0 0 (gA b 709 z)) (F0 m 4 ls [])) : ∀ (a0 : Nat) (a1 : Int32) (a2 : Int32) (S : sSt) (H : Heap) (locs : List Loc) (ls : Array Slot) (av0 : a0 < 3), Bb_X2_holdFrom_4 kk4 a0 a1 a2 S k → RelC D cy b z tx S s H → va_S (gA b 709 z) s.heap H locs → lv_has ls 4 [(0, .ref (b + adC 19 a0)), (1, .int a1), (2, .int a2)] → W p l e rm_X2_holdFrom s m args below meth c H locs 0 0 (MQ below (PiC D cy b z tx k) args s 0 0 (gA b 709 z)) (F0 m 4 ls []) := by
  intro a0 a1 a2 S H locs ls av0 h hR hS hl
  have hx := C0.1
  have hb := C0.2.1
  unfold Bb_X2_holdFrom_4 at h
  refine lv_iload_n hx hb dX2_holdFrom_4 rfl (lv_at hl 2 rfl) ?_
  refine lv_aload_n hx hb dX2_holdFrom_5 rfl (lv_at hl 0 rfl) ?_
  refine gC_19_2 C0 hR av0 tbs_wsX20 mC9_1_137 dX2_holdFrom_6 ?_
  refine lv_icmp_ge (tgt := 76) hx hb dX2_holdFrom_9 (by decide) (fun c2 => ?_) (fun c2 => ?_)
  · have h := h.1 c2
    refine lv_iconst (v := 0) hx hb dX2_holdFrom_76 (by decide) ?_
    exact rtC_i C0 hr hlk hR hS h dX2_holdFrom_77
  · have h := h.2 c2
    refine lv_aload_n hx hb dX2_holdFrom_12 rfl (lv_at hl 0 rfl) ?_
    refine lv_iload_n hx hb dX2_holdFrom_13 rfl (lv_at hl 2 rfl) ?_
    refine lv_iconst (v := 1) hx hb dX2_holdFrom_14 (by decide) ?_
    refine qC_Vi (As := [.int a2, .int 1]) (rest := []) C0 (c_X2_cell l av0 h) (cwV 2 C0.2.2.2.2 (tbV mC9_3_38 ⟨mC9_3_39, mC9_3_40, mC9_1_6, mC9_3_41⟩) rfl rfl rfl (by decide +kernel) ⟨Nat.le_of_ble_eq_true rfl, Nat.le_of_ble_eq_true rfl⟩) (rcC_19 hR av0) hR hT hS rfl hl.1 rfl (Nat.le_of_ble_eq_true rfl) dX2_holdFrom_15 ⟨Nat.zero_le _, Nat.zero_le _⟩ (fun r3 S4 H locs h hR hS => ?_)
    refine lv_aload_n hx hb dX2_holdFrom_18 rfl (lv_at hl 0 rfl) ?_
    refine lv_iload_n hx hb dX2_holdFrom_19 rfl (lv_at hl 1 rfl) ?_
    refine lv_iconst (v := 1) hx hb dX2_holdFrom_20 (by decide) ?_
    refine qC_Vi (As := [.int a1, .int 1]) (rest := [.int r3]) C0 (c_X2_cell l av0 h) (cwV 2 C0.2.2.2.2 (tbV mC9_3_38 ⟨mC9_3_39, mC9_3_40, mC9_1_6, mC9_3_41⟩) rfl rfl rfl (by decide +kernel) ⟨Nat.le_of_ble_eq_true rfl, Nat.le_of_ble_eq_true rfl⟩) (rcC_19 hR av0) hR hT hS rfl hl.1 rfl (Nat.le_of_ble_eq_true rfl) dX2_holdFrom_21 ⟨Nat.zero_le _, Nat.zero_le _⟩ (fun r5 S6 H locs h hR hS => ?_)
    refine lv_icmp_ne (tgt := 70) hx hb dX2_holdFrom_24 (by decide) (fun c7 => ?_) (fun c7 => ?_)
    · have h := h.1 c7
      obtain ⟨x8, ex8⟩ : ∃ x8 : Int32, x8 = a2 + 1 := ⟨_, rfl⟩
      have h := h x8 ex8
      refine w_iinc (v0 := 1) (lv' := [(2, .int x8), (0, .ref (b + adC 19 a0)), (1, .int a1)]) C0 dX2_holdFrom_70 hl (k := 2) rfl (by decide) (by decide) x8 ex8 rfl (fun ls hl => ?_)
      refine lv_goto (tgt := 4) hx hb dX2_holdFrom_73 (by decide) ?_
      exact ih4 a0 a1 x8 S6 _ _ _ av0 h hR hS (lv_sub hl [1, 2, 0] rfl)
    · have h := h.2 c7
      refine lv_aload_n hx hb dX2_holdFrom_27 rfl (lv_at hl 0 rfl) ?_
      refine lv_iload_n hx hb dX2_holdFrom_28 rfl (lv_at hl 2 rfl) ?_
      refine lv_iconst (v := 3) hx hb dX2_holdFrom_29 (by decide) ?_
      refine qC_Vi (As := [.int a2, .int 3]) (rest := []) C0 (c_X2_cell l av0 h) (cwV 2 C0.2.2.2.2 (tbV mC9_3_38 ⟨mC9_3_39, mC9_3_40, mC9_1_6, mC9_3_41⟩) rfl rfl rfl (by decide +kernel) ⟨Nat.le_of_ble_eq_true rfl, Nat.le_of_ble_eq_true rfl⟩) (rcC_19 hR av0) hR hT hS rfl hl.1 rfl (Nat.le_of_ble_eq_true rfl) dX2_holdFrom_30 ⟨Nat.zero_le _, Nat.zero_le _⟩ (fun r9 S10 H locs h hR hS => ?_)
      refine lv_aload_n hx hb dX2_holdFrom_33 rfl (lv_at hl 0 rfl) ?_
      refine lv_iload_n hx hb dX2_holdFrom_34 rfl (lv_at hl 1 rfl) ?_
      refine lv_iconst (v := 3) hx hb dX2_holdFrom_35 (by decide) ?_
      refine qC_Vi (As := [.int a1, .int 3]) (rest := [.int r9]) C0 (c_X2_cell l av0 h) (cwV 2 C0.2.2.2.2 (tbV mC9_3_38 ⟨mC9_3_39, mC9_3_40, mC9_1_6, mC9_3_41⟩) rfl rfl rfl (by decide +kernel) ⟨Nat.le_of_ble_eq_true rfl, Nat.le_of_ble_eq_true rfl⟩) (rcC_19 hR av0) hR hT hS rfl hl.1 rfl (Nat.le_of_ble_eq_true rfl) dX2_holdFrom_36 ⟨Nat.zero_le _, Nat.zero_le _⟩ (fun r11 S12 H locs h hR hS => ?_)
      refine lv_icmp_ne (tgt := 46) hx hb dX2_holdFrom_39 (by decide) (fun c13 => ?_) (fun c13 => ?_)
      · have h := h.1 c13
        refine lv_iconst (v := 0) hx hb dX2_holdFrom_46 (by decide) ?_
        exact Bw_X2_holdFrom_47 C0 hr hlk hT a0 a1 a2 0 S12 _ _ _ av0 h hR hS (lv_sub hl [0, 1, 2] rfl)
      · have h := h.2 c13
        refine lv_iconst (v := 1) hx hb dX2_holdFrom_42 (by decide) ?_
        refine lv_goto (tgt := 47) hx hb dX2_holdFrom_43 (by decide) ?_
        exact Bw_X2_holdFrom_47 C0 hr hlk hT a0 a1 a2 1 S12 _ _ _ av0 h hR hS (lv_sub hl [0, 1, 2] rfl)
def B_X2_holdFrom_4 (n9 : Nat) (a0 : Nat) (a1 : Int32) (a2 : Int32) (S : sSt) (k : Int32 → sSt → Prop) : Prop := (Nat.rec (motive := fun _ => Nat → Int32 → Int32 → sSt → Prop) (fun _ _ _ _ => False) (fun _ r9 => fun a0 a1 a2 S => Bb_X2_holdFrom_4 r9 a0 a1 a2 S k) n9 : Nat → Int32 → Int32 → sSt → Prop) a0 a1 a2 S
theorem B_X2_holdFrom_4_s (n9 : Nat) (a0 : Nat) (a1 : Int32) (a2 : Int32) (S : sSt) (k : Int32 → sSt → Prop) : B_X2_holdFrom_4 (n9 + 1) a0 a1 a2 S k = Bb_X2_holdFrom_4 (fun a0 a1 a2 S => B_X2_holdFrom_4 n9 a0 a1 a2 S k) a0 a1 a2 S k := rfl
set_option maxHeartbeats 4000000 in
set_option maxRecDepth 100000 in
theorem Bw_X2_holdFrom_4 {p : Program} {l : Launch} {e : Env} {s : State} {m : MethodId} {args : Array Value} {below : List Frame} {meth : Method} {c : Code} {D : va_G} {cy : Nat → ClassId} {b z : Nat} {tx : TX} (C0 : CallFix p m c cX2_holdFrom 4 s args TB RX2) (hr : meth.sig.returnType = (some .int)) (hlk : meth.locks = false) (hT : TxR tx s) {k : Int32 → sSt → Prop} : ∀ (n9 : Nat), ∀ (a0 : Nat) (a1 : Int32) (a2 : Int32) (S : sSt) (H : Heap) (locs : List Loc) (ls : Array Slot) (av0 : a0 < 3), B_X2_holdFrom_4 n9 a0 a1 a2 S k → RelC D cy b z tx S s H → va_S (gA b 709 z) s.heap H locs → lv_has ls 4 [(0, .ref (b + adC 19 a0)), (1, .int a1), (2, .int a2)] → W p l e rm_X2_holdFrom s m args below meth c H locs 0 0 (MQ below (PiC D cy b z tx k) args s 0 0 (gA b 709 z)) (F0 m 4 ls []) := by
  intro n9
  induction n9 with
  | zero => intro a0 a1 a2 S H locs ls av0 h; exact h.elim
  | succ n9 ih =>
    intro a0 a1 a2 S H locs ls av0 h hR hS hl
    exact Bbw_X2_holdFrom_4 C0 hr hlk hT ih a0 a1 a2 S H locs ls av0 h hR hS hl
def F_X2_holdFrom (a0 : Nat) (a1 : Int32) (S : sSt) (k : Int32 → sSt → Prop) : Prop := ∀ x1 : Int32, x1 = (a1 + 1) → B_X2_holdFrom_4 fuel a0 a1 x1 S k
set_option maxHeartbeats 4000000 in
set_option maxRecDepth 100000 in
theorem c_X2_holdFrom (l : Launch) {D : va_G} {cy : Nat → ClassId} {b z : Nat} {tx : TX} {a0 : Nat} {a1 : Int32} {S : sSt} {k : Int32 → sSt → Prop} (av0 : a0 < 3) (h : F_X2_holdFrom a0 a1 S k) : Met l yX2_holdFrom (Cond.code yX2_holdFrom cX2_holdFrom 4 (some .int) :: TB) rm_X2_holdFrom (va_Pc [.ref (b + adC 19 a0), .int a1] (fun U => RelC D cy b z tx S U U.heap ∧ TxR tx U)) (PiC D cy b z tx k) 0 0 (gA b 709 z) := by
  refine Met.ofW (cc := cX2_holdFrom) (maxL := 4) (ret := (some .int)) (by decide) rfl ?_
  intro p e s m args below meth c s₁ B hml hv
  obtain ⟨rfl, hR, hT⟩ := hv
  have C0 : CallFix p m c cX2_holdFrom 4 s _ TB RX2 := ⟨B.exec, B.bytes, hml, findClass_of_methodNamed B.named, fun w hw => atoms_spec B.pre w (List.mem_cons_of_mem _ hw)⟩
  have hr := B.returns
  have hlk := B.notSynchronized
  have hx := C0.1
  have hb := C0.2.1
  have hS : va_S (gA b 709 z) s.heap s.heap [] := va_S.rf
  have hl := lv_entry ([.ref (b + adC 19 a0), .int a1]) (n := 4) (Nat.le_of_ble_eq_true rfl)
  rw [lg_entry_eq]
  generalize (lg_sl ([.ref (b + adC 19 a0), .int a1]) ++ List.replicate (4 - (lg_sl ([.ref (b + adC 19 a0), .int a1])).length) Slot.unset).toArray = ls at hl ⊢
  have hl : lv_has ls 4 [(0, .ref (b + adC 19 a0)), (1, .int a1)] := hl
  show W p l e rm_X2_holdFrom s m _ below meth c s.heap [] 0 0 (MQ below (PiC D cy b z tx k) _ s 0 0 (gA b 709 z)) _
  unfold F_X2_holdFrom at h
  refine lv_iload_n hx hb dX2_holdFrom_0 rfl (lv_at hl 1 rfl) ?_
  refine lv_iconst (v := 1) hx hb dX2_holdFrom_1 (by decide) ?_
  refine lv_iadd hx hb dX2_holdFrom_2 ?_
  refine lv_topi (fun x1 ex1 => ?_)
  have h := h x1 ex1
  refine lv_istore_n (lv' := [(2, .int x1), (0, .ref (b + adC 19 a0)), (1, .int a1)]) hx hb dX2_holdFrom_3 rfl hl (by decide) rfl (fun ls hl => ?_)
  exact Bw_X2_holdFrom_4 C0 hr hlk hT fuel a0 a1 x1 S _ _ _ av0 h hR hS (lv_sub hl [1, 2, 0] rfl)

def rm_X2_longestHold : Room := { frames := 2, cells := 0, slots := 0, locals := 45 }
def B_X2_longestHold_32 (kk4 : Nat → Int32 → Int32 → sSt → Prop) (a0 : Nat) (a1 : Int32) (a2 : Int32) (S : sSt) (k : Int32 → sSt → Prop) : Prop := ∀ x5 : Int32, x5 = a2 + 1 → kk4 a0 a1 x5 S
set_option maxHeartbeats 4000000 in
set_option maxRecDepth 100000 in
theorem Bw_X2_longestHold_32 {p : Program} {l : Launch} {e : Env} {s : State} {m : MethodId} {args : Array Value} {below : List Frame} {meth : Method} {c : Code} {D : va_G} {cy : Nat → ClassId} {b z : Nat} {tx : TX} (C0 : CallFix p m c cX2_longestHold 3 s args TB RX2) (hr : meth.sig.returnType = (some .int)) (hlk : meth.locks = false) (hT : TxR tx s) {k : Int32 → sSt → Prop} {kk4 : Nat → Int32 → Int32 → sSt → Prop} (ih4 : ∀ (a0 : Nat) (a1 : Int32) (a2 : Int32) (S : sSt) (H : Heap) (locs : List Loc) (ls : Array Slot) (av0 : a0 < 3), kk4 a0 a1 a2 S → RelC D cy b z tx S s H → va_S (gA b 709 z) s.heap H locs → lv_has ls 3 [(0, .ref (b + adC 19 a0)), (1, .int a1), (2, .int a2)] → W p l e rm_X2_longestHold s m args below meth c H locs 0 0 (MQ below (PiC D cy b z tx k) args s 0 0 (gA b 709 z)) (F0 m 4 ls [])) : ∀ (a0 : Nat) (a1 : Int32) (a2 : Int32) (S : sSt) (H : Heap) (locs : List Loc) (ls : Array Slot) (av0 : a0 < 3), B_X2_longestHold_32 kk4 a0 a1 a2 S k → RelC D cy b z tx S s H → va_S (gA b 709 z) s.heap H locs → lv_has ls 3 [(0, .ref (b + adC 19 a0)), (1, .int a1), (2, .int a2)] → W p l e rm_X2_longestHold s m args below meth c H locs 0 0 (MQ below (PiC D cy b z tx k) args s 0 0 (gA b 709 z)) (F0 m 32 ls []) := by
  intro a0 a1 a2 S H locs ls av0 h hR hS hl
  have hx := C0.1
  have hb := C0.2.1
  unfold B_X2_longestHold_32 at h
  obtain ⟨x5, ex5⟩ : ∃ x5 : Int32, x5 = a2 + 1 := ⟨_, rfl⟩
  have h := h x5 ex5
  refine w_iinc (v0 := 1) (lv' := [(2, .int x5), (0, .ref (b + adC 19 a0)), (1, .int a1)]) C0 dX2_longestHold_32 hl (k := 2) rfl (by decide) (by decide) x5 ex5 rfl (fun ls hl => ?_)
  refine lv_goto (tgt := 4) hx hb dX2_longestHold_35 (by decide) ?_
  exact ih4 a0 a1 x5 S _ _ _ av0 h hR hS (lv_sub hl [1, 2, 0] rfl)
def Bb_X2_longestHold_4 (kk4 : Nat → Int32 → Int32 → sSt → Prop) (a0 : Nat) (a1 : Int32) (a2 : Int32) (S : sSt) (k : Int32 → sSt → Prop) : Prop := (((S.1 19 a0 2) ≤ a2 → k a1 S) ∧ (¬ (S.1 19 a0 2) ≤ a2 → F_X2_cell a0 a2 2 S (fun r2 S3 => ((¬ r2 = 1 → B_X2_longestHold_32 kk4 a0 a1 a2 S3 k) ∧ (r2 = 1 → F_X2_holdFrom a0 a2 S3 (fun r6 S7 => ∀ x8 : Int32, x8 = (if a1 < r6 then r6 else a1) → B_X2_longestHold_32 kk4 a0 x8 a2 S7 k))))))
set_option maxHeartbeats 4000000 in
set_option maxRecDepth 100000 in
theorem Bbw_X2_longestHold_4 {p : Program} {l : Launch} {e : Env} {s : State} {m : MethodId} {args : Array Value} {below : List Frame} {meth : Method} {c : Code} {D : va_G} {cy : Nat → ClassId} {b z : Nat} {tx : TX} (C0 : CallFix p m c cX2_longestHold 3 s args TB RX2) (hr : meth.sig.returnType = (some .int)) (hlk : meth.locks = false) (hT : TxR tx s) {k : Int32 → sSt → Prop} {kk4 : Nat → Int32 → Int32 → sSt → Prop} (ih4 : ∀ (a0 : Nat) (a1 : Int32) (a2 : Int32) (S : sSt) (H : Heap) (locs : List Loc) (ls : Array Slot) (av0 : a0 < 3), kk4 a0 a1 a2 S → RelC D cy b z tx S s H → va_S (gA b 709 z) s.heap H locs → lv_has ls 3 [(0, .ref (b + adC 19 a0)), (1, .int a1), (2, .int a2)] → W p l e rm_X2_longestHold s m args below meth c H locs 0 0 (MQ below (PiC D cy b z tx k) args s 0 0 (gA b 709 z)) (F0 m 4 ls [])) : ∀ (a0 : Nat) (a1 : Int32) (a2 : Int32) (S : sSt) (H : Heap) (locs : List Loc) (ls : Array Slot) (av0 : a0 < 3), Bb_X2_longestHold_4 kk4 a0 a1 a2 S k → RelC D cy b z tx S s H → va_S (gA b 709 z) s.heap H locs → lv_has ls 3 [(0, .ref (b + adC 19 a0)), (1, .int a1), (2, .int a2)] → W p l e rm_X2_longestHold s m args below meth c H locs 0 0 (MQ below (PiC D cy b z tx k) args s 0 0 (gA b 709 z)) (F0 m 4 ls []) := by
  intro a0 a1 a2 S H locs ls av0 h hR hS hl
  have hx := C0.1
  have hb := C0.2.1
  unfold Bb_X2_longestHold_4 at h
  refine lv_iload_n hx hb dX2_longestHold_4 rfl (lv_at hl 2 rfl) ?_
  refine lv_aload_n hx hb dX2_longestHold_5 rfl (lv_at hl 0 rfl) ?_
  refine gC_19_2 C0 hR av0 tbs_wsX20 mC9_1_137 dX2_longestHold_6 ?_
  refine lv_icmp_ge (tgt := 38) hx hb dX2_longestHold_9 (by decide) (fun c1 => ?_) (fun c1 => ?_)
  · have h := h.1 c1
    refine lv_iload_n hx hb dX2_longestHold_38 rfl (lv_at hl 1 rfl) ?_
    exact rtC_i C0 hr hlk hR hS h dX2_longestHold_39
  · have h := h.2 c1
    refine lv_aload_n hx hb dX2_longestHold_12 rfl (lv_at hl 0 rfl) ?_
    refine lv_iload_n hx hb dX2_longestHold_13 rfl (lv_at hl 2 rfl) ?_
    refine lv_iconst (v := 2) hx hb dX2_longestHold_14 (by decide) ?_
    refine qC_Vi (As := [.int a2, .int 2]) (rest := []) C0 (c_X2_cell l av0 h) (cwV 2 C0.2.2.2.2 (tbV mC9_3_38 ⟨mC9_3_39, mC9_3_40, mC9_1_6, mC9_3_41⟩) rfl rfl rfl (by decide +kernel) ⟨Nat.le_of_ble_eq_true rfl, Nat.le_of_ble_eq_true rfl⟩) (rcC_19 hR av0) hR hT hS rfl hl.1 rfl (Nat.le_of_ble_eq_true rfl) dX2_longestHold_15 ⟨Nat.zero_le _, Nat.zero_le _⟩ (fun r2 S3 H locs h hR hS => ?_)
    refine lv_iconst (v := 1) hx hb dX2_longestHold_18 (by decide) ?_
    refine lv_icmp_ne (tgt := 32) hx hb dX2_longestHold_19 (by decide) (fun c4 => ?_) (fun c4 => ?_)
    · have h := h.1 c4
      exact Bw_X2_longestHold_32 C0 hr hlk hT ih4 a0 a1 a2 S3 _ _ _ av0 h hR hS (lv_sub hl [0, 1, 2] rfl)
    · have h := h.2 c4
      refine lv_iload_n hx hb dX2_longestHold_22 rfl (lv_at hl 1 rfl) ?_
      refine lv_aload_n hx hb dX2_longestHold_23 rfl (lv_at hl 0 rfl) ?_
      refine lv_iload_n hx hb dX2_longestHold_24 rfl (lv_at hl 2 rfl) ?_
      refine qC_Vi (As := [.int a2]) (rest := [.int a1]) C0 (c_X2_holdFrom l av0 h) (cwV 1 C0.2.2.2.2 (tbV mC9_3_42 ⟨mC9_3_44, mpC9_1_1, mC9_1_6, mC9_3_45⟩) rfl rfl rfl (by decide +kernel) ⟨Nat.le_of_ble_eq_true rfl, Nat.le_of_ble_eq_true rfl⟩) (rcC_19 hR av0) hR hT hS rfl hl.1 rfl (Nat.le_of_ble_eq_true rfl) dX2_longestHold_25 ⟨Nat.zero_le _, Nat.zero_le _⟩ (fun r6 S7 H locs h hR hS => ?_)
      refine va_mmax hx hb (C0.2.2.1.trans hl.1.symm) C0.2.2.2.1 (C0.2.2.2.2 _ mC9_3_46) (C0.2.2.2.2 _ mC9_3_47) (C0.2.2.2.2 _ mC9_1_25) (C0.2.2.2.2 _ mC9_3_48) (Nat.le_of_ble_eq_true rfl) (Nat.le_of_ble_eq_true rfl) (Nat.zero_le _) (Nat.zero_le _) dX2_longestHold_28 ?_
      refine lv_topi (fun x8 ex8 => ?_)
      have h := h x8 ex8
      refine lv_istore_n (lv' := [(1, .int x8), (0, .ref (b + adC 19 a0)), (2, .int a2)]) hx hb dX2_longestHold_31 rfl hl (by decide) rfl (fun ls hl => ?_)
      exact Bw_X2_longestHold_32 C0 hr hlk hT ih4 a0 x8 a2 S7 _ _ _ av0 h hR hS (lv_sub hl [1, 0, 2] rfl)
def B_X2_longestHold_4 (n9 : Nat) (a0 : Nat) (a1 : Int32) (a2 : Int32) (S : sSt) (k : Int32 → sSt → Prop) : Prop := (Nat.rec (motive := fun _ => Nat → Int32 → Int32 → sSt → Prop) (fun _ _ _ _ => False) (fun _ r9 => fun a0 a1 a2 S => Bb_X2_longestHold_4 r9 a0 a1 a2 S k) n9 : Nat → Int32 → Int32 → sSt → Prop) a0 a1 a2 S
theorem B_X2_longestHold_4_s (n9 : Nat) (a0 : Nat) (a1 : Int32) (a2 : Int32) (S : sSt) (k : Int32 → sSt → Prop) : B_X2_longestHold_4 (n9 + 1) a0 a1 a2 S k = Bb_X2_longestHold_4 (fun a0 a1 a2 S => B_X2_longestHold_4 n9 a0 a1 a2 S k) a0 a1 a2 S k := rfl
set_option maxHeartbeats 4000000 in
set_option maxRecDepth 100000 in
theorem Bw_X2_longestHold_4 {p : Program} {l : Launch} {e : Env} {s : State} {m : MethodId} {args : Array Value} {below : List Frame} {meth : Method} {c : Code} {D : va_G} {cy : Nat → ClassId} {b z : Nat} {tx : TX} (C0 : CallFix p m c cX2_longestHold 3 s args TB RX2) (hr : meth.sig.returnType = (some .int)) (hlk : meth.locks = false) (hT : TxR tx s) {k : Int32 → sSt → Prop} : ∀ (n9 : Nat), ∀ (a0 : Nat) (a1 : Int32) (a2 : Int32) (S : sSt) (H : Heap) (locs : List Loc) (ls : Array Slot) (av0 : a0 < 3), B_X2_longestHold_4 n9 a0 a1 a2 S k → RelC D cy b z tx S s H → va_S (gA b 709 z) s.heap H locs → lv_has ls 3 [(0, .ref (b + adC 19 a0)), (1, .int a1), (2, .int a2)] → W p l e rm_X2_longestHold s m args below meth c H locs 0 0 (MQ below (PiC D cy b z tx k) args s 0 0 (gA b 709 z)) (F0 m 4 ls []) := by
  intro n9
  induction n9 with
  | zero => intro a0 a1 a2 S H locs ls av0 h; exact h.elim
  | succ n9 ih =>
    intro a0 a1 a2 S H locs ls av0 h hR hS hl
    exact Bbw_X2_longestHold_4 C0 hr hlk hT ih a0 a1 a2 S H locs ls av0 h hR hS hl
def F_X2_longestHold (a0 : Nat) (S : sSt) (k : Int32 → sSt → Prop) : Prop := B_X2_longestHold_4 fuel a0 0 0 S k
set_option maxHeartbeats 4000000 in
set_option maxRecDepth 100000 in
theorem c_X2_longestHold (l : Launch) {D : va_G} {cy : Nat → ClassId} {b z : Nat} {tx : TX} {a0 : Nat} {S : sSt} {k : Int32 → sSt → Prop} (av0 : a0 < 3) (h : F_X2_longestHold a0 S k) : Met l yX2_longestHold (Cond.code yX2_longestHold cX2_longestHold 3 (some .int) :: TB) rm_X2_longestHold (va_Pc [.ref (b + adC 19 a0)] (fun U => RelC D cy b z tx S U U.heap ∧ TxR tx U)) (PiC D cy b z tx k) 0 0 (gA b 709 z) := by
  refine Met.ofW (cc := cX2_longestHold) (maxL := 3) (ret := (some .int)) (by decide) rfl ?_
  intro p e s m args below meth c s₁ B hml hv
  obtain ⟨rfl, hR, hT⟩ := hv
  have C0 : CallFix p m c cX2_longestHold 3 s _ TB RX2 := ⟨B.exec, B.bytes, hml, findClass_of_methodNamed B.named, fun w hw => atoms_spec B.pre w (List.mem_cons_of_mem _ hw)⟩
  have hr := B.returns
  have hlk := B.notSynchronized
  have hx := C0.1
  have hb := C0.2.1
  have hS : va_S (gA b 709 z) s.heap s.heap [] := va_S.rf
  have hl := lv_entry ([.ref (b + adC 19 a0)]) (n := 3) (Nat.le_of_ble_eq_true rfl)
  rw [lg_entry_eq]
  generalize (lg_sl ([.ref (b + adC 19 a0)]) ++ List.replicate (3 - (lg_sl ([.ref (b + adC 19 a0)])).length) Slot.unset).toArray = ls at hl ⊢
  have hl : lv_has ls 3 [(0, .ref (b + adC 19 a0))] := hl
  show W p l e rm_X2_longestHold s m _ below meth c s.heap [] 0 0 (MQ below (PiC D cy b z tx k) _ s 0 0 (gA b 709 z)) _
  unfold F_X2_longestHold at h
  refine lv_iconst (v := 0) hx hb dX2_longestHold_0 (by decide) ?_
  refine lv_istore_n (lv' := [(1, .int 0), (0, .ref (b + adC 19 a0))]) hx hb dX2_longestHold_1 rfl hl (by decide) rfl (fun ls hl => ?_)
  refine lv_iconst (v := 0) hx hb dX2_longestHold_2 (by decide) ?_
  refine lv_istore_n (lv' := [(2, .int 0), (1, .int 0), (0, .ref (b + adC 19 a0))]) hx hb dX2_longestHold_3 rfl hl (by decide) rfl (fun ls hl => ?_)
  exact Bw_X2_longestHold_4 C0 hr hlk hT fuel a0 0 0 S _ _ _ av0 h hR hS (lv_sub hl [2, 1, 0] rfl)

def rm_X11_longest : Room := { frames := 3, cells := 0, slots := 0, locals := 67 }
def F_X11_longest (S : sSt) (k : Int32 → sSt → Prop) : Prop := F_X2_longestHold (S.2 0 0 4) S (fun r3 S4 => k r3 S4)
set_option maxHeartbeats 4000000 in
set_option maxRecDepth 100000 in
theorem c_X11_longest (l : Launch) {D : va_G} {cy : Nat → ClassId} {b z : Nat} {tx : TX} {S : sSt} {k : Int32 → sSt → Prop} (h : F_X11_longest S k) : Met l yX11_longest (Cond.code yX11_longest cX11_longest 1 (some .int) :: TB) rm_X11_longest (va_Pc [.ref (b + adC 0 0)] (fun U => RelC D cy b z tx S U U.heap ∧ TxR tx U)) (PiC D cy b z tx k) 0 0 (gA b 709 z) := by
  refine Met.ofW (cc := cX11_longest) (maxL := 1) (ret := (some .int)) (by decide) rfl ?_
  intro p e s m args below meth c s₁ B hml hv
  obtain ⟨rfl, hR, hT⟩ := hv
  have C0 : CallFix p m c cX11_longest 1 s _ TB RX11 := ⟨B.exec, B.bytes, hml, findClass_of_methodNamed B.named, fun w hw => atoms_spec B.pre w (List.mem_cons_of_mem _ hw)⟩
  have hr := B.returns
  have hlk := B.notSynchronized
  have hx := C0.1
  have hb := C0.2.1
  have hS : va_S (gA b 709 z) s.heap s.heap [] := va_S.rf
  have hl := lv_entry ([.ref (b + adC 0 0)]) (n := 1) (Nat.le_of_ble_eq_true rfl)
  rw [lg_entry_eq]
  generalize (lg_sl ([.ref (b + adC 0 0)]) ++ List.replicate (1 - (lg_sl ([.ref (b + adC 0 0)])).length) Slot.unset).toArray = ls at hl ⊢
  have hl : lv_has ls 1 [(0, .ref (b + adC 0 0))] := hl
  show W p l e rm_X11_longest s m _ below meth c s.heap [] 0 0 (MQ below (PiC D cy b z tx k) _ s 0 0 (gA b 709 z)) _
  unfold F_X11_longest at h
  refine lv_aload_n hx hb dX11_longest_0 rfl (lv_at hl 0 rfl) ?_
  refine gC_0_4 C0 hR Nat.zero_lt_one tbs_wsX110 mC9_2_213 dX11_longest_1 ?_
  have w1 : (S.2 0 0 4) < 3 := hR.2.1.2.1
  refine gCn_13_5 C0 hR w1 tbs_wsX60 mC9_2_145 hT dX11_longest_4 ?_
  have w2 : (S.2 0 0 4) < 3 := by omega
  refine qC_Vi (As := []) (rest := []) C0 (c_X2_longestHold l w2 h) (cwV 0 C0.2.2.2.2 (tbV mC9_3_34 ⟨mC9_3_35, mC9_3_36, mC9_1_6, mC9_3_37⟩) rfl rfl rfl (by decide +kernel) ⟨Nat.le_of_ble_eq_true rfl, Nat.le_of_ble_eq_true rfl⟩) (rcC_19 hR w2) hR hT hS rfl hl.1 rfl (Nat.le_of_ble_eq_true rfl) dX11_longest_7 ⟨Nat.zero_le _, Nat.zero_le _⟩ (fun r3 S4 H locs h hR hS => ?_)
  exact rtC_i C0 hr hlk hR hS h dX11_longest_10

def rm_X6_isStoredIn : Room := { frames := 0, cells := 0, slots := 0, locals := 0 }
def F_X6_isStoredIn (a0 : Nat) (a1 : Int32) (a2 : Int32) (S : sSt) (k : Int32 → sSt → Prop) : Prop := ix a1 24 (fun j2 => (((S.1 21 (S.2 14 a0 j2) 5) = 0 → k 0 S) ∧ (¬ (S.1 21 (S.2 14 a0 j2) 5) = 0 → ((¬ (S.1 21 (S.2 14 a0 j2) 7) = a2 → k 0 S) ∧ ((S.1 21 (S.2 14 a0 j2) 7) = a2 → k 1 S)))))
set_option maxHeartbeats 4000000 in
set_option maxRecDepth 100000 in
theorem c_X6_isStoredIn (l : Launch) {D : va_G} {cy : Nat → ClassId} {b z : Nat} {tx : TX} {a0 : Nat} {a1 : Int32} {a2 : Int32} {S : sSt} {k : Int32 → sSt → Prop} (av0 : a0 < 3) (h : F_X6_isStoredIn a0 a1 a2 S k) : Met l yX6_isStoredIn (Cond.code yX6_isStoredIn cX6_isStoredIn 3 (some .boolean) :: TB) rm_X6_isStoredIn (va_Pc [.ref (b + adC 13 a0), .int a1, .int a2] (fun U => RelC D cy b z tx S U U.heap ∧ TxR tx U)) (PiC D cy b z tx k) 0 0 (gA b 709 z) := by
  refine Met.ofW (cc := cX6_isStoredIn) (maxL := 3) (ret := (some .boolean)) (by decide) rfl ?_
  intro p e s m args below meth c s₁ B hml hv
  obtain ⟨rfl, hR, hT⟩ := hv
  have C0 : CallFix p m c cX6_isStoredIn 3 s _ TB RX6 := ⟨B.exec, B.bytes, hml, findClass_of_methodNamed B.named, fun w hw => atoms_spec B.pre w (List.mem_cons_of_mem _ hw)⟩
  have hr := B.returns
  have hlk := B.notSynchronized
  have hx := C0.1
  have hb := C0.2.1
  have hS : va_S (gA b 709 z) s.heap s.heap [] := va_S.rf
  have hl := lv_entry ([.ref (b + adC 13 a0), .int a1, .int a2]) (n := 3) (Nat.le_of_ble_eq_true rfl)
  rw [lg_entry_eq]
  generalize (lg_sl ([.ref (b + adC 13 a0), .int a1, .int a2]) ++ List.replicate (3 - (lg_sl ([.ref (b + adC 13 a0), .int a1, .int a2])).length) Slot.unset).toArray = ls at hl ⊢
  have hl : lv_has ls 3 [(0, .ref (b + adC 13 a0)), (1, .int a1), (2, .int a2)] := hl
  show W p l e rm_X6_isStoredIn s m _ below meth c s.heap [] 0 0 (MQ below (PiC D cy b z tx k) _ s 0 0 (gA b 709 z)) _
  unfold F_X6_isStoredIn at h
  refine lv_aload_n hx hb dX6_isStoredIn_0 rfl (lv_at hl 0 rfl) ?_
  refine gC_13_0 C0 hR av0 tbs_wsX60 mC9_2_126 dX6_isStoredIn_1 ?_
  have w1 : a0 < 3 := by omega
  refine lv_iload_n hx hb dX6_isStoredIn_4 rfl (lv_at hl 1 rfl) ?_
  obtain ⟨j2, hj2, ej2, h⟩ := h
  refine lC_14 C0 hR w1 hj2 ej2 dX6_isStoredIn_5 ?_
  have w3 : (S.2 14 a0 j2) < 72 := hR.2.1.1 _ _ w1 hj2
  refine gCn_21_5 C0 hR w3 tbs_wsX10 mC9_1_225 hT dX6_isStoredIn_6 ?_
  refine lv_if_eq (tgt := 29) hx hb dX6_isStoredIn_9 (by decide) (fun c4 => ?_) (fun c4 => ?_)
  · have h := h.1 c4
    refine lv_iconst (v := 0) hx hb dX6_isStoredIn_29 (by decide) ?_
    exact rtC_z C0 hr hlk hR hS (by decide) h dX6_isStoredIn_30
  · have h := h.2 c4
    refine lv_aload_n hx hb dX6_isStoredIn_12 rfl (lv_at hl 0 rfl) ?_
    refine gC_13_0 C0 hR av0 tbs_wsX60 mC9_2_126 dX6_isStoredIn_13 ?_
    have w5 : a0 < 3 := by omega
    refine lv_iload_n hx hb dX6_isStoredIn_16 rfl (lv_at hl 1 rfl) ?_
    refine lC_14 C0 hR w5 hj2 ej2 dX6_isStoredIn_17 ?_
    have w6 : (S.2 14 a0 j2) < 72 := hR.2.1.1 _ _ w5 hj2
    refine gCn_21_7 C0 hR w6 tbs_wsX10 mC9_1_235 hT dX6_isStoredIn_18 ?_
    refine lv_iload_n hx hb dX6_isStoredIn_21 rfl (lv_at hl 2 rfl) ?_
    refine lv_icmp_ne (tgt := 29) hx hb dX6_isStoredIn_22 (by decide) (fun c7 => ?_) (fun c7 => ?_)
    · have h := h.1 c7
      refine lv_iconst (v := 0) hx hb dX6_isStoredIn_29 (by decide) ?_
      exact rtC_z C0 hr hlk hR hS (by decide) h dX6_isStoredIn_30
    · have h := h.2 c7
      refine lv_iconst (v := 1) hx hb dX6_isStoredIn_25 (by decide) ?_
      refine lv_goto (tgt := 30) hx hb dX6_isStoredIn_26 (by decide) ?_
      exact rtC_z C0 hr hlk hR hS (by decide) h dX6_isStoredIn_30

def rm_X2_isHeldOf : Room := { frames := 1, cells := 0, slots := 0, locals := 22 }
def F_X2_isHeldOf (a0 : Nat) (a1 : Int32) (a2 : Int32) (S : sSt) (k : Int32 → sSt → Prop) : Prop := F_X2_cell a0 a1 1 S (fun r1 S2 => ((¬ r1 = a2 → k 0 S2) ∧ (r1 = a2 → F_X2_cell a0 a1 2 S2 (fun r4 S5 => ((¬ r4 = 1 → k 0 S5) ∧ (r4 = 1 → k 1 S5))))))
set_option maxHeartbeats 4000000 in
set_option maxRecDepth 100000 in
theorem c_X2_isHeldOf (l : Launch) {D : va_G} {cy : Nat → ClassId} {b z : Nat} {tx : TX} {a0 : Nat} {a1 : Int32} {a2 : Int32} {S : sSt} {k : Int32 → sSt → Prop} (av0 : a0 < 3) (h : F_X2_isHeldOf a0 a1 a2 S k) : Met l yX2_isHeldOf (Cond.code yX2_isHeldOf cX2_isHeldOf 3 (some .boolean) :: TB) rm_X2_isHeldOf (va_Pc [.ref (b + adC 19 a0), .int a1, .int a2] (fun U => RelC D cy b z tx S U U.heap ∧ TxR tx U)) (PiC D cy b z tx k) 0 0 (gA b 709 z) := by
  refine Met.ofW (cc := cX2_isHeldOf) (maxL := 3) (ret := (some .boolean)) (by decide) rfl ?_
  intro p e s m args below meth c s₁ B hml hv
  obtain ⟨rfl, hR, hT⟩ := hv
  have C0 : CallFix p m c cX2_isHeldOf 3 s _ TB RX2 := ⟨B.exec, B.bytes, hml, findClass_of_methodNamed B.named, fun w hw => atoms_spec B.pre w (List.mem_cons_of_mem _ hw)⟩
  have hr := B.returns
  have hlk := B.notSynchronized
  have hx := C0.1
  have hb := C0.2.1
  have hS : va_S (gA b 709 z) s.heap s.heap [] := va_S.rf
  have hl := lv_entry ([.ref (b + adC 19 a0), .int a1, .int a2]) (n := 3) (Nat.le_of_ble_eq_true rfl)
  rw [lg_entry_eq]
  generalize (lg_sl ([.ref (b + adC 19 a0), .int a1, .int a2]) ++ List.replicate (3 - (lg_sl ([.ref (b + adC 19 a0), .int a1, .int a2])).length) Slot.unset).toArray = ls at hl ⊢
  have hl : lv_has ls 3 [(0, .ref (b + adC 19 a0)), (1, .int a1), (2, .int a2)] := hl
  show W p l e rm_X2_isHeldOf s m _ below meth c s.heap [] 0 0 (MQ below (PiC D cy b z tx k) _ s 0 0 (gA b 709 z)) _
  unfold F_X2_isHeldOf at h
  refine lv_aload_n hx hb dX2_isHeldOf_0 rfl (lv_at hl 0 rfl) ?_
  refine lv_iload_n hx hb dX2_isHeldOf_1 rfl (lv_at hl 1 rfl) ?_
  refine lv_iconst (v := 1) hx hb dX2_isHeldOf_2 (by decide) ?_
  refine qC_Vi (As := [.int a1, .int 1]) (rest := []) C0 (c_X2_cell l av0 h) (cwV 2 C0.2.2.2.2 (tbV mC9_3_38 ⟨mC9_3_39, mC9_3_40, mC9_1_6, mC9_3_41⟩) rfl rfl rfl (by decide +kernel) ⟨Nat.le_of_ble_eq_true rfl, Nat.le_of_ble_eq_true rfl⟩) (rcC_19 hR av0) hR hT hS rfl hl.1 rfl (Nat.le_of_ble_eq_true rfl) dX2_isHeldOf_3 ⟨Nat.zero_le _, Nat.zero_le _⟩ (fun r1 S2 H locs h hR hS => ?_)
  refine lv_iload_n hx hb dX2_isHeldOf_6 rfl (lv_at hl 2 rfl) ?_
  refine lv_icmp_ne (tgt := 24) hx hb dX2_isHeldOf_7 (by decide) (fun c3 => ?_) (fun c3 => ?_)
  · have h := h.1 c3
    refine lv_iconst (v := 0) hx hb dX2_isHeldOf_24 (by decide) ?_
    exact rtC_z C0 hr hlk hR hS (by decide) h dX2_isHeldOf_25
  · have h := h.2 c3
    refine lv_aload_n hx hb dX2_isHeldOf_10 rfl (lv_at hl 0 rfl) ?_
    refine lv_iload_n hx hb dX2_isHeldOf_11 rfl (lv_at hl 1 rfl) ?_
    refine lv_iconst (v := 2) hx hb dX2_isHeldOf_12 (by decide) ?_
    refine qC_Vi (As := [.int a1, .int 2]) (rest := []) C0 (c_X2_cell l av0 h) (cwV 2 C0.2.2.2.2 (tbV mC9_3_38 ⟨mC9_3_39, mC9_3_40, mC9_1_6, mC9_3_41⟩) rfl rfl rfl (by decide +kernel) ⟨Nat.le_of_ble_eq_true rfl, Nat.le_of_ble_eq_true rfl⟩) (rcC_19 hR av0) hR hT hS rfl hl.1 rfl (Nat.le_of_ble_eq_true rfl) dX2_isHeldOf_13 ⟨Nat.zero_le _, Nat.zero_le _⟩ (fun r4 S5 H locs h hR hS => ?_)
    refine lv_iconst (v := 1) hx hb dX2_isHeldOf_16 (by decide) ?_
    refine lv_icmp_ne (tgt := 24) hx hb dX2_isHeldOf_17 (by decide) (fun c6 => ?_) (fun c6 => ?_)
    · have h := h.1 c6
      refine lv_iconst (v := 0) hx hb dX2_isHeldOf_24 (by decide) ?_
      exact rtC_z C0 hr hlk hR hS (by decide) h dX2_isHeldOf_25
    · have h := h.2 c6
      refine lv_iconst (v := 1) hx hb dX2_isHeldOf_20 (by decide) ?_
      refine lv_goto (tgt := 25) hx hb dX2_isHeldOf_21 (by decide) ?_
      exact rtC_z C0 hr hlk hR hS (by decide) h dX2_isHeldOf_25

def rm_X2_firstHold : Room := { frames := 2, cells := 0, slots := 0, locals := 44 }
def Bb_X2_firstHold_2 (kk2 : Nat → Int32 → Int32 → sSt → Prop) (a0 : Nat) (a1 : Int32) (a2 : Int32) (S : sSt) (k : Int32 → sSt → Prop) : Prop := (((S.1 19 a0 2) ≤ a2 → k (-1) S) ∧ (¬ (S.1 19 a0 2) ≤ a2 → F_X2_isHeldOf a0 a2 a1 S (fun r2 S3 => ((r2 = 0 → ∀ x5 : Int32, x5 = a2 + 1 → kk2 a0 a1 x5 S3) ∧ (¬ r2 = 0 → k a2 S3)))))
set_option maxHeartbeats 4000000 in
set_option maxRecDepth 100000 in
theorem Bbw_X2_firstHold_2 {p : Program} {l : Launch} {e : Env} {s : State} {m : MethodId} {args : Array Value} {below : List Frame} {meth : Method} {c : Code} {D : va_G} {cy : Nat → ClassId} {b z : Nat} {tx : TX} (C0 : CallFix p m c cX2_firstHold 3 s args TB RX2) (hr : meth.sig.returnType = (some .int)) (hlk : meth.locks = false) (hT : TxR tx s) {k : Int32 → sSt → Prop} {kk2 : Nat → Int32 → Int32 → sSt → Prop} (ih2 : ∀ (a0 : Nat) (a1 : Int32) (a2 : Int32) (S : sSt) (H : Heap) (locs : List Loc) (ls : Array Slot) (av0 : a0 < 3), kk2 a0 a1 a2 S → RelC D cy b z tx S s H → va_S (gA b 709 z) s.heap H locs → lv_has ls 3 [(0, .ref (b + adC 19 a0)), (1, .int a1), (2, .int a2)] → W p l e rm_X2_firstHold s m args below meth c H locs 0 0 (MQ below (PiC D cy b z tx k) args s 0 0 (gA b 709 z)) (F0 m 2 ls [])) : ∀ (a0 : Nat) (a1 : Int32) (a2 : Int32) (S : sSt) (H : Heap) (locs : List Loc) (ls : Array Slot) (av0 : a0 < 3), Bb_X2_firstHold_2 kk2 a0 a1 a2 S k → RelC D cy b z tx S s H → va_S (gA b 709 z) s.heap H locs → lv_has ls 3 [(0, .ref (b + adC 19 a0)), (1, .int a1), (2, .int a2)] → W p l e rm_X2_firstHold s m args below meth c H locs 0 0 (MQ below (PiC D cy b z tx k) args s 0 0 (gA b 709 z)) (F0 m 2 ls []) := by
  intro a0 a1 a2 S H locs ls av0 h hR hS hl
  have hx := C0.1
  have hb := C0.2.1
  unfold Bb_X2_firstHold_2 at h
  refine lv_iload_n hx hb dX2_firstHold_2 rfl (lv_at hl 2 rfl) ?_
  refine lv_aload_n hx hb dX2_firstHold_3 rfl (lv_at hl 0 rfl) ?_
  refine gC_19_2 C0 hR av0 tbs_wsX20 mC9_1_137 dX2_firstHold_4 ?_
  refine lv_icmp_ge (tgt := 27) hx hb dX2_firstHold_7 (by decide) (fun c1 => ?_) (fun c1 => ?_)
  · have h := h.1 c1
    refine lv_iconst (v := (-1)) hx hb dX2_firstHold_27 (by decide) ?_
    exact rtC_i C0 hr hlk hR hS h dX2_firstHold_28
  · have h := h.2 c1
    refine lv_aload_n hx hb dX2_firstHold_10 rfl (lv_at hl 0 rfl) ?_
    refine lv_iload_n hx hb dX2_firstHold_11 rfl (lv_at hl 2 rfl) ?_
    refine lv_iload_n hx hb dX2_firstHold_12 rfl (lv_at hl 1 rfl) ?_
    refine qC_Vi (As := [.int a2, .int a1]) (rest := []) C0 (c_X2_isHeldOf l av0 h) (cwV 2 C0.2.2.2.2 (tbV mC9_7_13 ⟨mC9_7_15, mpC9_2_8, mC9_1_6, mC9_7_16⟩) rfl rfl rfl (by decide +kernel) ⟨Nat.le_of_ble_eq_true rfl, Nat.le_of_ble_eq_true rfl⟩) (rcC_19 hR av0) hR hT hS rfl hl.1 rfl (Nat.le_of_ble_eq_true rfl) dX2_firstHold_13 ⟨Nat.zero_le _, Nat.zero_le _⟩ (fun r2 S3 H locs h hR hS => ?_)
    refine lv_if_eq (tgt := 21) hx hb dX2_firstHold_16 (by decide) (fun c4 => ?_) (fun c4 => ?_)
    · have h := h.1 c4
      obtain ⟨x5, ex5⟩ : ∃ x5 : Int32, x5 = a2 + 1 := ⟨_, rfl⟩
      have h := h x5 ex5
      refine w_iinc (v0 := 1) (lv' := [(2, .int x5), (0, .ref (b + adC 19 a0)), (1, .int a1)]) C0 dX2_firstHold_21 hl (k := 2) rfl (by decide) (by decide) x5 ex5 rfl (fun ls hl => ?_)
      refine lv_goto (tgt := 2) hx hb dX2_firstHold_24 (by decide) ?_
      exact ih2 a0 a1 x5 S3 _ _ _ av0 h hR hS (lv_sub hl [1, 2, 0] rfl)
    · have h := h.2 c4
      refine lv_iload_n hx hb dX2_firstHold_19 rfl (lv_at hl 2 rfl) ?_
      exact rtC_i C0 hr hlk hR hS h dX2_firstHold_20
def B_X2_firstHold_2 (n9 : Nat) (a0 : Nat) (a1 : Int32) (a2 : Int32) (S : sSt) (k : Int32 → sSt → Prop) : Prop := (Nat.rec (motive := fun _ => Nat → Int32 → Int32 → sSt → Prop) (fun _ _ _ _ => False) (fun _ r9 => fun a0 a1 a2 S => Bb_X2_firstHold_2 r9 a0 a1 a2 S k) n9 : Nat → Int32 → Int32 → sSt → Prop) a0 a1 a2 S
theorem B_X2_firstHold_2_s (n9 : Nat) (a0 : Nat) (a1 : Int32) (a2 : Int32) (S : sSt) (k : Int32 → sSt → Prop) : B_X2_firstHold_2 (n9 + 1) a0 a1 a2 S k = Bb_X2_firstHold_2 (fun a0 a1 a2 S => B_X2_firstHold_2 n9 a0 a1 a2 S k) a0 a1 a2 S k := rfl
set_option maxHeartbeats 4000000 in
set_option maxRecDepth 100000 in
theorem Bw_X2_firstHold_2 {p : Program} {l : Launch} {e : Env} {s : State} {m : MethodId} {args : Array Value} {below : List Frame} {meth : Method} {c : Code} {D : va_G} {cy : Nat → ClassId} {b z : Nat} {tx : TX} (C0 : CallFix p m c cX2_firstHold 3 s args TB RX2) (hr : meth.sig.returnType = (some .int)) (hlk : meth.locks = false) (hT : TxR tx s) {k : Int32 → sSt → Prop} : ∀ (n9 : Nat), ∀ (a0 : Nat) (a1 : Int32) (a2 : Int32) (S : sSt) (H : Heap) (locs : List Loc) (ls : Array Slot) (av0 : a0 < 3), B_X2_firstHold_2 n9 a0 a1 a2 S k → RelC D cy b z tx S s H → va_S (gA b 709 z) s.heap H locs → lv_has ls 3 [(0, .ref (b + adC 19 a0)), (1, .int a1), (2, .int a2)] → W p l e rm_X2_firstHold s m args below meth c H locs 0 0 (MQ below (PiC D cy b z tx k) args s 0 0 (gA b 709 z)) (F0 m 2 ls []) := by
  intro n9
  induction n9 with
  | zero => intro a0 a1 a2 S H locs ls av0 h; exact h.elim
  | succ n9 ih =>
    intro a0 a1 a2 S H locs ls av0 h hR hS hl
    exact Bbw_X2_firstHold_2 C0 hr hlk hT ih a0 a1 a2 S H locs ls av0 h hR hS hl
def F_X2_firstHold (a0 : Nat) (a1 : Int32) (S : sSt) (k : Int32 → sSt → Prop) : Prop := B_X2_firstHold_2 fuel a0 a1 0 S k
set_option maxHeartbeats 4000000 in
set_option maxRecDepth 100000 in
theorem c_X2_firstHold (l : Launch) {D : va_G} {cy : Nat → ClassId} {b z : Nat} {tx : TX} {a0 : Nat} {a1 : Int32} {S : sSt} {k : Int32 → sSt → Prop} (av0 : a0 < 3) (h : F_X2_firstHold a0 a1 S k) : Met l yX2_firstHold (Cond.code yX2_firstHold cX2_firstHold 3 (some .int) :: TB) rm_X2_firstHold (va_Pc [.ref (b + adC 19 a0), .int a1] (fun U => RelC D cy b z tx S U U.heap ∧ TxR tx U)) (PiC D cy b z tx k) 0 0 (gA b 709 z) := by
  refine Met.ofW (cc := cX2_firstHold) (maxL := 3) (ret := (some .int)) (by decide) rfl ?_
  intro p e s m args below meth c s₁ B hml hv
  obtain ⟨rfl, hR, hT⟩ := hv
  have C0 : CallFix p m c cX2_firstHold 3 s _ TB RX2 := ⟨B.exec, B.bytes, hml, findClass_of_methodNamed B.named, fun w hw => atoms_spec B.pre w (List.mem_cons_of_mem _ hw)⟩
  have hr := B.returns
  have hlk := B.notSynchronized
  have hx := C0.1
  have hb := C0.2.1
  have hS : va_S (gA b 709 z) s.heap s.heap [] := va_S.rf
  have hl := lv_entry ([.ref (b + adC 19 a0), .int a1]) (n := 3) (Nat.le_of_ble_eq_true rfl)
  rw [lg_entry_eq]
  generalize (lg_sl ([.ref (b + adC 19 a0), .int a1]) ++ List.replicate (3 - (lg_sl ([.ref (b + adC 19 a0), .int a1])).length) Slot.unset).toArray = ls at hl ⊢
  have hl : lv_has ls 3 [(0, .ref (b + adC 19 a0)), (1, .int a1)] := hl
  show W p l e rm_X2_firstHold s m _ below meth c s.heap [] 0 0 (MQ below (PiC D cy b z tx k) _ s 0 0 (gA b 709 z)) _
  unfold F_X2_firstHold at h
  refine lv_iconst (v := 0) hx hb dX2_firstHold_0 (by decide) ?_
  refine lv_istore_n (lv' := [(2, .int 0), (0, .ref (b + adC 19 a0)), (1, .int a1)]) hx hb dX2_firstHold_1 rfl hl (by decide) rfl (fun ls hl => ?_)
  exact Bw_X2_firstHold_2 C0 hr hlk hT fuel a0 a1 0 S _ _ _ av0 h hR hS (lv_sub hl [1, 2, 0] rfl)

def rm_X6_isOvertaken : Room := { frames := 3, cells := 0, slots := 0, locals := 66 }
def B_X6_isOvertaken_52 (S : sSt) (k : Int32 → sSt → Prop) : Prop := k 1 S
set_option maxHeartbeats 4000000 in
set_option maxRecDepth 100000 in
theorem Bw_X6_isOvertaken_52 {p : Program} {l : Launch} {e : Env} {s : State} {m : MethodId} {args : Array Value} {below : List Frame} {meth : Method} {c : Code} {D : va_G} {cy : Nat → ClassId} {b z : Nat} {tx : TX} (C0 : CallFix p m c cX6_isOvertaken 5 s args TB RX6) (hr : meth.sig.returnType = (some .boolean)) (hlk : meth.locks = false) (hT : TxR tx s) {k : Int32 → sSt → Prop} : ∀ (S : sSt) (H : Heap) (locs : List Loc) (ls : Array Slot) , B_X6_isOvertaken_52 S k → RelC D cy b z tx S s H → va_S (gA b 709 z) s.heap H locs → lv_has ls 5 [] → W p l e rm_X6_isOvertaken s m args below meth c H locs 0 0 (MQ below (PiC D cy b z tx k) args s 0 0 (gA b 709 z)) (F0 m 52 ls []) := by
  intro S H locs ls h hR hS hl
  have hx := C0.1
  have hb := C0.2.1
  unfold B_X6_isOvertaken_52 at h
  refine lv_iconst (v := 1) hx hb dX6_isOvertaken_52 (by decide) ?_
  refine lv_goto (tgt := 57) hx hb dX6_isOvertaken_53 (by decide) ?_
  exact rtC_z C0 hr hlk hR hS (by decide) h dX6_isOvertaken_57
def F_X6_isOvertaken (a0 : Nat) (a1 : Int32) (a2 : Int32) (S : sSt) (k : Int32 → sSt → Prop) : Prop := ix a2 24 (fun j3 => F_X2_firstHold a0 (S.1 21 (S.2 14 a0 j3) 6) S (fun r5 S6 => ix a1 24 (fun j9 => F_X2_firstHold a0 (S6.1 21 (S6.2 14 a0 j9) 6) S6 (fun r11 S12 => ((r5 = (-1) → k 0 S12) ∧ (¬ r5 = (-1) → ((r11 = (-1) → B_X6_isOvertaken_52 S12 k) ∧ (¬ r11 = (-1) → ((r11 ≤ r5 → k 0 S12) ∧ (¬ r11 ≤ r5 → B_X6_isOvertaken_52 S12 k))))))))))
set_option maxHeartbeats 4000000 in
set_option maxRecDepth 100000 in
theorem c_X6_isOvertaken (l : Launch) {D : va_G} {cy : Nat → ClassId} {b z : Nat} {tx : TX} {a0 : Nat} {a1 : Int32} {a2 : Int32} {S : sSt} {k : Int32 → sSt → Prop} (av0 : a0 < 3) (h : F_X6_isOvertaken a0 a1 a2 S k) : Met l yX6_isOvertaken (Cond.code yX6_isOvertaken cX6_isOvertaken 5 (some .boolean) :: TB) rm_X6_isOvertaken (va_Pc [.ref (b + adC 13 a0), .int a1, .int a2] (fun U => RelC D cy b z tx S U U.heap ∧ TxR tx U)) (PiC D cy b z tx k) 0 0 (gA b 709 z) := by
  refine Met.ofW (cc := cX6_isOvertaken) (maxL := 5) (ret := (some .boolean)) (by decide) rfl ?_
  intro p e s m args below meth c s₁ B hml hv
  obtain ⟨rfl, hR, hT⟩ := hv
  have C0 : CallFix p m c cX6_isOvertaken 5 s _ TB RX6 := ⟨B.exec, B.bytes, hml, findClass_of_methodNamed B.named, fun w hw => atoms_spec B.pre w (List.mem_cons_of_mem _ hw)⟩
  have hr := B.returns
  have hlk := B.notSynchronized
  have hx := C0.1
  have hb := C0.2.1
  have hS : va_S (gA b 709 z) s.heap s.heap [] := va_S.rf
  have hl := lv_entry ([.ref (b + adC 13 a0), .int a1, .int a2]) (n := 5) (Nat.le_of_ble_eq_true rfl)
  rw [lg_entry_eq]
  generalize (lg_sl ([.ref (b + adC 13 a0), .int a1, .int a2]) ++ List.replicate (5 - (lg_sl ([.ref (b + adC 13 a0), .int a1, .int a2])).length) Slot.unset).toArray = ls at hl ⊢
  have hl : lv_has ls 5 [(0, .ref (b + adC 13 a0)), (1, .int a1), (2, .int a2)] := hl
  show W p l e rm_X6_isOvertaken s m _ below meth c s.heap [] 0 0 (MQ below (PiC D cy b z tx k) _ s 0 0 (gA b 709 z)) _
  unfold F_X6_isOvertaken at h
  refine lv_aload_n hx hb dX6_isOvertaken_0 rfl (lv_at hl 0 rfl) ?_
  refine gC_13_5 C0 hR av0 tbs_wsX60 mC9_2_144 dX6_isOvertaken_1 ?_
  have w1 : a0 < 3 := by omega
  refine lv_aload_n hx hb dX6_isOvertaken_4 rfl (lv_at hl 0 rfl) ?_
  refine gC_13_0 C0 hR av0 tbs_wsX60 mC9_2_126 dX6_isOvertaken_5 ?_
  have w2 : a0 < 3 := by omega
  refine lv_iload_n hx hb dX6_isOvertaken_8 rfl (lv_at hl 2 rfl) ?_
  obtain ⟨j3, hj3, ej3, h⟩ := h
  refine lC_14 C0 hR w2 hj3 ej3 dX6_isOvertaken_9 ?_
  have w4 : (S.2 14 a0 j3) < 72 := hR.2.1.1 _ _ w2 hj3
  refine gCn_21_6 C0 hR w4 tbs_wsX10 mC9_1_230 hT dX6_isOvertaken_10 ?_
  refine qC_Vi (As := [.int (S.1 21 (S.2 14 a0 j3) 6)]) (rest := []) C0 (c_X2_firstHold l w1 h) (cwV 1 C0.2.2.2.2 (tbV mC9_7_9 ⟨mC9_7_10, mC9_7_11, mC9_1_6, mC9_7_12⟩) rfl rfl rfl (by decide +kernel) ⟨Nat.le_of_ble_eq_true rfl, Nat.le_of_ble_eq_true rfl⟩) (rcC_19 hR w1) hR hT hS rfl hl.1 rfl (Nat.le_of_ble_eq_true rfl) dX6_isOvertaken_13 ⟨Nat.zero_le _, Nat.zero_le _⟩ (fun r5 S6 H locs h hR hS => ?_)
  refine lv_istore_n (lv' := [(3, .int r5), (0, .ref (b + adC 13 a0)), (1, .int a1), (2, .int a2)]) hx hb dX6_isOvertaken_16 rfl hl (by decide) rfl (fun ls hl => ?_)
  refine lv_aload_n hx hb dX6_isOvertaken_17 rfl (lv_at hl 1 rfl) ?_
  refine gC_13_5 C0 hR av0 tbs_wsX60 mC9_2_144 dX6_isOvertaken_18 ?_
  have w7 : a0 < 3 := by omega
  refine lv_aload_n hx hb dX6_isOvertaken_21 rfl (lv_at hl 1 rfl) ?_
  refine gC_13_0 C0 hR av0 tbs_wsX60 mC9_2_126 dX6_isOvertaken_22 ?_
  have w8 : a0 < 3 := by omega
  refine lv_iload_n hx hb dX6_isOvertaken_25 rfl (lv_at hl 2 rfl) ?_
  obtain ⟨j9, hj9, ej9, h⟩ := h
  refine lC_14 C0 hR w8 hj9 ej9 dX6_isOvertaken_26 ?_
  have w10 : (S6.2 14 a0 j9) < 72 := hR.2.1.1 _ _ w8 hj9
  refine gCn_21_6 C0 hR w10 tbs_wsX10 mC9_1_230 hT dX6_isOvertaken_27 ?_
  refine qC_Vi (As := [.int (S6.1 21 (S6.2 14 a0 j9) 6)]) (rest := []) C0 (c_X2_firstHold l w7 h) (cwV 1 C0.2.2.2.2 (tbV mC9_7_9 ⟨mC9_7_10, mC9_7_11, mC9_1_6, mC9_7_12⟩) rfl rfl rfl (by decide +kernel) ⟨Nat.le_of_ble_eq_true rfl, Nat.le_of_ble_eq_true rfl⟩) (rcC_19 hR w7) hR hT hS rfl hl.1 rfl (Nat.le_of_ble_eq_true rfl) dX6_isOvertaken_30 ⟨Nat.zero_le _, Nat.zero_le _⟩ (fun r11 S12 H locs h hR hS => ?_)
  refine lv_istore (lv' := [(4, .int r11), (3, .int r5), (0, .ref (b + adC 13 a0)), (1, .int a1), (2, .int a2)]) hx hb dX6_isOvertaken_33 hl (by decide) rfl (fun ls hl => ?_)
  refine lv_iload_n hx hb dX6_isOvertaken_35 rfl (lv_at hl 1 rfl) ?_
  refine lv_iconst (v := (-1)) hx hb dX6_isOvertaken_36 (by decide) ?_
  refine lv_icmp_eq (tgt := 56) hx hb dX6_isOvertaken_37 (by decide) (fun c13 => ?_) (fun c13 => ?_)
  · have h := h.1 c13
    refine lv_iconst (v := 0) hx hb dX6_isOvertaken_56 (by decide) ?_
    exact rtC_z C0 hr hlk hR hS (by decide) h dX6_isOvertaken_57
  · have h := h.2 c13
    refine lv_iload hx hb dX6_isOvertaken_40 (lv_at hl 0 rfl) ?_
    refine lv_iconst (v := (-1)) hx hb dX6_isOvertaken_42 (by decide) ?_
    refine lv_icmp_eq (tgt := 52) hx hb dX6_isOvertaken_43 (by decide) (fun c14 => ?_) (fun c14 => ?_)
    · have h := h.1 c14
      exact Bw_X6_isOvertaken_52 C0 hr hlk hT S12 _ _ _ h hR hS (lv_sub hl [] rfl)
    · have h := h.2 c14
      refine lv_iload_n hx hb dX6_isOvertaken_46 rfl (lv_at hl 1 rfl) ?_
      refine lv_iload hx hb dX6_isOvertaken_47 (lv_at hl 0 rfl) ?_
      refine lv_icmp_ge (tgt := 56) hx hb dX6_isOvertaken_49 (by decide) (fun c15 => ?_) (fun c15 => ?_)
      · have h := h.1 c15
        refine lv_iconst (v := 0) hx hb dX6_isOvertaken_56 (by decide) ?_
        exact rtC_z C0 hr hlk hR hS (by decide) h dX6_isOvertaken_57
      · have h := h.2 c15
        exact Bw_X6_isOvertaken_52 C0 hr hlk hT S12 _ _ _ h hR hS (lv_sub hl [] rfl)

def rm_X6_overtakenPairs : Room := { frames := 4, cells := 0, slots := 0, locals := 90 }
def B_X6_overtakenPairs_68 (kk4 : Nat → Int32 → Int32 → Int32 → sSt → Prop) (kk15 : Nat → Int32 → Int32 → Int32 → Int32 → sSt → Prop) (a0 : Nat) (a1 : Int32) (a3 : Int32) (a4 : Int32) (t0 : Int32) (t1 : Int32) (S : sSt) (k : Int32 → sSt → Prop) : Prop := ∀ x8 : Int32, x8 = (t0 + t1) → ∀ x9 : Int32, x9 = a4 + 1 → kk15 a0 a1 x8 a3 x9 S
set_option maxHeartbeats 4000000 in
set_option maxRecDepth 100000 in
theorem Bw_X6_overtakenPairs_68 {p : Program} {l : Launch} {e : Env} {s : State} {m : MethodId} {args : Array Value} {below : List Frame} {meth : Method} {c : Code} {D : va_G} {cy : Nat → ClassId} {b z : Nat} {tx : TX} (C0 : CallFix p m c cX6_overtakenPairs 6 s args TB RX6) (hr : meth.sig.returnType = (some .int)) (hlk : meth.locks = false) (hT : TxR tx s) {k : Int32 → sSt → Prop} {kk4 : Nat → Int32 → Int32 → Int32 → sSt → Prop} {kk15 : Nat → Int32 → Int32 → Int32 → Int32 → sSt → Prop} (ih4 : ∀ (a0 : Nat) (a1 : Int32) (a2 : Int32) (a3 : Int32) (S : sSt) (H : Heap) (locs : List Loc) (ls : Array Slot) (av0 : a0 < 3), kk4 a0 a1 a2 a3 S → RelC D cy b z tx S s H → va_S (gA b 709 z) s.heap H locs → lv_has ls 6 [(0, .ref (b + adC 13 a0)), (1, .int a1), (2, .int a2), (3, .int a3)] → W p l e rm_X6_overtakenPairs s m args below meth c H locs 0 0 (MQ below (PiC D cy b z tx k) args s 0 0 (gA b 709 z)) (F0 m 4 ls [])) (ih15 : ∀ (a0 : Nat) (a1 : Int32) (a2 : Int32) (a3 : Int32) (a4 : Int32) (S : sSt) (H : Heap) (locs : List Loc) (ls : Array Slot) (av0 : a0 < 3), kk15 a0 a1 a2 a3 a4 S → RelC D cy b z tx S s H → va_S (gA b 709 z) s.heap H locs → lv_has ls 6 [(0, .ref (b + adC 13 a0)), (1, .int a1), (2, .int a2), (3, .int a3), (4, .int a4)] → W p l e rm_X6_overtakenPairs s m args below meth c H locs 0 0 (MQ below (PiC D cy b z tx k) args s 0 0 (gA b 709 z)) (F0 m 15 ls [])) : ∀ (a0 : Nat) (a1 : Int32) (a3 : Int32) (a4 : Int32) (t0 : Int32) (t1 : Int32) (S : sSt) (H : Heap) (locs : List Loc) (ls : Array Slot) (av0 : a0 < 3), B_X6_overtakenPairs_68 kk4 kk15 a0 a1 a3 a4 t0 t1 S k → RelC D cy b z tx S s H → va_S (gA b 709 z) s.heap H locs → lv_has ls 6 [(0, .ref (b + adC 13 a0)), (1, .int a1), (3, .int a3), (4, .int a4)] → W p l e rm_X6_overtakenPairs s m args below meth c H locs 0 0 (MQ below (PiC D cy b z tx k) args s 0 0 (gA b 709 z)) (F0 m 68 ls [.int t1, .int t0]) := by
  intro a0 a1 a3 a4 t0 t1 S H locs ls av0 h hR hS hl
  have hx := C0.1
  have hb := C0.2.1
  unfold B_X6_overtakenPairs_68 at h
  refine lv_iadd hx hb dX6_overtakenPairs_68 ?_
  refine lv_topi (fun x8 ex8 => ?_)
  have h := h x8 ex8
  refine lv_istore_n (lv' := [(2, .int x8), (0, .ref (b + adC 13 a0)), (1, .int a1), (3, .int a3), (4, .int a4)]) hx hb dX6_overtakenPairs_69 rfl hl (by decide) rfl (fun ls hl => ?_)
  obtain ⟨x9, ex9⟩ : ∃ x9 : Int32, x9 = a4 + 1 := ⟨_, rfl⟩
  have h := h x9 ex9
  refine w_iinc (v0 := 1) (lv' := [(4, .int x9), (2, .int x8), (0, .ref (b + adC 13 a0)), (1, .int a1), (3, .int a3)]) C0 dX6_overtakenPairs_70 hl (k := 4) rfl (by decide) (by decide) x9 ex9 rfl (fun ls hl => ?_)
  refine lv_goto (tgt := 15) hx hb dX6_overtakenPairs_73 (by decide) ?_
  exact ih15 a0 a1 x8 a3 x9 S _ _ _ av0 h hR hS (lv_sub hl [2, 3, 1, 4, 0] rfl)
def B_X6_overtakenPairs_67 (kk4 : Nat → Int32 → Int32 → Int32 → sSt → Prop) (kk15 : Nat → Int32 → Int32 → Int32 → Int32 → sSt → Prop) (a0 : Nat) (a1 : Int32) (a3 : Int32) (a4 : Int32) (t0 : Int32) (S : sSt) (k : Int32 → sSt → Prop) : Prop := B_X6_overtakenPairs_68 kk4 kk15 a0 a1 a3 a4 t0 0 S k
set_option maxHeartbeats 4000000 in
set_option maxRecDepth 100000 in
theorem Bw_X6_overtakenPairs_67 {p : Program} {l : Launch} {e : Env} {s : State} {m : MethodId} {args : Array Value} {below : List Frame} {meth : Method} {c : Code} {D : va_G} {cy : Nat → ClassId} {b z : Nat} {tx : TX} (C0 : CallFix p m c cX6_overtakenPairs 6 s args TB RX6) (hr : meth.sig.returnType = (some .int)) (hlk : meth.locks = false) (hT : TxR tx s) {k : Int32 → sSt → Prop} {kk4 : Nat → Int32 → Int32 → Int32 → sSt → Prop} {kk15 : Nat → Int32 → Int32 → Int32 → Int32 → sSt → Prop} (ih4 : ∀ (a0 : Nat) (a1 : Int32) (a2 : Int32) (a3 : Int32) (S : sSt) (H : Heap) (locs : List Loc) (ls : Array Slot) (av0 : a0 < 3), kk4 a0 a1 a2 a3 S → RelC D cy b z tx S s H → va_S (gA b 709 z) s.heap H locs → lv_has ls 6 [(0, .ref (b + adC 13 a0)), (1, .int a1), (2, .int a2), (3, .int a3)] → W p l e rm_X6_overtakenPairs s m args below meth c H locs 0 0 (MQ below (PiC D cy b z tx k) args s 0 0 (gA b 709 z)) (F0 m 4 ls [])) (ih15 : ∀ (a0 : Nat) (a1 : Int32) (a2 : Int32) (a3 : Int32) (a4 : Int32) (S : sSt) (H : Heap) (locs : List Loc) (ls : Array Slot) (av0 : a0 < 3), kk15 a0 a1 a2 a3 a4 S → RelC D cy b z tx S s H → va_S (gA b 709 z) s.heap H locs → lv_has ls 6 [(0, .ref (b + adC 13 a0)), (1, .int a1), (2, .int a2), (3, .int a3), (4, .int a4)] → W p l e rm_X6_overtakenPairs s m args below meth c H locs 0 0 (MQ below (PiC D cy b z tx k) args s 0 0 (gA b 709 z)) (F0 m 15 ls [])) : ∀ (a0 : Nat) (a1 : Int32) (a3 : Int32) (a4 : Int32) (t0 : Int32) (S : sSt) (H : Heap) (locs : List Loc) (ls : Array Slot) (av0 : a0 < 3), B_X6_overtakenPairs_67 kk4 kk15 a0 a1 a3 a4 t0 S k → RelC D cy b z tx S s H → va_S (gA b 709 z) s.heap H locs → lv_has ls 6 [(0, .ref (b + adC 13 a0)), (1, .int a1), (3, .int a3), (4, .int a4)] → W p l e rm_X6_overtakenPairs s m args below meth c H locs 0 0 (MQ below (PiC D cy b z tx k) args s 0 0 (gA b 709 z)) (F0 m 67 ls [.int t0]) := by
  intro a0 a1 a3 a4 t0 S H locs ls av0 h hR hS hl
  have hx := C0.1
  have hb := C0.2.1
  unfold B_X6_overtakenPairs_67 at h
  refine lv_iconst (v := 0) hx hb dX6_overtakenPairs_67 (by decide) ?_
  exact Bw_X6_overtakenPairs_68 C0 hr hlk hT ih4 ih15 a0 a1 a3 a4 t0 0 S _ _ _ av0 h hR hS (lv_sub hl [0, 1, 2, 3] rfl)
def B_X6_overtakenPairs_45 (kk4 : Nat → Int32 → Int32 → Int32 → sSt → Prop) (kk15 : Nat → Int32 → Int32 → Int32 → Int32 → sSt → Prop) (a0 : Nat) (a1 : Int32) (a2 : Int32) (a3 : Int32) (a4 : Int32) (t0 : Int32) (S : sSt) (k : Int32 → sSt → Prop) : Prop := ((t0 = 0 → B_X6_overtakenPairs_67 kk4 kk15 a0 a1 a3 a4 a2 S k) ∧ (¬ t0 = 0 → F_X6_isOvertaken a0 a4 a3 S (fun r10 S11 => ((r10 = 0 → B_X6_overtakenPairs_67 kk4 kk15 a0 a1 a3 a4 a2 S11 k) ∧ (¬ r10 = 0 → B_X6_overtakenPairs_68 kk4 kk15 a0 a1 a3 a4 a2 1 S11 k)))))
set_option maxHeartbeats 4000000 in
set_option maxRecDepth 100000 in
theorem Bw_X6_overtakenPairs_45 {p : Program} {l : Launch} {e : Env} {s : State} {m : MethodId} {args : Array Value} {below : List Frame} {meth : Method} {c : Code} {D : va_G} {cy : Nat → ClassId} {b z : Nat} {tx : TX} (C0 : CallFix p m c cX6_overtakenPairs 6 s args TB RX6) (hr : meth.sig.returnType = (some .int)) (hlk : meth.locks = false) (hT : TxR tx s) {k : Int32 → sSt → Prop} {kk4 : Nat → Int32 → Int32 → Int32 → sSt → Prop} {kk15 : Nat → Int32 → Int32 → Int32 → Int32 → sSt → Prop} (ih4 : ∀ (a0 : Nat) (a1 : Int32) (a2 : Int32) (a3 : Int32) (S : sSt) (H : Heap) (locs : List Loc) (ls : Array Slot) (av0 : a0 < 3), kk4 a0 a1 a2 a3 S → RelC D cy b z tx S s H → va_S (gA b 709 z) s.heap H locs → lv_has ls 6 [(0, .ref (b + adC 13 a0)), (1, .int a1), (2, .int a2), (3, .int a3)] → W p l e rm_X6_overtakenPairs s m args below meth c H locs 0 0 (MQ below (PiC D cy b z tx k) args s 0 0 (gA b 709 z)) (F0 m 4 ls [])) (ih15 : ∀ (a0 : Nat) (a1 : Int32) (a2 : Int32) (a3 : Int32) (a4 : Int32) (S : sSt) (H : Heap) (locs : List Loc) (ls : Array Slot) (av0 : a0 < 3), kk15 a0 a1 a2 a3 a4 S → RelC D cy b z tx S s H → va_S (gA b 709 z) s.heap H locs → lv_has ls 6 [(0, .ref (b + adC 13 a0)), (1, .int a1), (2, .int a2), (3, .int a3), (4, .int a4)] → W p l e rm_X6_overtakenPairs s m args below meth c H locs 0 0 (MQ below (PiC D cy b z tx k) args s 0 0 (gA b 709 z)) (F0 m 15 ls [])) : ∀ (a0 : Nat) (a1 : Int32) (a2 : Int32) (a3 : Int32) (a4 : Int32) (t0 : Int32) (S : sSt) (H : Heap) (locs : List Loc) (ls : Array Slot) (av0 : a0 < 3), B_X6_overtakenPairs_45 kk4 kk15 a0 a1 a2 a3 a4 t0 S k → RelC D cy b z tx S s H → va_S (gA b 709 z) s.heap H locs → lv_has ls 6 [(0, .ref (b + adC 13 a0)), (1, .int a1), (2, .int a2), (3, .int a3), (4, .int a4)] → W p l e rm_X6_overtakenPairs s m args below meth c H locs 0 0 (MQ below (PiC D cy b z tx k) args s 0 0 (gA b 709 z)) (F0 m 45 ls [.int t0]) := by
  intro a0 a1 a2 a3 a4 t0 S H locs ls av0 h hR hS hl
  have hx := C0.1
  have hb := C0.2.1
  unfold B_X6_overtakenPairs_45 at h
  refine lv_istore (lv' := [(5, .int t0), (0, .ref (b + adC 13 a0)), (1, .int a1), (2, .int a2), (3, .int a3), (4, .int a4)]) hx hb dX6_overtakenPairs_45 hl (by decide) rfl (fun ls hl => ?_)
  refine lv_iload_n hx hb dX6_overtakenPairs_47 rfl (lv_at hl 3 rfl) ?_
  refine lv_iload hx hb dX6_overtakenPairs_48 (lv_at hl 0 rfl) ?_
  refine lv_if_eq (tgt := 67) hx hb dX6_overtakenPairs_50 (by decide) (fun c7 => ?_) (fun c7 => ?_)
  · have h := h.1 c7
    exact Bw_X6_overtakenPairs_67 C0 hr hlk hT ih4 ih15 a0 a1 a3 a4 a2 S _ _ _ av0 h hR hS (lv_sub hl [1, 2, 4, 5] rfl)
  · have h := h.2 c7
    refine lv_aload_n hx hb dX6_overtakenPairs_53 rfl (lv_at hl 1 rfl) ?_
    refine lv_iload hx hb dX6_overtakenPairs_54 (lv_at hl 5 rfl) ?_
    refine lv_iload_n hx hb dX6_overtakenPairs_56 rfl (lv_at hl 4 rfl) ?_
    refine qC_Vi (As := [.int a4, .int a3]) (rest := [.int a2]) C0 (c_X6_isOvertaken l av0 h) (cwV 2 C0.2.2.2.2 (tbV mC9_7_5 ⟨mC9_7_7, mpC9_2_7, mC9_1_5, mC9_7_8⟩) rfl rfl rfl (by decide +kernel) ⟨Nat.le_of_ble_eq_true rfl, Nat.le_of_ble_eq_true rfl⟩) (rcC_13 hR av0) hR hT hS rfl hl.1 rfl (Nat.le_of_ble_eq_true rfl) dX6_overtakenPairs_57 ⟨Nat.zero_le _, Nat.zero_le _⟩ (fun r10 S11 H locs h hR hS => ?_)
    refine lv_if_eq (tgt := 67) hx hb dX6_overtakenPairs_60 (by decide) (fun c12 => ?_) (fun c12 => ?_)
    · have h := h.1 c12
      exact Bw_X6_overtakenPairs_67 C0 hr hlk hT ih4 ih15 a0 a1 a3 a4 a2 S11 _ _ _ av0 h hR hS (lv_sub hl [1, 2, 4, 5] rfl)
    · have h := h.2 c12
      refine lv_iconst (v := 1) hx hb dX6_overtakenPairs_63 (by decide) ?_
      refine lv_goto (tgt := 68) hx hb dX6_overtakenPairs_64 (by decide) ?_
      exact Bw_X6_overtakenPairs_68 C0 hr hlk hT ih4 ih15 a0 a1 a3 a4 a2 1 S11 _ _ _ av0 h hR hS (lv_sub hl [1, 2, 4, 5] rfl)
def B_X6_overtakenPairs_44 (kk4 : Nat → Int32 → Int32 → Int32 → sSt → Prop) (kk15 : Nat → Int32 → Int32 → Int32 → Int32 → sSt → Prop) (a0 : Nat) (a1 : Int32) (a2 : Int32) (a3 : Int32) (a4 : Int32) (S : sSt) (k : Int32 → sSt → Prop) : Prop := B_X6_overtakenPairs_45 kk4 kk15 a0 a1 a2 a3 a4 0 S k
set_option maxHeartbeats 4000000 in
set_option maxRecDepth 100000 in
theorem Bw_X6_overtakenPairs_44 {p : Program} {l : Launch} {e : Env} {s : State} {m : MethodId} {args : Array Value} {below : List Frame} {meth : Method} {c : Code} {D : va_G} {cy : Nat → ClassId} {b z : Nat} {tx : TX} (C0 : CallFix p m c cX6_overtakenPairs 6 s args TB RX6) (hr : meth.sig.returnType = (some .int)) (hlk : meth.locks = false) (hT : TxR tx s) {k : Int32 → sSt → Prop} {kk4 : Nat → Int32 → Int32 → Int32 → sSt → Prop} {kk15 : Nat → Int32 → Int32 → Int32 → Int32 → sSt → Prop} (ih4 : ∀ (a0 : Nat) (a1 : Int32) (a2 : Int32) (a3 : Int32) (S : sSt) (H : Heap) (locs : List Loc) (ls : Array Slot) (av0 : a0 < 3), kk4 a0 a1 a2 a3 S → RelC D cy b z tx S s H → va_S (gA b 709 z) s.heap H locs → lv_has ls 6 [(0, .ref (b + adC 13 a0)), (1, .int a1), (2, .int a2), (3, .int a3)] → W p l e rm_X6_overtakenPairs s m args below meth c H locs 0 0 (MQ below (PiC D cy b z tx k) args s 0 0 (gA b 709 z)) (F0 m 4 ls [])) (ih15 : ∀ (a0 : Nat) (a1 : Int32) (a2 : Int32) (a3 : Int32) (a4 : Int32) (S : sSt) (H : Heap) (locs : List Loc) (ls : Array Slot) (av0 : a0 < 3), kk15 a0 a1 a2 a3 a4 S → RelC D cy b z tx S s H → va_S (gA b 709 z) s.heap H locs → lv_has ls 6 [(0, .ref (b + adC 13 a0)), (1, .int a1), (2, .int a2), (3, .int a3), (4, .int a4)] → W p l e rm_X6_overtakenPairs s m args below meth c H locs 0 0 (MQ below (PiC D cy b z tx k) args s 0 0 (gA b 709 z)) (F0 m 15 ls [])) : ∀ (a0 : Nat) (a1 : Int32) (a2 : Int32) (a3 : Int32) (a4 : Int32) (S : sSt) (H : Heap) (locs : List Loc) (ls : Array Slot) (av0 : a0 < 3), B_X6_overtakenPairs_44 kk4 kk15 a0 a1 a2 a3 a4 S k → RelC D cy b z tx S s H → va_S (gA b 709 z) s.heap H locs → lv_has ls 6 [(0, .ref (b + adC 13 a0)), (1, .int a1), (2, .int a2), (3, .int a3), (4, .int a4)] → W p l e rm_X6_overtakenPairs s m args below meth c H locs 0 0 (MQ below (PiC D cy b z tx k) args s 0 0 (gA b 709 z)) (F0 m 44 ls []) := by
  intro a0 a1 a2 a3 a4 S H locs ls av0 h hR hS hl
  have hx := C0.1
  have hb := C0.2.1
  unfold B_X6_overtakenPairs_44 at h
  refine lv_iconst (v := 0) hx hb dX6_overtakenPairs_44 (by decide) ?_
  exact Bw_X6_overtakenPairs_45 C0 hr hlk hT ih4 ih15 a0 a1 a2 a3 a4 0 S _ _ _ av0 h hR hS (lv_sub hl [0, 1, 2, 3, 4] rfl)
def Bb_X6_overtakenPairs_15 (kk4 : Nat → Int32 → Int32 → Int32 → sSt → Prop) (kk15 : Nat → Int32 → Int32 → Int32 → Int32 → sSt → Prop) (a0 : Nat) (a1 : Int32) (a2 : Int32) (a3 : Int32) (a4 : Int32) (S : sSt) (k : Int32 → sSt → Prop) : Prop := ((a3 ≤ a4 → ∀ x3 : Int32, x3 = a3 + 1 → kk4 a0 a1 a2 x3 S) ∧ (¬ a3 ≤ a4 → F_X6_isStoredIn a0 a3 a1 S (fun r4 S5 => ((r4 = 0 → B_X6_overtakenPairs_44 kk4 kk15 a0 a1 a2 a3 a4 S5 k) ∧ (¬ r4 = 0 → F_X6_isStoredIn a0 a4 a1 S5 (fun r13 S14 => ((r13 = 0 → B_X6_overtakenPairs_44 kk4 kk15 a0 a1 a2 a3 a4 S14 k) ∧ (¬ r13 = 0 → B_X6_overtakenPairs_45 kk4 kk15 a0 a1 a2 a3 a4 1 S14 k))))))))
set_option maxHeartbeats 4000000 in
set_option maxRecDepth 100000 in
theorem Bbw_X6_overtakenPairs_15 {p : Program} {l : Launch} {e : Env} {s : State} {m : MethodId} {args : Array Value} {below : List Frame} {meth : Method} {c : Code} {D : va_G} {cy : Nat → ClassId} {b z : Nat} {tx : TX} (C0 : CallFix p m c cX6_overtakenPairs 6 s args TB RX6) (hr : meth.sig.returnType = (some .int)) (hlk : meth.locks = false) (hT : TxR tx s) {k : Int32 → sSt → Prop} {kk4 : Nat → Int32 → Int32 → Int32 → sSt → Prop} {kk15 : Nat → Int32 → Int32 → Int32 → Int32 → sSt → Prop} (ih4 : ∀ (a0 : Nat) (a1 : Int32) (a2 : Int32) (a3 : Int32) (S : sSt) (H : Heap) (locs : List Loc) (ls : Array Slot) (av0 : a0 < 3), kk4 a0 a1 a2 a3 S → RelC D cy b z tx S s H → va_S (gA b 709 z) s.heap H locs → lv_has ls 6 [(0, .ref (b + adC 13 a0)), (1, .int a1), (2, .int a2), (3, .int a3)] → W p l e rm_X6_overtakenPairs s m args below meth c H locs 0 0 (MQ below (PiC D cy b z tx k) args s 0 0 (gA b 709 z)) (F0 m 4 ls [])) (ih15 : ∀ (a0 : Nat) (a1 : Int32) (a2 : Int32) (a3 : Int32) (a4 : Int32) (S : sSt) (H : Heap) (locs : List Loc) (ls : Array Slot) (av0 : a0 < 3), kk15 a0 a1 a2 a3 a4 S → RelC D cy b z tx S s H → va_S (gA b 709 z) s.heap H locs → lv_has ls 6 [(0, .ref (b + adC 13 a0)), (1, .int a1), (2, .int a2), (3, .int a3), (4, .int a4)] → W p l e rm_X6_overtakenPairs s m args below meth c H locs 0 0 (MQ below (PiC D cy b z tx k) args s 0 0 (gA b 709 z)) (F0 m 15 ls [])) : ∀ (a0 : Nat) (a1 : Int32) (a2 : Int32) (a3 : Int32) (a4 : Int32) (S : sSt) (H : Heap) (locs : List Loc) (ls : Array Slot) (av0 : a0 < 3), Bb_X6_overtakenPairs_15 kk4 kk15 a0 a1 a2 a3 a4 S k → RelC D cy b z tx S s H → va_S (gA b 709 z) s.heap H locs → lv_has ls 6 [(0, .ref (b + adC 13 a0)), (1, .int a1), (2, .int a2), (3, .int a3), (4, .int a4)] → W p l e rm_X6_overtakenPairs s m args below meth c H locs 0 0 (MQ below (PiC D cy b z tx k) args s 0 0 (gA b 709 z)) (F0 m 15 ls []) := by
  intro a0 a1 a2 a3 a4 S H locs ls av0 h hR hS hl
  have hx := C0.1
  have hb := C0.2.1
  unfold Bb_X6_overtakenPairs_15 at h
  refine lv_iload hx hb dX6_overtakenPairs_15 (lv_at hl 4 rfl) ?_
  refine lv_iload_n hx hb dX6_overtakenPairs_17 rfl (lv_at hl 3 rfl) ?_
  refine lv_icmp_ge (tgt := 76) hx hb dX6_overtakenPairs_18 (by decide) (fun c2 => ?_) (fun c2 => ?_)
  · have h := h.1 c2
    obtain ⟨x3, ex3⟩ : ∃ x3 : Int32, x3 = a3 + 1 := ⟨_, rfl⟩
    have h := h x3 ex3
    refine w_iinc (v0 := 1) (lv' := [(3, .int x3), (0, .ref (b + adC 13 a0)), (1, .int a1), (2, .int a2), (4, .int a4)]) C0 dX6_overtakenPairs_76 hl (k := 3) rfl (by decide) (by decide) x3 ex3 rfl (fun ls hl => ?_)
    refine lv_goto (tgt := 4) hx hb dX6_overtakenPairs_79 (by decide) ?_
    exact ih4 a0 a1 a2 x3 S _ _ _ av0 h hR hS (lv_sub hl [1, 2, 3, 0] rfl)
  · have h := h.2 c2
    refine lv_aload_n hx hb dX6_overtakenPairs_21 rfl (lv_at hl 0 rfl) ?_
    refine lv_iload_n hx hb dX6_overtakenPairs_22 rfl (lv_at hl 3 rfl) ?_
    refine lv_iload_n hx hb dX6_overtakenPairs_23 rfl (lv_at hl 1 rfl) ?_
    refine qC_Vi (As := [.int a3, .int a1]) (rest := []) C0 (c_X6_isStoredIn l av0 h) (cwV 2 C0.2.2.2.2 (tbV mC9_7_1 ⟨mC9_7_3, mpC9_2_6, mC9_1_5, mC9_7_4⟩) rfl rfl rfl (by decide +kernel) ⟨Nat.le_of_ble_eq_true rfl, Nat.le_of_ble_eq_true rfl⟩) (rcC_13 hR av0) hR hT hS rfl hl.1 rfl (Nat.le_of_ble_eq_true rfl) dX6_overtakenPairs_24 ⟨Nat.zero_le _, Nat.zero_le _⟩ (fun r4 S5 H locs h hR hS => ?_)
    refine lv_if_eq (tgt := 44) hx hb dX6_overtakenPairs_27 (by decide) (fun c6 => ?_) (fun c6 => ?_)
    · have h := h.1 c6
      exact Bw_X6_overtakenPairs_44 C0 hr hlk hT ih4 ih15 a0 a1 a2 a3 a4 S5 _ _ _ av0 h hR hS (lv_sub hl [0, 1, 2, 3, 4] rfl)
    · have h := h.2 c6
      refine lv_aload_n hx hb dX6_overtakenPairs_30 rfl (lv_at hl 0 rfl) ?_
      refine lv_iload hx hb dX6_overtakenPairs_31 (lv_at hl 4 rfl) ?_
      refine lv_iload_n hx hb dX6_overtakenPairs_33 rfl (lv_at hl 1 rfl) ?_
      refine qC_Vi (As := [.int a4, .int a1]) (rest := []) C0 (c_X6_isStoredIn l av0 h) (cwV 2 C0.2.2.2.2 (tbV mC9_7_1 ⟨mC9_7_3, mpC9_2_6, mC9_1_5, mC9_7_4⟩) rfl rfl rfl (by decide +kernel) ⟨Nat.le_of_ble_eq_true rfl, Nat.le_of_ble_eq_true rfl⟩) (rcC_13 hR av0) hR hT hS rfl hl.1 rfl (Nat.le_of_ble_eq_true rfl) dX6_overtakenPairs_34 ⟨Nat.zero_le _, Nat.zero_le _⟩ (fun r13 S14 H locs h hR hS => ?_)
      refine lv_if_eq (tgt := 44) hx hb dX6_overtakenPairs_37 (by decide) (fun c15 => ?_) (fun c15 => ?_)
      · have h := h.1 c15
        exact Bw_X6_overtakenPairs_44 C0 hr hlk hT ih4 ih15 a0 a1 a2 a3 a4 S14 _ _ _ av0 h hR hS (lv_sub hl [0, 1, 2, 3, 4] rfl)
      · have h := h.2 c15
        refine lv_iconst (v := 1) hx hb dX6_overtakenPairs_40 (by decide) ?_
        refine lv_goto (tgt := 45) hx hb dX6_overtakenPairs_41 (by decide) ?_
        exact Bw_X6_overtakenPairs_45 C0 hr hlk hT ih4 ih15 a0 a1 a2 a3 a4 1 S14 _ _ _ av0 h hR hS (lv_sub hl [0, 1, 2, 3, 4] rfl)
def B_X6_overtakenPairs_15 (kk4 : Nat → Int32 → Int32 → Int32 → sSt → Prop) (n9 : Nat) (a0 : Nat) (a1 : Int32) (a2 : Int32) (a3 : Int32) (a4 : Int32) (S : sSt) (k : Int32 → sSt → Prop) : Prop := (Nat.rec (motive := fun _ => Nat → Int32 → Int32 → Int32 → Int32 → sSt → Prop) (fun _ _ _ _ _ _ => False) (fun _ r9 => fun a0 a1 a2 a3 a4 S => Bb_X6_overtakenPairs_15 kk4 r9 a0 a1 a2 a3 a4 S k) n9 : Nat → Int32 → Int32 → Int32 → Int32 → sSt → Prop) a0 a1 a2 a3 a4 S
theorem B_X6_overtakenPairs_15_s (kk4 : Nat → Int32 → Int32 → Int32 → sSt → Prop) (n9 : Nat) (a0 : Nat) (a1 : Int32) (a2 : Int32) (a3 : Int32) (a4 : Int32) (S : sSt) (k : Int32 → sSt → Prop) : B_X6_overtakenPairs_15 kk4 (n9 + 1) a0 a1 a2 a3 a4 S k = Bb_X6_overtakenPairs_15 kk4 (fun a0 a1 a2 a3 a4 S => B_X6_overtakenPairs_15 kk4 n9 a0 a1 a2 a3 a4 S k) a0 a1 a2 a3 a4 S k := rfl
set_option maxHeartbeats 4000000 in
set_option maxRecDepth 100000 in
theorem Bw_X6_overtakenPairs_15 {p : Program} {l : Launch} {e : Env} {s : State} {m : MethodId} {args : Array Value} {below : List Frame} {meth : Method} {c : Code} {D : va_G} {cy : Nat → ClassId} {b z : Nat} {tx : TX} (C0 : CallFix p m c cX6_overtakenPairs 6 s args TB RX6) (hr : meth.sig.returnType = (some .int)) (hlk : meth.locks = false) (hT : TxR tx s) {k : Int32 → sSt → Prop} {kk4 : Nat → Int32 → Int32 → Int32 → sSt → Prop} (ih4 : ∀ (a0 : Nat) (a1 : Int32) (a2 : Int32) (a3 : Int32) (S : sSt) (H : Heap) (locs : List Loc) (ls : Array Slot) (av0 : a0 < 3), kk4 a0 a1 a2 a3 S → RelC D cy b z tx S s H → va_S (gA b 709 z) s.heap H locs → lv_has ls 6 [(0, .ref (b + adC 13 a0)), (1, .int a1), (2, .int a2), (3, .int a3)] → W p l e rm_X6_overtakenPairs s m args below meth c H locs 0 0 (MQ below (PiC D cy b z tx k) args s 0 0 (gA b 709 z)) (F0 m 4 ls [])) : ∀ (n9 : Nat), ∀ (a0 : Nat) (a1 : Int32) (a2 : Int32) (a3 : Int32) (a4 : Int32) (S : sSt) (H : Heap) (locs : List Loc) (ls : Array Slot) (av0 : a0 < 3), B_X6_overtakenPairs_15 kk4 n9 a0 a1 a2 a3 a4 S k → RelC D cy b z tx S s H → va_S (gA b 709 z) s.heap H locs → lv_has ls 6 [(0, .ref (b + adC 13 a0)), (1, .int a1), (2, .int a2), (3, .int a3), (4, .int a4)] → W p l e rm_X6_overtakenPairs s m args below meth c H locs 0 0 (MQ below (PiC D cy b z tx k) args s 0 0 (gA b 709 z)) (F0 m 15 ls []) := by
  intro n9
  induction n9 with
  | zero => intro a0 a1 a2 a3 a4 S H locs ls av0 h; exact h.elim
  | succ n9 ih =>
    intro a0 a1 a2 a3 a4 S H locs ls av0 h hR hS hl
    exact Bbw_X6_overtakenPairs_15 C0 hr hlk hT ih4 ih a0 a1 a2 a3 a4 S H locs ls av0 h hR hS hl
def Bb_X6_overtakenPairs_4 (kk4 : Nat → Int32 → Int32 → Int32 → sSt → Prop) (a0 : Nat) (a1 : Int32) (a2 : Int32) (a3 : Int32) (S : sSt) (k : Int32 → sSt → Prop) : Prop := (((S.1 13 a0 6) ≤ a3 → k a2 S) ∧ (¬ (S.1 13 a0 6) ≤ a3 → B_X6_overtakenPairs_15 kk4 fuel a0 a1 a2 a3 0 S k))
set_option maxHeartbeats 4000000 in
set_option maxRecDepth 100000 in
theorem Bbw_X6_overtakenPairs_4 {p : Program} {l : Launch} {e : Env} {s : State} {m : MethodId} {args : Array Value} {below : List Frame} {meth : Method} {c : Code} {D : va_G} {cy : Nat → ClassId} {b z : Nat} {tx : TX} (C0 : CallFix p m c cX6_overtakenPairs 6 s args TB RX6) (hr : meth.sig.returnType = (some .int)) (hlk : meth.locks = false) (hT : TxR tx s) {k : Int32 → sSt → Prop} {kk4 : Nat → Int32 → Int32 → Int32 → sSt → Prop} (ih4 : ∀ (a0 : Nat) (a1 : Int32) (a2 : Int32) (a3 : Int32) (S : sSt) (H : Heap) (locs : List Loc) (ls : Array Slot) (av0 : a0 < 3), kk4 a0 a1 a2 a3 S → RelC D cy b z tx S s H → va_S (gA b 709 z) s.heap H locs → lv_has ls 6 [(0, .ref (b + adC 13 a0)), (1, .int a1), (2, .int a2), (3, .int a3)] → W p l e rm_X6_overtakenPairs s m args below meth c H locs 0 0 (MQ below (PiC D cy b z tx k) args s 0 0 (gA b 709 z)) (F0 m 4 ls [])) : ∀ (a0 : Nat) (a1 : Int32) (a2 : Int32) (a3 : Int32) (S : sSt) (H : Heap) (locs : List Loc) (ls : Array Slot) (av0 : a0 < 3), Bb_X6_overtakenPairs_4 kk4 a0 a1 a2 a3 S k → RelC D cy b z tx S s H → va_S (gA b 709 z) s.heap H locs → lv_has ls 6 [(0, .ref (b + adC 13 a0)), (1, .int a1), (2, .int a2), (3, .int a3)] → W p l e rm_X6_overtakenPairs s m args below meth c H locs 0 0 (MQ below (PiC D cy b z tx k) args s 0 0 (gA b 709 z)) (F0 m 4 ls []) := by
  intro a0 a1 a2 a3 S H locs ls av0 h hR hS hl
  have hx := C0.1
  have hb := C0.2.1
  unfold Bb_X6_overtakenPairs_4 at h
  refine lv_iload_n hx hb dX6_overtakenPairs_4 rfl (lv_at hl 3 rfl) ?_
  refine lv_aload_n hx hb dX6_overtakenPairs_5 rfl (lv_at hl 0 rfl) ?_
  refine gC_13_6 C0 hR av0 tbs_wsX60 mC9_2_146 dX6_overtakenPairs_6 ?_
  refine lv_icmp_ge (tgt := 82) hx hb dX6_overtakenPairs_9 (by decide) (fun c1 => ?_) (fun c1 => ?_)
  · have h := h.1 c1
    refine lv_iload_n hx hb dX6_overtakenPairs_82 rfl (lv_at hl 2 rfl) ?_
    exact rtC_i C0 hr hlk hR hS h dX6_overtakenPairs_83
  · have h := h.2 c1
    refine lv_iconst (v := 0) hx hb dX6_overtakenPairs_12 (by decide) ?_
    refine lv_istore (lv' := [(4, .int 0), (0, .ref (b + adC 13 a0)), (1, .int a1), (2, .int a2), (3, .int a3)]) hx hb dX6_overtakenPairs_13 hl (by decide) rfl (fun ls hl => ?_)
    exact Bw_X6_overtakenPairs_15 C0 hr hlk hT ih4 fuel a0 a1 a2 a3 0 S _ _ _ av0 h hR hS (lv_sub hl [1, 2, 3, 4, 0] rfl)
def B_X6_overtakenPairs_4 (n9 : Nat) (a0 : Nat) (a1 : Int32) (a2 : Int32) (a3 : Int32) (S : sSt) (k : Int32 → sSt → Prop) : Prop := (Nat.rec (motive := fun _ => Nat → Int32 → Int32 → Int32 → sSt → Prop) (fun _ _ _ _ _ => False) (fun _ r9 => fun a0 a1 a2 a3 S => Bb_X6_overtakenPairs_4 r9 a0 a1 a2 a3 S k) n9 : Nat → Int32 → Int32 → Int32 → sSt → Prop) a0 a1 a2 a3 S
theorem B_X6_overtakenPairs_4_s (n9 : Nat) (a0 : Nat) (a1 : Int32) (a2 : Int32) (a3 : Int32) (S : sSt) (k : Int32 → sSt → Prop) : B_X6_overtakenPairs_4 (n9 + 1) a0 a1 a2 a3 S k = Bb_X6_overtakenPairs_4 (fun a0 a1 a2 a3 S => B_X6_overtakenPairs_4 n9 a0 a1 a2 a3 S k) a0 a1 a2 a3 S k := rfl
set_option maxHeartbeats 4000000 in
set_option maxRecDepth 100000 in
theorem Bw_X6_overtakenPairs_4 {p : Program} {l : Launch} {e : Env} {s : State} {m : MethodId} {args : Array Value} {below : List Frame} {meth : Method} {c : Code} {D : va_G} {cy : Nat → ClassId} {b z : Nat} {tx : TX} (C0 : CallFix p m c cX6_overtakenPairs 6 s args TB RX6) (hr : meth.sig.returnType = (some .int)) (hlk : meth.locks = false) (hT : TxR tx s) {k : Int32 → sSt → Prop} : ∀ (n9 : Nat), ∀ (a0 : Nat) (a1 : Int32) (a2 : Int32) (a3 : Int32) (S : sSt) (H : Heap) (locs : List Loc) (ls : Array Slot) (av0 : a0 < 3), B_X6_overtakenPairs_4 n9 a0 a1 a2 a3 S k → RelC D cy b z tx S s H → va_S (gA b 709 z) s.heap H locs → lv_has ls 6 [(0, .ref (b + adC 13 a0)), (1, .int a1), (2, .int a2), (3, .int a3)] → W p l e rm_X6_overtakenPairs s m args below meth c H locs 0 0 (MQ below (PiC D cy b z tx k) args s 0 0 (gA b 709 z)) (F0 m 4 ls []) := by
  intro n9
  induction n9 with
  | zero => intro a0 a1 a2 a3 S H locs ls av0 h; exact h.elim
  | succ n9 ih =>
    intro a0 a1 a2 a3 S H locs ls av0 h hR hS hl
    exact Bbw_X6_overtakenPairs_4 C0 hr hlk hT ih a0 a1 a2 a3 S H locs ls av0 h hR hS hl
def F_X6_overtakenPairs (a0 : Nat) (a1 : Int32) (S : sSt) (k : Int32 → sSt → Prop) : Prop := B_X6_overtakenPairs_4 fuel a0 a1 0 1 S k
set_option maxHeartbeats 4000000 in
set_option maxRecDepth 100000 in
theorem c_X6_overtakenPairs (l : Launch) {D : va_G} {cy : Nat → ClassId} {b z : Nat} {tx : TX} {a0 : Nat} {a1 : Int32} {S : sSt} {k : Int32 → sSt → Prop} (av0 : a0 < 3) (h : F_X6_overtakenPairs a0 a1 S k) : Met l yX6_overtakenPairs (Cond.code yX6_overtakenPairs cX6_overtakenPairs 6 (some .int) :: TB) rm_X6_overtakenPairs (va_Pc [.ref (b + adC 13 a0), .int a1] (fun U => RelC D cy b z tx S U U.heap ∧ TxR tx U)) (PiC D cy b z tx k) 0 0 (gA b 709 z) := by
  refine Met.ofW (cc := cX6_overtakenPairs) (maxL := 6) (ret := (some .int)) (by decide) rfl ?_
  intro p e s m args below meth c s₁ B hml hv
  obtain ⟨rfl, hR, hT⟩ := hv
  have C0 : CallFix p m c cX6_overtakenPairs 6 s _ TB RX6 := ⟨B.exec, B.bytes, hml, findClass_of_methodNamed B.named, fun w hw => atoms_spec B.pre w (List.mem_cons_of_mem _ hw)⟩
  have hr := B.returns
  have hlk := B.notSynchronized
  have hx := C0.1
  have hb := C0.2.1
  have hS : va_S (gA b 709 z) s.heap s.heap [] := va_S.rf
  have hl := lv_entry ([.ref (b + adC 13 a0), .int a1]) (n := 6) (Nat.le_of_ble_eq_true rfl)
  rw [lg_entry_eq]
  generalize (lg_sl ([.ref (b + adC 13 a0), .int a1]) ++ List.replicate (6 - (lg_sl ([.ref (b + adC 13 a0), .int a1])).length) Slot.unset).toArray = ls at hl ⊢
  have hl : lv_has ls 6 [(0, .ref (b + adC 13 a0)), (1, .int a1)] := hl
  show W p l e rm_X6_overtakenPairs s m _ below meth c s.heap [] 0 0 (MQ below (PiC D cy b z tx k) _ s 0 0 (gA b 709 z)) _
  unfold F_X6_overtakenPairs at h
  refine lv_iconst (v := 0) hx hb dX6_overtakenPairs_0 (by decide) ?_
  refine lv_istore_n (lv' := [(2, .int 0), (0, .ref (b + adC 13 a0)), (1, .int a1)]) hx hb dX6_overtakenPairs_1 rfl hl (by decide) rfl (fun ls hl => ?_)
  refine lv_iconst (v := 1) hx hb dX6_overtakenPairs_2 (by decide) ?_
  refine lv_istore_n (lv' := [(3, .int 1), (2, .int 0), (0, .ref (b + adC 13 a0)), (1, .int a1)]) hx hb dX6_overtakenPairs_3 rfl hl (by decide) rfl (fun ls hl => ?_)
  exact Bw_X6_overtakenPairs_4 C0 hr hlk hT fuel a0 a1 0 1 S _ _ _ av0 h hR hS (lv_sub hl [2, 3, 1, 0] rfl)
