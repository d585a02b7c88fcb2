theorem mM9_7_94 : Cond.fieldLink RX12 45 "ClaimTableModel" "claimers" "[I" ∈ TB := tbT_7 _ (List.mem_of_getElem? (i := 94) rfl) rfl
theorem mM9_9_69 : Cond.methodLink RX12 374 yX12_keepsAll ∈ TB := tbT_9 _ (List.mem_of_getElem? (i := 69) rfl) rfl
theorem mM9_9_72 : Cond.code yX12_keepsAll cX12_keepsAll 2 none ∈ TB := tbT_9 _ (List.mem_of_getElem? (i := 72) rfl) rfl
theorem mM9_9_71 : Cond.instanceMethod yX12_keepsAll ∈ TB := tbT_9 _ (List.mem_of_getElem? (i := 71) rfl) rfl
theorem mpM9_6_13 : Cond.selects RX12 yX12_keepsAll yX12_keepsAll ∈ TB := tbP_6 (yX12_keepsAll, 19) (List.mem_of_getElem? (i := 13) rfl)
theorem mM9_1_11 : Cond.initialized RX12 ∈ TB := tbT_1 _ (List.mem_of_getElem? (i := 11) rfl) rfl
theorem mM9_9_125 : Cond.methodLink RX12 387 yX12_claimsIn ∈ TB := tbT_9 _ (List.mem_of_getElem? (i := 125) rfl) rfl
theorem mM9_9_128 : Cond.code yX12_claimsIn cX12_claimsIn 5 none ∈ TB := tbT_9 _ (List.mem_of_getElem? (i := 128) rfl) rfl
theorem mM9_9_127 : Cond.instanceMethod yX12_claimsIn ∈ TB := tbT_9 _ (List.mem_of_getElem? (i := 127) rfl) rfl
theorem mpM9_7_2 : Cond.selects RX12 yX12_claimsIn yX12_claimsIn ∈ TB := tbP_7 (yX12_claimsIn, 19) (List.mem_of_getElem? (i := 2) rfl)
theorem mM9_9_73 : Cond.methodLink RX12 377 yX12_bringsBack ∈ TB := tbT_9 _ (List.mem_of_getElem? (i := 73) rfl) rfl
theorem mM9_9_76 : Cond.code yX12_bringsBack cX12_bringsBack 2 none ∈ TB := tbT_9 _ (List.mem_of_getElem? (i := 76) rfl) rfl
theorem mM9_9_75 : Cond.instanceMethod yX12_bringsBack ∈ TB := tbT_9 _ (List.mem_of_getElem? (i := 75) rfl) rfl
theorem mpM9_6_14 : Cond.selects RX12 yX12_bringsBack yX12_bringsBack ∈ TB := tbP_6 (yX12_bringsBack, 19) (List.mem_of_getElem? (i := 14) rfl)
theorem mM9_7_77 : Cond.fieldLink RX12 3 "ClaimTableModel" "thrown" "I" ∈ TB := tbT_7 _ (List.mem_of_getElem? (i := 77) rfl) rfl
theorem mM9_8_33 : Cond.methodLink RX12 245 yX12_noSession ∈ TB := tbT_8 _ (List.mem_of_getElem? (i := 33) rfl) rfl
theorem mM9_8_36 : Cond.code yX12_noSession cX12_noSession 2 (some .boolean) ∈ TB := tbT_8 _ (List.mem_of_getElem? (i := 36) rfl) rfl
theorem mM9_8_35 : Cond.instanceMethod yX12_noSession ∈ TB := tbT_8 _ (List.mem_of_getElem? (i := 35) rfl) rfl
theorem mpM9_3_14 : Cond.selects RX12 yX12_noSession yX12_noSession ∈ TB := tbP_3 (yX12_noSession, 19) (List.mem_of_getElem? (i := 14) rfl)
theorem mM9_8_25 : Cond.methodLink RX12 199 yX12_throwsIf ∈ TB := tbT_8 _ (List.mem_of_getElem? (i := 25) rfl) rfl
theorem mM9_8_28 : Cond.code yX12_throwsIf cX12_throwsIf 3 (some .boolean) ∈ TB := tbT_8 _ (List.mem_of_getElem? (i := 28) rfl) rfl
theorem mM9_8_27 : Cond.instanceMethod yX12_throwsIf ∈ TB := tbT_8 _ (List.mem_of_getElem? (i := 27) rfl) rfl
theorem mpM9_3_13 : Cond.selects RX12 yX12_throwsIf yX12_throwsIf ∈ TB := tbP_3 (yX12_throwsIf, 19) (List.mem_of_getElem? (i := 13) rfl)
theorem mM9_9_121 : Cond.methodLink RX12 391 yX12_raceOf ∈ TB := tbT_9 _ (List.mem_of_getElem? (i := 121) rfl) rfl
theorem mM9_9_124 : Cond.code yX12_raceOf cX12_raceOf 5 (some .int) ∈ TB := tbT_9 _ (List.mem_of_getElem? (i := 124) rfl) rfl
theorem mM9_9_123 : Cond.instanceMethod yX12_raceOf ∈ TB := tbT_9 _ (List.mem_of_getElem? (i := 123) rfl) rfl
theorem mpM9_7_1 : Cond.selects RX12 yX12_raceOf yX12_raceOf ∈ TB := tbP_7 (yX12_raceOf, 19) (List.mem_of_getElem? (i := 1) rfl)
theorem mM9_8_159 : Cond.methodLink RX12 322 yX12_firstFor ∈ TB := tbT_8 _ (List.mem_of_getElem? (i := 159) rfl) rfl
theorem mM9_8_162 : Cond.code yX12_firstFor cX12_firstFor 4 (some .int) ∈ TB := tbT_8 _ (List.mem_of_getElem? (i := 162) rfl) rfl
theorem mM9_8_161 : Cond.instanceMethod yX12_firstFor ∈ TB := tbT_8 _ (List.mem_of_getElem? (i := 161) rfl) rfl
theorem mpM9_5_3 : Cond.selects RX12 yX12_firstFor yX12_firstFor ∈ TB := tbP_5 (yX12_firstFor, 19) (List.mem_of_getElem? (i := 3) rfl)
theorem mM9_8_207 : Cond.methodLink RX12 325 yX12_locks ∈ TB := tbT_8 _ (List.mem_of_getElem? (i := 207) rfl) rfl
theorem mM9_8_210 : Cond.code yX12_locks cX12_locks 3 (some .int) ∈ TB := tbT_8 _ (List.mem_of_getElem? (i := 210) rfl) rfl
theorem mM9_8_209 : Cond.instanceMethod yX12_locks ∈ TB := tbT_8 _ (List.mem_of_getElem? (i := 209) rfl) rfl
theorem mpM9_5_15 : Cond.selects RX12 yX12_locks yX12_locks ∈ TB := tbP_5 (yX12_locks, 19) (List.mem_of_getElem? (i := 15) rfl)
theorem mM9_7_79 : Cond.fieldLink RX12 13 "ClaimTableModel" "world" "[I" ∈ TB := tbT_7 _ (List.mem_of_getElem? (i := 79) rfl) rfl
theorem mM9_7_233 : Cond.methodLink RX12 63 yX12_sessionAt ∈ TB := tbT_7 _ (List.mem_of_getElem? (i := 233) rfl) rfl
theorem mM9_7_235 : Cond.code yX12_sessionAt cX12_sessionAt 2 (some .int) ∈ TB := tbT_7 _ (List.mem_of_getElem? (i := 235) rfl) rfl
theorem mM9_7_234 : Cond.static yX12_sessionAt ∈ TB := tbT_7 _ (List.mem_of_getElem? (i := 234) rfl) rfl
theorem mM9_8_219 : Cond.methodLink RX12 340 yX12_ownJobFor ∈ TB := tbT_8 _ (List.mem_of_getElem? (i := 219) rfl) rfl
theorem mM9_8_222 : Cond.code yX12_ownJobFor cX12_ownJobFor 4 (some .int) ∈ TB := tbT_8 _ (List.mem_of_getElem? (i := 222) rfl) rfl
theorem mM9_8_221 : Cond.instanceMethod yX12_ownJobFor ∈ TB := tbT_8 _ (List.mem_of_getElem? (i := 221) rfl) rfl
theorem mpM9_6_1 : Cond.selects RX12 yX12_ownJobFor yX12_ownJobFor ∈ TB := tbP_6 (yX12_ownJobFor, 19) (List.mem_of_getElem? (i := 1) rfl)
theorem mM9_9_133 : Cond.methodLink RX12 394 yX12_passedBy ∈ TB := tbT_9 _ (List.mem_of_getElem? (i := 133) rfl) rfl
theorem mM9_9_136 : Cond.code yX12_passedBy cX12_passedBy 6 (some .int) ∈ TB := tbT_9 _ (List.mem_of_getElem? (i := 136) rfl) rfl
theorem mM9_9_135 : Cond.instanceMethod yX12_passedBy ∈ TB := tbT_9 _ (List.mem_of_getElem? (i := 135) rfl) rfl
theorem mpM9_7_3 : Cond.selects RX12 yX12_passedBy yX12_passedBy ∈ TB := tbP_7 (yX12_passedBy, 19) (List.mem_of_getElem? (i := 3) rfl)
theorem mM9_8_223 : Cond.methodLink RX12 337 yX12_jobFor ∈ TB := tbT_8 _ (List.mem_of_getElem? (i := 223) rfl) rfl
theorem mM9_8_226 : Cond.code yX12_jobFor cX12_jobFor 5 (some .int) ∈ TB := tbT_8 _ (List.mem_of_getElem? (i := 226) rfl) rfl
theorem mM9_8_225 : Cond.instanceMethod yX12_jobFor ∈ TB := tbT_8 _ (List.mem_of_getElem? (i := 225) rfl) rfl
theorem mpM9_6_2 : Cond.selects RX12 yX12_jobFor yX12_jobFor ∈ TB := tbP_6 (yX12_jobFor, 19) (List.mem_of_getElem? (i := 2) rfl)
theorem mM9_8_167 : Cond.methodLink RX12 295 yX12_seen ∈ TB := tbT_8 _ (List.mem_of_getElem? (i := 167) rfl) rfl
theorem mM9_8_170 : Cond.code yX12_seen cX12_seen 3 (some .int) ∈ TB := tbT_8 _ (List.mem_of_getElem? (i := 170) rfl) rfl
theorem mM9_8_169 : Cond.instanceMethod yX12_seen ∈ TB := tbT_8 _ (List.mem_of_getElem? (i := 169) rfl) rfl
theorem mpM9_5_5 : Cond.selects RX12 yX12_seen yX12_seen ∈ TB := tbP_5 (yX12_seen, 19) (List.mem_of_getElem? (i := 5) rfl)
theorem mM9_9_48 : Cond.methodLink RX12 353 Lib.Math.max.name ∈ TB := tbT_9 _ (List.mem_of_getElem? (i := 48) rfl) rfl
theorem mM9_3_47 : Cond.static Lib.Math.max.name ∈ TB := tbT_3 _ (List.mem_of_getElem? (i := 47) rfl) rfl
theorem mM9_1_25 : Cond.initialized "java/lang/Math" ∈ TB := tbT_1 _ (List.mem_of_getElem? (i := 25) rfl) rfl
theorem mM9_3_48 : Cond.code Lib.Math.max.name Lib.Math.max.code 2 (some .int) ∈ TB := tbT_3 _ (List.mem_of_getElem? (i := 48) rfl) rfl
theorem mM9_9_7 : Cond.methodLink RX12 347 yX12_waitOf ∈ TB := tbT_9 _ (List.mem_of_getElem? (i := 7) rfl) rfl
theorem mM9_9_10 : Cond.code yX12_waitOf cX12_waitOf 5 (some .int) ∈ TB := tbT_9 _ (List.mem_of_getElem? (i := 10) rfl) rfl
theorem mM9_9_9 : Cond.instanceMethod yX12_waitOf ∈ TB := tbT_9 _ (List.mem_of_getElem? (i := 9) rfl) rfl
theorem mpM9_6_6 : Cond.selects RX12 yX12_waitOf yX12_waitOf ∈ TB := tbP_6 (yX12_waitOf, 19) (List.mem_of_getElem? (i := 6) rfl)
theorem mM9_7_74 : Cond.methodLink RX12 51 yX12_jobAt ∈ TB := tbT_7 _ (List.mem_of_getElem? (i := 74) rfl) rfl
theorem mM9_7_76 : Cond.code yX12_jobAt cX12_jobAt 2 (some .int) ∈ TB := tbT_7 _ (List.mem_of_getElem? (i := 76) rfl) rfl
theorem mM9_7_75 : Cond.static yX12_jobAt ∈ TB := tbT_7 _ (List.mem_of_getElem? (i := 75) rfl) rfl
theorem mM9_7_95 : Cond.fieldLink RX12 48 "ClaimTableModel" "begun" "[I" ∈ TB := tbT_7 _ (List.mem_of_getElem? (i := 95) rfl) rfl
theorem mM9_8_37 : Cond.methodLink RX12 66 yX12_in ∈ TB := tbT_8 _ (List.mem_of_getElem? (i := 37) rfl) rfl
theorem mM9_8_39 : Cond.code yX12_in cX12_in 3 (some .boolean) ∈ TB := tbT_8 _ (List.mem_of_getElem? (i := 39) rfl) rfl
theorem mM9_8_38 : Cond.static yX12_in ∈ TB := tbT_8 _ (List.mem_of_getElem? (i := 38) rfl) rfl
theorem mM9_9_11 : Cond.constant RX12 346 1000000 ∈ TB := tbT_9 _ (List.mem_of_getElem? (i := 11) rfl) rfl
theorem mM9_9_157 : Cond.methodLink RX12 397 yX12_dueOf ∈ TB := tbT_9 _ (List.mem_of_getElem? (i := 157) rfl) rfl
theorem mM9_9_160 : Cond.code yX12_dueOf cX12_dueOf 3 (some .int) ∈ TB := tbT_9 _ (List.mem_of_getElem? (i := 160) rfl) rfl
theorem mM9_9_159 : Cond.instanceMethod yX12_dueOf ∈ TB := tbT_9 _ (List.mem_of_getElem? (i := 159) rfl) rfl
theorem mpM9_7_7 : Cond.selects RX12 yX12_dueOf yX12_dueOf ∈ TB := tbP_7 (yX12_dueOf, 19) (List.mem_of_getElem? (i := 7) rfl)
theorem mM9_9_161 : Cond.methodLink RX12 400 yX12_isAtWork ∈ TB := tbT_9 _ (List.mem_of_getElem? (i := 161) rfl) rfl
theorem mM9_9_164 : Cond.code yX12_isAtWork cX12_isAtWork 3 (some .boolean) ∈ TB := tbT_9 _ (List.mem_of_getElem? (i := 164) rfl) rfl
theorem mM9_9_163 : Cond.instanceMethod yX12_isAtWork ∈ TB := tbT_9 _ (List.mem_of_getElem? (i := 163) rfl) rfl
theorem mpM9_7_8 : Cond.selects RX12 yX12_isAtWork yX12_isAtWork ∈ TB := tbP_7 (yX12_isAtWork, 19) (List.mem_of_getElem? (i := 8) rfl)
theorem mM9_7_202 : Cond.methodLink RX12 59 yX12_numberOf ∈ TB := tbT_7 _ (List.mem_of_getElem? (i := 202) rfl) rfl
theorem mM9_7_205 : Cond.code yX12_numberOf cX12_numberOf 2 (some .int) ∈ TB := tbT_7 _ (List.mem_of_getElem? (i := 205) rfl) rfl
theorem mM9_7_204 : Cond.instanceMethod yX12_numberOf ∈ TB := tbT_7 _ (List.mem_of_getElem? (i := 204) rfl) rfl
theorem mpM9_3_3 : Cond.selects RX12 yX12_numberOf yX12_numberOf ∈ TB := tbP_3 (yX12_numberOf, 19) (List.mem_of_getElem? (i := 3) rfl)
theorem mM9_9_153 : Cond.methodLink RX12 403 yX12_mayBegin ∈ TB := tbT_9 _ (List.mem_of_getElem? (i := 153) rfl) rfl
theorem mM9_9_156 : Cond.code yX12_mayBegin cX12_mayBegin 7 (some .boolean) ∈ TB := tbT_9 _ (List.mem_of_getElem? (i := 156) rfl) rfl
theorem mM9_9_155 : Cond.instanceMethod yX12_mayBegin ∈ TB := tbT_9 _ (List.mem_of_getElem? (i := 155) rfl) rfl
theorem mpM9_7_6 : Cond.selects RX12 yX12_mayBegin yX12_mayBegin ∈ TB := tbP_7 (yX12_mayBegin, 19) (List.mem_of_getElem? (i := 6) rfl)
def rm_X12_raceOf : Room := { frames := 10, cells := 0, slots := 0, locals := 226 }
def B_X12_raceOf_108 (kk75 : Int32 → Int32 → sSt → Prop) (a4 : Int32) (t0 : Int32) (t1 : Int32) (S : sSt) (k : Int32 → sSt → Prop) : Prop := ∀ x7 : Int32, x7 = (t0 + t1) → ∀ x8 : Int32, x8 = a4 + 1 → kk75 x7 x8 S
set_option maxHeartbeats 4000000 in
set_option maxRecDepth 100000 in
theorem Bw_X12_raceOf_108 {p : Program} {l : Launch} {e : Env} {s : State} {m : MethodId} {args : Array Value} {below : List Frame} {meth : Method} {c : Code} {D : va_G} {cy : Nat → ClassId} {b z : Nat} {tx : TX} (C0 : CallFix p m c cX12_raceOf 5 s args TB RX12) (hr : meth.sig.returnType = (some .int)) (hlk : meth.locks = false) (hT : TxR tx s) {k : Int32 → sSt → Prop} {kk75 : Int32 → Int32 → sSt → Prop} (ih75 : ∀ (a3 : Int32) (a4 : Int32) (S : sSt) (H : Heap) (locs : List Loc) (ls : Array Slot) , kk75 a3 a4 S → RelM D cy b z tx S s H → va_S (gA b 12 z) s.heap H locs → lv_has ls 5 [(0, .ref (b + adM 0 0)), (3, .int a3), (4, .int a4)] → W p l e rm_X12_raceOf s m args below meth c H locs 0 0 (MQ below (PiM D cy b z tx k) args s 0 0 (gA b 12 z)) (F0 m 75 ls [])) : ∀ (a4 : Int32) (t0 : Int32) (t1 : Int32) (S : sSt) (H : Heap) (locs : List Loc) (ls : Array Slot) , B_X12_raceOf_108 kk75 a4 t0 t1 S k → RelM D cy b z tx S s H → va_S (gA b 12 z) s.heap H locs → lv_has ls 5 [(0, .ref (b + adM 0 0)), (4, .int a4)] → W p l e rm_X12_raceOf s m args below meth c H locs 0 0 (MQ below (PiM D cy b z tx k) args s 0 0 (gA b 12 z)) (F0 m 108 ls [.int t1, .int t0]) := by
  intro a4 t0 t1 S H locs ls h hR hS hl
  have hx := C0.1
  have hb := C0.2.1
  unfold B_X12_raceOf_108 at h
  refine lv_iadd hx hb dX12_raceOf_108 ?_
  refine lv_topi (fun x7 ex7 => ?_)
  have h := h x7 ex7
  refine lv_istore_n (lv' := [(3, .int x7), (0, .ref (b + adM 0 0)), (4, .int a4)]) hx hb dX12_raceOf_109 rfl hl (by decide) rfl (fun ls hl => ?_)
  obtain ⟨x8, ex8⟩ : ∃ x8 : Int32, x8 = a4 + 1 := ⟨_, rfl⟩
  have h := h x8 ex8
  refine w_iinc (v0 := 1) (lv' := [(4, .int x8), (3, .int x7), (0, .ref (b + adM 0 0))]) C0 dX12_raceOf_110 hl (k := 2) rfl (by decide) (by decide) x8 ex8 rfl (fun ls hl => ?_)
  refine lv_goto (tgt := 75) hx hb dX12_raceOf_113 (by decide) ?_
  exact ih75 x7 x8 S _ _ _  h hR hS (lv_sub hl [2, 1, 0] rfl)
def Bb_X12_raceOf_75 (kk75 : Int32 → Int32 → sSt → Prop) (a3 : Int32) (a4 : Int32) (S : sSt) (k : Int32 → sSt → Prop) : Prop := ((24 ≤ a4 → k a3 S) ∧ (¬ 24 ≤ a4 → ix a4 48 (fun j4 => ix (24 + a4) 48 (fun j5 => ((¬ (S.1 10 0 j4) = (S.1 10 0 j5) → B_X12_raceOf_108 kk75 a4 a3 1 S k) ∧ ((S.1 10 0 j4) = (S.1 10 0 j5) → B_X12_raceOf_108 kk75 a4 a3 0 S k))))))
set_option maxHeartbeats 4000000 in
set_option maxRecDepth 100000 in
theorem Bbw_X12_raceOf_75 {p : Program} {l : Launch} {e : Env} {s : State} {m : MethodId} {args : Array Value} {below : List Frame} {meth : Method} {c : Code} {D : va_G} {cy : Nat → ClassId} {b z : Nat} {tx : TX} (C0 : CallFix p m c cX12_raceOf 5 s args TB RX12) (hr : meth.sig.returnType = (some .int)) (hlk : meth.locks = false) (hT : TxR tx s) {k : Int32 → sSt → Prop} {kk75 : Int32 → Int32 → sSt → Prop} (ih75 : ∀ (a3 : Int32) (a4 : Int32) (S : sSt) (H : Heap) (locs : List Loc) (ls : Array Slot) , kk75 a3 a4 S → RelM D cy b z tx S s H → va_S (gA b 12 z) s.heap H locs → lv_has ls 5 [(0, .ref (b + adM 0 0)), (3, .int a3), (4, .int a4)] → W p l e rm_X12_raceOf s m args below meth c H locs 0 0 (MQ below (PiM D cy b z tx k) args s 0 0 (gA b 12 z)) (F0 m 75 ls [])) : ∀ (a3 : Int32) (a4 : Int32) (S : sSt) (H : Heap) (locs : List Loc) (ls : Array Slot) , Bb_X12_raceOf_75 kk75 a3 a4 S k → RelM D cy b z tx S s H → va_S (gA b 12 z) s.heap H locs → lv_has ls 5 [(0, .ref (b + adM 0 0)), (3, .int a3), (4, .int a4)] → W p l e rm_X12_raceOf s m args below meth c H locs 0 0 (MQ below (PiM D cy b z tx k) args s 0 0 (gA b 12 z)) (F0 m 75 ls []) := by
  intro a3 a4 S H locs ls h hR hS hl
  have hx := C0.1
  have hb := C0.2.1
  unfold Bb_X12_raceOf_75 at h
  refine lv_iload hx hb dX12_raceOf_75 (lv_at hl 2 rfl) ?_
  refine lv_bipush (v := 24) hx hb dX12_raceOf_77 (by decide) ?_
  refine lv_icmp_ge (tgt := 116) hx hb dX12_raceOf_79 (by decide) (fun c3 => ?_) (fun c3 => ?_)
  · have h := h.1 c3
    refine lv_iload_n hx hb dX12_raceOf_116 rfl (lv_at hl 1 rfl) ?_
    exact rtM_i C0 hr hlk hR hS h dX12_raceOf_117
  · have h := h.2 c3
    refine lv_iload_n hx hb dX12_raceOf_82 rfl (lv_at hl 1 rfl) ?_
    refine lv_aload_n hx hb dX12_raceOf_83 rfl (lv_at hl 0 rfl) ?_
    refine gM_0_17 C0 hR Nat.zero_lt_one tbs_wsX120 mM9_7_94 dX12_raceOf_84 ?_
    refine lv_iload hx hb dX12_raceOf_87 (lv_at hl 2 rfl) ?_
    obtain ⟨j4, hj4, ej4, h⟩ := h
    refine lM_10 C0 hR Nat.zero_lt_one hj4 ej4 dX12_raceOf_89 ?_
    refine lv_aload_n hx hb dX12_raceOf_90 rfl (lv_at hl 0 rfl) ?_
    refine gM_0_17 C0 hR Nat.zero_lt_one tbs_wsX120 mM9_7_94 dX12_raceOf_91 ?_
    refine lv_bipush (v := 24) hx hb dX12_raceOf_94 (by decide) ?_
    refine lv_iload hx hb dX12_raceOf_96 (lv_at hl 2 rfl) ?_
    refine lv_iadd hx hb dX12_raceOf_98 ?_
    obtain ⟨j5, hj5, ej5, h⟩ := h
    refine lM_10 C0 hR Nat.zero_lt_one hj5 ej5 dX12_raceOf_99 ?_
    refine lv_icmp_ne (tgt := 107) hx hb dX12_raceOf_100 (by decide) (fun c6 => ?_) (fun c6 => ?_)
    · have h := h.1 c6
      refine lv_iconst (v := 1) hx hb dX12_raceOf_107 (by decide) ?_
      exact Bw_X12_raceOf_108 C0 hr hlk hT ih75 a4 a3 1 S _ _ _ h hR hS (lv_sub hl [0, 2] rfl)
    · have h := h.2 c6
      refine lv_iconst (v := 0) hx hb dX12_raceOf_103 (by decide) ?_
      refine lv_goto (tgt := 108) hx hb dX12_raceOf_104 (by decide) ?_
      exact Bw_X12_raceOf_108 C0 hr hlk hT ih75 a4 a3 0 S _ _ _ h hR hS (lv_sub hl [0, 2] rfl)
def B_X12_raceOf_75 (n9 : Nat) (a3 : Int32) (a4 : Int32) (S : sSt) (k : Int32 → sSt → Prop) : Prop := (Nat.rec (motive := fun _ => Int32 → Int32 → sSt → Prop) (fun _ _ _ => False) (fun _ r9 => fun a3 a4 S => Bb_X12_raceOf_75 r9 a3 a4 S k) n9 : Int32 → Int32 → sSt → Prop) a3 a4 S
theorem B_X12_raceOf_75_s (n9 : Nat) (a3 : Int32) (a4 : Int32) (S : sSt) (k : Int32 → sSt → Prop) : B_X12_raceOf_75 (n9 + 1) a3 a4 S k = Bb_X12_raceOf_75 (fun a3 a4 S => B_X12_raceOf_75 n9 a3 a4 S k) a3 a4 S k := rfl
set_option maxHeartbeats 4000000 in
set_option maxRecDepth 100000 in
theorem Bw_X12_raceOf_75 {p : Program} {l : Launch} {e : Env} {s : State} {m : MethodId} {args : Array Value} {below : List Frame} {meth : Method} {c : Code} {D : va_G} {cy : Nat → ClassId} {b z : Nat} {tx : TX} (C0 : CallFix p m c cX12_raceOf 5 s args TB RX12) (hr : meth.sig.returnType = (some .int)) (hlk : meth.locks = false) (hT : TxR tx s) {k : Int32 → sSt → Prop} : ∀ (n9 : Nat), ∀ (a3 : Int32) (a4 : Int32) (S : sSt) (H : Heap) (locs : List Loc) (ls : Array Slot) , B_X12_raceOf_75 n9 a3 a4 S k → RelM D cy b z tx S s H → va_S (gA b 12 z) s.heap H locs → lv_has ls 5 [(0, .ref (b + adM 0 0)), (3, .int a3), (4, .int a4)] → W p l e rm_X12_raceOf s m args below meth c H locs 0 0 (MQ below (PiM D cy b z tx k) args s 0 0 (gA b 12 z)) (F0 m 75 ls []) := by
  intro n9
  induction n9 with
  | zero => intro a3 a4 S H locs ls h; exact h.elim
  | succ n9 ih =>
    intro a3 a4 S H locs ls h hR hS hl
    exact Bbw_X12_raceOf_75 C0 hr hlk hT ih a3 a4 S H locs ls h hR hS hl
def B_X12_raceOf_57 (kk23 : Int32 → Int32 → Int32 → sSt → Prop) (a1 : Int32) (a2 : Int32) (a3 : Int32) (t1 : Int32) (t2 : Int32) (S : sSt) (k : Int32 → sSt → Prop) : Prop := F_X12_claimsIn t1 t2 S (fun S16 => F_X12_bringsBack S16 (fun S18 => ∀ x19 : Int32, x19 = a3 + 1 → kk23 a1 a2 x19 S18))
set_option maxHeartbeats 4000000 in
set_option maxRecDepth 100000 in
theorem Bw_X12_raceOf_57 {p : Program} {l : Launch} {e : Env} {s : State} {m : MethodId} {args : Array Value} {below : List Frame} {meth : Method} {c : Code} {D : va_G} {cy : Nat → ClassId} {b z : Nat} {tx : TX} (C0 : CallFix p m c cX12_raceOf 5 s args TB RX12) (hr : meth.sig.returnType = (some .int)) (hlk : meth.locks = false) (hT : TxR tx s) {k : Int32 → sSt → Prop} {kk23 : Int32 → Int32 → Int32 → sSt → Prop} (ih23 : ∀ (a1 : Int32) (a2 : Int32) (a3 : Int32) (S : sSt) (H : Heap) (locs : List Loc) (ls : Array Slot) , kk23 a1 a2 a3 S → RelM D cy b z tx S s H → va_S (gA b 12 z) s.heap H locs → lv_has ls 5 [(0, .ref (b + adM 0 0)), (1, .int a1), (2, .int a2), (3, .int a3)] → W p l e rm_X12_raceOf s m args below meth c H locs 0 0 (MQ below (PiM D cy b z tx k) args s 0 0 (gA b 12 z)) (F0 m 23 ls [])) : ∀ (a1 : Int32) (a2 : Int32) (a3 : Int32) (t1 : Int32) (t2 : Int32) (S : sSt) (H : Heap) (locs : List Loc) (ls : Array Slot) , B_X12_raceOf_57 kk23 a1 a2 a3 t1 t2 S k → RelM D cy b z tx S s H → va_S (gA b 12 z) s.heap H locs → lv_has ls 5 [(0, .ref (b + adM 0 0)), (1, .int a1), (2, .int a2), (3, .int a3)] → W p l e rm_X12_raceOf s m args below meth c H locs 0 0 (MQ below (PiM D cy b z tx k) args s 0 0 (gA b 12 z)) (F0 m 57 ls [.int t2, .int t1, .ref (b + adM 0 0)]) := by
  intro a1 a2 a3 t1 t2 S H locs ls h hR hS hl
  have hx := C0.1
  have hb := C0.2.1
  unfold B_X12_raceOf_57 at h
  refine qM_Vv (As := [.int t1, .int t2]) (rest := []) C0 (c_X12_claimsIn l h) (cwV 2 C0.2.2.2.2 (tbV mM9_9_125 ⟨mM9_9_127, mpM9_7_2, mM9_1_11, mM9_9_128⟩) rfl rfl rfl (by decide +kernel) ⟨Nat.le_of_ble_eq_true rfl, Nat.le_of_ble_eq_true rfl⟩) (rcM_0 hR Nat.zero_lt_one) hR hT hS rfl hl.1 rfl (Nat.le_of_ble_eq_true rfl) dX12_raceOf_57 ⟨Nat.zero_le _, Nat.zero_le _⟩ (fun S16 H locs h hR hS => ?_)
  refine lv_aload_n hx hb dX12_raceOf_60 rfl (lv_at hl 0 rfl) ?_
  refine qM_Vv (As := []) (rest := []) C0 (c_X12_bringsBack l h) (cwV 0 C0.2.2.2.2 (tbV mM9_9_73 ⟨mM9_9_75, mpM9_6_14, mM9_1_11, mM9_9_76⟩) rfl rfl rfl (by decide +kernel) ⟨Nat.le_of_ble_eq_true rfl, Nat.le_of_ble_eq_true rfl⟩) (rcM_0 hR Nat.zero_lt_one) hR hT hS rfl hl.1 rfl (Nat.le_of_ble_eq_true rfl) dX12_raceOf_61 ⟨Nat.zero_le _, Nat.zero_le _⟩ (fun S18 H locs h hR hS => ?_)
  obtain ⟨x19, ex19⟩ : ∃ x19 : Int32, x19 = a3 + 1 := ⟨_, rfl⟩
  have h := h x19 ex19
  refine w_iinc (v0 := 1) (lv' := [(3, .int x19), (0, .ref (b + adM 0 0)), (1, .int a1), (2, .int a2)]) C0 dX12_raceOf_64 hl (k := 3) rfl (by decide) (by decide) x19 ex19 rfl (fun ls hl => ?_)
  refine lv_goto (tgt := 23) hx hb dX12_raceOf_67 (by decide) ?_
  exact ih23 a1 a2 x19 S18 _ _ _  h hR hS (lv_sub hl [1, 2, 3, 0] rfl)
def B_X12_raceOf_43 (kk23 : Int32 → Int32 → Int32 → sSt → Prop) (a1 : Int32) (a2 : Int32) (a3 : Int32) (t1 : Int32) (t2 : Int32) (S : sSt) (k : Int32 → sSt → Prop) : Prop := F_X12_claimsIn t1 t2 S (fun S13 => ((¬ a3 = 0 → B_X12_raceOf_57 kk23 a1 a2 a3 a3 a1 S13 k) ∧ (a3 = 0 → B_X12_raceOf_57 kk23 a1 a2 a3 a3 a2 S13 k)))
set_option maxHeartbeats 4000000 in
set_option maxRecDepth 100000 in
theorem Bw_X12_raceOf_43 {p : Program} {l : Launch} {e : Env} {s : State} {m : MethodId} {args : Array Value} {below : List Frame} {meth : Method} {c : Code} {D : va_G} {cy : Nat → ClassId} {b z : Nat} {tx : TX} (C0 : CallFix p m c cX12_raceOf 5 s args TB RX12) (hr : meth.sig.returnType = (some .int)) (hlk : meth.locks = false) (hT : TxR tx s) {k : Int32 → sSt → Prop} {kk23 : Int32 → Int32 → Int32 → sSt → Prop} (ih23 : ∀ (a1 : Int32) (a2 : Int32) (a3 : Int32) (S : sSt) (H : Heap) (locs : List Loc) (ls : Array Slot) , kk23 a1 a2 a3 S → RelM D cy b z tx S s H → va_S (gA b 12 z) s.heap H locs → lv_has ls 5 [(0, .ref (b + adM 0 0)), (1, .int a1), (2, .int a2), (3, .int a3)] → W p l e rm_X12_raceOf s m args below meth c H locs 0 0 (MQ below (PiM D cy b z tx k) args s 0 0 (gA b 12 z)) (F0 m 23 ls [])) : ∀ (a1 : Int32) (a2 : Int32) (a3 : Int32) (t1 : Int32) (t2 : Int32) (S : sSt) (H : Heap) (locs : List Loc) (ls : Array Slot) , B_X12_raceOf_43 kk23 a1 a2 a3 t1 t2 S k → RelM D cy b z tx S s H → va_S (gA b 12 z) s.heap H locs → lv_has ls 5 [(0, .ref (b + adM 0 0)), (1, .int a1), (2, .int a2), (3, .int a3)] → W p l e rm_X12_raceOf s m args below meth c H locs 0 0 (MQ below (PiM D cy b z tx k) args s 0 0 (gA b 12 z)) (F0 m 43 ls [.int t2, .int t1, .ref (b + adM 0 0)]) := by
  intro a1 a2 a3 t1 t2 S H locs ls h hR hS hl
  have hx := C0.1
  have hb := C0.2.1
  unfold B_X12_raceOf_43 at h
  refine qM_Vv (As := [.int t1, .int t2]) (rest := []) C0 (c_X12_claimsIn l h) (cwV 2 C0.2.2.2.2 (tbV mM9_9_125 ⟨mM9_9_127, mpM9_7_2, mM9_1_11, mM9_9_128⟩) rfl rfl rfl (by decide +kernel) ⟨Nat.le_of_ble_eq_true rfl, Nat.le_of_ble_eq_true rfl⟩) (rcM_0 hR Nat.zero_lt_one) hR hT hS rfl hl.1 rfl (Nat.le_of_ble_eq_true rfl) dX12_raceOf_43 ⟨Nat.zero_le _, Nat.zero_le _⟩ (fun S13 H locs h hR hS => ?_)
  refine lv_aload_n hx hb dX12_raceOf_46 rfl (lv_at hl 0 rfl) ?_
  refine lv_iload_n hx hb dX12_raceOf_47 rfl (lv_at hl 3 rfl) ?_
  refine lv_iload_n hx hb dX12_raceOf_48 rfl (lv_at hl 3 rfl) ?_
  refine lv_if_ne (tgt := 56) hx hb dX12_raceOf_49 (by decide) (fun c14 => ?_) (fun c14 => ?_)
  · have h := h.1 c14
    refine lv_iload_n hx hb dX12_raceOf_56 rfl (lv_at hl 1 rfl) ?_
    exact Bw_X12_raceOf_57 C0 hr hlk hT ih23 a1 a2 a3 a3 a1 S13 _ _ _ h hR hS (lv_sub hl [0, 1, 2, 3] rfl)
  · have h := h.2 c14
    refine lv_iload_n hx hb dX12_raceOf_52 rfl (lv_at hl 2 rfl) ?_
    refine lv_goto (tgt := 57) hx hb dX12_raceOf_53 (by decide) ?_
    exact Bw_X12_raceOf_57 C0 hr hlk hT ih23 a1 a2 a3 a3 a2 S13 _ _ _ h hR hS (lv_sub hl [0, 1, 2, 3] rfl)
def Bb_X12_raceOf_23 (kk23 : Int32 → Int32 → Int32 → sSt → Prop) (a1 : Int32) (a2 : Int32) (a3 : Int32) (S : sSt) (k : Int32 → sSt → Prop) : Prop := ((2 ≤ a3 → B_X12_raceOf_75 fuel 0 0 S k) ∧ (¬ 2 ≤ a3 → F_X12_keepsAll S (fun S10 => ((¬ a3 = 0 → B_X12_raceOf_43 kk23 a1 a2 a3 a3 a2 S10 k) ∧ (a3 = 0 → B_X12_raceOf_43 kk23 a1 a2 a3 a3 a1 S10 k)))))
set_option maxHeartbeats 4000000 in
set_option maxRecDepth 100000 in
theorem Bbw_X12_raceOf_23 {p : Program} {l : Launch} {e : Env} {s : State} {m : MethodId} {args : Array Value} {below : List Frame} {meth : Method} {c : Code} {D : va_G} {cy : Nat → ClassId} {b z : Nat} {tx : TX} (C0 : CallFix p m c cX12_raceOf 5 s args TB RX12) (hr : meth.sig.returnType = (some .int)) (hlk : meth.locks = false) (hT : TxR tx s) {k : Int32 → sSt → Prop} {kk23 : Int32 → Int32 → Int32 → sSt → Prop} (ih23 : ∀ (a1 : Int32) (a2 : Int32) (a3 : Int32) (S : sSt) (H : Heap) (locs : List Loc) (ls : Array Slot) , kk23 a1 a2 a3 S → RelM D cy b z tx S s H → va_S (gA b 12 z) s.heap H locs → lv_has ls 5 [(0, .ref (b + adM 0 0)), (1, .int a1), (2, .int a2), (3, .int a3)] → W p l e rm_X12_raceOf s m args below meth c H locs 0 0 (MQ below (PiM D cy b z tx k) args s 0 0 (gA b 12 z)) (F0 m 23 ls [])) : ∀ (a1 : Int32) (a2 : Int32) (a3 : Int32) (S : sSt) (H : Heap) (locs : List Loc) (ls : Array Slot) , Bb_X12_raceOf_23 kk23 a1 a2 a3 S k → RelM D cy b z tx S s H → va_S (gA b 12 z) s.heap H locs → lv_has ls 5 [(0, .ref (b + adM 0 0)), (1, .int a1), (2, .int a2), (3, .int a3)] → W p l e rm_X12_raceOf s m args below meth c H locs 0 0 (MQ below (PiM D cy b z tx k) args s 0 0 (gA b 12 z)) (F0 m 23 ls []) := by
  intro a1 a2 a3 S H locs ls h hR hS hl
  have hx := C0.1
  have hb := C0.2.1
  unfold Bb_X12_raceOf_23 at h
  refine lv_iload_n hx hb dX12_raceOf_23 rfl (lv_at hl 3 rfl) ?_
  refine lv_iconst (v := 2) hx hb dX12_raceOf_24 (by decide) ?_
  refine lv_icmp_ge (tgt := 70) hx hb dX12_raceOf_25 (by decide) (fun c2 => ?_) (fun c2 => ?_)
  · have h := h.1 c2
    refine lv_iconst (v := 0) hx hb dX12_raceOf_70 (by decide) ?_
    refine lv_istore_n (lv' := [(3, .int 0), (0, .ref (b + adM 0 0)), (1, .int a1), (2, .int a2)]) hx hb dX12_raceOf_71 rfl hl (by decide) rfl (fun ls hl => ?_)
    refine lv_iconst (v := 0) hx hb dX12_raceOf_72 (by decide) ?_
    refine lv_istore (lv' := [(4, .int 0), (3, .int 0), (0, .ref (b + adM 0 0)), (1, .int a1), (2, .int a2)]) hx hb dX12_raceOf_73 hl (by decide) rfl (fun ls hl => ?_)
    exact Bw_X12_raceOf_75 C0 hr hlk hT fuel 0 0 S _ _ _ h hR hS (lv_sub hl [2, 1, 0] rfl)
  · have h := h.2 c2
    refine lv_aload_n hx hb dX12_raceOf_28 rfl (lv_at hl 0 rfl) ?_
    refine qM_Vv (As := []) (rest := []) C0 (c_X12_keepsAll l h) (cwV 0 C0.2.2.2.2 (tbV mM9_9_69 ⟨mM9_9_71, mpM9_6_13, mM9_1_11, mM9_9_72⟩) rfl rfl rfl (by decide +kernel) ⟨Nat.le_of_ble_eq_true rfl, Nat.le_of_ble_eq_true rfl⟩) (rcM_0 hR Nat.zero_lt_one) hR hT hS rfl hl.1 rfl (Nat.le_of_ble_eq_true rfl) dX12_raceOf_29 ⟨Nat.zero_le _, Nat.zero_le _⟩ (fun S10 H locs h hR hS => ?_)
    refine lv_aload_n hx hb dX12_raceOf_32 rfl (lv_at hl 0 rfl) ?_
    refine lv_iload_n hx hb dX12_raceOf_33 rfl (lv_at hl 3 rfl) ?_
    refine lv_iload_n hx hb dX12_raceOf_34 rfl (lv_at hl 3 rfl) ?_
    refine lv_if_ne (tgt := 42) hx hb dX12_raceOf_35 (by decide) (fun c11 => ?_) (fun c11 => ?_)
    · have h := h.1 c11
      refine lv_iload_n hx hb dX12_raceOf_42 rfl (lv_at hl 2 rfl) ?_
      exact Bw_X12_raceOf_43 C0 hr hlk hT ih23 a1 a2 a3 a3 a2 S10 _ _ _ h hR hS (lv_sub hl [0, 1, 2, 3] rfl)
    · have h := h.2 c11
      refine lv_iload_n hx hb dX12_raceOf_38 rfl (lv_at hl 1 rfl) ?_
      refine lv_goto (tgt := 43) hx hb dX12_raceOf_39 (by decide) ?_
      exact Bw_X12_raceOf_43 C0 hr hlk hT ih23 a1 a2 a3 a3 a1 S10 _ _ _ h hR hS (lv_sub hl [0, 1, 2, 3] rfl)
def B_X12_raceOf_23 (n9 : Nat) (a1 : Int32) (a2 : Int32) (a3 : Int32) (S : sSt) (k : Int32 → sSt → Prop) : Prop := (Nat.rec (motive := fun _ => Int32 → Int32 → Int32 → sSt → Prop) (fun _ _ _ _ => False) (fun _ r9 => fun a1 a2 a3 S => Bb_X12_raceOf_23 r9 a1 a2 a3 S k) n9 : Int32 → Int32 → Int32 → sSt → Prop) a1 a2 a3 S
theorem B_X12_raceOf_23_s (n9 : Nat) (a1 : Int32) (a2 : Int32) (a3 : Int32) (S : sSt) (k : Int32 → sSt → Prop) : B_X12_raceOf_23 (n9 + 1) a1 a2 a3 S k = Bb_X12_raceOf_23 (fun a1 a2 a3 S => B_X12_raceOf_23 n9 a1 a2 a3 S k) a1 a2 a3 S k := rfl
set_option maxHeartbeats 4000000 in
set_option maxRecDepth 100000 in
theorem Bw_X12_raceOf_23 {p : Program} {l : Launch} {e : Env} {s : State} {m : MethodId} {args : Array Value} {below : List Frame} {meth : Method} {c : Code} {D : va_G} {cy : Nat → ClassId} {b z : Nat} {tx : TX} (C0 : CallFix p m c cX12_raceOf 5 s args TB RX12) (hr : meth.sig.returnType = (some .int)) (hlk : meth.locks = false) (hT : TxR tx s) {k : Int32 → sSt → Prop} : ∀ (n9 : Nat), ∀ (a1 : Int32) (a2 : Int32) (a3 : Int32) (S : sSt) (H : Heap) (locs : List Loc) (ls : Array Slot) , B_X12_raceOf_23 n9 a1 a2 a3 S k → RelM D cy b z tx S s H → va_S (gA b 12 z) s.heap H locs → lv_has ls 5 [(0, .ref (b + adM 0 0)), (1, .int a1), (2, .int a2), (3, .int a3)] → W p l e rm_X12_raceOf s m args below meth c H locs 0 0 (MQ below (PiM D cy b z tx k) args s 0 0 (gA b 12 z)) (F0 m 23 ls []) := by
  intro n9
  induction n9 with
  | zero => intro a1 a2 a3 S H locs ls h; exact h.elim
  | succ n9 ih =>
    intro a1 a2 a3 S H locs ls h hR hS hl
    exact Bbw_X12_raceOf_23 C0 hr hlk hT ih a1 a2 a3 S H locs ls h hR hS hl
def Bb_X12_raceOf_2 (kk2 : Int32 → Int32 → Int32 → sSt → Prop) (a1 : Int32) (a2 : Int32) (a3 : Int32) (S : sSt) (k : Int32 → sSt → Prop) : Prop := ((48 ≤ a3 → B_X12_raceOf_23 fuel a1 a2 0 S k) ∧ (¬ 48 ≤ a3 → ix a3 48 (fun j20 => ∀ S21, S21 = uI S 10 0 j20 (-1) → ∀ x22 : Int32, x22 = a3 + 1 → kk2 a1 a2 x22 S21)))
set_option maxHeartbeats 4000000 in
set_option maxRecDepth 100000 in
theorem Bbw_X12_raceOf_2 {p : Program} {l : Launch} {e : Env} {s : State} {m : MethodId} {args : Array Value} {below : List Frame} {meth : Method} {c : Code} {D : va_G} {cy : Nat → ClassId} {b z : Nat} {tx : TX} (C0 : CallFix p m c cX12_raceOf 5 s args TB RX12) (hr : meth.sig.returnType = (some .int)) (hlk : meth.locks = false) (hT : TxR tx s) {k : Int32 → sSt → Prop} {kk2 : Int32 → Int32 → Int32 → sSt → Prop} (ih2 : ∀ (a1 : Int32) (a2 : Int32) (a3 : Int32) (S : sSt) (H : Heap) (locs : List Loc) (ls : Array Slot) , kk2 a1 a2 a3 S → RelM D cy b z tx S s H → va_S (gA b 12 z) s.heap H locs → lv_has ls 5 [(0, .ref (b + adM 0 0)), (1, .int a1), (2, .int a2), (3, .int a3)] → W p l e rm_X12_raceOf s m args below meth c H locs 0 0 (MQ below (PiM D cy b z tx k) args s 0 0 (gA b 12 z)) (F0 m 2 ls [])) : ∀ (a1 : Int32) (a2 : Int32) (a3 : Int32) (S : sSt) (H : Heap) (locs : List Loc) (ls : Array Slot) , Bb_X12_raceOf_2 kk2 a1 a2 a3 S k → RelM D cy b z tx S s H → va_S (gA b 12 z) s.heap H locs → lv_has ls 5 [(0, .ref (b + adM 0 0)), (1, .int a1), (2, .int a2), (3, .int a3)] → W p l e rm_X12_raceOf s m args below meth c H locs 0 0 (MQ below (PiM D cy b z tx k) args s 0 0 (gA b 12 z)) (F0 m 2 ls []) := by
  intro a1 a2 a3 S H locs ls h hR hS hl
  have hx := C0.1
  have hb := C0.2.1
  unfold Bb_X12_raceOf_2 at h
  refine lv_iload_n hx hb dX12_raceOf_2 rfl (lv_at hl 3 rfl) ?_
  refine lv_bipush (v := 48) hx hb dX12_raceOf_3 (by decide) ?_
  refine lv_icmp_ge (tgt := 21) hx hb dX12_raceOf_5 (by decide) (fun c1 => ?_) (fun c1 => ?_)
  · have h := h.1 c1
    refine lv_iconst (v := 0) hx hb dX12_raceOf_21 (by decide) ?_
    refine lv_istore_n (lv' := [(3, .int 0), (0, .ref (b + adM 0 0)), (1, .int a1), (2, .int a2)]) hx hb dX12_raceOf_22 rfl hl (by decide) rfl (fun ls hl => ?_)
    exact Bw_X12_raceOf_23 C0 hr hlk hT fuel a1 a2 0 S _ _ _ h hR hS (lv_sub hl [1, 2, 3, 0] rfl)
  · have h := h.2 c1
    refine lv_aload_n hx hb dX12_raceOf_8 rfl (lv_at hl 0 rfl) ?_
    refine gM_0_17 C0 hR Nat.zero_lt_one tbs_wsX120 mM9_7_94 dX12_raceOf_9 ?_
    refine lv_iload_n hx hb dX12_raceOf_12 rfl (lv_at hl 3 rfl) ?_
    refine lv_iconst (v := (-1)) hx hb dX12_raceOf_13 (by decide) ?_
    obtain ⟨j20, hj20, ej20, h⟩ := h
    refine sM_10 C0 hR hS Nat.zero_lt_one hj20 ej20 dX12_raceOf_14 (fun S21 eS21 H locs hR hS => ?_)
    have h := h S21 eS21
    obtain ⟨x22, ex22⟩ : ∃ x22 : Int32, x22 = a3 + 1 := ⟨_, rfl⟩
    have h := h x22 ex22
    refine w_iinc (v0 := 1) (lv' := [(3, .int x22), (0, .ref (b + adM 0 0)), (1, .int a1), (2, .int a2)]) C0 dX12_raceOf_15 hl (k := 3) rfl (by decide) (by decide) x22 ex22 rfl (fun ls hl => ?_)
    refine lv_goto (tgt := 2) hx hb dX12_raceOf_18 (by decide) ?_
    exact ih2 a1 a2 x22 S21 _ _ _  h hR hS (lv_sub hl [1, 2, 3, 0] rfl)
def B_X12_raceOf_2 (n9 : Nat) (a1 : Int32) (a2 : Int32) (a3 : Int32) (S : sSt) (k : Int32 → sSt → Prop) : Prop := (Nat.rec (motive := fun _ => Int32 → Int32 → Int32 → sSt → Prop) (fun _ _ _ _ => False) (fun _ r9 => fun a1 a2 a3 S => Bb_X12_raceOf_2 r9 a1 a2 a3 S k) n9 : Int32 → Int32 → Int32 → sSt → Prop) a1 a2 a3 S
theorem B_X12_raceOf_2_s (n9 : Nat) (a1 : Int32) (a2 : Int32) (a3 : Int32) (S : sSt) (k : Int32 → sSt → Prop) : B_X12_raceOf_2 (n9 + 1) a1 a2 a3 S k = Bb_X12_raceOf_2 (fun a1 a2 a3 S => B_X12_raceOf_2 n9 a1 a2 a3 S k) a1 a2 a3 S k := rfl
set_option maxHeartbeats 4000000 in
set_option maxRecDepth 100000 in
theorem Bw_X12_raceOf_2 {p : Program} {l : Launch} {e : Env} {s : State} {m : MethodId} {args : Array Value} {below : List Frame} {meth : Method} {c : Code} {D : va_G} {cy : Nat → ClassId} {b z : Nat} {tx : TX} (C0 : CallFix p m c cX12_raceOf 5 s args TB RX12) (hr : meth.sig.returnType = (some .int)) (hlk : meth.locks = false) (hT : TxR tx s) {k : Int32 → sSt → Prop} : ∀ (n9 : Nat), ∀ (a1 : Int32) (a2 : Int32) (a3 : Int32) (S : sSt) (H : Heap) (locs : List Loc) (ls : Array Slot) , B_X12_raceOf_2 n9 a1 a2 a3 S k → RelM D cy b z tx S s H → va_S (gA b 12 z) s.heap H locs → lv_has ls 5 [(0, .ref (b + adM 0 0)), (1, .int a1), (2, .int a2), (3, .int a3)] → W p l e rm_X12_raceOf s m args below meth c H locs 0 0 (MQ below (PiM D cy b z tx k) args s 0 0 (gA b 12 z)) (F0 m 2 ls []) := by
  intro n9
  induction n9 with
  | zero => intro a1 a2 a3 S H locs ls h; exact h.elim
  | succ n9 ih =>
    intro a1 a2 a3 S H locs ls h hR hS hl
    exact Bbw_X12_raceOf_2 C0 hr hlk hT ih a1 a2 a3 S H locs ls h hR hS hl
def F_X12_raceOf (a1 : Int32) (a2 : Int32) (S : sSt) (k : Int32 → sSt → Prop) : Prop := B_X12_raceOf_2 fuel a1 a2 0 S k
set_option maxHeartbeats 4000000 in
set_option maxRecDepth 100000 in
theorem c_X12_raceOf (l : Launch) {D : va_G} {cy : Nat → ClassId} {b z : Nat} {tx : TX} {a1 : Int32} {a2 : Int32} {S : sSt} {k : Int32 → sSt → Prop} (h : F_X12_raceOf a1 a2 S k) : Met l yX12_raceOf (Cond.code yX12_raceOf cX12_raceOf 5 (some .int) :: TB) rm_X12_raceOf (va_Pc [.ref (b + adM 0 0), .int a1, .int a2] (fun U => RelM D cy b z tx S U U.heap ∧ TxR tx U)) (PiM D cy b z tx k) 0 0 (gA b 12 z) := by
  refine Met.ofW (cc := cX12_raceOf) (maxL := 5) (ret := (some .int)) (by decide) rfl ?_
  intro p e s m args below meth c s₁ B hml hv
  obtain ⟨rfl, hR, hT⟩ := hv
  have C0 : CallFix p m c cX12_raceOf 5 s _ TB RX12 := ⟨B.exec, B.bytes, hml, findClass_of_methodNamed B.named, fun w hw => atoms_spec B.pre w (List.mem_cons_of_mem _ hw)⟩
  have hr := B.returns
  have hlk := B.notSynchronized
  have hx := C0.1
  have hb := C0.2.1
  have hS : va_S (gA b 12 z) s.heap s.heap [] := va_S.rf
  have hl := lv_entry ([.ref (b + adM 0 0), .int a1, .int a2]) (n := 5) (Nat.le_of_ble_eq_true rfl)
  rw [lg_entry_eq]
  generalize (lg_sl ([.ref (b + adM 0 0), .int a1, .int a2]) ++ List.replicate (5 - (lg_sl ([.ref (b + adM 0 0), .int a1, .int a2])).length) Slot.unset).toArray = ls at hl ⊢
  have hl : lv_has ls 5 [(0, .ref (b + adM 0 0)), (1, .int a1), (2, .int a2)] := hl
  show W p l e rm_X12_raceOf s m _ below meth c s.heap [] 0 0 (MQ below (PiM D cy b z tx k) _ s 0 0 (gA b 12 z)) _
  unfold F_X12_raceOf at h
  refine lv_iconst (v := 0) hx hb dX12_raceOf_0 (by decide) ?_
  refine lv_istore_n (lv' := [(3, .int 0), (0, .ref (b + adM 0 0)), (1, .int a1), (2, .int a2)]) hx hb dX12_raceOf_1 rfl hl (by decide) rfl (fun ls hl => ?_)
  exact Bw_X12_raceOf_2 C0 hr hlk hT fuel a1 a2 0 S _ _ _ h hR hS (lv_sub hl [1, 2, 3, 0] rfl)

def rm_X12_race : Room := { frames := 11, cells := 0, slots := 0, locals := 250 }
def B_X12_race_52 (S : sSt) (k : Int32 → sSt → Prop) : Prop := k 0 S
set_option maxHeartbeats 4000000 in
set_option maxRecDepth 100000 in
theorem Bw_X12_race_52 {p : Program} {l : Launch} {e : Env} {s : State} {m : MethodId} {args : Array Value} {below : List Frame} {meth : Method} {c : Code} {D : va_G} {cy : Nat → ClassId} {b z : Nat} {tx : TX} (C0 : CallFix p m c cX12_race 3 s args TB RX12) (hr : meth.sig.returnType = (some .int)) (hlk : meth.locks = false) (hT : TxR tx s) {k : Int32 → sSt → Prop} : ∀ (S : sSt) (H : Heap) (locs : List Loc) (ls : Array Slot) , B_X12_race_52 S k → RelM D cy b z tx S s H → va_S (gA b 12 z) s.heap H locs → lv_has ls 3 [] → W p l e rm_X12_race s m args below meth c H locs 0 0 (MQ below (PiM D cy b z tx k) args s 0 0 (gA b 12 z)) (F0 m 52 ls []) := by
  intro S H locs ls h hR hS hl
  have hx := C0.1
  have hb := C0.2.1
  unfold B_X12_race_52 at h
  refine lv_iconst (v := 0) hx hb dX12_race_52 (by decide) ?_
  refine lv_goto (tgt := 62) hx hb dX12_race_53 (by decide) ?_
  exact rtM_i C0 hr hlk hR hS h dX12_race_62
def B_X12_race_45 (a1 : Int32) (a2 : Int32) (t1 : Int32) (S : sSt) (k : Int32 → sSt → Prop) : Prop := F_X12_throwsIf t1 2 S (fun r9 S10 => ((r9 = 0 → F_X12_raceOf a1 a2 S10 (fun r12 S13 => k r12 S13)) ∧ (¬ r9 = 0 → B_X12_race_52 S10 k)))
set_option maxHeartbeats 4000000 in
set_option maxRecDepth 100000 in
theorem Bw_X12_race_45 {p : Program} {l : Launch} {e : Env} {s : State} {m : MethodId} {args : Array Value} {below : List Frame} {meth : Method} {c : Code} {D : va_G} {cy : Nat → ClassId} {b z : Nat} {tx : TX} (C0 : CallFix p m c cX12_race 3 s args TB RX12) (hr : meth.sig.returnType = (some .int)) (hlk : meth.locks = false) (hT : TxR tx s) {k : Int32 → sSt → Prop} : ∀ (a1 : Int32) (a2 : Int32) (t1 : Int32) (S : sSt) (H : Heap) (locs : List Loc) (ls : Array Slot) , B_X12_race_45 a1 a2 t1 S k → RelM D cy b z tx S s H → va_S (gA b 12 z) s.heap H locs → lv_has ls 3 [(0, .ref (b + adM 0 0)), (1, .int a1), (2, .int a2)] → W p l e rm_X12_race s m args below meth c H locs 0 0 (MQ below (PiM D cy b z tx k) args s 0 0 (gA b 12 z)) (F0 m 45 ls [.int t1, .ref (b + adM 0 0)]) := by
  intro a1 a2 t1 S H locs ls h hR hS hl
  have hx := C0.1
  have hb := C0.2.1
  unfold B_X12_race_45 at h
  refine lv_iconst (v := 2) hx hb dX12_race_45 (by decide) ?_
  refine qM_Vi (As := [.int t1, .int 2]) (rest := []) C0 (c_X12_throwsIf l h) (cwV 2 C0.2.2.2.2 (tbV mM9_8_25 ⟨mM9_8_27, mpM9_3_13, mM9_1_11, mM9_8_28⟩) rfl rfl rfl (by decide +kernel) ⟨Nat.le_of_ble_eq_true rfl, Nat.le_of_ble_eq_true rfl⟩) (rcM_0 hR Nat.zero_lt_one) hR hT hS rfl hl.1 rfl (Nat.le_of_ble_eq_true rfl) dX12_race_46 ⟨Nat.zero_le _, Nat.zero_le _⟩ (fun r9 S10 H locs h hR hS => ?_)
  refine lv_if_eq (tgt := 56) hx hb dX12_race_49 (by decide) (fun c11 => ?_) (fun c11 => ?_)
  · have h := h.1 c11
    refine lv_aload_n hx hb dX12_race_56 rfl (lv_at hl 0 rfl) ?_
    refine lv_iload_n hx hb dX12_race_57 rfl (lv_at hl 1 rfl) ?_
    refine lv_iload_n hx hb dX12_race_58 rfl (lv_at hl 2 rfl) ?_
    refine qM_Vi (As := [.int a1, .int a2]) (rest := []) C0 (c_X12_raceOf l h) (cwV 2 C0.2.2.2.2 (tbV mM9_9_121 ⟨mM9_9_123, mpM9_7_1, mM9_1_11, mM9_9_124⟩) rfl rfl rfl (by decide +kernel) ⟨Nat.le_of_ble_eq_true rfl, Nat.le_of_ble_eq_true rfl⟩) (rcM_0 hR Nat.zero_lt_one) hR hT hS rfl hl.1 rfl (Nat.le_of_ble_eq_true rfl) dX12_race_59 ⟨Nat.zero_le _, Nat.zero_le _⟩ (fun r12 S13 H locs h hR hS => ?_)
    exact rtM_i C0 hr hlk hR hS h dX12_race_62
  · have h := h.2 c11
    exact Bw_X12_race_52 C0 hr hlk hT S10 _ _ _ h hR hS (lv_sub hl [] rfl)
def B_X12_race_27 (a1 : Int32) (a2 : Int32) (t1 : Int32) (S : sSt) (k : Int32 → sSt → Prop) : Prop := F_X12_throwsIf t1 1 S (fun r5 S6 => ((¬ r5 = 0 → B_X12_race_52 S6 k) ∧ (r5 = 0 → ((¬ a1 = a2 → B_X12_race_45 a1 a2 0 S6 k) ∧ (a1 = a2 → B_X12_race_45 a1 a2 1 S6 k)))))
set_option maxHeartbeats 4000000 in
set_option maxRecDepth 100000 in
theorem Bw_X12_race_27 {p : Program} {l : Launch} {e : Env} {s : State} {m : MethodId} {args : Array Value} {below : List Frame} {meth : Method} {c : Code} {D : va_G} {cy : Nat → ClassId} {b z : Nat} {tx : TX} (C0 : CallFix p m c cX12_race 3 s args TB RX12) (hr : meth.sig.returnType = (some .int)) (hlk : meth.locks = false) (hT : TxR tx s) {k : Int32 → sSt → Prop} : ∀ (a1 : Int32) (a2 : Int32) (t1 : Int32) (S : sSt) (H : Heap) (locs : List Loc) (ls : Array Slot) , B_X12_race_27 a1 a2 t1 S k → RelM D cy b z tx S s H → va_S (gA b 12 z) s.heap H locs → lv_has ls 3 [(0, .ref (b + adM 0 0)), (1, .int a1), (2, .int a2)] → W p l e rm_X12_race s m args below meth c H locs 0 0 (MQ below (PiM D cy b z tx k) args s 0 0 (gA b 12 z)) (F0 m 27 ls [.int t1, .ref (b + adM 0 0)]) := by
  intro a1 a2 t1 S H locs ls h hR hS hl
  have hx := C0.1
  have hb := C0.2.1
  unfold B_X12_race_27 at h
  refine lv_iconst (v := 1) hx hb dX12_race_27 (by decide) ?_
  refine qM_Vi (As := [.int t1, .int 1]) (rest := []) C0 (c_X12_throwsIf l h) (cwV 2 C0.2.2.2.2 (tbV mM9_8_25 ⟨mM9_8_27, mpM9_3_13, mM9_1_11, mM9_8_28⟩) rfl rfl rfl (by decide +kernel) ⟨Nat.le_of_ble_eq_true rfl, Nat.le_of_ble_eq_true rfl⟩) (rcM_0 hR Nat.zero_lt_one) hR hT hS rfl hl.1 rfl (Nat.le_of_ble_eq_true rfl) dX12_race_28 ⟨Nat.zero_le _, Nat.zero_le _⟩ (fun r5 S6 H locs h hR hS => ?_)
  refine lv_if_ne (tgt := 52) hx hb dX12_race_31 (by decide) (fun c7 => ?_) (fun c7 => ?_)
  · have h := h.1 c7
    exact Bw_X12_race_52 C0 hr hlk hT S6 _ _ _ h hR hS (lv_sub hl [] rfl)
  · have h := h.2 c7
    refine lv_aload_n hx hb dX12_race_34 rfl (lv_at hl 0 rfl) ?_
    refine lv_iload_n hx hb dX12_race_35 rfl (lv_at hl 1 rfl) ?_
    refine lv_iload_n hx hb dX12_race_36 rfl (lv_at hl 2 rfl) ?_
    refine lv_icmp_ne (tgt := 44) hx hb dX12_race_37 (by decide) (fun c8 => ?_) (fun c8 => ?_)
    · have h := h.1 c8
      refine lv_iconst (v := 0) hx hb dX12_race_44 (by decide) ?_
      exact Bw_X12_race_45 C0 hr hlk hT a1 a2 0 S6 _ _ _ h hR hS (lv_sub hl [0, 1, 2] rfl)
    · have h := h.2 c8
      refine lv_iconst (v := 1) hx hb dX12_race_40 (by decide) ?_
      refine lv_goto (tgt := 45) hx hb dX12_race_41 (by decide) ?_
      exact Bw_X12_race_45 C0 hr hlk hT a1 a2 1 S6 _ _ _ h hR hS (lv_sub hl [0, 1, 2] rfl)
def B_X12_race_22 (a1 : Int32) (a2 : Int32) (S : sSt) (k : Int32 → sSt → Prop) : Prop := B_X12_race_27 a1 a2 1 S k
set_option maxHeartbeats 4000000 in
set_option maxRecDepth 100000 in
theorem Bw_X12_race_22 {p : Program} {l : Launch} {e : Env} {s : State} {m : MethodId} {args : Array Value} {below : List Frame} {meth : Method} {c : Code} {D : va_G} {cy : Nat → ClassId} {b z : Nat} {tx : TX} (C0 : CallFix p m c cX12_race 3 s args TB RX12) (hr : meth.sig.returnType = (some .int)) (hlk : meth.locks = false) (hT : TxR tx s) {k : Int32 → sSt → Prop} : ∀ (a1 : Int32) (a2 : Int32) (S : sSt) (H : Heap) (locs : List Loc) (ls : Array Slot) , B_X12_race_22 a1 a2 S k → RelM D cy b z tx S s H → va_S (gA b 12 z) s.heap H locs → lv_has ls 3 [(0, .ref (b + adM 0 0)), (1, .int a1), (2, .int a2)] → W p l e rm_X12_race s m args below meth c H locs 0 0 (MQ below (PiM D cy b z tx k) args s 0 0 (gA b 12 z)) (F0 m 22 ls [.ref (b + adM 0 0)]) := by
  intro a1 a2 S H locs ls h hR hS hl
  have hx := C0.1
  have hb := C0.2.1
  unfold B_X12_race_22 at h
  refine lv_iconst (v := 1) hx hb dX12_race_22 (by decide) ?_
  refine lv_goto (tgt := 27) hx hb dX12_race_23 (by decide) ?_
  exact Bw_X12_race_27 C0 hr hlk hT a1 a2 1 S _ _ _ h hR hS (lv_sub hl [0, 1, 2] rfl)
def F_X12_race (a1 : Int32) (a2 : Int32) (S : sSt) (k : Int32 → sSt → Prop) : Prop := ∀ S1, S1 = uI S 0 0 0 0 → F_X12_noSession a1 S1 (fun r2 S3 => ((¬ r2 = 0 → B_X12_race_22 a1 a2 S3 k) ∧ (r2 = 0 → F_X12_noSession a2 S3 (fun r14 S15 => ((r14 = 0 → B_X12_race_27 a1 a2 0 S15 k) ∧ (¬ r14 = 0 → B_X12_race_22 a1 a2 S15 k))))))
set_option maxHeartbeats 4000000 in
set_option maxRecDepth 100000 in
theorem c_X12_race (l : Launch) {D : va_G} {cy : Nat → ClassId} {b z : Nat} {tx : TX} {a1 : Int32} {a2 : Int32} {S : sSt} {k : Int32 → sSt → Prop} (h : F_X12_race a1 a2 S k) : Met l yX12_race (Cond.code yX12_race cX12_race 3 (some .int) :: TB) rm_X12_race (va_Pc [.ref (b + adM 0 0), .int a1, .int a2] (fun U => RelM D cy b z tx S U U.heap ∧ TxR tx U)) (PiM D cy b z tx k) 0 0 (gA b 12 z) := by
  refine Met.ofW (cc := cX12_race) (maxL := 3) (ret := (some .int)) (by decide) rfl ?_
  intro p e s m args below meth c s₁ B hml hv
  obtain ⟨rfl, hR, hT⟩ := hv
  have C0 : CallFix p m c cX12_race 3 s _ TB RX12 := ⟨B.exec, B.bytes, hml, findClass_of_methodNamed B.named, fun w hw => atoms_spec B.pre w (List.mem_cons_of_mem _ hw)⟩
  have hr := B.returns
  have hlk := B.notSynchronized
  have hx := C0.1
  have hb := C0.2.1
  have hS : va_S (gA b 12 z) s.heap s.heap [] := va_S.rf
  have hl := lv_entry ([.ref (b + adM 0 0), .int a1, .int a2]) (n := 3) (Nat.le_of_ble_eq_true rfl)
  rw [lg_entry_eq]
  generalize (lg_sl ([.ref (b + adM 0 0), .int a1, .int a2]) ++ List.replicate (3 - (lg_sl ([.ref (b + adM 0 0), .int a1, .int a2])).length) Slot.unset).toArray = ls at hl ⊢
  have hl : lv_has ls 3 [(0, .ref (b + adM 0 0)), (1, .int a1), (2, .int a2)] := hl
  show W p l e rm_X12_race s m _ below meth c s.heap [] 0 0 (MQ below (PiM D cy b z tx k) _ s 0 0 (gA b 12 z)) _
  unfold F_X12_race at h
  refine lv_aload_n hx hb dX12_race_0 rfl (lv_at hl 0 rfl) ?_
  refine lv_iconst (v := 0) hx hb dX12_race_1 (by decide) ?_
  refine pM_0_0 C0 hR hS Nat.zero_lt_one tbs_wsX120 mM9_7_77 dX12_race_2 (fun S1 eS1 H locs hR hS => ?_)
  have h := h S1 eS1
  refine lv_aload_n hx hb dX12_race_5 rfl (lv_at hl 0 rfl) ?_
  refine lv_aload_n hx hb dX12_race_6 rfl (lv_at hl 0 rfl) ?_
  refine lv_iload_n hx hb dX12_race_7 rfl (lv_at hl 1 rfl) ?_
  refine qM_Vi (As := [.int a1]) (rest := [.ref (b + adM 0 0)]) C0 (c_X12_noSession l h) (cwV 1 C0.2.2.2.2 (tbV mM9_8_33 ⟨mM9_8_35, mpM9_3_14, mM9_1_11, mM9_8_36⟩) rfl rfl rfl (by decide +kernel) ⟨Nat.le_of_ble_eq_true rfl, Nat.le_of_ble_eq_true rfl⟩) (rcM_0 hR Nat.zero_lt_one) hR hT hS rfl hl.1 rfl (Nat.le_of_ble_eq_true rfl) dX12_race_8 ⟨Nat.zero_le _, Nat.zero_le _⟩ (fun r2 S3 H locs h hR hS => ?_)
  refine lv_if_ne (tgt := 22) hx hb dX12_race_11 (by decide) (fun c4 => ?_) (fun c4 => ?_)
  · have h := h.1 c4
    exact Bw_X12_race_22 C0 hr hlk hT a1 a2 S3 _ _ _ h hR hS (lv_sub hl [0, 1, 2] rfl)
  · have h := h.2 c4
    refine lv_aload_n hx hb dX12_race_14 rfl (lv_at hl 0 rfl) ?_
    refine lv_iload_n hx hb dX12_race_15 rfl (lv_at hl 2 rfl) ?_
    refine qM_Vi (As := [.int a2]) (rest := [.ref (b + adM 0 0)]) C0 (c_X12_noSession l h) (cwV 1 C0.2.2.2.2 (tbV mM9_8_33 ⟨mM9_8_35, mpM9_3_14, mM9_1_11, mM9_8_36⟩) rfl rfl rfl (by decide +kernel) ⟨Nat.le_of_ble_eq_true rfl, Nat.le_of_ble_eq_true rfl⟩) (rcM_0 hR Nat.zero_lt_one) hR hT hS rfl hl.1 rfl (Nat.le_of_ble_eq_true rfl) dX12_race_16 ⟨Nat.zero_le _, Nat.zero_le _⟩ (fun r14 S15 H locs h hR hS => ?_)
    refine lv_if_eq (tgt := 26) hx hb dX12_race_19 (by decide) (fun c16 => ?_) (fun c16 => ?_)
    · have h := h.1 c16
      refine lv_iconst (v := 0) hx hb dX12_race_26 (by decide) ?_
      exact Bw_X12_race_27 C0 hr hlk hT a1 a2 0 S15 _ _ _ h hR hS (lv_sub hl [0, 1, 2] rfl)
    · have h := h.2 c16
      exact Bw_X12_race_22 C0 hr hlk hT a1 a2 S15 _ _ _ h hR hS (lv_sub hl [0, 1, 2] rfl)

def rm_X12_passedBy : Room := { frames := 8, cells := 0, slots := 0, locals := 177 }
def Bb_X12_passedBy_9 (kk9 : Int32 → Int32 → Int32 → Int32 → sSt → Prop) (a1 : Int32) (a2 : Int32) (a3 : Int32) (a4 : Int32) (S : sSt) (k : Int32 → sSt → Prop) : Prop := ((a4 = (-1) → k (-1) S) ∧ (¬ a4 = (-1) → ((¬ a4 = a2 → F_X12_locks a4 a1 S (fun r5 S6 => ix (r5 + 3) 10421 (fun j7 => ∀ S8, S8 = uI S6 1 0 j7 2 → F_X12_sessionAt a1 1 S8 (fun r9 S10 => ix (r5 + 0) 10421 (fun j11 => ix r9 10421 (fun j12 => ∀ S13, S13 = uI S10 1 0 j12 (S10.1 1 0 j11) → ∀ x14 : Int32, x14 = a3 + 1 → F_X12_firstFor a1 S13 (fun r15 S16 => kk9 a1 a2 x14 r15 S16))))))) ∧ (a4 = a2 → k a3 S))))
set_option maxHeartbeats 4000000 in
set_option maxRecDepth 100000 in
theorem Bbw_X12_passedBy_9 {p : Program} {l : Launch} {e : Env} {s : State} {m : MethodId} {args : Array Value} {below : List Frame} {meth : Method} {c : Code} {D : va_G} {cy : Nat → ClassId} {b z : Nat} {tx : TX} (C0 : CallFix p m c cX12_passedBy 6 s args TB RX12) (hr : meth.sig.returnType = (some .int)) (hlk : meth.locks = false) (hT : TxR tx s) {k : Int32 → sSt → Prop} {kk9 : Int32 → Int32 → Int32 → Int32 → sSt → Prop} (ih9 : ∀ (a1 : Int32) (a2 : Int32) (a3 : Int32) (a4 : Int32) (S : sSt) (H : Heap) (locs : List Loc) (ls : Array Slot) , kk9 a1 a2 a3 a4 S → RelM D cy b z tx S s H → va_S (gA b 12 z) s.heap H locs → lv_has ls 6 [(0, .ref (b + adM 0 0)), (1, .int a1), (2, .int a2), (3, .int a3), (4, .int a4)] → W p l e rm_X12_passedBy s m args below meth c H locs 0 0 (MQ below (PiM D cy b z tx k) args s 0 0 (gA b 12 z)) (F0 m 9 ls [])) : ∀ (a1 : Int32) (a2 : Int32) (a3 : Int32) (a4 : Int32) (S : sSt) (H : Heap) (locs : List Loc) (ls : Array Slot) , Bb_X12_passedBy_9 kk9 a1 a2 a3 a4 S k → RelM D cy b z tx S s H → va_S (gA b 12 z) s.heap H locs → lv_has ls 6 [(0, .ref (b + adM 0 0)), (1, .int a1), (2, .int a2), (3, .int a3), (4, .int a4)] → W p l e rm_X12_passedBy s m args below meth c H locs 0 0 (MQ below (PiM D cy b z tx k) args s 0 0 (gA b 12 z)) (F0 m 9 ls []) := by
  intro a1 a2 a3 a4 S H locs ls h hR hS hl
  have hx := C0.1
  have hb := C0.2.1
  unfold Bb_X12_passedBy_9 at h
  refine lv_iload hx hb dX12_passedBy_9 (lv_at hl 4 rfl) ?_
  refine lv_iconst (v := (-1)) hx hb dX12_passedBy_11 (by decide) ?_
  refine lv_icmp_eq (tgt := 74) hx hb dX12_passedBy_12 (by decide) (fun c3 => ?_) (fun c3 => ?_)
  · have h := h.1 c3
    refine lv_iconst (v := (-1)) hx hb dX12_passedBy_74 (by decide) ?_
    exact rtM_i C0 hr hlk hR hS h dX12_passedBy_75
  · have h := h.2 c3
    refine lv_iload hx hb dX12_passedBy_15 (lv_at hl 4 rfl) ?_
    refine lv_iload_n hx hb dX12_passedBy_17 rfl (lv_at hl 2 rfl) ?_
    refine lv_icmp_ne (tgt := 23) hx hb dX12_passedBy_18 (by decide) (fun c4 => ?_) (fun c4 => ?_)
    · have h := h.1 c4
      refine lv_aload_n hx hb dX12_passedBy_23 rfl (lv_at hl 0 rfl) ?_
      refine lv_iload hx hb dX12_passedBy_24 (lv_at hl 4 rfl) ?_
      refine lv_iload_n hx hb dX12_passedBy_26 rfl (lv_at hl 1 rfl) ?_
      refine qM_Vi (As := [.int a4, .int a1]) (rest := []) C0 (c_X12_locks l h) (cwV 2 C0.2.2.2.2 (tbV mM9_8_207 ⟨mM9_8_209, mpM9_5_15, mM9_1_11, mM9_8_210⟩) rfl rfl rfl (by decide +kernel) ⟨Nat.le_of_ble_eq_true rfl, Nat.le_of_ble_eq_true rfl⟩) (rcM_0 hR Nat.zero_lt_one) hR hT hS rfl hl.1 rfl (Nat.le_of_ble_eq_true rfl) dX12_passedBy_27 ⟨Nat.zero_le _, Nat.zero_le _⟩ (fun r5 S6 H locs h hR hS => ?_)
      refine lv_istore (lv' := [(5, .int r5), (0, .ref (b + adM 0 0)), (1, .int a1), (2, .int a2), (3, .int a3), (4, .int a4)]) hx hb dX12_passedBy_30 hl (by decide) rfl (fun ls hl => ?_)
      refine lv_aload_n hx hb dX12_passedBy_32 rfl (lv_at hl 1 rfl) ?_
      refine gM_0_2 C0 hR Nat.zero_lt_one tbs_wsX120 mM9_7_79 dX12_passedBy_33 ?_
      refine lv_iload hx hb dX12_passedBy_36 (lv_at hl 0 rfl) ?_
      refine lv_iconst (v := 3) hx hb dX12_passedBy_38 (by decide) ?_
      refine lv_iadd hx hb dX12_passedBy_39 ?_
      refine lv_iconst (v := 2) hx hb dX12_passedBy_40 (by decide) ?_
      obtain ⟨j7, hj7, ej7, h⟩ := h
      refine sM_1 C0 hR hS Nat.zero_lt_one hj7 ej7 dX12_passedBy_41 (fun S8 eS8 H locs hR hS => ?_)
      have h := h S8 eS8
      refine lv_aload_n hx hb dX12_passedBy_42 rfl (lv_at hl 1 rfl) ?_
      refine gM_0_2 C0 hR Nat.zero_lt_one tbs_wsX120 mM9_7_79 dX12_passedBy_43 ?_
      refine lv_iload_n hx hb dX12_passedBy_46 rfl (lv_at hl 2 rfl) ?_
      refine lv_iconst (v := 1) hx hb dX12_passedBy_47 (by decide) ?_
      refine qM_Si (As := [.int a1, .int 1]) (rest := [.ref (b + adM 1 0)]) C0 (c_X12_sessionAt l h) (va_cwS 2 C0.2.2.2.2 (tbS mM9_7_233 ⟨mM9_7_234, mM9_1_11, mM9_7_235⟩) rfl rfl rfl (by decide +kernel) ⟨Nat.le_of_ble_eq_true rfl, Nat.le_of_ble_eq_true rfl⟩) hR hT hS rfl hl.1 rfl (Nat.le_of_ble_eq_true rfl) dX12_passedBy_48 ⟨Nat.zero_le _, Nat.zero_le _⟩ (fun r9 S10 H locs h hR hS => ?_)
      refine lv_aload_n hx hb dX12_passedBy_51 rfl (lv_at hl 1 rfl) ?_
      refine gM_0_2 C0 hR Nat.zero_lt_one tbs_wsX120 mM9_7_79 dX12_passedBy_52 ?_
      refine lv_iload hx hb dX12_passedBy_55 (lv_at hl 0 rfl) ?_
      refine lv_iconst (v := 0) hx hb dX12_passedBy_57 (by decide) ?_
      refine lv_iadd hx hb dX12_passedBy_58 ?_
      obtain ⟨j11, hj11, ej11, h⟩ := h
      refine lM_1 C0 hR Nat.zero_lt_one hj11 ej11 dX12_passedBy_59 ?_
      obtain ⟨j12, hj12, ej12, h⟩ := h
      refine sM_1 C0 hR hS Nat.zero_lt_one hj12 ej12 dX12_passedBy_60 (fun S13 eS13 H locs hR hS => ?_)
      have h := h S13 eS13
      obtain ⟨x14, ex14⟩ : ∃ x14 : Int32, x14 = a3 + 1 := ⟨_, rfl⟩
      have h := h x14 ex14
      refine w_iinc (v0 := 1) (lv' := [(3, .int x14), (5, .int r5), (0, .ref (b + adM 0 0)), (1, .int a1), (2, .int a2), (4, .int a4)]) C0 dX12_passedBy_61 hl (k := 4) rfl (by decide) (by decide) x14 ex14 rfl (fun ls hl => ?_)
      refine lv_aload_n hx hb dX12_passedBy_64 rfl (lv_at hl 2 rfl) ?_
      refine lv_iload_n hx hb dX12_passedBy_65 rfl (lv_at hl 3 rfl) ?_
      refine qM_Vi (As := [.int a1]) (rest := []) C0 (c_X12_firstFor l h) (cwV 1 C0.2.2.2.2 (tbV mM9_8_159 ⟨mM9_8_161, mpM9_5_3, mM9_1_11, mM9_8_162⟩) rfl rfl rfl (by decide +kernel) ⟨Nat.le_of_ble_eq_true rfl, Nat.le_of_ble_eq_true rfl⟩) (rcM_0 hR Nat.zero_lt_one) hR hT hS rfl hl.1 rfl (Nat.le_of_ble_eq_true rfl) dX12_passedBy_66 ⟨Nat.zero_le _, Nat.zero_le _⟩ (fun r15 S16 H locs h hR hS => ?_)
      refine lv_istore (lv' := [(4, .int r15), (3, .int x14), (5, .int r5), (0, .ref (b + adM 0 0)), (1, .int a1), (2, .int a2)]) hx hb dX12_passedBy_69 hl (by decide) rfl (fun ls hl => ?_)
      refine lv_goto (tgt := 9) hx hb dX12_passedBy_71 (by decide) ?_
      exact ih9 a1 a2 x14 r15 S16 _ _ _  h hR hS (lv_sub hl [3, 4, 5, 1, 0] rfl)
    · have h := h.2 c4
      refine lv_iload_n hx hb dX12_passedBy_21 rfl (lv_at hl 3 rfl) ?_
      exact rtM_i C0 hr hlk hR hS h dX12_passedBy_22
def B_X12_passedBy_9 (n9 : Nat) (a1 : Int32) (a2 : Int32) (a3 : Int32) (a4 : Int32) (S : sSt) (k : Int32 → sSt → Prop) : Prop := (Nat.rec (motive := fun _ => Int32 → Int32 → Int32 → Int32 → sSt → Prop) (fun _ _ _ _ _ => False) (fun _ r9 => fun a1 a2 a3 a4 S => Bb_X12_passedBy_9 r9 a1 a2 a3 a4 S k) n9 : Int32 → Int32 → Int32 → Int32 → sSt → Prop) a1 a2 a3 a4 S
theorem B_X12_passedBy_9_s (n9 : Nat) (a1 : Int32) (a2 : Int32) (a3 : Int32) (a4 : Int32) (S : sSt) (k : Int32 → sSt → Prop) : B_X12_passedBy_9 (n9 + 1) a1 a2 a3 a4 S k = Bb_X12_passedBy_9 (fun a1 a2 a3 a4 S => B_X12_passedBy_9 n9 a1 a2 a3 a4 S k) a1 a2 a3 a4 S k := rfl
set_option maxHeartbeats 4000000 in
set_option maxRecDepth 100000 in
theorem Bw_X12_passedBy_9 {p : Program} {l : Launch} {e : Env} {s : State} {m : MethodId} {args : Array Value} {below : List Frame} {meth : Method} {c : Code} {D : va_G} {cy : Nat → ClassId} {b z : Nat} {tx : TX} (C0 : CallFix p m c cX12_passedBy 6 s args TB RX12) (hr : meth.sig.returnType = (some .int)) (hlk : meth.locks = false) (hT : TxR tx s) {k : Int32 → sSt → Prop} : ∀ (n9 : Nat), ∀ (a1 : Int32) (a2 : Int32) (a3 : Int32) (a4 : Int32) (S : sSt) (H : Heap) (locs : List Loc) (ls : Array Slot) , B_X12_passedBy_9 n9 a1 a2 a3 a4 S k → RelM D cy b z tx S s H → va_S (gA b 12 z) s.heap H locs → lv_has ls 6 [(0, .ref (b + adM 0 0)), (1, .int a1), (2, .int a2), (3, .int a3), (4, .int a4)] → W p l e rm_X12_passedBy s m args below meth c H locs 0 0 (MQ below (PiM D cy b z tx k) args s 0 0 (gA b 12 z)) (F0 m 9 ls []) := by
  intro n9
  induction n9 with
  | zero => intro a1 a2 a3 a4 S H locs ls h; exact h.elim
  | succ n9 ih =>
    intro a1 a2 a3 a4 S H locs ls h hR hS hl
    exact Bbw_X12_passedBy_9 C0 hr hlk hT ih a1 a2 a3 a4 S H locs ls h hR hS hl
def F_X12_passedBy (a1 : Int32) (a2 : Int32) (S : sSt) (k : Int32 → sSt → Prop) : Prop := F_X12_firstFor a1 S (fun r1 S2 => B_X12_passedBy_9 fuel a1 a2 0 r1 S2 k)
set_option maxHeartbeats 4000000 in
set_option maxRecDepth 100000 in
theorem c_X12_passedBy (l : Launch) {D : va_G} {cy : Nat → ClassId} {b z : Nat} {tx : TX} {a1 : Int32} {a2 : Int32} {S : sSt} {k : Int32 → sSt → Prop} (h : F_X12_passedBy a1 a2 S k) : Met l yX12_passedBy (Cond.code yX12_passedBy cX12_passedBy 6 (some .int) :: TB) rm_X12_passedBy (va_Pc [.ref (b + adM 0 0), .int a1, .int a2] (fun U => RelM D cy b z tx S U U.heap ∧ TxR tx U)) (PiM D cy b z tx k) 0 0 (gA b 12 z) := by
  refine Met.ofW (cc := cX12_passedBy) (maxL := 6) (ret := (some .int)) (by decide) rfl ?_
  intro p e s m args below meth c s₁ B hml hv
  obtain ⟨rfl, hR, hT⟩ := hv
  have C0 : CallFix p m c cX12_passedBy 6 s _ TB RX12 := ⟨B.exec, B.bytes, hml, findClass_of_methodNamed B.named, fun w hw => atoms_spec B.pre w (List.mem_cons_of_mem _ hw)⟩
  have hr := B.returns
  have hlk := B.notSynchronized
  have hx := C0.1
  have hb := C0.2.1
  have hS : va_S (gA b 12 z) s.heap s.heap [] := va_S.rf
  have hl := lv_entry ([.ref (b + adM 0 0), .int a1, .int a2]) (n := 6) (Nat.le_of_ble_eq_true rfl)
  rw [lg_entry_eq]
  generalize (lg_sl ([.ref (b + adM 0 0), .int a1, .int a2]) ++ List.replicate (6 - (lg_sl ([.ref (b + adM 0 0), .int a1, .int a2])).length) Slot.unset).toArray = ls at hl ⊢
  have hl : lv_has ls 6 [(0, .ref (b + adM 0 0)), (1, .int a1), (2, .int a2)] := hl
  show W p l e rm_X12_passedBy s m _ below meth c s.heap [] 0 0 (MQ below (PiM D cy b z tx k) _ s 0 0 (gA b 12 z)) _
  unfold F_X12_passedBy at h
  refine lv_iconst (v := 0) hx hb dX12_passedBy_0 (by decide) ?_
  refine lv_istore_n (lv' := [(3, .int 0), (0, .ref (b + adM 0 0)), (1, .int a1), (2, .int a2)]) hx hb dX12_passedBy_1 rfl hl (by decide) rfl (fun ls hl => ?_)
  refine lv_aload_n hx hb dX12_passedBy_2 rfl (lv_at hl 1 rfl) ?_
  refine lv_iload_n hx hb dX12_passedBy_3 rfl (lv_at hl 2 rfl) ?_
  refine qM_Vi (As := [.int a1]) (rest := []) C0 (c_X12_firstFor l h) (cwV 1 C0.2.2.2.2 (tbV mM9_8_159 ⟨mM9_8_161, mpM9_5_3, mM9_1_11, mM9_8_162⟩) rfl rfl rfl (by decide +kernel) ⟨Nat.le_of_ble_eq_true rfl, Nat.le_of_ble_eq_true rfl⟩) (rcM_0 hR Nat.zero_lt_one) hR hT hS rfl hl.1 rfl (Nat.le_of_ble_eq_true rfl) dX12_passedBy_4 ⟨Nat.zero_le _, Nat.zero_le _⟩ (fun r1 S2 H locs h hR hS => ?_)
  refine lv_istore (lv' := [(4, .int r1), (3, .int 0), (0, .ref (b + adM 0 0)), (1, .int a1), (2, .int a2)]) hx hb dX12_passedBy_7 hl (by decide) rfl (fun ls hl => ?_)
  exact Bw_X12_passedBy_9 C0 hr hlk hT fuel a1 a2 0 r1 S2 _ _ _ h hR hS (lv_sub hl [2, 3, 4, 1, 0] rfl)

def rm_X12_passed : Room := { frames := 9, cells := 0, slots := 0, locals := 202 }
def F_X12_passed (a1 : Int32) (a2 : Int32) (S : sSt) (k : Int32 → sSt → Prop) : Prop := F_X12_ownJobFor a1 a2 S (fun r1 S2 => ((¬ r1 = (-1) → F_X12_keepsAll S2 (fun S5 => F_X12_passedBy a1 r1 S5 (fun r6 S7 => F_X12_bringsBack S7 (fun S9 => k r6 S9)))) ∧ (r1 = (-1) → k 0 S2)))
set_option maxHeartbeats 4000000 in
set_option maxRecDepth 100000 in
theorem c_X12_passed (l : Launch) {D : va_G} {cy : Nat → ClassId} {b z : Nat} {tx : TX} {a1 : Int32} {a2 : Int32} {S : sSt} {k : Int32 → sSt → Prop} (h : F_X12_passed a1 a2 S k) : Met l yX12_passed (Cond.code yX12_passed cX12_passed 5 (some .int) :: TB) rm_X12_passed (va_Pc [.ref (b + adM 0 0), .int a1, .int a2] (fun U => RelM D cy b z tx S U U.heap ∧ TxR tx U)) (PiM D cy b z tx k) 0 0 (gA b 12 z) := by
  refine Met.ofW (cc := cX12_passed) (maxL := 5) (ret := (some .int)) (by decide) rfl ?_
  intro p e s m args below meth c s₁ B hml hv
  obtain ⟨rfl, hR, hT⟩ := hv
  have C0 : CallFix p m c cX12_passed 5 s _ TB RX12 := ⟨B.exec, B.bytes, hml, findClass_of_methodNamed B.named, fun w hw => atoms_spec B.pre w (List.mem_cons_of_mem _ hw)⟩
  have hr := B.returns
  have hlk := B.notSynchronized
  have hx := C0.1
  have hb := C0.2.1
  have hS : va_S (gA b 12 z) s.heap s.heap [] := va_S.rf
  have hl := lv_entry ([.ref (b + adM 0 0), .int a1, .int a2]) (n := 5) (Nat.le_of_ble_eq_true rfl)
  rw [lg_entry_eq]
  generalize (lg_sl ([.ref (b + adM 0 0), .int a1, .int a2]) ++ List.replicate (5 - (lg_sl ([.ref (b + adM 0 0), .int a1, .int a2])).length) Slot.unset).toArray = ls at hl ⊢
  have hl : lv_has ls 5 [(0, .ref (b + adM 0 0)), (1, .int a1), (2, .int a2)] := hl
  show W p l e rm_X12_passed s m _ below meth c s.heap [] 0 0 (MQ below (PiM D cy b z tx k) _ s 0 0 (gA b 12 z)) _
  unfold F_X12_passed at h
  refine lv_aload_n hx hb dX12_passed_0 rfl (lv_at hl 0 rfl) ?_
  refine lv_iload_n hx hb dX12_passed_1 rfl (lv_at hl 1 rfl) ?_
  refine lv_iload_n hx hb dX12_passed_2 rfl (lv_at hl 2 rfl) ?_
  refine qM_Vi (As := [.int a1, .int a2]) (rest := []) C0 (c_X12_ownJobFor l h) (cwV 2 C0.2.2.2.2 (tbV mM9_8_219 ⟨mM9_8_221, mpM9_6_1, mM9_1_11, mM9_8_222⟩) rfl rfl rfl (by decide +kernel) ⟨Nat.le_of_ble_eq_true rfl, Nat.le_of_ble_eq_true rfl⟩) (rcM_0 hR Nat.zero_lt_one) hR hT hS rfl hl.1 rfl (Nat.le_of_ble_eq_true rfl) dX12_passed_3 ⟨Nat.zero_le _, Nat.zero_le _⟩ (fun r1 S2 H locs h hR hS => ?_)
  refine lv_istore_n (lv' := [(3, .int r1), (0, .ref (b + adM 0 0)), (1, .int a1), (2, .int a2)]) hx hb dX12_passed_6 rfl hl (by decide) rfl (fun ls hl => ?_)
  refine lv_iload_n hx hb dX12_passed_7 rfl (lv_at hl 0 rfl) ?_
  refine lv_iconst (v := (-1)) hx hb dX12_passed_8 (by decide) ?_
  refine lv_icmp_ne (tgt := 14) hx hb dX12_passed_9 (by decide) (fun c3 => ?_) (fun c3 => ?_)
  · have h := h.1 c3
    refine lv_aload_n hx hb dX12_passed_14 rfl (lv_at hl 1 rfl) ?_
    refine qM_Vv (As := []) (rest := []) C0 (c_X12_keepsAll l h) (cwV 0 C0.2.2.2.2 (tbV mM9_9_69 ⟨mM9_9_71, mpM9_6_13, mM9_1_11, mM9_9_72⟩) rfl rfl rfl (by decide +kernel) ⟨Nat.le_of_ble_eq_true rfl, Nat.le_of_ble_eq_true rfl⟩) (rcM_0 hR Nat.zero_lt_one) hR hT hS rfl hl.1 rfl (Nat.le_of_ble_eq_true rfl) dX12_passed_15 ⟨Nat.zero_le _, Nat.zero_le _⟩ (fun S5 H locs h hR hS => ?_)
    refine lv_aload_n hx hb dX12_passed_18 rfl (lv_at hl 1 rfl) ?_
    refine lv_iload_n hx hb dX12_passed_19 rfl (lv_at hl 2 rfl) ?_
    refine lv_iload_n hx hb dX12_passed_20 rfl (lv_at hl 0 rfl) ?_
    refine qM_Vi (As := [.int a1, .int r1]) (rest := []) C0 (c_X12_passedBy l h) (cwV 2 C0.2.2.2.2 (tbV mM9_9_133 ⟨mM9_9_135, mpM9_7_3, mM9_1_11, mM9_9_136⟩) rfl rfl rfl (by decide +kernel) ⟨Nat.le_of_ble_eq_true rfl, Nat.le_of_ble_eq_true rfl⟩) (rcM_0 hR Nat.zero_lt_one) hR hT hS rfl hl.1 rfl (Nat.le_of_ble_eq_true rfl) dX12_passed_21 ⟨Nat.zero_le _, Nat.zero_le _⟩ (fun r6 S7 H locs h hR hS => ?_)
    refine lv_istore (lv' := [(4, .int r6), (3, .int r1), (0, .ref (b + adM 0 0)), (1, .int a1), (2, .int a2)]) hx hb dX12_passed_24 hl (by decide) rfl (fun ls hl => ?_)
    refine lv_aload_n hx hb dX12_passed_26 rfl (lv_at hl 2 rfl) ?_
    refine qM_Vv (As := []) (rest := []) C0 (c_X12_bringsBack l h) (cwV 0 C0.2.2.2.2 (tbV mM9_9_73 ⟨mM9_9_75, mpM9_6_14, mM9_1_11, mM9_9_76⟩) rfl rfl rfl (by decide +kernel) ⟨Nat.le_of_ble_eq_true rfl, Nat.le_of_ble_eq_true rfl⟩) (rcM_0 hR Nat.zero_lt_one) hR hT hS rfl hl.1 rfl (Nat.le_of_ble_eq_true rfl) dX12_passed_27 ⟨Nat.zero_le _, Nat.zero_le _⟩ (fun S9 H locs h hR hS => ?_)
    refine lv_iload hx hb dX12_passed_30 (lv_at hl 0 rfl) ?_
    exact rtM_i C0 hr hlk hR hS h dX12_passed_32
  · have h := h.2 c3
    refine lv_iconst (v := 0) hx hb dX12_passed_12 (by decide) ?_
    exact rtM_i C0 hr hlk hR hS h dX12_passed_13

def rm_X12_again : Room := { frames := 5, cells := 0, slots := 0, locals := 109 }
def Bb_X12_again_79 (kk79 : Int32 → Int32 → Int32 → Int32 → Int32 → sSt → Prop) (a2 : Int32) (a3 : Int32) (a6 : Int32) (a7 : Int32) (a8 : Int32) (S : sSt) (k : Int32 → sSt → Prop) : Prop := ((a3 ≤ a8 → k a6 S) ∧ (¬ a3 ≤ a8 → ∀ x14 : Int32, x14 = a7 + 1 → ((x14 < (S.1 1 0 13) → F_X12_waitOf a2 x14 S (fun r16 S17 => ∀ x18 : Int32, x18 = (a6 + r16) → ∀ x19 : Int32, x19 = a8 + 1 → kk79 a2 a3 x18 x14 x19 S17)) ∧ (¬ x14 < (S.1 1 0 13) → k (-1) S))))
set_option maxHeartbeats 4000000 in
set_option maxRecDepth 100000 in
theorem Bbw_X12_again_79 {p : Program} {l : Launch} {e : Env} {s : State} {m : MethodId} {args : Array Value} {below : List Frame} {meth : Method} {c : Code} {D : va_G} {cy : Nat → ClassId} {b z : Nat} {tx : TX} (C0 : CallFix p m c cX12_again 9 s args TB RX12) (hr : meth.sig.returnType = (some .int)) (hlk : meth.locks = false) (hT : TxR tx s) {k : Int32 → sSt → Prop} {kk79 : Int32 → Int32 → Int32 → Int32 → Int32 → sSt → Prop} (ih79 : ∀ (a2 : Int32) (a3 : Int32) (a6 : Int32) (a7 : Int32) (a8 : Int32) (S : sSt) (H : Heap) (locs : List Loc) (ls : Array Slot) , kk79 a2 a3 a6 a7 a8 S → RelM D cy b z tx S s H → va_S (gA b 12 z) s.heap H locs → lv_has ls 9 [(0, .ref (b + adM 0 0)), (2, .int a2), (3, .int a3), (6, .int a6), (7, .int a7), (8, .int a8)] → W p l e rm_X12_again s m args below meth c H locs 0 0 (MQ below (PiM D cy b z tx k) args s 0 0 (gA b 12 z)) (F0 m 79 ls [])) : ∀ (a2 : Int32) (a3 : Int32) (a6 : Int32) (a7 : Int32) (a8 : Int32) (S : sSt) (H : Heap) (locs : List Loc) (ls : Array Slot) , Bb_X12_again_79 kk79 a2 a3 a6 a7 a8 S k → RelM D cy b z tx S s H → va_S (gA b 12 z) s.heap H locs → lv_has ls 9 [(0, .ref (b + adM 0 0)), (2, .int a2), (3, .int a3), (6, .int a6), (7, .int a7), (8, .int a8)] → W p l e rm_X12_again s m args below meth c H locs 0 0 (MQ below (PiM D cy b z tx k) args s 0 0 (gA b 12 z)) (F0 m 79 ls []) := by
  intro a2 a3 a6 a7 a8 S H locs ls h hR hS hl
  have hx := C0.1
  have hb := C0.2.1
  unfold Bb_X12_again_79 at h
  refine lv_iload hx hb dX12_again_79 (lv_at hl 5 rfl) ?_
  refine lv_iload_n hx hb dX12_again_81 rfl (lv_at hl 2 rfl) ?_
  refine lv_icmp_ge (tgt := 120) hx hb dX12_again_82 (by decide) (fun c13 => ?_) (fun c13 => ?_)
  · have h := h.1 c13
    refine lv_iload hx hb dX12_again_120 (lv_at hl 3 rfl) ?_
    exact rtM_i C0 hr hlk hR hS h dX12_again_122
  · have h := h.2 c13
    obtain ⟨x14, ex14⟩ : ∃ x14 : Int32, x14 = a7 + 1 := ⟨_, rfl⟩
    have h := h x14 ex14
    refine w_iinc (v0 := 1) (lv' := [(7, .int x14), (0, .ref (b + adM 0 0)), (2, .int a2), (3, .int a3), (6, .int a6), (8, .int a8)]) C0 dX12_again_85 hl (k := 4) rfl (by decide) (by decide) x14 ex14 rfl (fun ls hl => ?_)
    refine lv_iload hx hb dX12_again_88 (lv_at hl 0 rfl) ?_
    refine lv_aload_n hx hb dX12_again_90 rfl (lv_at hl 1 rfl) ?_
    refine gM_0_2 C0 hR Nat.zero_lt_one tbs_wsX120 mM9_7_79 dX12_again_91 ?_
    refine lv_bipush (v := 13) hx hb dX12_again_94 (by decide) ?_
    refine lM_1 C0 hR Nat.zero_lt_one (by decide) rfl dX12_again_96 ?_
    refine lv_icmp_lt (tgt := 102) hx hb dX12_again_97 (by decide) (fun c15 => ?_) (fun c15 => ?_)
    · have h := h.1 c15
      refine lv_iload hx hb dX12_again_102 (lv_at hl 4 rfl) ?_
      refine lv_aload_n hx hb dX12_again_104 rfl (lv_at hl 1 rfl) ?_
      refine lv_iload_n hx hb dX12_again_105 rfl (lv_at hl 2 rfl) ?_
      refine lv_iload hx hb dX12_again_106 (lv_at hl 0 rfl) ?_
      refine qM_Vi (As := [.int a2, .int x14]) (rest := [.int a6]) C0 (c_X12_waitOf l h) (cwV 2 C0.2.2.2.2 (tbV mM9_9_7 ⟨mM9_9_9, mpM9_6_6, mM9_1_11, mM9_9_10⟩) rfl rfl rfl (by decide +kernel) ⟨Nat.le_of_ble_eq_true rfl, Nat.le_of_ble_eq_true rfl⟩) (rcM_0 hR Nat.zero_lt_one) hR hT hS rfl hl.1 rfl (Nat.le_of_ble_eq_true rfl) dX12_again_108 ⟨Nat.zero_le _, Nat.zero_le _⟩ (fun r16 S17 H locs h hR hS => ?_)
      refine lv_iadd hx hb dX12_again_111 ?_
      refine lv_topi (fun x18 ex18 => ?_)
      have h := h x18 ex18
      refine lv_istore (lv' := [(6, .int x18), (7, .int x14), (0, .ref (b + adM 0 0)), (2, .int a2), (3, .int a3), (8, .int a8)]) hx hb dX12_again_112 hl (by decide) rfl (fun ls hl => ?_)
      obtain ⟨x19, ex19⟩ : ∃ x19 : Int32, x19 = a8 + 1 := ⟨_, rfl⟩
      have h := h x19 ex19
      refine w_iinc (v0 := 1) (lv' := [(8, .int x19), (6, .int x18), (7, .int x14), (0, .ref (b + adM 0 0)), (2, .int a2), (3, .int a3)]) C0 dX12_again_114 hl (k := 5) rfl (by decide) (by decide) x19 ex19 rfl (fun ls hl => ?_)
      refine lv_goto (tgt := 79) hx hb dX12_again_117 (by decide) ?_
      exact ih79 a2 a3 x18 x14 x19 S17 _ _ _  h hR hS (lv_sub hl [3, 4, 5, 1, 2, 0] rfl)
    · have h := h.2 c15
      refine lv_iconst (v := (-1)) hx hb dX12_again_100 (by decide) ?_
      exact rtM_i C0 hr hlk hR hS h dX12_again_101
def B_X12_again_79 (n9 : Nat) (a2 : Int32) (a3 : Int32) (a6 : Int32) (a7 : Int32) (a8 : Int32) (S : sSt) (k : Int32 → sSt → Prop) : Prop := (Nat.rec (motive := fun _ => Int32 → Int32 → Int32 → Int32 → Int32 → sSt → Prop) (fun _ _ _ _ _ _ => False) (fun _ r9 => fun a2 a3 a6 a7 a8 S => Bb_X12_again_79 r9 a2 a3 a6 a7 a8 S k) n9 : Int32 → Int32 → Int32 → Int32 → Int32 → sSt → Prop) a2 a3 a6 a7 a8 S
theorem B_X12_again_79_s (n9 : Nat) (a2 : Int32) (a3 : Int32) (a6 : Int32) (a7 : Int32) (a8 : Int32) (S : sSt) (k : Int32 → sSt → Prop) : B_X12_again_79 (n9 + 1) a2 a3 a6 a7 a8 S k = Bb_X12_again_79 (fun a2 a3 a6 a7 a8 S => B_X12_again_79 n9 a2 a3 a6 a7 a8 S k) a2 a3 a6 a7 a8 S k := rfl
set_option maxHeartbeats 4000000 in
set_option maxRecDepth 100000 in
theorem Bw_X12_again_79 {p : Program} {l : Launch} {e : Env} {s : State} {m : MethodId} {args : Array Value} {below : List Frame} {meth : Method} {c : Code} {D : va_G} {cy : Nat → ClassId} {b z : Nat} {tx : TX} (C0 : CallFix p m c cX12_again 9 s args TB RX12) (hr : meth.sig.returnType = (some .int)) (hlk : meth.locks = false) (hT : TxR tx s) {k : Int32 → sSt → Prop} : ∀ (n9 : Nat), ∀ (a2 : Int32) (a3 : Int32) (a6 : Int32) (a7 : Int32) (a8 : Int32) (S : sSt) (H : Heap) (locs : List Loc) (ls : Array Slot) , B_X12_again_79 n9 a2 a3 a6 a7 a8 S k → RelM D cy b z tx S s H → va_S (gA b 12 z) s.heap H locs → lv_has ls 9 [(0, .ref (b + adM 0 0)), (2, .int a2), (3, .int a3), (6, .int a6), (7, .int a7), (8, .int a8)] → W p l e rm_X12_again s m args below meth c H locs 0 0 (MQ below (PiM D cy b z tx k) args s 0 0 (gA b 12 z)) (F0 m 79 ls []) := by
  intro n9
  induction n9 with
  | zero => intro a2 a3 a6 a7 a8 S H locs ls h; exact h.elim
  | succ n9 ih =>
    intro a2 a3 a6 a7 a8 S H locs ls h hR hS hl
    exact Bbw_X12_again_79 C0 hr hlk hT ih a2 a3 a6 a7 a8 S H locs ls h hR hS hl
def F_X12_again (a1 : Int32) (a2 : Int32) (a3 : Int32) (S : sSt) (k : Int32 → sSt → Prop) : Prop := F_X12_jobFor a1 a2 S (fun r1 S2 => ((¬ r1 = (-1) → F_X12_seen r1 a1 S2 (fun r4 S5 => ix (r4 + 3) 10421 (fun j6 => ((¬ (S5.1 1 0 j6) = 0 → k (-1) S5) ∧ ((S5.1 1 0 j6) = 0 → ((1 ≤ a3 → ix (r4 + 5) 10421 (fun j9 => ∀ x10 : Int32, x10 = (if (S5.1 1 0 j9) < (S5.1 1 0 3) then (S5.1 1 0 3) else (S5.1 1 0 j9)) → ix (r4 + 6) 10421 (fun j11 => ∀ x12 : Int32, x12 = (S5.1 1 0 j11) → B_X12_again_79 fuel a2 a3 x10 x12 1 S5 k))) ∧ (¬ 1 ≤ a3 → k (-1) S5))))))) ∧ (r1 = (-1) → k 0 S2)))
set_option maxHeartbeats 4000000 in
set_option maxRecDepth 100000 in
theorem c_X12_again (l : Launch) {D : va_G} {cy : Nat → ClassId} {b z : Nat} {tx : TX} {a1 : Int32} {a2 : Int32} {a3 : Int32} {S : sSt} {k : Int32 → sSt → Prop} (h : F_X12_again a1 a2 a3 S k) : Met l yX12_again (Cond.code yX12_again cX12_again 9 (some .int) :: TB) rm_X12_again (va_Pc [.ref (b + adM 0 0), .int a1, .int a2, .int a3] (fun U => RelM D cy b z tx S U U.heap ∧ TxR tx U)) (PiM D cy b z tx k) 0 0 (gA b 12 z) := by
  refine Met.ofW (cc := cX12_again) (maxL := 9) (ret := (some .int)) (by decide) rfl ?_
  intro p e s m args below meth c s₁ B hml hv
  obtain ⟨rfl, hR, hT⟩ := hv
  have C0 : CallFix p m c cX12_again 9 s _ TB RX12 := ⟨B.exec, B.bytes, hml, findClass_of_methodNamed B.named, fun w hw => atoms_spec B.pre w (List.mem_cons_of_mem _ hw)⟩
  have hr := B.returns
  have hlk := B.notSynchronized
  have hx := C0.1
  have hb := C0.2.1
  have hS : va_S (gA b 12 z) s.heap s.heap [] := va_S.rf
  have hl := lv_entry ([.ref (b + adM 0 0), .int a1, .int a2, .int a3]) (n := 9) (Nat.le_of_ble_eq_true rfl)
  rw [lg_entry_eq]
  generalize (lg_sl ([.ref (b + adM 0 0), .int a1, .int a2, .int a3]) ++ List.replicate (9 - (lg_sl ([.ref (b + adM 0 0), .int a1, .int a2, .int a3])).length) Slot.unset).toArray = ls at hl ⊢
  have hl : lv_has ls 9 [(0, .ref (b + adM 0 0)), (1, .int a1), (2, .int a2), (3, .int a3)] := hl
  show W p l e rm_X12_again s m _ below meth c s.heap [] 0 0 (MQ below (PiM D cy b z tx k) _ s 0 0 (gA b 12 z)) _
  unfold F_X12_again at h
  refine lv_aload_n hx hb dX12_again_0 rfl (lv_at hl 0 rfl) ?_
  refine lv_iload_n hx hb dX12_again_1 rfl (lv_at hl 1 rfl) ?_
  refine lv_iload_n hx hb dX12_again_2 rfl (lv_at hl 2 rfl) ?_
  refine qM_Vi (As := [.int a1, .int a2]) (rest := []) C0 (c_X12_jobFor l h) (cwV 2 C0.2.2.2.2 (tbV mM9_8_223 ⟨mM9_8_225, mpM9_6_2, mM9_1_11, mM9_8_226⟩) rfl rfl rfl (by decide +kernel) ⟨Nat.le_of_ble_eq_true rfl, Nat.le_of_ble_eq_true rfl⟩) (rcM_0 hR Nat.zero_lt_one) hR hT hS rfl hl.1 rfl (Nat.le_of_ble_eq_true rfl) dX12_again_3 ⟨Nat.zero_le _, Nat.zero_le _⟩ (fun r1 S2 H locs h hR hS => ?_)
  refine lv_istore (lv' := [(4, .int r1), (0, .ref (b + adM 0 0)), (1, .int a1), (2, .int a2), (3, .int a3)]) hx hb dX12_again_6 hl (by decide) rfl (fun ls hl => ?_)
  refine lv_iload hx hb dX12_again_8 (lv_at hl 0 rfl) ?_
  refine lv_iconst (v := (-1)) hx hb dX12_again_10 (by decide) ?_
  refine lv_icmp_ne (tgt := 16) hx hb dX12_again_11 (by decide) (fun c3 => ?_) (fun c3 => ?_)
  · have h := h.1 c3
    refine lv_aload_n hx hb dX12_again_16 rfl (lv_at hl 1 rfl) ?_
    refine lv_iload hx hb dX12_again_17 (lv_at hl 0 rfl) ?_
    refine lv_iload_n hx hb dX12_again_19 rfl (lv_at hl 2 rfl) ?_
    refine qM_Vi (As := [.int r1, .int a1]) (rest := []) C0 (c_X12_seen l h) (cwV 2 C0.2.2.2.2 (tbV mM9_8_167 ⟨mM9_8_169, mpM9_5_5, mM9_1_11, mM9_8_170⟩) rfl rfl rfl (by decide +kernel) ⟨Nat.le_of_ble_eq_true rfl, Nat.le_of_ble_eq_true rfl⟩) (rcM_0 hR Nat.zero_lt_one) hR hT hS rfl hl.1 rfl (Nat.le_of_ble_eq_true rfl) dX12_again_20 ⟨Nat.zero_le _, Nat.zero_le _⟩ (fun r4 S5 H locs h hR hS => ?_)
    refine lv_istore (lv' := [(5, .int r4), (4, .int r1), (0, .ref (b + adM 0 0)), (1, .int a1), (2, .int a2), (3, .int a3)]) hx hb dX12_again_23 hl (by decide) rfl (fun ls hl => ?_)
    refine lv_aload_n hx hb dX12_again_25 rfl (lv_at hl 2 rfl) ?_
    refine gM_0_2 C0 hR Nat.zero_lt_one tbs_wsX120 mM9_7_79 dX12_again_26 ?_
    refine lv_iload hx hb dX12_again_29 (lv_at hl 0 rfl) ?_
    refine lv_iconst (v := 3) hx hb dX12_again_31 (by decide) ?_
    refine lv_iadd hx hb dX12_again_32 ?_
    obtain ⟨j6, hj6, ej6, h⟩ := h
    refine lM_1 C0 hR Nat.zero_lt_one hj6 ej6 dX12_again_33 ?_
    refine lv_if_ne (tgt := 42) hx hb dX12_again_34 (by decide) (fun c7 => ?_) (fun c7 => ?_)
    · have h := h.1 c7
      refine lv_iconst (v := (-1)) hx hb dX12_again_42 (by decide) ?_
      exact rtM_i C0 hr hlk hR hS h dX12_again_43
    · have h := h.2 c7
      refine lv_iload_n hx hb dX12_again_37 rfl (lv_at hl 5 rfl) ?_
      refine lv_iconst (v := 1) hx hb dX12_again_38 (by decide) ?_
      refine lv_icmp_ge (tgt := 44) hx hb dX12_again_39 (by decide) (fun c8 => ?_) (fun c8 => ?_)
      · have h := h.1 c8
        refine lv_aload_n hx hb dX12_again_44 rfl (lv_at hl 2 rfl) ?_
        refine gM_0_2 C0 hR Nat.zero_lt_one tbs_wsX120 mM9_7_79 dX12_again_45 ?_
        refine lv_iload hx hb dX12_again_48 (lv_at hl 0 rfl) ?_
        refine lv_iconst (v := 5) hx hb dX12_again_50 (by decide) ?_
        refine lv_iadd hx hb dX12_again_51 ?_
        obtain ⟨j9, hj9, ej9, h⟩ := h
        refine lM_1 C0 hR Nat.zero_lt_one hj9 ej9 dX12_again_52 ?_
        refine lv_aload_n hx hb dX12_again_53 rfl (lv_at hl 2 rfl) ?_
        refine gM_0_2 C0 hR Nat.zero_lt_one tbs_wsX120 mM9_7_79 dX12_again_54 ?_
        refine lv_iconst (v := 3) hx hb dX12_again_57 (by decide) ?_
        refine lM_1 C0 hR Nat.zero_lt_one (by decide) rfl dX12_again_58 ?_
        refine va_mmax hx hb (C0.2.2.1.trans hl.1.symm) C0.2.2.2.1 (C0.2.2.2.2 _ mM9_9_48) (C0.2.2.2.2 _ mM9_3_47) (C0.2.2.2.2 _ mM9_1_25) (C0.2.2.2.2 _ mM9_3_48) (Nat.le_of_ble_eq_true rfl) (Nat.le_of_ble_eq_true rfl) (Nat.zero_le _) (Nat.zero_le _) dX12_again_59 ?_
        refine lv_topi (fun x10 ex10 => ?_)
        have h := h x10 ex10
        refine lv_istore (lv' := [(6, .int x10), (5, .int r4), (4, .int r1), (0, .ref (b + adM 0 0)), (1, .int a1), (2, .int a2), (3, .int a3)]) hx hb dX12_again_62 hl (by decide) rfl (fun ls hl => ?_)
        refine lv_aload_n hx hb dX12_again_64 rfl (lv_at hl 3 rfl) ?_
        refine gM_0_2 C0 hR Nat.zero_lt_one tbs_wsX120 mM9_7_79 dX12_again_65 ?_
        refine lv_iload hx hb dX12_again_68 (lv_at hl 1 rfl) ?_
        refine lv_bipush (v := 6) hx hb dX12_again_70 (by decide) ?_
        refine lv_iadd hx hb dX12_again_72 ?_
        obtain ⟨j11, hj11, ej11, h⟩ := h
        refine lM_1 C0 hR Nat.zero_lt_one hj11 ej11 dX12_again_73 ?_
        refine lv_topi (fun x12 ex12 => ?_)
        have h := h x12 ex12
        refine lv_istore (lv' := [(7, .int x12), (6, .int x10), (5, .int r4), (4, .int r1), (0, .ref (b + adM 0 0)), (1, .int a1), (2, .int a2), (3, .int a3)]) hx hb dX12_again_74 hl (by decide) rfl (fun ls hl => ?_)
        refine lv_iconst (v := 1) hx hb dX12_again_76 (by decide) ?_
        refine lv_istore (lv' := [(8, .int 1), (7, .int x12), (6, .int x10), (5, .int r4), (4, .int r1), (0, .ref (b + adM 0 0)), (1, .int a1), (2, .int a2), (3, .int a3)]) hx hb dX12_again_77 hl (by decide) rfl (fun ls hl => ?_)
        exact Bw_X12_again_79 C0 hr hlk hT fuel a2 a3 x10 x12 1 S5 _ _ _ h hR hS (lv_sub hl [5, 7, 8, 2, 1, 0] rfl)
      · have h := h.2 c8
        refine lv_iconst (v := (-1)) hx hb dX12_again_42 (by decide) ?_
        exact rtM_i C0 hr hlk hR hS h dX12_again_43
  · have h := h.2 c3
    refine lv_iconst (v := 0) hx hb dX12_again_14 (by decide) ?_
    exact rtM_i C0 hr hlk hR hS h dX12_again_15

def rm_X12_dueOf : Room := { frames := 1, cells := 0, slots := 0, locals := 21 }
def F_X12_dueOf (a1 : Int32) (S : sSt) (k : Int32 → sSt → Prop) : Prop := F_X12_jobAt a1 3 S (fun r1 S2 => ix (r1 + 3) 10421 (fun j3 => ((¬ (S2.1 1 0 j3) = 1 → ix (r1 + 5) 10421 (fun j5 => k (S2.1 1 0 j5) S2)) ∧ ((S2.1 1 0 j3) = 1 → k (S2.1 1 0 3) S2))))
set_option maxHeartbeats 4000000 in
set_option maxRecDepth 100000 in
theorem c_X12_dueOf (l : Launch) {D : va_G} {cy : Nat → ClassId} {b z : Nat} {tx : TX} {a1 : Int32} {S : sSt} {k : Int32 → sSt → Prop} (h : F_X12_dueOf a1 S k) : Met l yX12_dueOf (Cond.code yX12_dueOf cX12_dueOf 3 (some .int) :: TB) rm_X12_dueOf (va_Pc [.ref (b + adM 0 0), .int a1] (fun U => RelM D cy b z tx S U U.heap ∧ TxR tx U)) (PiM D cy b z tx k) 0 0 (gA b 12 z) := by
  refine Met.ofW (cc := cX12_dueOf) (maxL := 3) (ret := (some .int)) (by decide) rfl ?_
  intro p e s m args below meth c s₁ B hml hv
  obtain ⟨rfl, hR, hT⟩ := hv
  have C0 : CallFix p m c cX12_dueOf 3 s _ TB RX12 := ⟨B.exec, B.bytes, hml, findClass_of_methodNamed B.named, fun w hw => atoms_spec B.pre w (List.mem_cons_of_mem _ hw)⟩
  have hr := B.returns
  have hlk := B.notSynchronized
  have hx := C0.1
  have hb := C0.2.1
  have hS : va_S (gA b 12 z) s.heap s.heap [] := va_S.rf
  have hl := lv_entry ([.ref (b + adM 0 0), .int a1]) (n := 3) (Nat.le_of_ble_eq_true rfl)
  rw [lg_entry_eq]
  generalize (lg_sl ([.ref (b + adM 0 0), .int a1]) ++ List.replicate (3 - (lg_sl ([.ref (b + adM 0 0), .int a1])).length) Slot.unset).toArray = ls at hl ⊢
  have hl : lv_has ls 3 [(0, .ref (b + adM 0 0)), (1, .int a1)] := hl
  show W p l e rm_X12_dueOf s m _ below meth c s.heap [] 0 0 (MQ below (PiM D cy b z tx k) _ s 0 0 (gA b 12 z)) _
  unfold F_X12_dueOf at h
  refine lv_iload_n hx hb dX12_dueOf_0 rfl (lv_at hl 1 rfl) ?_
  refine lv_iconst (v := 3) hx hb dX12_dueOf_1 (by decide) ?_
  refine qM_Si (As := [.int a1, .int 3]) (rest := []) C0 (c_X12_jobAt l h) (va_cwS 2 C0.2.2.2.2 (tbS mM9_7_74 ⟨mM9_7_75, mM9_1_11, mM9_7_76⟩) rfl rfl rfl (by decide +kernel) ⟨Nat.le_of_ble_eq_true rfl, Nat.le_of_ble_eq_true rfl⟩) hR hT hS rfl hl.1 rfl (Nat.le_of_ble_eq_true rfl) dX12_dueOf_2 ⟨Nat.zero_le _, Nat.zero_le _⟩ (fun r1 S2 H locs h hR hS => ?_)
  refine lv_istore_n (lv' := [(2, .int r1), (0, .ref (b + adM 0 0)), (1, .int a1)]) hx hb dX12_dueOf_5 rfl hl (by decide) rfl (fun ls hl => ?_)
  refine lv_aload_n hx hb dX12_dueOf_6 rfl (lv_at hl 1 rfl) ?_
  refine gM_0_2 C0 hR Nat.zero_lt_one tbs_wsX120 mM9_7_79 dX12_dueOf_7 ?_
  refine lv_iload_n hx hb dX12_dueOf_10 rfl (lv_at hl 0 rfl) ?_
  refine lv_iconst (v := 3) hx hb dX12_dueOf_11 (by decide) ?_
  refine lv_iadd hx hb dX12_dueOf_12 ?_
  obtain ⟨j3, hj3, ej3, h⟩ := h
  refine lM_1 C0 hR Nat.zero_lt_one hj3 ej3 dX12_dueOf_13 ?_
  refine lv_iconst (v := 1) hx hb dX12_dueOf_14 (by decide) ?_
  refine lv_icmp_ne (tgt := 27) hx hb dX12_dueOf_15 (by decide) (fun c4 => ?_) (fun c4 => ?_)
  · have h := h.1 c4
    refine lv_aload_n hx hb dX12_dueOf_27 rfl (lv_at hl 1 rfl) ?_
    refine gM_0_2 C0 hR Nat.zero_lt_one tbs_wsX120 mM9_7_79 dX12_dueOf_28 ?_
    refine lv_iload_n hx hb dX12_dueOf_31 rfl (lv_at hl 0 rfl) ?_
    refine lv_iconst (v := 5) hx hb dX12_dueOf_32 (by decide) ?_
    refine lv_iadd hx hb dX12_dueOf_33 ?_
    obtain ⟨j5, hj5, ej5, h⟩ := h
    refine lM_1 C0 hR Nat.zero_lt_one hj5 ej5 dX12_dueOf_34 ?_
    exact rtM_i C0 hr hlk hR hS h dX12_dueOf_35
  · have h := h.2 c4
    refine lv_aload_n hx hb dX12_dueOf_18 rfl (lv_at hl 1 rfl) ?_
    refine gM_0_2 C0 hR Nat.zero_lt_one tbs_wsX120 mM9_7_79 dX12_dueOf_19 ?_
    refine lv_iconst (v := 3) hx hb dX12_dueOf_22 (by decide) ?_
    refine lM_1 C0 hR Nat.zero_lt_one (by decide) rfl dX12_dueOf_23 ?_
    refine lv_goto (tgt := 35) hx hb dX12_dueOf_24 (by decide) ?_
    exact rtM_i C0 hr hlk hR hS h dX12_dueOf_35

def rm_X12_isAtWork : Room := { frames := 1, cells := 0, slots := 0, locals := 22 }
def F_X12_isAtWork (a1 : Int32) (a2 : Int32) (S : sSt) (k : Int32 → sSt → Prop) : Prop := ix a1 24 (fun j1 => F_X12_in (S.1 11 0 j1) 0 a2 S (fun r2 S3 => ((r2 = 0 → k 0 S3) ∧ (¬ r2 = 0 → F_X12_jobAt a1 3 S3 (fun r5 S6 => ix (r5 + 2) 10421 (fun j7 => ((((S3.1 11 0 j1) + (S6.1 1 0 j7)) ≤ a2 → k 0 S6) ∧ (¬ ((S3.1 11 0 j1) + (S6.1 1 0 j7)) ≤ a2 → k 1 S6))))))))
set_option maxHeartbeats 4000000 in
set_option maxRecDepth 100000 in
theorem c_X12_isAtWork (l : Launch) {D : va_G} {cy : Nat → ClassId} {b z : Nat} {tx : TX} {a1 : Int32} {a2 : Int32} {S : sSt} {k : Int32 → sSt → Prop} (h : F_X12_isAtWork a1 a2 S k) : Met l yX12_isAtWork (Cond.code yX12_isAtWork cX12_isAtWork 3 (some .boolean) :: TB) rm_X12_isAtWork (va_Pc [.ref (b + adM 0 0), .int a1, .int a2] (fun U => RelM D cy b z tx S U U.heap ∧ TxR tx U)) (PiM D cy b z tx k) 0 0 (gA b 12 z) := by
  refine Met.ofW (cc := cX12_isAtWork) (maxL := 3) (ret := (some .boolean)) (by decide) rfl ?_
  intro p e s m args below meth c s₁ B hml hv
  obtain ⟨rfl, hR, hT⟩ := hv
  have C0 : CallFix p m c cX12_isAtWork 3 s _ TB RX12 := ⟨B.exec, B.bytes, hml, findClass_of_methodNamed B.named, fun w hw => atoms_spec B.pre w (List.mem_cons_of_mem _ hw)⟩
  have hr := B.returns
  have hlk := B.notSynchronized
  have hx := C0.1
  have hb := C0.2.1
  have hS : va_S (gA b 12 z) s.heap s.heap [] := va_S.rf
  have hl := lv_entry ([.ref (b + adM 0 0), .int a1, .int a2]) (n := 3) (Nat.le_of_ble_eq_true rfl)
  rw [lg_entry_eq]
  generalize (lg_sl ([.ref (b + adM 0 0), .int a1, .int a2]) ++ List.replicate (3 - (lg_sl ([.ref (b + adM 0 0), .int a1, .int a2])).length) Slot.unset).toArray = ls at hl ⊢
  have hl : lv_has ls 3 [(0, .ref (b + adM 0 0)), (1, .int a1), (2, .int a2)] := hl
  show W p l e rm_X12_isAtWork s m _ below meth c s.heap [] 0 0 (MQ below (PiM D cy b z tx k) _ s 0 0 (gA b 12 z)) _
  unfold F_X12_isAtWork at h
  refine lv_aload_n hx hb dX12_isAtWork_0 rfl (lv_at hl 0 rfl) ?_
  refine gM_0_18 C0 hR Nat.zero_lt_one tbs_wsX120 mM9_7_95 dX12_isAtWork_1 ?_
  refine lv_iload_n hx hb dX12_isAtWork_4 rfl (lv_at hl 1 rfl) ?_
  obtain ⟨j1, hj1, ej1, h⟩ := h
  refine lM_11 C0 hR Nat.zero_lt_one hj1 ej1 dX12_isAtWork_5 ?_
  refine lv_iconst (v := 0) hx hb dX12_isAtWork_6 (by decide) ?_
  refine lv_iload_n hx hb dX12_isAtWork_7 rfl (lv_at hl 2 rfl) ?_
  refine qM_Si (As := [.int (S.1 11 0 j1), .int 0, .int a2]) (rest := []) C0 (c_X12_in l h) (va_cwS 3 C0.2.2.2.2 (tbS mM9_8_37 ⟨mM9_8_38, mM9_1_11, mM9_8_39⟩) rfl rfl rfl (by decide +kernel) ⟨Nat.le_of_ble_eq_true rfl, Nat.le_of_ble_eq_true rfl⟩) hR hT hS rfl hl.1 rfl (Nat.le_of_ble_eq_true rfl) dX12_isAtWork_8 ⟨Nat.zero_le _, Nat.zero_le _⟩ (fun r2 S3 H locs h hR hS => ?_)
  refine lv_if_eq (tgt := 41) hx hb dX12_isAtWork_11 (by decide) (fun c4 => ?_) (fun c4 => ?_)
  · have h := h.1 c4
    refine lv_iconst (v := 0) hx hb dX12_isAtWork_41 (by decide) ?_
    exact rtM_z C0 hr hlk hR hS (by decide) h dX12_isAtWork_42
  · have h := h.2 c4
    refine lv_aload_n hx hb dX12_isAtWork_14 rfl (lv_at hl 0 rfl) ?_
    refine gM_0_18 C0 hR Nat.zero_lt_one tbs_wsX120 mM9_7_95 dX12_isAtWork_15 ?_
    refine lv_iload_n hx hb dX12_isAtWork_18 rfl (lv_at hl 1 rfl) ?_
    refine lM_11 C0 hR Nat.zero_lt_one hj1 ej1 dX12_isAtWork_19 ?_
    refine lv_aload_n hx hb dX12_isAtWork_20 rfl (lv_at hl 0 rfl) ?_
    refine gM_0_2 C0 hR Nat.zero_lt_one tbs_wsX120 mM9_7_79 dX12_isAtWork_21 ?_
    refine lv_iload_n hx hb dX12_isAtWork_24 rfl (lv_at hl 1 rfl) ?_
    refine lv_iconst (v := 3) hx hb dX12_isAtWork_25 (by decide) ?_
    refine qM_Si (As := [.int a1, .int 3]) (rest := [.ref (b + adM 1 0), .int (S3.1 11 0 j1)]) C0 (c_X12_jobAt l h) (va_cwS 2 C0.2.2.2.2 (tbS mM9_7_74 ⟨mM9_7_75, mM9_1_11, mM9_7_76⟩) rfl rfl rfl (by decide +kernel) ⟨Nat.le_of_ble_eq_true rfl, Nat.le_of_ble_eq_true rfl⟩) hR hT hS rfl hl.1 rfl (Nat.le_of_ble_eq_true rfl) dX12_isAtWork_26 ⟨Nat.zero_le _, Nat.zero_le _⟩ (fun r5 S6 H locs h hR hS => ?_)
    refine lv_iconst (v := 2) hx hb dX12_isAtWork_29 (by decide) ?_
    refine lv_iadd hx hb dX12_isAtWork_30 ?_
    obtain ⟨j7, hj7, ej7, h⟩ := h
    refine lM_1 C0 hR Nat.zero_lt_one hj7 ej7 dX12_isAtWork_31 ?_
    refine lv_iadd hx hb dX12_isAtWork_32 ?_
    refine lv_iload_n hx hb dX12_isAtWork_33 rfl (lv_at hl 2 rfl) ?_
    refine lv_icmp_le (tgt := 41) hx hb dX12_isAtWork_34 (by decide) (fun c8 => ?_) (fun c8 => ?_)
    · have h := h.1 c8
      refine lv_iconst (v := 0) hx hb dX12_isAtWork_41 (by decide) ?_
      exact rtM_z C0 hr hlk hR hS (by decide) h dX12_isAtWork_42
    · have h := h.2 c8
      refine lv_iconst (v := 1) hx hb dX12_isAtWork_37 (by decide) ?_
      refine lv_goto (tgt := 42) hx hb dX12_isAtWork_38 (by decide) ?_
      exact rtM_z C0 hr hlk hR hS (by decide) h dX12_isAtWork_42

def rm_X12_mayBegin : Room := { frames := 2, cells := 0, slots := 0, locals := 44 }
def B_X12_mayBegin_148 (a3 : Int32) (a4 : Int32) (a5 : Int32) (S : sSt) (k : Int32 → sSt → Prop) : Prop := ((a5 = 0 → k 0 S) ∧ (¬ a5 = 0 → ix (15 + a3) 10421 (fun j12 => (((S.1 1 0 j12) ≤ a4 → k 0 S) ∧ (¬ (S.1 1 0 j12) ≤ a4 → k 1 S)))))
set_option maxHeartbeats 4000000 in
set_option maxRecDepth 100000 in
theorem Bw_X12_mayBegin_148 {p : Program} {l : Launch} {e : Env} {s : State} {m : MethodId} {args : Array Value} {below : List Frame} {meth : Method} {c : Code} {D : va_G} {cy : Nat → ClassId} {b z : Nat} {tx : TX} (C0 : CallFix p m c cX12_mayBegin 7 s args TB RX12) (hr : meth.sig.returnType = (some .boolean)) (hlk : meth.locks = false) (hT : TxR tx s) {k : Int32 → sSt → Prop} : ∀ (a3 : Int32) (a4 : Int32) (a5 : Int32) (S : sSt) (H : Heap) (locs : List Loc) (ls : Array Slot) , B_X12_mayBegin_148 a3 a4 a5 S k → RelM D cy b z tx S s H → va_S (gA b 12 z) s.heap H locs → lv_has ls 7 [(0, .ref (b + adM 0 0)), (3, .int a3), (4, .int a4), (5, .int a5)] → W p l e rm_X12_mayBegin s m args below meth c H locs 0 0 (MQ below (PiM D cy b z tx k) args s 0 0 (gA b 12 z)) (F0 m 148 ls []) := by
  intro a3 a4 a5 S H locs ls h hR hS hl
  have hx := C0.1
  have hb := C0.2.1
  unfold B_X12_mayBegin_148 at h
  refine lv_iload hx hb dX12_mayBegin_148 (lv_at hl 3 rfl) ?_
  refine lv_if_eq (tgt := 171) hx hb dX12_mayBegin_150 (by decide) (fun c11 => ?_) (fun c11 => ?_)
  · have h := h.1 c11
    refine lv_iconst (v := 0) hx hb dX12_mayBegin_171 (by decide) ?_
    exact rtM_z C0 hr hlk hR hS (by decide) h dX12_mayBegin_172
  · have h := h.2 c11
    refine lv_iload hx hb dX12_mayBegin_153 (lv_at hl 2 rfl) ?_
    refine lv_aload_n hx hb dX12_mayBegin_155 rfl (lv_at hl 0 rfl) ?_
    refine gM_0_2 C0 hR Nat.zero_lt_one tbs_wsX120 mM9_7_79 dX12_mayBegin_156 ?_
    refine lv_bipush (v := 15) hx hb dX12_mayBegin_159 (by decide) ?_
    refine lv_iload_n hx hb dX12_mayBegin_161 rfl (lv_at hl 1 rfl) ?_
    refine lv_iadd hx hb dX12_mayBegin_162 ?_
    obtain ⟨j12, hj12, ej12, h⟩ := h
    refine lM_1 C0 hR Nat.zero_lt_one hj12 ej12 dX12_mayBegin_163 ?_
    refine lv_icmp_ge (tgt := 171) hx hb dX12_mayBegin_164 (by decide) (fun c13 => ?_) (fun c13 => ?_)
    · have h := h.1 c13
      refine lv_iconst (v := 0) hx hb dX12_mayBegin_171 (by decide) ?_
      exact rtM_z C0 hr hlk hR hS (by decide) h dX12_mayBegin_172
    · have h := h.2 c13
      refine lv_iconst (v := 1) hx hb dX12_mayBegin_167 (by decide) ?_
      refine lv_goto (tgt := 172) hx hb dX12_mayBegin_168 (by decide) ?_
      exact rtM_z C0 hr hlk hR hS (by decide) h dX12_mayBegin_172
def B_X12_mayBegin_142 (kk45 : Int32 → Int32 → Int32 → Int32 → Int32 → Int32 → sSt → Prop) (a1 : Int32) (a2 : Int32) (a3 : Int32) (a4 : Int32) (a5 : Int32) (a6 : Int32) (S : sSt) (k : Int32 → sSt → Prop) : Prop := ∀ x17 : Int32, x17 = a6 + 1 → kk45 a1 a2 a3 a4 a5 x17 S
set_option maxHeartbeats 4000000 in
set_option maxRecDepth 100000 in
theorem Bw_X12_mayBegin_142 {p : Program} {l : Launch} {e : Env} {s : State} {m : MethodId} {args : Array Value} {below : List Frame} {meth : Method} {c : Code} {D : va_G} {cy : Nat → ClassId} {b z : Nat} {tx : TX} (C0 : CallFix p m c cX12_mayBegin 7 s args TB RX12) (hr : meth.sig.returnType = (some .boolean)) (hlk : meth.locks = false) (hT : TxR tx s) {k : Int32 → sSt → Prop} {kk45 : Int32 → Int32 → Int32 → Int32 → Int32 → Int32 → sSt → Prop} (ih45 : ∀ (a1 : Int32) (a2 : Int32) (a3 : Int32) (a4 : Int32) (a5 : Int32) (a6 : Int32) (S : sSt) (H : Heap) (locs : List Loc) (ls : Array Slot) , kk45 a1 a2 a3 a4 a5 a6 S → RelM D cy b z tx S s H → va_S (gA b 12 z) s.heap H locs → lv_has ls 7 [(0, .ref (b + adM 0 0)), (1, .int a1), (2, .int a2), (3, .int a3), (4, .int a4), (5, .int a5), (6, .int a6)] → W p l e rm_X12_mayBegin s m args below meth c H locs 0 0 (MQ below (PiM D cy b z tx k) args s 0 0 (gA b 12 z)) (F0 m 45 ls [])) : ∀ (a1 : Int32) (a2 : Int32) (a3 : Int32) (a4 : Int32) (a5 : Int32) (a6 : Int32) (S : sSt) (H : Heap) (locs : List Loc) (ls : Array Slot) , B_X12_mayBegin_142 kk45 a1 a2 a3 a4 a5 a6 S k → RelM D cy b z tx S s H → va_S (gA b 12 z) s.heap H locs → lv_has ls 7 [(0, .ref (b + adM 0 0)), (1, .int a1), (2, .int a2), (3, .int a3), (4, .int a4), (5, .int a5), (6, .int a6)] → W p l e rm_X12_mayBegin s m args below meth c H locs 0 0 (MQ below (PiM D cy b z tx k) args s 0 0 (gA b 12 z)) (F0 m 142 ls []) := by
  intro a1 a2 a3 a4 a5 a6 S H locs ls h hR hS hl
  have hx := C0.1
  have hb := C0.2.1
  unfold B_X12_mayBegin_142 at h
  obtain ⟨x17, ex17⟩ : ∃ x17 : Int32, x17 = a6 + 1 := ⟨_, rfl⟩
  have h := h x17 ex17
  refine w_iinc (v0 := 1) (lv' := [(6, .int x17), (0, .ref (b + adM 0 0)), (1, .int a1), (2, .int a2), (3, .int a3), (4, .int a4), (5, .int a5)]) C0 dX12_mayBegin_142 hl (k := 6) rfl (by decide) (by decide) x17 ex17 rfl (fun ls hl => ?_)
  refine lv_goto (tgt := 45) hx hb dX12_mayBegin_145 (by decide) ?_
  exact ih45 a1 a2 a3 a4 a5 x17 S _ _ _  h hR hS (lv_sub hl [1, 2, 3, 4, 5, 6, 0] rfl)
def B_X12_mayBegin_139 (kk45 : Int32 → Int32 → Int32 → Int32 → Int32 → Int32 → sSt → Prop) (a1 : Int32) (a2 : Int32) (a3 : Int32) (a5 : Int32) (a6 : Int32) (t0 : Int32) (t1 : Int32) (S : sSt) (k : Int32 → sSt → Prop) : Prop := ∀ x26 : Int32, x26 = (t0 + t1) → B_X12_mayBegin_142 kk45 a1 a2 a3 x26 a5 a6 S k
set_option maxHeartbeats 4000000 in
set_option maxRecDepth 100000 in
theorem Bw_X12_mayBegin_139 {p : Program} {l : Launch} {e : Env} {s : State} {m : MethodId} {args : Array Value} {below : List Frame} {meth : Method} {c : Code} {D : va_G} {cy : Nat → ClassId} {b z : Nat} {tx : TX} (C0 : CallFix p m c cX12_mayBegin 7 s args TB RX12) (hr : meth.sig.returnType = (some .boolean)) (hlk : meth.locks = false) (hT : TxR tx s) {k : Int32 → sSt → Prop} {kk45 : Int32 → Int32 → Int32 → Int32 → Int32 → Int32 → sSt → Prop} (ih45 : ∀ (a1 : Int32) (a2 : Int32) (a3 : Int32) (a4 : Int32) (a5 : Int32) (a6 : Int32) (S : sSt) (H : Heap) (locs : List Loc) (ls : Array Slot) , kk45 a1 a2 a3 a4 a5 a6 S → RelM D cy b z tx S s H → va_S (gA b 12 z) s.heap H locs → lv_has ls 7 [(0, .ref (b + adM 0 0)), (1, .int a1), (2, .int a2), (3, .int a3), (4, .int a4), (5, .int a5), (6, .int a6)] → W p l e rm_X12_mayBegin s m args below meth c H locs 0 0 (MQ below (PiM D cy b z tx k) args s 0 0 (gA b 12 z)) (F0 m 45 ls [])) : ∀ (a1 : Int32) (a2 : Int32) (a3 : Int32) (a5 : Int32) (a6 : Int32) (t0 : Int32) (t1 : Int32) (S : sSt) (H : Heap) (locs : List Loc) (ls : Array Slot) , B_X12_mayBegin_139 kk45 a1 a2 a3 a5 a6 t0 t1 S k → RelM D cy b z tx S s H → va_S (gA b 12 z) s.heap H locs → lv_has ls 7 [(0, .ref (b + adM 0 0)), (1, .int a1), (2, .int a2), (3, .int a3), (5, .int a5), (6, .int a6)] → W p l e rm_X12_mayBegin s m args below meth c H locs 0 0 (MQ below (PiM D cy b z tx k) args s 0 0 (gA b 12 z)) (F0 m 139 ls [.int t1, .int t0]) := by
  intro a1 a2 a3 a5 a6 t0 t1 S H locs ls h hR hS hl
  have hx := C0.1
  have hb := C0.2.1
  unfold B_X12_mayBegin_139 at h
  refine lv_iadd hx hb dX12_mayBegin_139 ?_
  refine lv_topi (fun x26 ex26 => ?_)
  have h := h x26 ex26
  refine lv_istore (lv' := [(4, .int x26), (0, .ref (b + adM 0 0)), (1, .int a1), (2, .int a2), (3, .int a3), (5, .int a5), (6, .int a6)]) hx hb dX12_mayBegin_140 hl (by decide) rfl (fun ls hl => ?_)
  exact Bw_X12_mayBegin_142 C0 hr hlk hT ih45 a1 a2 a3 x26 a5 a6 S _ _ _ h hR hS (lv_sub hl [1, 2, 3, 4, 0, 5, 6] rfl)
def B_X12_mayBegin_120 (kk45 : Int32 → Int32 → Int32 → Int32 → Int32 → Int32 → sSt → Prop) (a1 : Int32) (a2 : Int32) (a3 : Int32) (a4 : Int32) (a6 : Int32) (t0 : Int32) (S : sSt) (k : Int32 → sSt → Prop) : Prop := F_X12_isAtWork a6 a2 S (fun r23 S24 => ((r23 = 0 → B_X12_mayBegin_139 kk45 a1 a2 a3 t0 a6 a4 0 S24 k) ∧ (¬ r23 = 0 → B_X12_mayBegin_139 kk45 a1 a2 a3 t0 a6 a4 1 S24 k)))
set_option maxHeartbeats 4000000 in
set_option maxRecDepth 100000 in
theorem Bw_X12_mayBegin_120 {p : Program} {l : Launch} {e : Env} {s : State} {m : MethodId} {args : Array Value} {below : List Frame} {meth : Method} {c : Code} {D : va_G} {cy : Nat → ClassId} {b z : Nat} {tx : TX} (C0 : CallFix p m c cX12_mayBegin 7 s args TB RX12) (hr : meth.sig.returnType = (some .boolean)) (hlk : meth.locks = false) (hT : TxR tx s) {k : Int32 → sSt → Prop} {kk45 : Int32 → Int32 → Int32 → Int32 → Int32 → Int32 → sSt → Prop} (ih45 : ∀ (a1 : Int32) (a2 : Int32) (a3 : Int32) (a4 : Int32) (a5 : Int32) (a6 : Int32) (S : sSt) (H : Heap) (locs : List Loc) (ls : Array Slot) , kk45 a1 a2 a3 a4 a5 a6 S → RelM D cy b z tx S s H → va_S (gA b 12 z) s.heap H locs → lv_has ls 7 [(0, .ref (b + adM 0 0)), (1, .int a1), (2, .int a2), (3, .int a3), (4, .int a4), (5, .int a5), (6, .int a6)] → W p l e rm_X12_mayBegin s m args below meth c H locs 0 0 (MQ below (PiM D cy b z tx k) args s 0 0 (gA b 12 z)) (F0 m 45 ls [])) : ∀ (a1 : Int32) (a2 : Int32) (a3 : Int32) (a4 : Int32) (a6 : Int32) (t0 : Int32) (S : sSt) (H : Heap) (locs : List Loc) (ls : Array Slot) , B_X12_mayBegin_120 kk45 a1 a2 a3 a4 a6 t0 S k → RelM D cy b z tx S s H → va_S (gA b 12 z) s.heap H locs → lv_has ls 7 [(0, .ref (b + adM 0 0)), (1, .int a1), (2, .int a2), (3, .int a3), (4, .int a4), (6, .int a6)] → W p l e rm_X12_mayBegin s m args below meth c H locs 0 0 (MQ below (PiM D cy b z tx k) args s 0 0 (gA b 12 z)) (F0 m 120 ls [.int t0]) := by
  intro a1 a2 a3 a4 a6 t0 S H locs ls h hR hS hl
  have hx := C0.1
  have hb := C0.2.1
  unfold B_X12_mayBegin_120 at h
  refine lv_istore (lv' := [(5, .int t0), (0, .ref (b + adM 0 0)), (1, .int a1), (2, .int a2), (3, .int a3), (4, .int a4), (6, .int a6)]) hx hb dX12_mayBegin_120 hl (by decide) rfl (fun ls hl => ?_)
  refine lv_iload hx hb dX12_mayBegin_122 (lv_at hl 5 rfl) ?_
  refine lv_aload_n hx hb dX12_mayBegin_124 rfl (lv_at hl 1 rfl) ?_
  refine lv_iload hx hb dX12_mayBegin_125 (lv_at hl 6 rfl) ?_
  refine lv_iload_n hx hb dX12_mayBegin_127 rfl (lv_at hl 3 rfl) ?_
  refine qM_Vi (As := [.int a6, .int a2]) (rest := [.int a4]) C0 (c_X12_isAtWork l h) (cwV 2 C0.2.2.2.2 (tbV mM9_9_161 ⟨mM9_9_163, mpM9_7_8, mM9_1_11, mM9_9_164⟩) rfl rfl rfl (by decide +kernel) ⟨Nat.le_of_ble_eq_true rfl, Nat.le_of_ble_eq_true rfl⟩) (rcM_0 hR Nat.zero_lt_one) hR hT hS rfl hl.1 rfl (Nat.le_of_ble_eq_true rfl) dX12_mayBegin_128 ⟨Nat.zero_le _, Nat.zero_le _⟩ (fun r23 S24 H locs h hR hS => ?_)
  refine lv_if_eq (tgt := 138) hx hb dX12_mayBegin_131 (by decide) (fun c25 => ?_) (fun c25 => ?_)
  · have h := h.1 c25
    refine lv_iconst (v := 0) hx hb dX12_mayBegin_138 (by decide) ?_
    exact Bw_X12_mayBegin_139 C0 hr hlk hT ih45 a1 a2 a3 t0 a6 a4 0 S24 _ _ _ h hR hS (lv_sub hl [1, 2, 3, 4, 0, 6] rfl)
  · have h := h.2 c25
    refine lv_iconst (v := 1) hx hb dX12_mayBegin_134 (by decide) ?_
    refine lv_goto (tgt := 139) hx hb dX12_mayBegin_135 (by decide) ?_
    exact Bw_X12_mayBegin_139 C0 hr hlk hT ih45 a1 a2 a3 t0 a6 a4 1 S24 _ _ _ h hR hS (lv_sub hl [1, 2, 3, 4, 0, 6] rfl)
def B_X12_mayBegin_115 (kk45 : Int32 → Int32 → Int32 → Int32 → Int32 → Int32 → sSt → Prop) (a1 : Int32) (a2 : Int32) (a3 : Int32) (a4 : Int32) (a6 : Int32) (S : sSt) (k : Int32 → sSt → Prop) : Prop := B_X12_mayBegin_120 kk45 a1 a2 a3 a4 a6 1 S k
set_option maxHeartbeats 4000000 in
set_option maxRecDepth 100000 in
theorem Bw_X12_mayBegin_115 {p : Program} {l : Launch} {e : Env} {s : State} {m : MethodId} {args : Array Value} {below : List Frame} {meth : Method} {c : Code} {D : va_G} {cy : Nat → ClassId} {b z : Nat} {tx : TX} (C0 : CallFix p m c cX12_mayBegin 7 s args TB RX12) (hr : meth.sig.returnType = (some .boolean)) (hlk : meth.locks = false) (hT : TxR tx s) {k : Int32 → sSt → Prop} {kk45 : Int32 → Int32 → Int32 → Int32 → Int32 → Int32 → sSt → Prop} (ih45 : ∀ (a1 : Int32) (a2 : Int32) (a3 : Int32) (a4 : Int32) (a5 : Int32) (a6 : Int32) (S : sSt) (H : Heap) (locs : List Loc) (ls : Array Slot) , kk45 a1 a2 a3 a4 a5 a6 S → RelM D cy b z tx S s H → va_S (gA b 12 z) s.heap H locs → lv_has ls 7 [(0, .ref (b + adM 0 0)), (1, .int a1), (2, .int a2), (3, .int a3), (4, .int a4), (5, .int a5), (6, .int a6)] → W p l e rm_X12_mayBegin s m args below meth c H locs 0 0 (MQ below (PiM D cy b z tx k) args s 0 0 (gA b 12 z)) (F0 m 45 ls [])) : ∀ (a1 : Int32) (a2 : Int32) (a3 : Int32) (a4 : Int32) (a6 : Int32) (S : sSt) (H : Heap) (locs : List Loc) (ls : Array Slot) , B_X12_mayBegin_115 kk45 a1 a2 a3 a4 a6 S k → RelM D cy b z tx S s H → va_S (gA b 12 z) s.heap H locs → lv_has ls 7 [(0, .ref (b + adM 0 0)), (1, .int a1), (2, .int a2), (3, .int a3), (4, .int a4), (6, .int a6)] → W p l e rm_X12_mayBegin s m args below meth c H locs 0 0 (MQ below (PiM D cy b z tx k) args s 0 0 (gA b 12 z)) (F0 m 115 ls []) := by
  intro a1 a2 a3 a4 a6 S H locs ls h hR hS hl
  have hx := C0.1
  have hb := C0.2.1
  unfold B_X12_mayBegin_115 at h
  refine lv_iconst (v := 1) hx hb dX12_mayBegin_115 (by decide) ?_
  refine lv_goto (tgt := 120) hx hb dX12_mayBegin_116 (by decide) ?_
  exact Bw_X12_mayBegin_120 C0 hr hlk hT ih45 a1 a2 a3 a4 a6 1 S _ _ _ h hR hS (lv_sub hl [0, 1, 2, 3, 4, 5] rfl)
def Bb_X12_mayBegin_45 (kk45 : Int32 → Int32 → Int32 → Int32 → Int32 → Int32 → sSt → Prop) (a1 : Int32) (a2 : Int32) (a3 : Int32) (a4 : Int32) (a5 : Int32) (a6 : Int32) (S : sSt) (k : Int32 → sSt → Prop) : Prop := ((24 ≤ a6 → B_X12_mayBegin_148 a3 a4 a5 S k) ∧ (¬ 24 ≤ a6 → ((a5 = 0 → B_X12_mayBegin_148 a3 a4 a5 S k) ∧ (¬ a5 = 0 → ix a6 24 (fun j15 => (((S.1 11 0 j15) = (-1) → B_X12_mayBegin_142 kk45 a1 a2 a3 a4 a5 a6 S k) ∧ (¬ (S.1 11 0 j15) = (-1) → F_X12_jobAt a6 3 S (fun r18 S19 => ix (r18 + 0) 10421 (fun j20 => (((S19.1 1 0 j20) = a3 → ((¬ (S19.1 11 0 j15) = 1000000 → B_X12_mayBegin_115 kk45 a1 a2 a3 a4 a6 S19 k) ∧ ((S19.1 11 0 j15) = 1000000 → F_X12_numberOf a6 S19 (fun r27 S28 => F_X12_numberOf a1 S28 (fun r29 S30 => ((r27 < r29 → B_X12_mayBegin_120 kk45 a1 a2 a3 a4 a6 0 S30 k) ∧ (¬ r27 < r29 → B_X12_mayBegin_115 kk45 a1 a2 a3 a4 a6 S30 k))))))) ∧ (¬ (S19.1 1 0 j20) = a3 → B_X12_mayBegin_142 kk45 a1 a2 a3 a4 a5 a6 S19 k)))))))))))
set_option maxHeartbeats 4000000 in
set_option maxRecDepth 100000 in
theorem Bbw_X12_mayBegin_45 {p : Program} {l : Launch} {e : Env} {s : State} {m : MethodId} {args : Array Value} {below : List Frame} {meth : Method} {c : Code} {D : va_G} {cy : Nat → ClassId} {b z : Nat} {tx : TX} (C0 : CallFix p m c cX12_mayBegin 7 s args TB RX12) (hr : meth.sig.returnType = (some .boolean)) (hlk : meth.locks = false) (hT : TxR tx s) {k : Int32 → sSt → Prop} {kk45 : Int32 → Int32 → Int32 → Int32 → Int32 → Int32 → sSt → Prop} (ih45 : ∀ (a1 : Int32) (a2 : Int32) (a3 : Int32) (a4 : Int32) (a5 : Int32) (a6 : Int32) (S : sSt) (H : Heap) (locs : List Loc) (ls : Array Slot) , kk45 a1 a2 a3 a4 a5 a6 S → RelM D cy b z tx S s H → va_S (gA b 12 z) s.heap H locs → lv_has ls 7 [(0, .ref (b + adM 0 0)), (1, .int a1), (2, .int a2), (3, .int a3), (4, .int a4), (5, .int a5), (6, .int a6)] → W p l e rm_X12_mayBegin s m args below meth c H locs 0 0 (MQ below (PiM D cy b z tx k) args s 0 0 (gA b 12 z)) (F0 m 45 ls [])) : ∀ (a1 : Int32) (a2 : Int32) (a3 : Int32) (a4 : Int32) (a5 : Int32) (a6 : Int32) (S : sSt) (H : Heap) (locs : List Loc) (ls : Array Slot) , Bb_X12_mayBegin_45 kk45 a1 a2 a3 a4 a5 a6 S k → RelM D cy b z tx S s H → va_S (gA b 12 z) s.heap H locs → lv_has ls 7 [(0, .ref (b + adM 0 0)), (1, .int a1), (2, .int a2), (3, .int a3), (4, .int a4), (5, .int a5), (6, .int a6)] → W p l e rm_X12_mayBegin s m args below meth c H locs 0 0 (MQ below (PiM D cy b z tx k) args s 0 0 (gA b 12 z)) (F0 m 45 ls []) := by
  intro a1 a2 a3 a4 a5 a6 S H locs ls h hR hS hl
  have hx := C0.1
  have hb := C0.2.1
  unfold Bb_X12_mayBegin_45 at h
  refine lv_iload hx hb dX12_mayBegin_45 (lv_at hl 6 rfl) ?_
  refine lv_bipush (v := 24) hx hb dX12_mayBegin_47 (by decide) ?_
  refine lv_icmp_ge (tgt := 148) hx hb dX12_mayBegin_49 (by decide) (fun c10 => ?_) (fun c10 => ?_)
  · have h := h.1 c10
    exact Bw_X12_mayBegin_148 C0 hr hlk hT a3 a4 a5 S _ _ _ h hR hS (lv_sub hl [0, 3, 4, 5] rfl)
  · have h := h.2 c10
    refine lv_iload hx hb dX12_mayBegin_52 (lv_at hl 5 rfl) ?_
    refine lv_if_eq (tgt := 148) hx hb dX12_mayBegin_54 (by decide) (fun c14 => ?_) (fun c14 => ?_)
    · have h := h.1 c14
      exact Bw_X12_mayBegin_148 C0 hr hlk hT a3 a4 a5 S _ _ _ h hR hS (lv_sub hl [0, 3, 4, 5] rfl)
    · have h := h.2 c14
      refine lv_aload_n hx hb dX12_mayBegin_57 rfl (lv_at hl 0 rfl) ?_
      refine gM_0_18 C0 hR Nat.zero_lt_one tbs_wsX120 mM9_7_95 dX12_mayBegin_58 ?_
      refine lv_iload hx hb dX12_mayBegin_61 (lv_at hl 6 rfl) ?_
      obtain ⟨j15, hj15, ej15, h⟩ := h
      refine lM_11 C0 hR Nat.zero_lt_one hj15 ej15 dX12_mayBegin_63 ?_
      refine lv_iconst (v := (-1)) hx hb dX12_mayBegin_64 (by decide) ?_
      refine lv_icmp_eq (tgt := 142) hx hb dX12_mayBegin_65 (by decide) (fun c16 => ?_) (fun c16 => ?_)
      · have h := h.1 c16
        exact Bw_X12_mayBegin_142 C0 hr hlk hT ih45 a1 a2 a3 a4 a5 a6 S _ _ _ h hR hS (lv_sub hl [0, 1, 2, 3, 4, 5, 6] rfl)
      · have h := h.2 c16
        refine lv_aload_n hx hb dX12_mayBegin_68 rfl (lv_at hl 0 rfl) ?_
        refine gM_0_2 C0 hR Nat.zero_lt_one tbs_wsX120 mM9_7_79 dX12_mayBegin_69 ?_
        refine lv_iload hx hb dX12_mayBegin_72 (lv_at hl 6 rfl) ?_
        refine lv_iconst (v := 3) hx hb dX12_mayBegin_74 (by decide) ?_
        refine qM_Si (As := [.int a6, .int 3]) (rest := [.ref (b + adM 1 0)]) C0 (c_X12_jobAt l h) (va_cwS 2 C0.2.2.2.2 (tbS mM9_7_74 ⟨mM9_7_75, mM9_1_11, mM9_7_76⟩) rfl rfl rfl (by decide +kernel) ⟨Nat.le_of_ble_eq_true rfl, Nat.le_of_ble_eq_true rfl⟩) hR hT hS rfl hl.1 rfl (Nat.le_of_ble_eq_true rfl) dX12_mayBegin_75 ⟨Nat.zero_le _, Nat.zero_le _⟩ (fun r18 S19 H locs h hR hS => ?_)
        refine lv_iconst (v := 0) hx hb dX12_mayBegin_78 (by decide) ?_
        refine lv_iadd hx hb dX12_mayBegin_79 ?_
        obtain ⟨j20, hj20, ej20, h⟩ := h
        refine lM_1 C0 hR Nat.zero_lt_one hj20 ej20 dX12_mayBegin_80 ?_
        refine lv_iload_n hx hb dX12_mayBegin_81 rfl (lv_at hl 3 rfl) ?_
        refine lv_icmp_eq (tgt := 88) hx hb dX12_mayBegin_82 (by decide) (fun c21 => ?_) (fun c21 => ?_)
        · have h := h.1 c21
          refine lv_aload_n hx hb dX12_mayBegin_88 rfl (lv_at hl 0 rfl) ?_
          refine gM_0_18 C0 hR Nat.zero_lt_one tbs_wsX120 mM9_7_95 dX12_mayBegin_89 ?_
          refine lv_iload hx hb dX12_mayBegin_92 (lv_at hl 6 rfl) ?_
          refine lM_11 C0 hR Nat.zero_lt_one hj15 ej15 dX12_mayBegin_94 ?_
          refine lv_ldcw (v := 1000000) hx hb C0.2.2.2.1 (C0.2.2.2.2 _ mM9_9_11) dX12_mayBegin_95 ?_
          refine lv_icmp_ne (tgt := 115) hx hb dX12_mayBegin_98 (by decide) (fun c22 => ?_) (fun c22 => ?_)
          · have h := h.1 c22
            exact Bw_X12_mayBegin_115 C0 hr hlk hT ih45 a1 a2 a3 a4 a6 S19 _ _ _ h hR hS (lv_sub hl [0, 1, 2, 3, 4, 6] rfl)
          · have h := h.2 c22
            refine lv_aload_n hx hb dX12_mayBegin_101 rfl (lv_at hl 0 rfl) ?_
            refine lv_iload hx hb dX12_mayBegin_102 (lv_at hl 6 rfl) ?_
            refine qM_Vi (As := [.int a6]) (rest := []) C0 (c_X12_numberOf l h) (cwV 1 C0.2.2.2.2 (tbV mM9_7_202 ⟨mM9_7_204, mpM9_3_3, mM9_1_11, mM9_7_205⟩) rfl rfl rfl (by decide +kernel) ⟨Nat.le_of_ble_eq_true rfl, Nat.le_of_ble_eq_true rfl⟩) (rcM_0 hR Nat.zero_lt_one) hR hT hS rfl hl.1 rfl (Nat.le_of_ble_eq_true rfl) dX12_mayBegin_104 ⟨Nat.zero_le _, Nat.zero_le _⟩ (fun r27 S28 H locs h hR hS => ?_)
            refine lv_aload_n hx hb dX12_mayBegin_107 rfl (lv_at hl 0 rfl) ?_
            refine lv_iload_n hx hb dX12_mayBegin_108 rfl (lv_at hl 1 rfl) ?_
            refine qM_Vi (As := [.int a1]) (rest := [.int r27]) C0 (c_X12_numberOf l h) (cwV 1 C0.2.2.2.2 (tbV mM9_7_202 ⟨mM9_7_204, mpM9_3_3, mM9_1_11, mM9_7_205⟩) rfl rfl rfl (by decide +kernel) ⟨Nat.le_of_ble_eq_true rfl, Nat.le_of_ble_eq_true rfl⟩) (rcM_0 hR Nat.zero_lt_one) hR hT hS rfl hl.1 rfl (Nat.le_of_ble_eq_true rfl) dX12_mayBegin_109 ⟨Nat.zero_le _, Nat.zero_le _⟩ (fun r29 S30 H locs h hR hS => ?_)
            refine lv_icmp_lt (tgt := 119) hx hb dX12_mayBegin_112 (by decide) (fun c31 => ?_) (fun c31 => ?_)
            · have h := h.1 c31
              refine lv_iconst (v := 0) hx hb dX12_mayBegin_119 (by decide) ?_
              exact Bw_X12_mayBegin_120 C0 hr hlk hT ih45 a1 a2 a3 a4 a6 0 S30 _ _ _ h hR hS (lv_sub hl [0, 1, 2, 3, 4, 6] rfl)
            · have h := h.2 c31
              exact Bw_X12_mayBegin_115 C0 hr hlk hT ih45 a1 a2 a3 a4 a6 S30 _ _ _ h hR hS (lv_sub hl [0, 1, 2, 3, 4, 6] rfl)
        · have h := h.2 c21
          refine lv_goto (tgt := 142) hx hb dX12_mayBegin_85 (by decide) ?_
          exact Bw_X12_mayBegin_142 C0 hr hlk hT ih45 a1 a2 a3 a4 a5 a6 S19 _ _ _ h hR hS (lv_sub hl [0, 1, 2, 3, 4, 5, 6] rfl)
def B_X12_mayBegin_45 (n9 : Nat) (a1 : Int32) (a2 : Int32) (a3 : Int32) (a4 : Int32) (a5 : Int32) (a6 : Int32) (S : sSt) (k : Int32 → sSt → Prop) : Prop := (Nat.rec (motive := fun _ => Int32 → Int32 → Int32 → Int32 → Int32 → Int32 → sSt → Prop) (fun _ _ _ _ _ _ _ => False) (fun _ r9 => fun a1 a2 a3 a4 a5 a6 S => Bb_X12_mayBegin_45 r9 a1 a2 a3 a4 a5 a6 S k) n9 : Int32 → Int32 → Int32 → Int32 → Int32 → Int32 → sSt → Prop) a1 a2 a3 a4 a5 a6 S
theorem B_X12_mayBegin_45_s (n9 : Nat) (a1 : Int32) (a2 : Int32) (a3 : Int32) (a4 : Int32) (a5 : Int32) (a6 : Int32) (S : sSt) (k : Int32 → sSt → Prop) : B_X12_mayBegin_45 (n9 + 1) a1 a2 a3 a4 a5 a6 S k = Bb_X12_mayBegin_45 (fun a1 a2 a3 a4 a5 a6 S => B_X12_mayBegin_45 n9 a1 a2 a3 a4 a5 a6 S k) a1 a2 a3 a4 a5 a6 S k := rfl
set_option maxHeartbeats 4000000 in
set_option maxRecDepth 100000 in
theorem Bw_X12_mayBegin_45 {p : Program} {l : Launch} {e : Env} {s : State} {m : MethodId} {args : Array Value} {below : List Frame} {meth : Method} {c : Code} {D : va_G} {cy : Nat → ClassId} {b z : Nat} {tx : TX} (C0 : CallFix p m c cX12_mayBegin 7 s args TB RX12) (hr : meth.sig.returnType = (some .boolean)) (hlk : meth.locks = false) (hT : TxR tx s) {k : Int32 → sSt → Prop} : ∀ (n9 : Nat), ∀ (a1 : Int32) (a2 : Int32) (a3 : Int32) (a4 : Int32) (a5 : Int32) (a6 : Int32) (S : sSt) (H : Heap) (locs : List Loc) (ls : Array Slot) , B_X12_mayBegin_45 n9 a1 a2 a3 a4 a5 a6 S k → RelM D cy b z tx S s H → va_S (gA b 12 z) s.heap H locs → lv_has ls 7 [(0, .ref (b + adM 0 0)), (1, .int a1), (2, .int a2), (3, .int a3), (4, .int a4), (5, .int a5), (6, .int a6)] → W p l e rm_X12_mayBegin s m args below meth c H locs 0 0 (MQ below (PiM D cy b z tx k) args s 0 0 (gA b 12 z)) (F0 m 45 ls []) := by
  intro n9
  induction n9 with
  | zero => intro a1 a2 a3 a4 a5 a6 S H locs ls h; exact h.elim
  | succ n9 ih =>
    intro a1 a2 a3 a4 a5 a6 S H locs ls h hR hS hl
    exact Bbw_X12_mayBegin_45 C0 hr hlk hT ih a1 a2 a3 a4 a5 a6 S H locs ls h hR hS hl
def F_X12_mayBegin (a1 : Int32) (a2 : Int32) (S : sSt) (k : Int32 → sSt → Prop) : Prop := ix a1 24 (fun j1 => ((¬ (S.1 11 0 j1) = 1000000 → k 0 S) ∧ ((S.1 11 0 j1) = 1000000 → F_X12_dueOf a1 S (fun r3 S4 => ((r3 ≤ a2 → F_X12_jobAt a1 3 S4 (fun r6 S7 => ix (r6 + 0) 10421 (fun j8 => ∀ x9 : Int32, x9 = (S7.1 1 0 j8) → B_X12_mayBegin_45 fuel a1 a2 x9 0 1 0 S7 k))) ∧ (¬ r3 ≤ a2 → k 0 S4))))))
set_option maxHeartbeats 4000000 in
set_option maxRecDepth 100000 in
theorem c_X12_mayBegin (l : Launch) {D : va_G} {cy : Nat → ClassId} {b z : Nat} {tx : TX} {a1 : Int32} {a2 : Int32} {S : sSt} {k : Int32 → sSt → Prop} (h : F_X12_mayBegin a1 a2 S k) : Met l yX12_mayBegin (Cond.code yX12_mayBegin cX12_mayBegin 7 (some .boolean) :: TB) rm_X12_mayBegin (va_Pc [.ref (b + adM 0 0), .int a1, .int a2] (fun U => RelM D cy b z tx S U U.heap ∧ TxR tx U)) (PiM D cy b z tx k) 0 0 (gA b 12 z) := by
  refine Met.ofW (cc := cX12_mayBegin) (maxL := 7) (ret := (some .boolean)) (by decide) rfl ?_
  intro p e s m args below meth c s₁ B hml hv
  obtain ⟨rfl, hR, hT⟩ := hv
  have C0 : CallFix p m c cX12_mayBegin 7 s _ TB RX12 := ⟨B.exec, B.bytes, hml, findClass_of_methodNamed B.named, fun w hw => atoms_spec B.pre w (List.mem_cons_of_mem _ hw)⟩
  have hr := B.returns
  have hlk := B.notSynchronized
  have hx := C0.1
  have hb := C0.2.1
  have hS : va_S (gA b 12 z) s.heap s.heap [] := va_S.rf
  have hl := lv_entry ([.ref (b + adM 0 0), .int a1, .int a2]) (n := 7) (Nat.le_of_ble_eq_true rfl)
  rw [lg_entry_eq]
  generalize (lg_sl ([.ref (b + adM 0 0), .int a1, .int a2]) ++ List.replicate (7 - (lg_sl ([.ref (b + adM 0 0), .int a1, .int a2])).length) Slot.unset).toArray = ls at hl ⊢
  have hl : lv_has ls 7 [(0, .ref (b + adM 0 0)), (1, .int a1), (2, .int a2)] := hl
  show W p l e rm_X12_mayBegin s m _ below meth c s.heap [] 0 0 (MQ below (PiM D cy b z tx k) _ s 0 0 (gA b 12 z)) _
  unfold F_X12_mayBegin at h
  refine lv_aload_n hx hb dX12_mayBegin_0 rfl (lv_at hl 0 rfl) ?_
  refine gM_0_18 C0 hR Nat.zero_lt_one tbs_wsX120 mM9_7_95 dX12_mayBegin_1 ?_
  refine lv_iload_n hx hb dX12_mayBegin_4 rfl (lv_at hl 1 rfl) ?_
  obtain ⟨j1, hj1, ej1, h⟩ := h
  refine lM_11 C0 hR Nat.zero_lt_one hj1 ej1 dX12_mayBegin_5 ?_
  refine lv_ldcw (v := 1000000) hx hb C0.2.2.2.1 (C0.2.2.2.2 _ mM9_9_11) dX12_mayBegin_6 ?_
  refine lv_icmp_ne (tgt := 21) hx hb dX12_mayBegin_9 (by decide) (fun c2 => ?_) (fun c2 => ?_)
  · have h := h.1 c2
    refine lv_iconst (v := 0) hx hb dX12_mayBegin_21 (by decide) ?_
    exact rtM_z C0 hr hlk hR hS (by decide) h dX12_mayBegin_22
  · have h := h.2 c2
    refine lv_aload_n hx hb dX12_mayBegin_12 rfl (lv_at hl 0 rfl) ?_
    refine lv_iload_n hx hb dX12_mayBegin_13 rfl (lv_at hl 1 rfl) ?_
    refine qM_Vi (As := [.int a1]) (rest := []) C0 (c_X12_dueOf l h) (cwV 1 C0.2.2.2.2 (tbV mM9_9_157 ⟨mM9_9_159, mpM9_7_7, mM9_1_11, mM9_9_160⟩) rfl rfl rfl (by decide +kernel) ⟨Nat.le_of_ble_eq_true rfl, Nat.le_of_ble_eq_true rfl⟩) (rcM_0 hR Nat.zero_lt_one) hR hT hS rfl hl.1 rfl (Nat.le_of_ble_eq_true rfl) dX12_mayBegin_14 ⟨Nat.zero_le _, Nat.zero_le _⟩ (fun r3 S4 H locs h hR hS => ?_)
    refine lv_iload_n hx hb dX12_mayBegin_17 rfl (lv_at hl 2 rfl) ?_
    refine lv_icmp_le (tgt := 23) hx hb dX12_mayBegin_18 (by decide) (fun c5 => ?_) (fun c5 => ?_)
    · have h := h.1 c5
      refine lv_aload_n hx hb dX12_mayBegin_23 rfl (lv_at hl 0 rfl) ?_
      refine gM_0_2 C0 hR Nat.zero_lt_one tbs_wsX120 mM9_7_79 dX12_mayBegin_24 ?_
      refine lv_iload_n hx hb dX12_mayBegin_27 rfl (lv_at hl 1 rfl) ?_
      refine lv_iconst (v := 3) hx hb dX12_mayBegin_28 (by decide) ?_
      refine qM_Si (As := [.int a1, .int 3]) (rest := [.ref (b + adM 1 0)]) C0 (c_X12_jobAt l h) (va_cwS 2 C0.2.2.2.2 (tbS mM9_7_74 ⟨mM9_7_75, mM9_1_11, mM9_7_76⟩) rfl rfl rfl (by decide +kernel) ⟨Nat.le_of_ble_eq_true rfl, Nat.le_of_ble_eq_true rfl⟩) hR hT hS rfl hl.1 rfl (Nat.le_of_ble_eq_true rfl) dX12_mayBegin_29 ⟨Nat.zero_le _, Nat.zero_le _⟩ (fun r6 S7 H locs h hR hS => ?_)
      refine lv_iconst (v := 0) hx hb dX12_mayBegin_32 (by decide) ?_
      refine lv_iadd hx hb dX12_mayBegin_33 ?_
      obtain ⟨j8, hj8, ej8, h⟩ := h
      refine lM_1 C0 hR Nat.zero_lt_one hj8 ej8 dX12_mayBegin_34 ?_
      refine lv_topi (fun x9 ex9 => ?_)
      have h := h x9 ex9
      refine lv_istore_n (lv' := [(3, .int x9), (0, .ref (b + adM 0 0)), (1, .int a1), (2, .int a2)]) hx hb dX12_mayBegin_35 rfl hl (by decide) rfl (fun ls hl => ?_)
      refine lv_iconst (v := 0) hx hb dX12_mayBegin_36 (by decide) ?_
      refine lv_istore (lv' := [(4, .int 0), (3, .int x9), (0, .ref (b + adM 0 0)), (1, .int a1), (2, .int a2)]) hx hb dX12_mayBegin_37 hl (by decide) rfl (fun ls hl => ?_)
      refine lv_iconst (v := 1) hx hb dX12_mayBegin_39 (by decide) ?_
      refine lv_istore (lv' := [(5, .int 1), (4, .int 0), (3, .int x9), (0, .ref (b + adM 0 0)), (1, .int a1), (2, .int a2)]) hx hb dX12_mayBegin_40 hl (by decide) rfl (fun ls hl => ?_)
      refine lv_iconst (v := 0) hx hb dX12_mayBegin_42 (by decide) ?_
      refine lv_istore (lv' := [(6, .int 0), (5, .int 1), (4, .int 0), (3, .int x9), (0, .ref (b + adM 0 0)), (1, .int a1), (2, .int a2)]) hx hb dX12_mayBegin_43 hl (by decide) rfl (fun ls hl => ?_)
      exact Bw_X12_mayBegin_45 C0 hr hlk hT fuel a1 a2 x9 0 1 0 S7 _ _ _ h hR hS (lv_sub hl [4, 5, 6, 3, 2, 1, 0] rfl)
    · have h := h.2 c5
      refine lv_iconst (v := 0) hx hb dX12_mayBegin_21 (by decide) ?_
      exact rtM_z C0 hr hlk hR hS (by decide) h dX12_mayBegin_22

def rm_X12_nextToBegin : Room := { frames := 3, cells := 0, slots := 0, locals := 70 }
def B_X12_nextToBegin_39 (kk4 : Int32 → Int32 → Int32 → sSt → Prop) (a1 : Int32) (a2 : Int32) (a3 : Int32) (S : sSt) (k : Int32 → sSt → Prop) : Prop := ∀ x5 : Int32, x5 = a3 + 1 → kk4 a1 a2 x5 S
set_option maxHeartbeats 4000000 in
set_option maxRecDepth 100000 in
theorem Bw_X12_nextToBegin_39 {p : Program} {l : Launch} {e : Env} {s : State} {m : MethodId} {args : Array Value} {below : List Frame} {meth : Method} {c : Code} {D : va_G} {cy : Nat → ClassId} {b z : Nat} {tx : TX} (C0 : CallFix p m c cX12_nextToBegin 4 s args TB RX12) (hr : meth.sig.returnType = (some .int)) (hlk : meth.locks = false) (hT : TxR tx s) {k : Int32 → sSt → Prop} {kk4 : Int32 → Int32 → Int32 → sSt → Prop} (ih4 : ∀ (a1 : Int32) (a2 : Int32) (a3 : Int32) (S : sSt) (H : Heap) (locs : List Loc) (ls : Array Slot) , kk4 a1 a2 a3 S → RelM D cy b z tx S s H → va_S (gA b 12 z) s.heap H locs → lv_has ls 4 [(0, .ref (b + adM 0 0)), (1, .int a1), (2, .int a2), (3, .int a3)] → W p l e rm_X12_nextToBegin s m args below meth c H locs 0 0 (MQ below (PiM D cy b z tx k) args s 0 0 (gA b 12 z)) (F0 m 4 ls [])) : ∀ (a1 : Int32) (a2 : Int32) (a3 : Int32) (S : sSt) (H : Heap) (locs : List Loc) (ls : Array Slot) , B_X12_nextToBegin_39 kk4 a1 a2 a3 S k → RelM D cy b z tx S s H → va_S (gA b 12 z) s.heap H locs → lv_has ls 4 [(0, .ref (b + adM 0 0)), (1, .int a1), (2, .int a2), (3, .int a3)] → W p l e rm_X12_nextToBegin s m args below meth c H locs 0 0 (MQ below (PiM D cy b z tx k) args s 0 0 (gA b 12 z)) (F0 m 39 ls []) := by
  intro a1 a2 a3 S H locs ls h hR hS hl
  have hx := C0.1
  have hb := C0.2.1
  unfold B_X12_nextToBegin_39 at h
  obtain ⟨x5, ex5⟩ : ∃ x5 : Int32, x5 = a3 + 1 := ⟨_, rfl⟩
  have h := h x5 ex5
  refine w_iinc (v0 := 1) (lv' := [(3, .int x5), (0, .ref (b + adM 0 0)), (1, .int a1), (2, .int a2)]) C0 dX12_nextToBegin_39 hl (k := 3) rfl (by decide) (by decide) x5 ex5 rfl (fun ls hl => ?_)
  refine lv_goto (tgt := 4) hx hb dX12_nextToBegin_42 (by decide) ?_
  exact ih4 a1 a2 x5 S _ _ _  h hR hS (lv_sub hl [1, 2, 3, 0] rfl)
def B_X12_nextToBegin_37 (kk4 : Int32 → Int32 → Int32 → sSt → Prop) (a1 : Int32) (a3 : Int32) (S : sSt) (k : Int32 → sSt → Prop) : Prop := B_X12_nextToBegin_39 kk4 a1 a3 a3 S k
set_option maxHeartbeats 4000000 in
set_option maxRecDepth 100000 in
theorem Bw_X12_nextToBegin_37 {p : Program} {l : Launch} {e : Env} {s : State} {m : MethodId} {args : Array Value} {below : List Frame} {meth : Method} {c : Code} {D : va_G} {cy : Nat → ClassId} {b z : Nat} {tx : TX} (C0 : CallFix p m c cX12_nextToBegin 4 s args TB RX12) (hr : meth.sig.returnType = (some .int)) (hlk : meth.locks = false) (hT : TxR tx s) {k : Int32 → sSt → Prop} {kk4 : Int32 → Int32 → Int32 → sSt → Prop} (ih4 : ∀ (a1 : Int32) (a2 : Int32) (a3 : Int32) (S : sSt) (H : Heap) (locs : List Loc) (ls : Array Slot) , kk4 a1 a2 a3 S → RelM D cy b z tx S s H → va_S (gA b 12 z) s.heap H locs → lv_has ls 4 [(0, .ref (b + adM 0 0)), (1, .int a1), (2, .int a2), (3, .int a3)] → W p l e rm_X12_nextToBegin s m args below meth c H locs 0 0 (MQ below (PiM D cy b z tx k) args s 0 0 (gA b 12 z)) (F0 m 4 ls [])) : ∀ (a1 : Int32) (a3 : Int32) (S : sSt) (H : Heap) (locs : List Loc) (ls : Array Slot) , B_X12_nextToBegin_37 kk4 a1 a3 S k → RelM D cy b z tx S s H → va_S (gA b 12 z) s.heap H locs → lv_has ls 4 [(0, .ref (b + adM 0 0)), (1, .int a1), (3, .int a3)] → W p l e rm_X12_nextToBegin s m args below meth c H locs 0 0 (MQ below (PiM D cy b z tx k) args s 0 0 (gA b 12 z)) (F0 m 37 ls []) := by
  intro a1 a3 S H locs ls h hR hS hl
  have hx := C0.1
  have hb := C0.2.1
  unfold B_X12_nextToBegin_37 at h
  refine lv_iload_n hx hb dX12_nextToBegin_37 rfl (lv_at hl 2 rfl) ?_
  refine lv_istore_n (lv' := [(2, .int a3), (0, .ref (b + adM 0 0)), (1, .int a1), (3, .int a3)]) hx hb dX12_nextToBegin_38 rfl hl (by decide) rfl (fun ls hl => ?_)
  exact Bw_X12_nextToBegin_39 C0 hr hlk hT ih4 a1 a3 a3 S _ _ _ h hR hS (lv_sub hl [1, 2, 0, 3] rfl)
def Bb_X12_nextToBegin_4 (kk4 : Int32 → Int32 → Int32 → sSt → Prop) (a1 : Int32) (a2 : Int32) (a3 : Int32) (S : sSt) (k : Int32 → sSt → Prop) : Prop := ((24 ≤ a3 → k a2 S) ∧ (¬ 24 ≤ a3 → F_X12_mayBegin a3 a1 S (fun r2 S3 => ((r2 = 0 → B_X12_nextToBegin_39 kk4 a1 a2 a3 S3 k) ∧ (¬ r2 = 0 → ((a2 = (-1) → B_X12_nextToBegin_37 kk4 a1 a3 S3 k) ∧ (¬ a2 = (-1) → F_X12_numberOf a3 S3 (fun r7 S8 => F_X12_numberOf a2 S8 (fun r9 S10 => ((r9 ≤ r7 → B_X12_nextToBegin_39 kk4 a1 a2 a3 S10 k) ∧ (¬ r9 ≤ r7 → B_X12_nextToBegin_37 kk4 a1 a3 S10 k)))))))))))
set_option maxHeartbeats 4000000 in
set_option maxRecDepth 100000 in
theorem Bbw_X12_nextToBegin_4 {p : Program} {l : Launch} {e : Env} {s : State} {m : MethodId} {args : Array Value} {below : List Frame} {meth : Method} {c : Code} {D : va_G} {cy : Nat → ClassId} {b z : Nat} {tx : TX} (C0 : CallFix p m c cX12_nextToBegin 4 s args TB RX12) (hr : meth.sig.returnType = (some .int)) (hlk : meth.locks = false) (hT : TxR tx s) {k : Int32 → sSt → Prop} {kk4 : Int32 → Int32 → Int32 → sSt → Prop} (ih4 : ∀ (a1 : Int32) (a2 : Int32) (a3 : Int32) (S : sSt) (H : Heap) (locs : List Loc) (ls : Array Slot) , kk4 a1 a2 a3 S → RelM D cy b z tx S s H → va_S (gA b 12 z) s.heap H locs → lv_has ls 4 [(0, .ref (b + adM 0 0)), (1, .int a1), (2, .int a2), (3, .int a3)] → W p l e rm_X12_nextToBegin s m args below meth c H locs 0 0 (MQ below (PiM D cy b z tx k) args s 0 0 (gA b 12 z)) (F0 m 4 ls [])) : ∀ (a1 : Int32) (a2 : Int32) (a3 : Int32) (S : sSt) (H : Heap) (locs : List Loc) (ls : Array Slot) , Bb_X12_nextToBegin_4 kk4 a1 a2 a3 S k → RelM D cy b z tx S s H → va_S (gA b 12 z) s.heap H locs → lv_has ls 4 [(0, .ref (b + adM 0 0)), (1, .int a1), (2, .int a2), (3, .int a3)] → W p l e rm_X12_nextToBegin s m args below meth c H locs 0 0 (MQ below (PiM D cy b z tx k) args s 0 0 (gA b 12 z)) (F0 m 4 ls []) := by
  intro a1 a2 a3 S H locs ls h hR hS hl
  have hx := C0.1
  have hb := C0.2.1
  unfold Bb_X12_nextToBegin_4 at h
  refine lv_iload_n hx hb dX12_nextToBegin_4 rfl (lv_at hl 3 rfl) ?_
  refine lv_bipush (v := 24) hx hb dX12_nextToBegin_5 (by decide) ?_
  refine lv_icmp_ge (tgt := 45) hx hb dX12_nextToBegin_7 (by decide) (fun c1 => ?_) (fun c1 => ?_)
  · have h := h.1 c1
    refine lv_iload_n hx hb dX12_nextToBegin_45 rfl (lv_at hl 2 rfl) ?_
    exact rtM_i C0 hr hlk hR hS h dX12_nextToBegin_46
  · have h := h.2 c1
    refine lv_aload_n hx hb dX12_nextToBegin_10 rfl (lv_at hl 0 rfl) ?_
    refine lv_iload_n hx hb dX12_nextToBegin_11 rfl (lv_at hl 3 rfl) ?_
    refine lv_iload_n hx hb dX12_nextToBegin_12 rfl (lv_at hl 1 rfl) ?_
    refine qM_Vi (As := [.int a3, .int a1]) (rest := []) C0 (c_X12_mayBegin l h) (cwV 2 C0.2.2.2.2 (tbV mM9_9_153 ⟨mM9_9_155, mpM9_7_6, mM9_1_11, mM9_9_156⟩) rfl rfl rfl (by decide +kernel) ⟨Nat.le_of_ble_eq_true rfl, Nat.le_of_ble_eq_true rfl⟩) (rcM_0 hR Nat.zero_lt_one) hR hT hS rfl hl.1 rfl (Nat.le_of_ble_eq_true rfl) dX12_nextToBegin_13 ⟨Nat.zero_le _, Nat.zero_le _⟩ (fun r2 S3 H locs h hR hS => ?_)
    refine lv_if_eq (tgt := 39) hx hb dX12_nextToBegin_16 (by decide) (fun c4 => ?_) (fun c4 => ?_)
    · have h := h.1 c4
      exact Bw_X12_nextToBegin_39 C0 hr hlk hT ih4 a1 a2 a3 S3 _ _ _ h hR hS (lv_sub hl [0, 1, 2, 3] rfl)
    · have h := h.2 c4
      refine lv_iload_n hx hb dX12_nextToBegin_19 rfl (lv_at hl 2 rfl) ?_
      refine lv_iconst (v := (-1)) hx hb dX12_nextToBegin_20 (by decide) ?_
      refine lv_icmp_eq (tgt := 37) hx hb dX12_nextToBegin_21 (by decide) (fun c6 => ?_) (fun c6 => ?_)
      · have h := h.1 c6
        exact Bw_X12_nextToBegin_37 C0 hr hlk hT ih4 a1 a3 S3 _ _ _ h hR hS (lv_sub hl [0, 1, 3] rfl)
      · have h := h.2 c6
        refine lv_aload_n hx hb dX12_nextToBegin_24 rfl (lv_at hl 0 rfl) ?_
        refine lv_iload_n hx hb dX12_nextToBegin_25 rfl (lv_at hl 3 rfl) ?_
        refine qM_Vi (As := [.int a3]) (rest := []) C0 (c_X12_numberOf l h) (cwV 1 C0.2.2.2.2 (tbV mM9_7_202 ⟨mM9_7_204, mpM9_3_3, mM9_1_11, mM9_7_205⟩) rfl rfl rfl (by decide +kernel) ⟨Nat.le_of_ble_eq_true rfl, Nat.le_of_ble_eq_true rfl⟩) (rcM_0 hR Nat.zero_lt_one) hR hT hS rfl hl.1 rfl (Nat.le_of_ble_eq_true rfl) dX12_nextToBegin_26 ⟨Nat.zero_le _, Nat.zero_le _⟩ (fun r7 S8 H locs h hR hS => ?_)
        refine lv_aload_n hx hb dX12_nextToBegin_29 rfl (lv_at hl 0 rfl) ?_
        refine lv_iload_n hx hb dX12_nextToBegin_30 rfl (lv_at hl 2 rfl) ?_
        refine qM_Vi (As := [.int a2]) (rest := [.int r7]) C0 (c_X12_numberOf l h) (cwV 1 C0.2.2.2.2 (tbV mM9_7_202 ⟨mM9_7_204, mpM9_3_3, mM9_1_11, mM9_7_205⟩) rfl rfl rfl (by decide +kernel) ⟨Nat.le_of_ble_eq_true rfl, Nat.le_of_ble_eq_true rfl⟩) (rcM_0 hR Nat.zero_lt_one) hR hT hS rfl hl.1 rfl (Nat.le_of_ble_eq_true rfl) dX12_nextToBegin_31 ⟨Nat.zero_le _, Nat.zero_le _⟩ (fun r9 S10 H locs h hR hS => ?_)
        refine lv_icmp_ge (tgt := 39) hx hb dX12_nextToBegin_34 (by decide) (fun c11 => ?_) (fun c11 => ?_)
        · have h := h.1 c11
          exact Bw_X12_nextToBegin_39 C0 hr hlk hT ih4 a1 a2 a3 S10 _ _ _ h hR hS (lv_sub hl [0, 1, 2, 3] rfl)
        · have h := h.2 c11
          exact Bw_X12_nextToBegin_37 C0 hr hlk hT ih4 a1 a3 S10 _ _ _ h hR hS (lv_sub hl [0, 1, 3] rfl)
def B_X12_nextToBegin_4 (n9 : Nat) (a1 : Int32) (a2 : Int32) (a3 : Int32) (S : sSt) (k : Int32 → sSt → Prop) : Prop := (Nat.rec (motive := fun _ => Int32 → Int32 → Int32 → sSt → Prop) (fun _ _ _ _ => False) (fun _ r9 => fun a1 a2 a3 S => Bb_X12_nextToBegin_4 r9 a1 a2 a3 S k) n9 : Int32 → Int32 → Int32 → sSt → Prop) a1 a2 a3 S
theorem B_X12_nextToBegin_4_s (n9 : Nat) (a1 : Int32) (a2 : Int32) (a3 : Int32) (S : sSt) (k : Int32 → sSt → Prop) : B_X12_nextToBegin_4 (n9 + 1) a1 a2 a3 S k = Bb_X12_nextToBegin_4 (fun a1 a2 a3 S => B_X12_nextToBegin_4 n9 a1 a2 a3 S k) a1 a2 a3 S k := rfl
set_option maxHeartbeats 4000000 in
set_option maxRecDepth 100000 in
theorem Bw_X12_nextToBegin_4 {p : Program} {l : Launch} {e : Env} {s : State} {m : MethodId} {args : Array Value} {below : List Frame} {meth : Method} {c : Code} {D : va_G} {cy : Nat → ClassId} {b z : Nat} {tx : TX} (C0 : CallFix p m c cX12_nextToBegin 4 s args TB RX12) (hr : meth.sig.returnType = (some .int)) (hlk : meth.locks = false) (hT : TxR tx s) {k : Int32 → sSt → Prop} : ∀ (n9 : Nat), ∀ (a1 : Int32) (a2 : Int32) (a3 : Int32) (S : sSt) (H : Heap) (locs : List Loc) (ls : Array Slot) , B_X12_nextToBegin_4 n9 a1 a2 a3 S k → RelM D cy b z tx S s H → va_S (gA b 12 z) s.heap H locs → lv_has ls 4 [(0, .ref (b + adM 0 0)), (1, .int a1), (2, .int a2), (3, .int a3)] → W p l e rm_X12_nextToBegin s m args below meth c H locs 0 0 (MQ below (PiM D cy b z tx k) args s 0 0 (gA b 12 z)) (F0 m 4 ls []) := by
  intro n9
  induction n9 with
  | zero => intro a1 a2 a3 S H locs ls h; exact h.elim
  | succ n9 ih =>
    intro a1 a2 a3 S H locs ls h hR hS hl
    exact Bbw_X12_nextToBegin_4 C0 hr hlk hT ih a1 a2 a3 S H locs ls h hR hS hl
def F_X12_nextToBegin (a1 : Int32) (S : sSt) (k : Int32 → sSt → Prop) : Prop := B_X12_nextToBegin_4 fuel a1 (-1) 0 S k
set_option maxHeartbeats 4000000 in
set_option maxRecDepth 100000 in
theorem c_X12_nextToBegin (l : Launch) {D : va_G} {cy : Nat → ClassId} {b z : Nat} {tx : TX} {a1 : Int32} {S : sSt} {k : Int32 → sSt → Prop} (h : F_X12_nextToBegin a1 S k) : Met l yX12_nextToBegin (Cond.code yX12_nextToBegin cX12_nextToBegin 4 (some .int) :: TB) rm_X12_nextToBegin (va_Pc [.ref (b + adM 0 0), .int a1] (fun U => RelM D cy b z tx S U U.heap ∧ TxR tx U)) (PiM D cy b z tx k) 0 0 (gA b 12 z) := by
  refine Met.ofW (cc := cX12_nextToBegin) (maxL := 4) (ret := (some .int)) (by decide) rfl ?_
  intro p e s m args below meth c s₁ B hml hv
  obtain ⟨rfl, hR, hT⟩ := hv
  have C0 : CallFix p m c cX12_nextToBegin 4 s _ TB RX12 := ⟨B.exec, B.bytes, hml, findClass_of_methodNamed B.named, fun w hw => atoms_spec B.pre w (List.mem_cons_of_mem _ hw)⟩
  have hr := B.returns
  have hlk := B.notSynchronized
  have hx := C0.1
  have hb := C0.2.1
  have hS : va_S (gA b 12 z) s.heap s.heap [] := va_S.rf
  have hl := lv_entry ([.ref (b + adM 0 0), .int a1]) (n := 4) (Nat.le_of_ble_eq_true rfl)
  rw [lg_entry_eq]
  generalize (lg_sl ([.ref (b + adM 0 0), .int a1]) ++ List.replicate (4 - (lg_sl ([.ref (b + adM 0 0), .int a1])).length) Slot.unset).toArray = ls at hl ⊢
  have hl : lv_has ls 4 [(0, .ref (b + adM 0 0)), (1, .int a1)] := hl
  show W p l e rm_X12_nextToBegin s m _ below meth c s.heap [] 0 0 (MQ below (PiM D cy b z tx k) _ s 0 0 (gA b 12 z)) _
  unfold F_X12_nextToBegin at h
  refine lv_iconst (v := (-1)) hx hb dX12_nextToBegin_0 (by decide) ?_
  refine lv_istore_n (lv' := [(2, .int (-1)), (0, .ref (b + adM 0 0)), (1, .int a1)]) hx hb dX12_nextToBegin_1 rfl hl (by decide) rfl (fun ls hl => ?_)
  refine lv_iconst (v := 0) hx hb dX12_nextToBegin_2 (by decide) ?_
  refine lv_istore_n (lv' := [(3, .int 0), (2, .int (-1)), (0, .ref (b + adM 0 0)), (1, .int a1)]) hx hb dX12_nextToBegin_3 rfl hl (by decide) rfl (fun ls hl => ?_)
  exact Bw_X12_nextToBegin_4 C0 hr hlk hT fuel a1 (-1) 0 S _ _ _ h hR hS (lv_sub hl [2, 3, 1, 0] rfl)
