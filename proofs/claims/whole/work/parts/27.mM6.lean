theorem mM6_7_77 : Cond.fieldLink RX12 3 "ClaimTableModel" "thrown" "I" ∈ TB := tbT_7 _ (List.mem_of_getElem? (i := 77) rfl) rfl
theorem mM6_8_227 : Cond.methodLink RX12 334 yX12_jobOf ∈ TB := tbT_8 _ (List.mem_of_getElem? (i := 227) rfl) rfl
theorem mM6_8_230 : Cond.code yX12_jobOf cX12_jobOf 3 (some .int) ∈ TB := tbT_8 _ (List.mem_of_getElem? (i := 230) rfl) rfl
theorem mM6_8_229 : Cond.instanceMethod yX12_jobOf ∈ TB := tbT_8 _ (List.mem_of_getElem? (i := 229) rfl) rfl
theorem mpM6_6_3 : Cond.selects RX12 yX12_jobOf yX12_jobOf ∈ TB := tbP_6 (yX12_jobOf, 19) (List.mem_of_getElem? (i := 3) rfl)
theorem mM6_1_11 : Cond.initialized RX12 ∈ TB := tbT_1 _ (List.mem_of_getElem? (i := 11) rfl) rfl
theorem mM6_8_25 : Cond.methodLink RX12 199 yX12_throwsIf ∈ TB := tbT_8 _ (List.mem_of_getElem? (i := 25) rfl) rfl
theorem mM6_8_28 : Cond.code yX12_throwsIf cX12_throwsIf 3 (some .boolean) ∈ TB := tbT_8 _ (List.mem_of_getElem? (i := 28) rfl) rfl
theorem mM6_8_27 : Cond.instanceMethod yX12_throwsIf ∈ TB := tbT_8 _ (List.mem_of_getElem? (i := 27) rfl) rfl
theorem mpM6_3_13 : Cond.selects RX12 yX12_throwsIf yX12_throwsIf ∈ TB := tbP_3 (yX12_throwsIf, 19) (List.mem_of_getElem? (i := 13) rfl)
theorem mM6_8_167 : Cond.methodLink RX12 295 yX12_seen ∈ TB := tbT_8 _ (List.mem_of_getElem? (i := 167) rfl) rfl
theorem mM6_8_170 : Cond.code yX12_seen cX12_seen 3 (some .int) ∈ TB := tbT_8 _ (List.mem_of_getElem? (i := 170) rfl) rfl
theorem mM6_8_169 : Cond.instanceMethod yX12_seen ∈ TB := tbT_8 _ (List.mem_of_getElem? (i := 169) rfl) rfl
theorem mpM6_5_5 : Cond.selects RX12 yX12_seen yX12_seen ∈ TB := tbP_5 (yX12_seen, 19) (List.mem_of_getElem? (i := 5) rfl)
theorem mM6_8_33 : Cond.methodLink RX12 245 yX12_noSession ∈ TB := tbT_8 _ (List.mem_of_getElem? (i := 33) rfl) rfl
theorem mM6_8_36 : Cond.code yX12_noSession cX12_noSession 2 (some .boolean) ∈ TB := tbT_8 _ (List.mem_of_getElem? (i := 36) rfl) rfl
theorem mM6_8_35 : Cond.instanceMethod yX12_noSession ∈ TB := tbT_8 _ (List.mem_of_getElem? (i := 35) rfl) rfl
theorem mpM6_3_14 : Cond.selects RX12 yX12_noSession yX12_noSession ∈ TB := tbP_3 (yX12_noSession, 19) (List.mem_of_getElem? (i := 14) rfl)
theorem mM6_8_223 : Cond.methodLink RX12 337 yX12_jobFor ∈ TB := tbT_8 _ (List.mem_of_getElem? (i := 223) rfl) rfl
theorem mM6_8_226 : Cond.code yX12_jobFor cX12_jobFor 5 (some .int) ∈ TB := tbT_8 _ (List.mem_of_getElem? (i := 226) rfl) rfl
theorem mM6_8_225 : Cond.instanceMethod yX12_jobFor ∈ TB := tbT_8 _ (List.mem_of_getElem? (i := 225) rfl) rfl
theorem mpM6_6_2 : Cond.selects RX12 yX12_jobFor yX12_jobFor ∈ TB := tbP_6 (yX12_jobFor, 19) (List.mem_of_getElem? (i := 2) rfl)
theorem mM6_8_219 : Cond.methodLink RX12 340 yX12_ownJobFor ∈ TB := tbT_8 _ (List.mem_of_getElem? (i := 219) rfl) rfl
theorem mM6_8_222 : Cond.code yX12_ownJobFor cX12_ownJobFor 4 (some .int) ∈ TB := tbT_8 _ (List.mem_of_getElem? (i := 222) rfl) rfl
theorem mM6_8_221 : Cond.instanceMethod yX12_ownJobFor ∈ TB := tbT_8 _ (List.mem_of_getElem? (i := 221) rfl) rfl
theorem mpM6_6_1 : Cond.selects RX12 yX12_ownJobFor yX12_ownJobFor ∈ TB := tbP_6 (yX12_ownJobFor, 19) (List.mem_of_getElem? (i := 1) rfl)
theorem mM6_8_231 : Cond.methodLink RX12 343 yX12_bars ∈ TB := tbT_8 _ (List.mem_of_getElem? (i := 231) rfl) rfl
theorem mM6_8_234 : Cond.code yX12_bars cX12_bars 5 (some .int) ∈ TB := tbT_8 _ (List.mem_of_getElem? (i := 234) rfl) rfl
theorem mM6_8_233 : Cond.instanceMethod yX12_bars ∈ TB := tbT_8 _ (List.mem_of_getElem? (i := 233) rfl) rfl
theorem mpM6_6_4 : Cond.selects RX12 yX12_bars yX12_bars ∈ TB := tbP_6 (yX12_bars, 19) (List.mem_of_getElem? (i := 4) rfl)
theorem mM6_8_91 : Cond.methodLink RX12 276 yX12_refuses ∈ TB := tbT_8 _ (List.mem_of_getElem? (i := 91) rfl) rfl
theorem mM6_8_94 : Cond.code yX12_refuses cX12_refuses 3 (some .boolean) ∈ TB := tbT_8 _ (List.mem_of_getElem? (i := 94) rfl) rfl
theorem mM6_8_93 : Cond.instanceMethod yX12_refuses ∈ TB := tbT_8 _ (List.mem_of_getElem? (i := 93) rfl) rfl
theorem mpM6_4_8 : Cond.selects RX12 yX12_refuses yX12_refuses ∈ TB := tbP_4 (yX12_refuses, 19) (List.mem_of_getElem? (i := 8) rfl)
theorem mM6_8_207 : Cond.methodLink RX12 325 yX12_locks ∈ TB := tbT_8 _ (List.mem_of_getElem? (i := 207) rfl) rfl
theorem mM6_8_210 : Cond.code yX12_locks cX12_locks 3 (some .int) ∈ TB := tbT_8 _ (List.mem_of_getElem? (i := 210) rfl) rfl
theorem mM6_8_209 : Cond.instanceMethod yX12_locks ∈ TB := tbT_8 _ (List.mem_of_getElem? (i := 209) rfl) rfl
theorem mpM6_5_15 : Cond.selects RX12 yX12_locks yX12_locks ∈ TB := tbP_5 (yX12_locks, 19) (List.mem_of_getElem? (i := 15) rfl)
theorem mM6_7_79 : Cond.fieldLink RX12 13 "ClaimTableModel" "world" "[I" ∈ TB := tbT_7 _ (List.mem_of_getElem? (i := 79) rfl) rfl
theorem mM6_8_211 : Cond.methodLink RX12 331 yX12_isDone ∈ TB := tbT_8 _ (List.mem_of_getElem? (i := 211) rfl) rfl
theorem mM6_8_214 : Cond.code yX12_isDone cX12_isDone 2 none ∈ TB := tbT_8 _ (List.mem_of_getElem? (i := 214) rfl) rfl
theorem mM6_8_213 : Cond.instanceMethod yX12_isDone ∈ TB := tbT_8 _ (List.mem_of_getElem? (i := 213) rfl) rfl
theorem mpM6_6_0 : Cond.selects RX12 yX12_isDone yX12_isDone ∈ TB := tbP_6 (yX12_isDone, 19) (List.mem_of_getElem? (i := 0) rfl)
theorem mM6_8_142 : Cond.methodLink RX12 258 Lib.Math.min.name ∈ TB := tbT_8 _ (List.mem_of_getElem? (i := 142) rfl) rfl
theorem mM6_5_67 : Cond.static Lib.Math.min.name ∈ TB := tbT_5 _ (List.mem_of_getElem? (i := 67) rfl) rfl
theorem mM6_1_25 : Cond.initialized "java/lang/Math" ∈ TB := tbT_1 _ (List.mem_of_getElem? (i := 25) rfl) rfl
theorem mM6_5_68 : Cond.code Lib.Math.min.name Lib.Math.min.code 2 (some .int) ∈ TB := tbT_5 _ (List.mem_of_getElem? (i := 68) rfl) rfl
theorem mM6_9_11 : Cond.constant RX12 346 1000000 ∈ TB := tbT_9 _ (List.mem_of_getElem? (i := 11) rfl) rfl
theorem mM6_7_202 : Cond.methodLink RX12 59 yX12_numberOf ∈ TB := tbT_7 _ (List.mem_of_getElem? (i := 202) rfl) rfl
theorem mM6_7_205 : Cond.code yX12_numberOf cX12_numberOf 2 (some .int) ∈ TB := tbT_7 _ (List.mem_of_getElem? (i := 205) rfl) rfl
theorem mM6_7_204 : Cond.instanceMethod yX12_numberOf ∈ TB := tbT_7 _ (List.mem_of_getElem? (i := 204) rfl) rfl
theorem mpM6_3_3 : Cond.selects RX12 yX12_numberOf yX12_numberOf ∈ TB := tbP_3 (yX12_numberOf, 19) (List.mem_of_getElem? (i := 3) rfl)
theorem mM6_9_7 : Cond.methodLink RX12 347 yX12_waitOf ∈ TB := tbT_9 _ (List.mem_of_getElem? (i := 7) rfl) rfl
theorem mM6_9_10 : Cond.code yX12_waitOf cX12_waitOf 5 (some .int) ∈ TB := tbT_9 _ (List.mem_of_getElem? (i := 10) rfl) rfl
theorem mM6_9_9 : Cond.instanceMethod yX12_waitOf ∈ TB := tbT_9 _ (List.mem_of_getElem? (i := 9) rfl) rfl
theorem mpM6_6_6 : Cond.selects RX12 yX12_waitOf yX12_waitOf ∈ TB := tbP_6 (yX12_waitOf, 19) (List.mem_of_getElem? (i := 6) rfl)
theorem mM6_8_37 : Cond.methodLink RX12 66 yX12_in ∈ TB := tbT_8 _ (List.mem_of_getElem? (i := 37) rfl) rfl
theorem mM6_8_39 : Cond.code yX12_in cX12_in 3 (some .boolean) ∈ TB := tbT_8 _ (List.mem_of_getElem? (i := 39) rfl) rfl
theorem mM6_8_38 : Cond.static yX12_in ∈ TB := tbT_8 _ (List.mem_of_getElem? (i := 38) rfl) rfl
theorem mM6_9_3 : Cond.methodLink RX12 350 yX12_failsBy ∈ TB := tbT_9 _ (List.mem_of_getElem? (i := 3) rfl) rfl
theorem mM6_9_6 : Cond.code yX12_failsBy cX12_failsBy 5 none ∈ TB := tbT_9 _ (List.mem_of_getElem? (i := 6) rfl) rfl
theorem mM6_9_5 : Cond.instanceMethod yX12_failsBy ∈ TB := tbT_9 _ (List.mem_of_getElem? (i := 5) rfl) rfl
theorem mpM6_6_5 : Cond.selects RX12 yX12_failsBy yX12_failsBy ∈ TB := tbP_6 (yX12_failsBy, 19) (List.mem_of_getElem? (i := 5) rfl)
theorem mM6_8_134 : Cond.methodLink RX12 263 yX12_behindNumber ∈ TB := tbT_8 _ (List.mem_of_getElem? (i := 134) rfl) rfl
theorem mM6_8_137 : Cond.code yX12_behindNumber cX12_behindNumber 4 (some .int) ∈ TB := tbT_8 _ (List.mem_of_getElem? (i := 137) rfl) rfl
theorem mM6_8_136 : Cond.instanceMethod yX12_behindNumber ∈ TB := tbT_8 _ (List.mem_of_getElem? (i := 136) rfl) rfl
theorem mpM6_4_15 : Cond.selects RX12 yX12_behindNumber yX12_behindNumber ∈ TB := tbP_4 (yX12_behindNumber, 19) (List.mem_of_getElem? (i := 15) rfl)
theorem mM6_8_171 : Cond.methodLink RX12 298 yX12_isState ∈ TB := tbT_8 _ (List.mem_of_getElem? (i := 171) rfl) rfl
theorem mM6_8_174 : Cond.code yX12_isState cX12_isState 3 (some .boolean) ∈ TB := tbT_8 _ (List.mem_of_getElem? (i := 174) rfl) rfl
theorem mM6_8_173 : Cond.instanceMethod yX12_isState ∈ TB := tbT_8 _ (List.mem_of_getElem? (i := 173) rfl) rfl
theorem mpM6_5_6 : Cond.selects RX12 yX12_isState yX12_isState ∈ TB := tbP_5 (yX12_isState, 19) (List.mem_of_getElem? (i := 6) rfl)
theorem mM6_8_175 : Cond.methodLink RX12 301 yX12_isOthers ∈ TB := tbT_8 _ (List.mem_of_getElem? (i := 175) rfl) rfl
theorem mM6_8_178 : Cond.code yX12_isOthers cX12_isOthers 3 (some .boolean) ∈ TB := tbT_8 _ (List.mem_of_getElem? (i := 178) rfl) rfl
theorem mM6_8_177 : Cond.instanceMethod yX12_isOthers ∈ TB := tbT_8 _ (List.mem_of_getElem? (i := 177) rfl) rfl
theorem mpM6_5_7 : Cond.selects RX12 yX12_isOthers yX12_isOthers ∈ TB := tbP_5 (yX12_isOthers, 19) (List.mem_of_getElem? (i := 7) rfl)
def rm_X12_jobFor : Room := { frames := 4, cells := 0, slots := 0, locals := 85 }
def B_X12_jobFor_57 (a3 : Int32) (t1 : Int32) (S : sSt) (k : Int32 → sSt → Prop) : Prop := F_X12_throwsIf t1 1 S (fun r6 S7 => ((r6 = 0 → k a3 S7) ∧ (¬ r6 = 0 → k (-1) S7)))
set_option maxHeartbeats 4000000 in
set_option maxRecDepth 100000 in
theorem Bw_X12_jobFor_57 {p : Program} {l : Launch} {e : Env} {s : State} {m : MethodId} {args : Array Value} {below : List Frame} {meth : Method} {c : Code} {D : va_G} {cy : Nat → ClassId} {b z : Nat} {tx : TX} (C0 : CallFix p m c cX12_jobFor 5 s args TB RX12) (hr : meth.sig.returnType = (some .int)) (hlk : meth.locks = false) (hT : TxR tx s) {k : Int32 → sSt → Prop} : ∀ (a3 : Int32) (t1 : Int32) (S : sSt) (H : Heap) (locs : List Loc) (ls : Array Slot) , B_X12_jobFor_57 a3 t1 S k → RelM D cy b z tx S s H → va_S (gA b 12 z) s.heap H locs → lv_has ls 5 [(3, .int a3)] → W p l e rm_X12_jobFor s m args below meth c H locs 0 0 (MQ below (PiM D cy b z tx k) args s 0 0 (gA b 12 z)) (F0 m 57 ls [.int t1, .ref (b + adM 0 0)]) := by
  intro a3 t1 S H locs ls h hR hS hl
  have hx := C0.1
  have hb := C0.2.1
  unfold B_X12_jobFor_57 at h
  refine lv_iconst (v := 1) hx hb dX12_jobFor_57 (by decide) ?_
  refine qM_Vi (As := [.int t1, .int 1]) (rest := []) C0 (c_X12_throwsIf l h) (cwV 2 C0.2.2.2.2 (tbV mM6_8_25 ⟨mM6_8_27, mpM6_3_13, mM6_1_11, mM6_8_28⟩) rfl rfl rfl (by decide +kernel) ⟨Nat.le_of_ble_eq_true rfl, Nat.le_of_ble_eq_true rfl⟩) (rcM_0 hR Nat.zero_lt_one) hR hT hS rfl hl.1 rfl (Nat.le_of_ble_eq_true rfl) dX12_jobFor_58 ⟨Nat.zero_le _, Nat.zero_le _⟩ (fun r6 S7 H locs h hR hS => ?_)
  refine lv_if_eq (tgt := 68) hx hb dX12_jobFor_61 (by decide) (fun c8 => ?_) (fun c8 => ?_)
  · have h := h.1 c8
    refine lv_iload_n hx hb dX12_jobFor_68 rfl (lv_at hl 0 rfl) ?_
    exact rtM_i C0 hr hlk hR hS h dX12_jobFor_69
  · have h := h.2 c8
    refine lv_iconst (v := (-1)) hx hb dX12_jobFor_64 (by decide) ?_
    refine lv_goto (tgt := 69) hx hb dX12_jobFor_65 (by decide) ?_
    exact rtM_i C0 hr hlk hR hS h dX12_jobFor_69
def B_X12_jobFor_44 (a3 : Int32) (t0 : Int32) (S : sSt) (k : Int32 → sSt → Prop) : Prop := ((¬ t0 = 0 → B_X12_jobFor_57 a3 0 S k) ∧ (t0 = 0 → B_X12_jobFor_57 a3 1 S k))
set_option maxHeartbeats 4000000 in
set_option maxRecDepth 100000 in
theorem Bw_X12_jobFor_44 {p : Program} {l : Launch} {e : Env} {s : State} {m : MethodId} {args : Array Value} {below : List Frame} {meth : Method} {c : Code} {D : va_G} {cy : Nat → ClassId} {b z : Nat} {tx : TX} (C0 : CallFix p m c cX12_jobFor 5 s args TB RX12) (hr : meth.sig.returnType = (some .int)) (hlk : meth.locks = false) (hT : TxR tx s) {k : Int32 → sSt → Prop} : ∀ (a3 : Int32) (t0 : Int32) (S : sSt) (H : Heap) (locs : List Loc) (ls : Array Slot) , B_X12_jobFor_44 a3 t0 S k → RelM D cy b z tx S s H → va_S (gA b 12 z) s.heap H locs → lv_has ls 5 [(0, .ref (b + adM 0 0)), (3, .int a3)] → W p l e rm_X12_jobFor s m args below meth c H locs 0 0 (MQ below (PiM D cy b z tx k) args s 0 0 (gA b 12 z)) (F0 m 44 ls [.int t0]) := by
  intro a3 t0 S H locs ls h hR hS hl
  have hx := C0.1
  have hb := C0.2.1
  unfold B_X12_jobFor_44 at h
  refine lv_istore (lv' := [(4, .int t0), (0, .ref (b + adM 0 0)), (3, .int a3)]) hx hb dX12_jobFor_44 hl (by decide) rfl (fun ls hl => ?_)
  refine lv_aload_n hx hb dX12_jobFor_46 rfl (lv_at hl 1 rfl) ?_
  refine lv_iload hx hb dX12_jobFor_47 (lv_at hl 0 rfl) ?_
  refine lv_if_ne (tgt := 56) hx hb dX12_jobFor_49 (by decide) (fun c5 => ?_) (fun c5 => ?_)
  · have h := h.1 c5
    refine lv_iconst (v := 0) hx hb dX12_jobFor_56 (by decide) ?_
    exact Bw_X12_jobFor_57 C0 hr hlk hT a3 0 S _ _ _ h hR hS (lv_sub hl [2] rfl)
  · have h := h.2 c5
    refine lv_iconst (v := 1) hx hb dX12_jobFor_52 (by decide) ?_
    refine lv_goto (tgt := 57) hx hb dX12_jobFor_53 (by decide) ?_
    exact Bw_X12_jobFor_57 C0 hr hlk hT a3 1 S _ _ _ h hR hS (lv_sub hl [2] rfl)
def B_X12_jobFor_43 (a3 : Int32) (S : sSt) (k : Int32 → sSt → Prop) : Prop := B_X12_jobFor_44 a3 0 S k
set_option maxHeartbeats 4000000 in
set_option maxRecDepth 100000 in
theorem Bw_X12_jobFor_43 {p : Program} {l : Launch} {e : Env} {s : State} {m : MethodId} {args : Array Value} {below : List Frame} {meth : Method} {c : Code} {D : va_G} {cy : Nat → ClassId} {b z : Nat} {tx : TX} (C0 : CallFix p m c cX12_jobFor 5 s args TB RX12) (hr : meth.sig.returnType = (some .int)) (hlk : meth.locks = false) (hT : TxR tx s) {k : Int32 → sSt → Prop} : ∀ (a3 : Int32) (S : sSt) (H : Heap) (locs : List Loc) (ls : Array Slot) , B_X12_jobFor_43 a3 S k → RelM D cy b z tx S s H → va_S (gA b 12 z) s.heap H locs → lv_has ls 5 [(0, .ref (b + adM 0 0)), (3, .int a3)] → W p l e rm_X12_jobFor s m args below meth c H locs 0 0 (MQ below (PiM D cy b z tx k) args s 0 0 (gA b 12 z)) (F0 m 43 ls []) := by
  intro a3 S H locs ls h hR hS hl
  have hx := C0.1
  have hb := C0.2.1
  unfold B_X12_jobFor_43 at h
  refine lv_iconst (v := 0) hx hb dX12_jobFor_43 (by decide) ?_
  exact Bw_X12_jobFor_44 C0 hr hlk hT a3 0 S _ _ _ h hR hS (lv_sub hl [0, 1] rfl)
def B_X12_jobFor_29 (a1 : Int32) (a3 : Int32) (S : sSt) (k : Int32 → sSt → Prop) : Prop := F_X12_seen a3 a1 S (fun r10 S11 => ((r10 = (-1) → B_X12_jobFor_43 a3 S11 k) ∧ (¬ r10 = (-1) → B_X12_jobFor_44 a3 1 S11 k)))
set_option maxHeartbeats 4000000 in
set_option maxRecDepth 100000 in
theorem Bw_X12_jobFor_29 {p : Program} {l : Launch} {e : Env} {s : State} {m : MethodId} {args : Array Value} {below : List Frame} {meth : Method} {c : Code} {D : va_G} {cy : Nat → ClassId} {b z : Nat} {tx : TX} (C0 : CallFix p m c cX12_jobFor 5 s args TB RX12) (hr : meth.sig.returnType = (some .int)) (hlk : meth.locks = false) (hT : TxR tx s) {k : Int32 → sSt → Prop} : ∀ (a1 : Int32) (a3 : Int32) (S : sSt) (H : Heap) (locs : List Loc) (ls : Array Slot) , B_X12_jobFor_29 a1 a3 S k → RelM D cy b z tx S s H → va_S (gA b 12 z) s.heap H locs → lv_has ls 5 [(0, .ref (b + adM 0 0)), (1, .int a1), (3, .int a3)] → W p l e rm_X12_jobFor s m args below meth c H locs 0 0 (MQ below (PiM D cy b z tx k) args s 0 0 (gA b 12 z)) (F0 m 29 ls []) := by
  intro a1 a3 S H locs ls h hR hS hl
  have hx := C0.1
  have hb := C0.2.1
  unfold B_X12_jobFor_29 at h
  refine lv_aload_n hx hb dX12_jobFor_29 rfl (lv_at hl 0 rfl) ?_
  refine lv_iload_n hx hb dX12_jobFor_30 rfl (lv_at hl 2 rfl) ?_
  refine lv_iload_n hx hb dX12_jobFor_31 rfl (lv_at hl 1 rfl) ?_
  refine qM_Vi (As := [.int a3, .int a1]) (rest := []) C0 (c_X12_seen l h) (cwV 2 C0.2.2.2.2 (tbV mM6_8_167 ⟨mM6_8_169, mpM6_5_5, mM6_1_11, mM6_8_170⟩) rfl rfl rfl (by decide +kernel) ⟨Nat.le_of_ble_eq_true rfl, Nat.le_of_ble_eq_true rfl⟩) (rcM_0 hR Nat.zero_lt_one) hR hT hS rfl hl.1 rfl (Nat.le_of_ble_eq_true rfl) dX12_jobFor_32 ⟨Nat.zero_le _, Nat.zero_le _⟩ (fun r10 S11 H locs h hR hS => ?_)
  refine lv_iconst (v := (-1)) hx hb dX12_jobFor_35 (by decide) ?_
  refine lv_icmp_eq (tgt := 43) hx hb dX12_jobFor_36 (by decide) (fun c12 => ?_) (fun c12 => ?_)
  · have h := h.1 c12
    exact Bw_X12_jobFor_43 C0 hr hlk hT a3 S11 _ _ _ h hR hS (lv_sub hl [0, 2] rfl)
  · have h := h.2 c12
    refine lv_iconst (v := 1) hx hb dX12_jobFor_39 (by decide) ?_
    refine lv_goto (tgt := 44) hx hb dX12_jobFor_40 (by decide) ?_
    exact Bw_X12_jobFor_44 C0 hr hlk hT a3 1 S11 _ _ _ h hR hS (lv_sub hl [0, 2] rfl)
def F_X12_jobFor (a1 : Int32) (a2 : Int32) (S : sSt) (k : Int32 → sSt → Prop) : Prop := ∀ S1, S1 = uI S 0 0 0 0 → F_X12_jobOf a2 S1 (fun r2 S3 => ((r2 = (-1) → B_X12_jobFor_43 r2 S3 k) ∧ (¬ r2 = (-1) → ((a1 = (-1) → B_X12_jobFor_29 a1 r2 S3 k) ∧ (¬ a1 = (-1) → F_X12_noSession a1 S3 (fun r13 S14 => ((¬ r13 = 0 → B_X12_jobFor_43 r2 S14 k) ∧ (r13 = 0 → B_X12_jobFor_29 a1 r2 S14 k))))))))
set_option maxHeartbeats 4000000 in
set_option maxRecDepth 100000 in
theorem c_X12_jobFor (l : Launch) {D : va_G} {cy : Nat → ClassId} {b z : Nat} {tx : TX} {a1 : Int32} {a2 : Int32} {S : sSt} {k : Int32 → sSt → Prop} (h : F_X12_jobFor a1 a2 S k) : Met l yX12_jobFor (Cond.code yX12_jobFor cX12_jobFor 5 (some .int) :: TB) rm_X12_jobFor (va_Pc [.ref (b + adM 0 0), .int a1, .int a2] (fun U => RelM D cy b z tx S U U.heap ∧ TxR tx U)) (PiM D cy b z tx k) 0 0 (gA b 12 z) := by
  refine Met.ofW (cc := cX12_jobFor) (maxL := 5) (ret := (some .int)) (by decide) rfl ?_
  intro p e s m args below meth c s₁ B hml hv
  obtain ⟨rfl, hR, hT⟩ := hv
  have C0 : CallFix p m c cX12_jobFor 5 s _ TB RX12 := ⟨B.exec, B.bytes, hml, findClass_of_methodNamed B.named, fun w hw => atoms_spec B.pre w (List.mem_cons_of_mem _ hw)⟩
  have hr := B.returns
  have hlk := B.notSynchronized
  have hx := C0.1
  have hb := C0.2.1
  have hS : va_S (gA b 12 z) s.heap s.heap [] := va_S.rf
  have hl := lv_entry ([.ref (b + adM 0 0), .int a1, .int a2]) (n := 5) (Nat.le_of_ble_eq_true rfl)
  rw [lg_entry_eq]
  generalize (lg_sl ([.ref (b + adM 0 0), .int a1, .int a2]) ++ List.replicate (5 - (lg_sl ([.ref (b + adM 0 0), .int a1, .int a2])).length) Slot.unset).toArray = ls at hl ⊢
  have hl : lv_has ls 5 [(0, .ref (b + adM 0 0)), (1, .int a1), (2, .int a2)] := hl
  show W p l e rm_X12_jobFor s m _ below meth c s.heap [] 0 0 (MQ below (PiM D cy b z tx k) _ s 0 0 (gA b 12 z)) _
  unfold F_X12_jobFor at h
  refine lv_aload_n hx hb dX12_jobFor_0 rfl (lv_at hl 0 rfl) ?_
  refine lv_iconst (v := 0) hx hb dX12_jobFor_1 (by decide) ?_
  refine pM_0_0 C0 hR hS Nat.zero_lt_one tbs_wsX120 mM6_7_77 dX12_jobFor_2 (fun S1 eS1 H locs hR hS => ?_)
  have h := h S1 eS1
  refine lv_aload_n hx hb dX12_jobFor_5 rfl (lv_at hl 0 rfl) ?_
  refine lv_iload_n hx hb dX12_jobFor_6 rfl (lv_at hl 2 rfl) ?_
  refine qM_Vi (As := [.int a2]) (rest := []) C0 (c_X12_jobOf l h) (cwV 1 C0.2.2.2.2 (tbV mM6_8_227 ⟨mM6_8_229, mpM6_6_3, mM6_1_11, mM6_8_230⟩) rfl rfl rfl (by decide +kernel) ⟨Nat.le_of_ble_eq_true rfl, Nat.le_of_ble_eq_true rfl⟩) (rcM_0 hR Nat.zero_lt_one) hR hT hS rfl hl.1 rfl (Nat.le_of_ble_eq_true rfl) dX12_jobFor_7 ⟨Nat.zero_le _, Nat.zero_le _⟩ (fun r2 S3 H locs h hR hS => ?_)
  refine lv_istore_n (lv' := [(3, .int r2), (0, .ref (b + adM 0 0)), (1, .int a1), (2, .int a2)]) hx hb dX12_jobFor_10 rfl hl (by decide) rfl (fun ls hl => ?_)
  refine lv_iload_n hx hb dX12_jobFor_11 rfl (lv_at hl 0 rfl) ?_
  refine lv_iconst (v := (-1)) hx hb dX12_jobFor_12 (by decide) ?_
  refine lv_icmp_eq (tgt := 43) hx hb dX12_jobFor_13 (by decide) (fun c4 => ?_) (fun c4 => ?_)
  · have h := h.1 c4
    exact Bw_X12_jobFor_43 C0 hr hlk hT r2 S3 _ _ _ h hR hS (lv_sub hl [1, 0] rfl)
  · have h := h.2 c4
    refine lv_iload_n hx hb dX12_jobFor_16 rfl (lv_at hl 2 rfl) ?_
    refine lv_iconst (v := (-1)) hx hb dX12_jobFor_17 (by decide) ?_
    refine lv_icmp_eq (tgt := 29) hx hb dX12_jobFor_18 (by decide) (fun c9 => ?_) (fun c9 => ?_)
    · have h := h.1 c9
      exact Bw_X12_jobFor_29 C0 hr hlk hT a1 r2 S3 _ _ _ h hR hS (lv_sub hl [1, 2, 0] rfl)
    · have h := h.2 c9
      refine lv_aload_n hx hb dX12_jobFor_21 rfl (lv_at hl 1 rfl) ?_
      refine lv_iload_n hx hb dX12_jobFor_22 rfl (lv_at hl 2 rfl) ?_
      refine qM_Vi (As := [.int a1]) (rest := []) C0 (c_X12_noSession l h) (cwV 1 C0.2.2.2.2 (tbV mM6_8_33 ⟨mM6_8_35, mpM6_3_14, mM6_1_11, mM6_8_36⟩) rfl rfl rfl (by decide +kernel) ⟨Nat.le_of_ble_eq_true rfl, Nat.le_of_ble_eq_true rfl⟩) (rcM_0 hR Nat.zero_lt_one) hR hT hS rfl hl.1 rfl (Nat.le_of_ble_eq_true rfl) dX12_jobFor_23 ⟨Nat.zero_le _, Nat.zero_le _⟩ (fun r13 S14 H locs h hR hS => ?_)
      refine lv_if_ne (tgt := 43) hx hb dX12_jobFor_26 (by decide) (fun c15 => ?_) (fun c15 => ?_)
      · have h := h.1 c15
        exact Bw_X12_jobFor_43 C0 hr hlk hT r2 S14 _ _ _ h hR hS (lv_sub hl [1, 0] rfl)
      · have h := h.2 c15
        exact Bw_X12_jobFor_29 C0 hr hlk hT a1 r2 S14 _ _ _ h hR hS (lv_sub hl [1, 2, 0] rfl)

def rm_X12_ownJobFor : Room := { frames := 5, cells := 0, slots := 0, locals := 109 }
def B_X12_ownJobFor_18 (a3 : Int32) (t1 : Int32) (S : sSt) (k : Int32 → sSt → Prop) : Prop := F_X12_throwsIf t1 1 S (fun r4 S5 => ((r4 = 0 → k a3 S5) ∧ (¬ r4 = 0 → k (-1) S5)))
set_option maxHeartbeats 4000000 in
set_option maxRecDepth 100000 in
theorem Bw_X12_ownJobFor_18 {p : Program} {l : Launch} {e : Env} {s : State} {m : MethodId} {args : Array Value} {below : List Frame} {meth : Method} {c : Code} {D : va_G} {cy : Nat → ClassId} {b z : Nat} {tx : TX} (C0 : CallFix p m c cX12_ownJobFor 4 s args TB RX12) (hr : meth.sig.returnType = (some .int)) (hlk : meth.locks = false) (hT : TxR tx s) {k : Int32 → sSt → Prop} : ∀ (a3 : Int32) (t1 : Int32) (S : sSt) (H : Heap) (locs : List Loc) (ls : Array Slot) , B_X12_ownJobFor_18 a3 t1 S k → RelM D cy b z tx S s H → va_S (gA b 12 z) s.heap H locs → lv_has ls 4 [(3, .int a3)] → W p l e rm_X12_ownJobFor s m args below meth c H locs 0 0 (MQ below (PiM D cy b z tx k) args s 0 0 (gA b 12 z)) (F0 m 18 ls [.int t1, .ref (b + adM 0 0)]) := by
  intro a3 t1 S H locs ls h hR hS hl
  have hx := C0.1
  have hb := C0.2.1
  unfold B_X12_ownJobFor_18 at h
  refine lv_iconst (v := 1) hx hb dX12_ownJobFor_18 (by decide) ?_
  refine qM_Vi (As := [.int t1, .int 1]) (rest := []) C0 (c_X12_throwsIf l h) (cwV 2 C0.2.2.2.2 (tbV mM6_8_25 ⟨mM6_8_27, mpM6_3_13, mM6_1_11, mM6_8_28⟩) rfl rfl rfl (by decide +kernel) ⟨Nat.le_of_ble_eq_true rfl, Nat.le_of_ble_eq_true rfl⟩) (rcM_0 hR Nat.zero_lt_one) hR hT hS rfl hl.1 rfl (Nat.le_of_ble_eq_true rfl) dX12_ownJobFor_19 ⟨Nat.zero_le _, Nat.zero_le _⟩ (fun r4 S5 H locs h hR hS => ?_)
  refine lv_if_eq (tgt := 29) hx hb dX12_ownJobFor_22 (by decide) (fun c6 => ?_) (fun c6 => ?_)
  · have h := h.1 c6
    refine lv_iload_n hx hb dX12_ownJobFor_29 rfl (lv_at hl 0 rfl) ?_
    exact rtM_i C0 hr hlk hR hS h dX12_ownJobFor_30
  · have h := h.2 c6
    refine lv_iconst (v := (-1)) hx hb dX12_ownJobFor_25 (by decide) ?_
    refine lv_goto (tgt := 30) hx hb dX12_ownJobFor_26 (by decide) ?_
    exact rtM_i C0 hr hlk hR hS h dX12_ownJobFor_30
def F_X12_ownJobFor (a1 : Int32) (a2 : Int32) (S : sSt) (k : Int32 → sSt → Prop) : Prop := F_X12_jobFor a1 a2 S (fun r1 S2 => ((¬ a1 = (-1) → B_X12_ownJobFor_18 r1 0 S2 k) ∧ (a1 = (-1) → B_X12_ownJobFor_18 r1 1 S2 k)))
set_option maxHeartbeats 4000000 in
set_option maxRecDepth 100000 in
theorem c_X12_ownJobFor (l : Launch) {D : va_G} {cy : Nat → ClassId} {b z : Nat} {tx : TX} {a1 : Int32} {a2 : Int32} {S : sSt} {k : Int32 → sSt → Prop} (h : F_X12_ownJobFor a1 a2 S k) : Met l yX12_ownJobFor (Cond.code yX12_ownJobFor cX12_ownJobFor 4 (some .int) :: TB) rm_X12_ownJobFor (va_Pc [.ref (b + adM 0 0), .int a1, .int a2] (fun U => RelM D cy b z tx S U U.heap ∧ TxR tx U)) (PiM D cy b z tx k) 0 0 (gA b 12 z) := by
  refine Met.ofW (cc := cX12_ownJobFor) (maxL := 4) (ret := (some .int)) (by decide) rfl ?_
  intro p e s m args below meth c s₁ B hml hv
  obtain ⟨rfl, hR, hT⟩ := hv
  have C0 : CallFix p m c cX12_ownJobFor 4 s _ TB RX12 := ⟨B.exec, B.bytes, hml, findClass_of_methodNamed B.named, fun w hw => atoms_spec B.pre w (List.mem_cons_of_mem _ hw)⟩
  have hr := B.returns
  have hlk := B.notSynchronized
  have hx := C0.1
  have hb := C0.2.1
  have hS : va_S (gA b 12 z) s.heap s.heap [] := va_S.rf
  have hl := lv_entry ([.ref (b + adM 0 0), .int a1, .int a2]) (n := 4) (Nat.le_of_ble_eq_true rfl)
  rw [lg_entry_eq]
  generalize (lg_sl ([.ref (b + adM 0 0), .int a1, .int a2]) ++ List.replicate (4 - (lg_sl ([.ref (b + adM 0 0), .int a1, .int a2])).length) Slot.unset).toArray = ls at hl ⊢
  have hl : lv_has ls 4 [(0, .ref (b + adM 0 0)), (1, .int a1), (2, .int a2)] := hl
  show W p l e rm_X12_ownJobFor s m _ below meth c s.heap [] 0 0 (MQ below (PiM D cy b z tx k) _ s 0 0 (gA b 12 z)) _
  unfold F_X12_ownJobFor at h
  refine lv_aload_n hx hb dX12_ownJobFor_0 rfl (lv_at hl 0 rfl) ?_
  refine lv_iload_n hx hb dX12_ownJobFor_1 rfl (lv_at hl 1 rfl) ?_
  refine lv_iload_n hx hb dX12_ownJobFor_2 rfl (lv_at hl 2 rfl) ?_
  refine qM_Vi (As := [.int a1, .int a2]) (rest := []) C0 (c_X12_jobFor l h) (cwV 2 C0.2.2.2.2 (tbV mM6_8_223 ⟨mM6_8_225, mpM6_6_2, mM6_1_11, mM6_8_226⟩) rfl rfl rfl (by decide +kernel) ⟨Nat.le_of_ble_eq_true rfl, Nat.le_of_ble_eq_true rfl⟩) (rcM_0 hR Nat.zero_lt_one) hR hT hS rfl hl.1 rfl (Nat.le_of_ble_eq_true rfl) dX12_ownJobFor_3 ⟨Nat.zero_le _, Nat.zero_le _⟩ (fun r1 S2 H locs h hR hS => ?_)
  refine lv_istore_n (lv' := [(3, .int r1), (0, .ref (b + adM 0 0)), (1, .int a1), (2, .int a2)]) hx hb dX12_ownJobFor_6 rfl hl (by decide) rfl (fun ls hl => ?_)
  refine lv_aload_n hx hb dX12_ownJobFor_7 rfl (lv_at hl 1 rfl) ?_
  refine lv_iload_n hx hb dX12_ownJobFor_8 rfl (lv_at hl 2 rfl) ?_
  refine lv_iconst (v := (-1)) hx hb dX12_ownJobFor_9 (by decide) ?_
  refine lv_icmp_ne (tgt := 17) hx hb dX12_ownJobFor_10 (by decide) (fun c3 => ?_) (fun c3 => ?_)
  · have h := h.1 c3
    refine lv_iconst (v := 0) hx hb dX12_ownJobFor_17 (by decide) ?_
    exact Bw_X12_ownJobFor_18 C0 hr hlk hT r1 0 S2 _ _ _ h hR hS (lv_sub hl [0] rfl)
  · have h := h.2 c3
    refine lv_iconst (v := 1) hx hb dX12_ownJobFor_13 (by decide) ?_
    refine lv_goto (tgt := 18) hx hb dX12_ownJobFor_14 (by decide) ?_
    exact Bw_X12_ownJobFor_18 C0 hr hlk hT r1 1 S2 _ _ _ h hR hS (lv_sub hl [0] rfl)

def rm_X12_renew : Room := { frames := 6, cells := 0, slots := 0, locals := 132 }
def F_X12_renew (a1 : Int32) (a2 : Int32) (a3 : Int32) (S : sSt) (k : Int32 → sSt → Prop) : Prop := F_X12_ownJobFor a1 a2 S (fun r1 S2 => ((r1 = (-1) → k 0 S2) ∧ (¬ r1 = (-1) → F_X12_bars r1 a1 a3 S2 (fun r4 S5 => F_X12_refuses r4 2 S5 (fun r6 S7 => ((r6 = 0 → F_X12_locks r1 a1 S7 (fun r9 S10 => ix (r9 + 10) 10421 (fun j11 => ∀ S12, S12 = uI S10 1 0 j11 ((S10.1 1 0 3) + (S10.1 1 0 9)) → ∀ x13 : Int32, x13 = (S12.1 1 0 j11) → F_X12_isDone a1 S12 (fun S15 => k x13 S15)))) ∧ (¬ r6 = 0 → k 0 S7)))))))
set_option maxHeartbeats 4000000 in
set_option maxRecDepth 100000 in
theorem c_X12_renew (l : Launch) {D : va_G} {cy : Nat → ClassId} {b z : Nat} {tx : TX} {a1 : Int32} {a2 : Int32} {a3 : Int32} {S : sSt} {k : Int32 → sSt → Prop} (h : F_X12_renew a1 a2 a3 S k) : Met l yX12_renew (Cond.code yX12_renew cX12_renew 7 (some .int) :: TB) rm_X12_renew (va_Pc [.ref (b + adM 0 0), .int a1, .int a2, .int a3] (fun U => RelM D cy b z tx S U U.heap ∧ TxR tx U)) (PiM D cy b z tx k) 0 0 (gA b 12 z) := by
  refine Met.ofW (cc := cX12_renew) (maxL := 7) (ret := (some .int)) (by decide) rfl ?_
  intro p e s m args below meth c s₁ B hml hv
  obtain ⟨rfl, hR, hT⟩ := hv
  have C0 : CallFix p m c cX12_renew 7 s _ TB RX12 := ⟨B.exec, B.bytes, hml, findClass_of_methodNamed B.named, fun w hw => atoms_spec B.pre w (List.mem_cons_of_mem _ hw)⟩
  have hr := B.returns
  have hlk := B.notSynchronized
  have hx := C0.1
  have hb := C0.2.1
  have hS : va_S (gA b 12 z) s.heap s.heap [] := va_S.rf
  have hl := lv_entry ([.ref (b + adM 0 0), .int a1, .int a2, .int a3]) (n := 7) (Nat.le_of_ble_eq_true rfl)
  rw [lg_entry_eq]
  generalize (lg_sl ([.ref (b + adM 0 0), .int a1, .int a2, .int a3]) ++ List.replicate (7 - (lg_sl ([.ref (b + adM 0 0), .int a1, .int a2, .int a3])).length) Slot.unset).toArray = ls at hl ⊢
  have hl : lv_has ls 7 [(0, .ref (b + adM 0 0)), (1, .int a1), (2, .int a2), (3, .int a3)] := hl
  show W p l e rm_X12_renew s m _ below meth c s.heap [] 0 0 (MQ below (PiM D cy b z tx k) _ s 0 0 (gA b 12 z)) _
  unfold F_X12_renew at h
  refine lv_aload_n hx hb dX12_renew_0 rfl (lv_at hl 0 rfl) ?_
  refine lv_iload_n hx hb dX12_renew_1 rfl (lv_at hl 1 rfl) ?_
  refine lv_iload_n hx hb dX12_renew_2 rfl (lv_at hl 2 rfl) ?_
  refine qM_Vi (As := [.int a1, .int a2]) (rest := []) C0 (c_X12_ownJobFor l h) (cwV 2 C0.2.2.2.2 (tbV mM6_8_219 ⟨mM6_8_221, mpM6_6_1, mM6_1_11, mM6_8_222⟩) rfl rfl rfl (by decide +kernel) ⟨Nat.le_of_ble_eq_true rfl, Nat.le_of_ble_eq_true rfl⟩) (rcM_0 hR Nat.zero_lt_one) hR hT hS rfl hl.1 rfl (Nat.le_of_ble_eq_true rfl) dX12_renew_3 ⟨Nat.zero_le _, Nat.zero_le _⟩ (fun r1 S2 H locs h hR hS => ?_)
  refine lv_istore (lv' := [(4, .int r1), (0, .ref (b + adM 0 0)), (1, .int a1), (2, .int a2), (3, .int a3)]) hx hb dX12_renew_6 hl (by decide) rfl (fun ls hl => ?_)
  refine lv_iload hx hb dX12_renew_8 (lv_at hl 0 rfl) ?_
  refine lv_iconst (v := (-1)) hx hb dX12_renew_10 (by decide) ?_
  refine lv_icmp_eq (tgt := 30) hx hb dX12_renew_11 (by decide) (fun c3 => ?_) (fun c3 => ?_)
  · have h := h.1 c3
    refine lv_iconst (v := 0) hx hb dX12_renew_30 (by decide) ?_
    exact rtM_i C0 hr hlk hR hS h dX12_renew_31
  · have h := h.2 c3
    refine lv_aload_n hx hb dX12_renew_14 rfl (lv_at hl 1 rfl) ?_
    refine lv_aload_n hx hb dX12_renew_15 rfl (lv_at hl 1 rfl) ?_
    refine lv_iload hx hb dX12_renew_16 (lv_at hl 0 rfl) ?_
    refine lv_iload_n hx hb dX12_renew_18 rfl (lv_at hl 2 rfl) ?_
    refine lv_iload_n hx hb dX12_renew_19 rfl (lv_at hl 4 rfl) ?_
    refine qM_Vi (As := [.int r1, .int a1, .int a3]) (rest := [.ref (b + adM 0 0)]) C0 (c_X12_bars l h) (cwV 3 C0.2.2.2.2 (tbV mM6_8_231 ⟨mM6_8_233, mpM6_6_4, mM6_1_11, mM6_8_234⟩) rfl rfl rfl (by decide +kernel) ⟨Nat.le_of_ble_eq_true rfl, Nat.le_of_ble_eq_true rfl⟩) (rcM_0 hR Nat.zero_lt_one) hR hT hS rfl hl.1 rfl (Nat.le_of_ble_eq_true rfl) dX12_renew_20 ⟨Nat.zero_le _, Nat.zero_le _⟩ (fun r4 S5 H locs h hR hS => ?_)
    refine lv_iconst (v := 2) hx hb dX12_renew_23 (by decide) ?_
    refine qM_Vi (As := [.int r4, .int 2]) (rest := []) C0 (c_X12_refuses l h) (cwV 2 C0.2.2.2.2 (tbV mM6_8_91 ⟨mM6_8_93, mpM6_4_8, mM6_1_11, mM6_8_94⟩) rfl rfl rfl (by decide +kernel) ⟨Nat.le_of_ble_eq_true rfl, Nat.le_of_ble_eq_true rfl⟩) (rcM_0 hR Nat.zero_lt_one) hR hT hS rfl hl.1 rfl (Nat.le_of_ble_eq_true rfl) dX12_renew_24 ⟨Nat.zero_le _, Nat.zero_le _⟩ (fun r6 S7 H locs h hR hS => ?_)
    refine lv_if_eq (tgt := 32) hx hb dX12_renew_27 (by decide) (fun c8 => ?_) (fun c8 => ?_)
    · have h := h.1 c8
      refine lv_aload_n hx hb dX12_renew_32 rfl (lv_at hl 1 rfl) ?_
      refine lv_iload hx hb dX12_renew_33 (lv_at hl 0 rfl) ?_
      refine lv_iload_n hx hb dX12_renew_35 rfl (lv_at hl 2 rfl) ?_
      refine qM_Vi (As := [.int r1, .int a1]) (rest := []) C0 (c_X12_locks l h) (cwV 2 C0.2.2.2.2 (tbV mM6_8_207 ⟨mM6_8_209, mpM6_5_15, mM6_1_11, mM6_8_210⟩) rfl rfl rfl (by decide +kernel) ⟨Nat.le_of_ble_eq_true rfl, Nat.le_of_ble_eq_true rfl⟩) (rcM_0 hR Nat.zero_lt_one) hR hT hS rfl hl.1 rfl (Nat.le_of_ble_eq_true rfl) dX12_renew_36 ⟨Nat.zero_le _, Nat.zero_le _⟩ (fun r9 S10 H locs h hR hS => ?_)
      refine lv_istore (lv' := [(5, .int r9), (4, .int r1), (0, .ref (b + adM 0 0)), (1, .int a1), (2, .int a2), (3, .int a3)]) hx hb dX12_renew_39 hl (by decide) rfl (fun ls hl => ?_)
      refine lv_aload_n hx hb dX12_renew_41 rfl (lv_at hl 2 rfl) ?_
      refine gM_0_2 C0 hR Nat.zero_lt_one tbs_wsX120 mM6_7_79 dX12_renew_42 ?_
      refine lv_iload hx hb dX12_renew_45 (lv_at hl 0 rfl) ?_
      refine lv_bipush (v := 10) hx hb dX12_renew_47 (by decide) ?_
      refine lv_iadd hx hb dX12_renew_49 ?_
      refine lv_aload_n hx hb dX12_renew_50 rfl (lv_at hl 2 rfl) ?_
      refine gM_0_2 C0 hR Nat.zero_lt_one tbs_wsX120 mM6_7_79 dX12_renew_51 ?_
      refine lv_iconst (v := 3) hx hb dX12_renew_54 (by decide) ?_
      refine lM_1 C0 hR Nat.zero_lt_one (by decide) rfl dX12_renew_55 ?_
      refine lv_aload_n hx hb dX12_renew_56 rfl (lv_at hl 2 rfl) ?_
      refine gM_0_2 C0 hR Nat.zero_lt_one tbs_wsX120 mM6_7_79 dX12_renew_57 ?_
      refine lv_bipush (v := 9) hx hb dX12_renew_60 (by decide) ?_
      refine lM_1 C0 hR Nat.zero_lt_one (by decide) rfl dX12_renew_62 ?_
      refine lv_iadd hx hb dX12_renew_63 ?_
      obtain ⟨j11, hj11, ej11, h⟩ := h
      refine sM_1 C0 hR hS Nat.zero_lt_one hj11 ej11 dX12_renew_64 (fun S12 eS12 H locs hR hS => ?_)
      have h := h S12 eS12
      refine lv_aload_n hx hb dX12_renew_65 rfl (lv_at hl 2 rfl) ?_
      refine gM_0_2 C0 hR Nat.zero_lt_one tbs_wsX120 mM6_7_79 dX12_renew_66 ?_
      refine lv_iload hx hb dX12_renew_69 (lv_at hl 0 rfl) ?_
      refine lv_bipush (v := 10) hx hb dX12_renew_71 (by decide) ?_
      refine lv_iadd hx hb dX12_renew_73 ?_
      refine lM_1 C0 hR Nat.zero_lt_one hj11 ej11 dX12_renew_74 ?_
      refine lv_topi (fun x13 ex13 => ?_)
      have h := h x13 ex13
      refine lv_istore (lv' := [(6, .int x13), (5, .int r9), (4, .int r1), (0, .ref (b + adM 0 0)), (1, .int a1), (2, .int a2), (3, .int a3)]) hx hb dX12_renew_75 hl (by decide) rfl (fun ls hl => ?_)
      refine lv_aload_n hx hb dX12_renew_77 rfl (lv_at hl 3 rfl) ?_
      refine lv_iload_n hx hb dX12_renew_78 rfl (lv_at hl 4 rfl) ?_
      refine qM_Vv (As := [.int a1]) (rest := []) C0 (c_X12_isDone l h) (cwV 1 C0.2.2.2.2 (tbV mM6_8_211 ⟨mM6_8_213, mpM6_6_0, mM6_1_11, mM6_8_214⟩) rfl rfl rfl (by decide +kernel) ⟨Nat.le_of_ble_eq_true rfl, Nat.le_of_ble_eq_true rfl⟩) (rcM_0 hR Nat.zero_lt_one) hR hT hS rfl hl.1 rfl (Nat.le_of_ble_eq_true rfl) dX12_renew_79 ⟨Nat.zero_le _, Nat.zero_le _⟩ (fun S15 H locs h hR hS => ?_)
      refine lv_iload hx hb dX12_renew_82 (lv_at hl 0 rfl) ?_
      exact rtM_i C0 hr hlk hR hS h dX12_renew_84
    · have h := h.2 c8
      refine lv_iconst (v := 0) hx hb dX12_renew_30 (by decide) ?_
      exact rtM_i C0 hr hlk hR hS h dX12_renew_31

def rm_X12_finish : Room := { frames := 6, cells := 0, slots := 0, locals := 132 }
def F_X12_finish (a1 : Int32) (a2 : Int32) (a3 : Int32) (S : sSt) (k : Int32 → sSt → Prop) : Prop := F_X12_ownJobFor a1 a2 S (fun r1 S2 => ((r1 = (-1) → k 0 S2) ∧ (¬ r1 = (-1) → F_X12_bars r1 a1 a3 S2 (fun r4 S5 => F_X12_refuses r4 2 S5 (fun r6 S7 => ((r6 = 0 → F_X12_locks r1 a1 S7 (fun r9 S10 => ix (r9 + 3) 10421 (fun j11 => ∀ S12, S12 = uI S10 1 0 j11 2 → ix (r9 + 6) 10421 (fun j13 => ∀ x14 : Int32, x14 = (S12.1 1 0 j13) → F_X12_isDone a1 S12 (fun S16 => k x14 S16))))) ∧ (¬ r6 = 0 → k 0 S7)))))))
set_option maxHeartbeats 4000000 in
set_option maxRecDepth 100000 in
theorem c_X12_finish (l : Launch) {D : va_G} {cy : Nat → ClassId} {b z : Nat} {tx : TX} {a1 : Int32} {a2 : Int32} {a3 : Int32} {S : sSt} {k : Int32 → sSt → Prop} (h : F_X12_finish a1 a2 a3 S k) : Met l yX12_finish (Cond.code yX12_finish cX12_finish 7 (some .int) :: TB) rm_X12_finish (va_Pc [.ref (b + adM 0 0), .int a1, .int a2, .int a3] (fun U => RelM D cy b z tx S U U.heap ∧ TxR tx U)) (PiM D cy b z tx k) 0 0 (gA b 12 z) := by
  refine Met.ofW (cc := cX12_finish) (maxL := 7) (ret := (some .int)) (by decide) rfl ?_
  intro p e s m args below meth c s₁ B hml hv
  obtain ⟨rfl, hR, hT⟩ := hv
  have C0 : CallFix p m c cX12_finish 7 s _ TB RX12 := ⟨B.exec, B.bytes, hml, findClass_of_methodNamed B.named, fun w hw => atoms_spec B.pre w (List.mem_cons_of_mem _ hw)⟩
  have hr := B.returns
  have hlk := B.notSynchronized
  have hx := C0.1
  have hb := C0.2.1
  have hS : va_S (gA b 12 z) s.heap s.heap [] := va_S.rf
  have hl := lv_entry ([.ref (b + adM 0 0), .int a1, .int a2, .int a3]) (n := 7) (Nat.le_of_ble_eq_true rfl)
  rw [lg_entry_eq]
  generalize (lg_sl ([.ref (b + adM 0 0), .int a1, .int a2, .int a3]) ++ List.replicate (7 - (lg_sl ([.ref (b + adM 0 0), .int a1, .int a2, .int a3])).length) Slot.unset).toArray = ls at hl ⊢
  have hl : lv_has ls 7 [(0, .ref (b + adM 0 0)), (1, .int a1), (2, .int a2), (3, .int a3)] := hl
  show W p l e rm_X12_finish s m _ below meth c s.heap [] 0 0 (MQ below (PiM D cy b z tx k) _ s 0 0 (gA b 12 z)) _
  unfold F_X12_finish at h
  refine lv_aload_n hx hb dX12_finish_0 rfl (lv_at hl 0 rfl) ?_
  refine lv_iload_n hx hb dX12_finish_1 rfl (lv_at hl 1 rfl) ?_
  refine lv_iload_n hx hb dX12_finish_2 rfl (lv_at hl 2 rfl) ?_
  refine qM_Vi (As := [.int a1, .int a2]) (rest := []) C0 (c_X12_ownJobFor l h) (cwV 2 C0.2.2.2.2 (tbV mM6_8_219 ⟨mM6_8_221, mpM6_6_1, mM6_1_11, mM6_8_222⟩) rfl rfl rfl (by decide +kernel) ⟨Nat.le_of_ble_eq_true rfl, Nat.le_of_ble_eq_true rfl⟩) (rcM_0 hR Nat.zero_lt_one) hR hT hS rfl hl.1 rfl (Nat.le_of_ble_eq_true rfl) dX12_finish_3 ⟨Nat.zero_le _, Nat.zero_le _⟩ (fun r1 S2 H locs h hR hS => ?_)
  refine lv_istore (lv' := [(4, .int r1), (0, .ref (b + adM 0 0)), (1, .int a1), (2, .int a2), (3, .int a3)]) hx hb dX12_finish_6 hl (by decide) rfl (fun ls hl => ?_)
  refine lv_iload hx hb dX12_finish_8 (lv_at hl 0 rfl) ?_
  refine lv_iconst (v := (-1)) hx hb dX12_finish_10 (by decide) ?_
  refine lv_icmp_eq (tgt := 30) hx hb dX12_finish_11 (by decide) (fun c3 => ?_) (fun c3 => ?_)
  · have h := h.1 c3
    refine lv_iconst (v := 0) hx hb dX12_finish_30 (by decide) ?_
    exact rtM_i C0 hr hlk hR hS h dX12_finish_31
  · have h := h.2 c3
    refine lv_aload_n hx hb dX12_finish_14 rfl (lv_at hl 1 rfl) ?_
    refine lv_aload_n hx hb dX12_finish_15 rfl (lv_at hl 1 rfl) ?_
    refine lv_iload hx hb dX12_finish_16 (lv_at hl 0 rfl) ?_
    refine lv_iload_n hx hb dX12_finish_18 rfl (lv_at hl 2 rfl) ?_
    refine lv_iload_n hx hb dX12_finish_19 rfl (lv_at hl 4 rfl) ?_
    refine qM_Vi (As := [.int r1, .int a1, .int a3]) (rest := [.ref (b + adM 0 0)]) C0 (c_X12_bars l h) (cwV 3 C0.2.2.2.2 (tbV mM6_8_231 ⟨mM6_8_233, mpM6_6_4, mM6_1_11, mM6_8_234⟩) rfl rfl rfl (by decide +kernel) ⟨Nat.le_of_ble_eq_true rfl, Nat.le_of_ble_eq_true rfl⟩) (rcM_0 hR Nat.zero_lt_one) hR hT hS rfl hl.1 rfl (Nat.le_of_ble_eq_true rfl) dX12_finish_20 ⟨Nat.zero_le _, Nat.zero_le _⟩ (fun r4 S5 H locs h hR hS => ?_)
    refine lv_iconst (v := 2) hx hb dX12_finish_23 (by decide) ?_
    refine qM_Vi (As := [.int r4, .int 2]) (rest := []) C0 (c_X12_refuses l h) (cwV 2 C0.2.2.2.2 (tbV mM6_8_91 ⟨mM6_8_93, mpM6_4_8, mM6_1_11, mM6_8_94⟩) rfl rfl rfl (by decide +kernel) ⟨Nat.le_of_ble_eq_true rfl, Nat.le_of_ble_eq_true rfl⟩) (rcM_0 hR Nat.zero_lt_one) hR hT hS rfl hl.1 rfl (Nat.le_of_ble_eq_true rfl) dX12_finish_24 ⟨Nat.zero_le _, Nat.zero_le _⟩ (fun r6 S7 H locs h hR hS => ?_)
    refine lv_if_eq (tgt := 32) hx hb dX12_finish_27 (by decide) (fun c8 => ?_) (fun c8 => ?_)
    · have h := h.1 c8
      refine lv_aload_n hx hb dX12_finish_32 rfl (lv_at hl 1 rfl) ?_
      refine lv_iload hx hb dX12_finish_33 (lv_at hl 0 rfl) ?_
      refine lv_iload_n hx hb dX12_finish_35 rfl (lv_at hl 2 rfl) ?_
      refine qM_Vi (As := [.int r1, .int a1]) (rest := []) C0 (c_X12_locks l h) (cwV 2 C0.2.2.2.2 (tbV mM6_8_207 ⟨mM6_8_209, mpM6_5_15, mM6_1_11, mM6_8_210⟩) rfl rfl rfl (by decide +kernel) ⟨Nat.le_of_ble_eq_true rfl, Nat.le_of_ble_eq_true rfl⟩) (rcM_0 hR Nat.zero_lt_one) hR hT hS rfl hl.1 rfl (Nat.le_of_ble_eq_true rfl) dX12_finish_36 ⟨Nat.zero_le _, Nat.zero_le _⟩ (fun r9 S10 H locs h hR hS => ?_)
      refine lv_istore (lv' := [(5, .int r9), (4, .int r1), (0, .ref (b + adM 0 0)), (1, .int a1), (2, .int a2), (3, .int a3)]) hx hb dX12_finish_39 hl (by decide) rfl (fun ls hl => ?_)
      refine lv_aload_n hx hb dX12_finish_41 rfl (lv_at hl 2 rfl) ?_
      refine gM_0_2 C0 hR Nat.zero_lt_one tbs_wsX120 mM6_7_79 dX12_finish_42 ?_
      refine lv_iload hx hb dX12_finish_45 (lv_at hl 0 rfl) ?_
      refine lv_iconst (v := 3) hx hb dX12_finish_47 (by decide) ?_
      refine lv_iadd hx hb dX12_finish_48 ?_
      refine lv_iconst (v := 2) hx hb dX12_finish_49 (by decide) ?_
      obtain ⟨j11, hj11, ej11, h⟩ := h
      refine sM_1 C0 hR hS Nat.zero_lt_one hj11 ej11 dX12_finish_50 (fun S12 eS12 H locs hR hS => ?_)
      have h := h S12 eS12
      refine lv_aload_n hx hb dX12_finish_51 rfl (lv_at hl 2 rfl) ?_
      refine gM_0_2 C0 hR Nat.zero_lt_one tbs_wsX120 mM6_7_79 dX12_finish_52 ?_
      refine lv_iload hx hb dX12_finish_55 (lv_at hl 0 rfl) ?_
      refine lv_bipush (v := 6) hx hb dX12_finish_57 (by decide) ?_
      refine lv_iadd hx hb dX12_finish_59 ?_
      obtain ⟨j13, hj13, ej13, h⟩ := h
      refine lM_1 C0 hR Nat.zero_lt_one hj13 ej13 dX12_finish_60 ?_
      refine lv_topi (fun x14 ex14 => ?_)
      have h := h x14 ex14
      refine lv_istore (lv' := [(6, .int x14), (5, .int r9), (4, .int r1), (0, .ref (b + adM 0 0)), (1, .int a1), (2, .int a2), (3, .int a3)]) hx hb dX12_finish_61 hl (by decide) rfl (fun ls hl => ?_)
      refine lv_aload_n hx hb dX12_finish_63 rfl (lv_at hl 3 rfl) ?_
      refine lv_iload_n hx hb dX12_finish_64 rfl (lv_at hl 4 rfl) ?_
      refine qM_Vv (As := [.int a1]) (rest := []) C0 (c_X12_isDone l h) (cwV 1 C0.2.2.2.2 (tbV mM6_8_211 ⟨mM6_8_213, mpM6_6_0, mM6_1_11, mM6_8_214⟩) rfl rfl rfl (by decide +kernel) ⟨Nat.le_of_ble_eq_true rfl, Nat.le_of_ble_eq_true rfl⟩) (rcM_0 hR Nat.zero_lt_one) hR hT hS rfl hl.1 rfl (Nat.le_of_ble_eq_true rfl) dX12_finish_65 ⟨Nat.zero_le _, Nat.zero_le _⟩ (fun S16 H locs h hR hS => ?_)
      refine lv_iload hx hb dX12_finish_68 (lv_at hl 0 rfl) ?_
      exact rtM_i C0 hr hlk hR hS h dX12_finish_70
    · have h := h.2 c8
      refine lv_iconst (v := 0) hx hb dX12_finish_30 (by decide) ?_
      exact rtM_i C0 hr hlk hR hS h dX12_finish_31

def rm_X12_waitOf : Room := { frames := 1, cells := 0, slots := 0, locals := 22 }
def B_X12_waitOf_34 (a1 : Int32) (a2 : Int32) (a3 : Int32) (S : sSt) (k : Int32 → sSt → Prop) : Prop := (¬ ((S.1 1 0 12) + 1) = 0) ∧ (k ((if a3 < (S.1 1 0 11) then a3 else (S.1 1 0 11)) + (((7 * a1) + (3 * a2)) - ((7 * a1) + (3 * a2)) / ((S.1 1 0 12) + 1) * ((S.1 1 0 12) + 1))) S)
set_option maxHeartbeats 4000000 in
set_option maxRecDepth 100000 in
theorem Bw_X12_waitOf_34 {p : Program} {l : Launch} {e : Env} {s : State} {m : MethodId} {args : Array Value} {below : List Frame} {meth : Method} {c : Code} {D : va_G} {cy : Nat → ClassId} {b z : Nat} {tx : TX} (C0 : CallFix p m c cX12_waitOf 5 s args TB RX12) (hr : meth.sig.returnType = (some .int)) (hlk : meth.locks = false) (hT : TxR tx s) {k : Int32 → sSt → Prop} : ∀ (a1 : Int32) (a2 : Int32) (a3 : Int32) (S : sSt) (H : Heap) (locs : List Loc) (ls : Array Slot) , B_X12_waitOf_34 a1 a2 a3 S k → RelM D cy b z tx S s H → va_S (gA b 12 z) s.heap H locs → lv_has ls 5 [(0, .ref (b + adM 0 0)), (1, .int a1), (2, .int a2), (3, .int a3)] → W p l e rm_X12_waitOf s m args below meth c H locs 0 0 (MQ below (PiM D cy b z tx k) args s 0 0 (gA b 12 z)) (F0 m 34 ls []) := by
  intro a1 a2 a3 S H locs ls h hR hS hl
  have hx := C0.1
  have hb := C0.2.1
  unfold B_X12_waitOf_34 at h
  refine lv_aload_n hx hb dX12_waitOf_34 rfl (lv_at hl 0 rfl) ?_
  refine gM_0_2 C0 hR Nat.zero_lt_one tbs_wsX120 mM6_7_79 dX12_waitOf_35 ?_
  refine lv_bipush (v := 11) hx hb dX12_waitOf_38 (by decide) ?_
  refine lM_1 C0 hR Nat.zero_lt_one (by decide) rfl dX12_waitOf_40 ?_
  refine lv_iload_n hx hb dX12_waitOf_41 rfl (lv_at hl 3 rfl) ?_
  refine va_mmin hx hb (C0.2.2.1.trans hl.1.symm) C0.2.2.2.1 (C0.2.2.2.2 _ mM6_8_142) (C0.2.2.2.2 _ mM6_5_67) (C0.2.2.2.2 _ mM6_1_25) (C0.2.2.2.2 _ mM6_5_68) (Nat.le_of_ble_eq_true rfl) (Nat.le_of_ble_eq_true rfl) (Nat.zero_le _) (Nat.zero_le _) dX12_waitOf_42 ?_
  refine lv_bipush (v := 7) hx hb dX12_waitOf_45 (by decide) ?_
  refine lv_iload_n hx hb dX12_waitOf_47 rfl (lv_at hl 1 rfl) ?_
  refine lv_imul hx hb dX12_waitOf_48 ?_
  refine lv_iconst (v := 3) hx hb dX12_waitOf_49 (by decide) ?_
  refine lv_iload_n hx hb dX12_waitOf_50 rfl (lv_at hl 2 rfl) ?_
  refine lv_imul hx hb dX12_waitOf_51 ?_
  refine lv_iadd hx hb dX12_waitOf_52 ?_
  refine lv_aload_n hx hb dX12_waitOf_53 rfl (lv_at hl 0 rfl) ?_
  refine gM_0_2 C0 hR Nat.zero_lt_one tbs_wsX120 mM6_7_79 dX12_waitOf_54 ?_
  refine lv_bipush (v := 12) hx hb dX12_waitOf_57 (by decide) ?_
  refine lM_1 C0 hR Nat.zero_lt_one (by decide) rfl dX12_waitOf_59 ?_
  refine lv_iconst (v := 1) hx hb dX12_waitOf_60 (by decide) ?_
  refine lv_iadd hx hb dX12_waitOf_61 ?_
  obtain ⟨n3, h⟩ := h
  refine lv_irem hx hb dX12_waitOf_62 n3 ?_
  refine lv_iadd hx hb dX12_waitOf_63 ?_
  exact rtM_i C0 hr hlk hR hS h dX12_waitOf_64
def Bb_X12_waitOf_11 (kk11 : Int32 → Int32 → Int32 → Int32 → sSt → Prop) (a1 : Int32) (a2 : Int32) (a3 : Int32) (a4 : Int32) (S : sSt) (k : Int32 → sSt → Prop) : Prop := ((a2 ≤ a4 → B_X12_waitOf_34 a1 a2 a3 S k) ∧ (¬ a2 ≤ a4 → ((1000000 ≤ a3 → B_X12_waitOf_34 a1 a2 a3 S k) ∧ (¬ 1000000 ≤ a3 → ∀ x5 : Int32, x5 = (a3 * 2) → ∀ x6 : Int32, x6 = a4 + 1 → kk11 a1 a2 x5 x6 S))))
set_option maxHeartbeats 4000000 in
set_option maxRecDepth 100000 in
theorem Bbw_X12_waitOf_11 {p : Program} {l : Launch} {e : Env} {s : State} {m : MethodId} {args : Array Value} {below : List Frame} {meth : Method} {c : Code} {D : va_G} {cy : Nat → ClassId} {b z : Nat} {tx : TX} (C0 : CallFix p m c cX12_waitOf 5 s args TB RX12) (hr : meth.sig.returnType = (some .int)) (hlk : meth.locks = false) (hT : TxR tx s) {k : Int32 → sSt → Prop} {kk11 : Int32 → Int32 → Int32 → Int32 → sSt → Prop} (ih11 : ∀ (a1 : Int32) (a2 : Int32) (a3 : Int32) (a4 : Int32) (S : sSt) (H : Heap) (locs : List Loc) (ls : Array Slot) , kk11 a1 a2 a3 a4 S → RelM D cy b z tx S s H → va_S (gA b 12 z) s.heap H locs → lv_has ls 5 [(0, .ref (b + adM 0 0)), (1, .int a1), (2, .int a2), (3, .int a3), (4, .int a4)] → W p l e rm_X12_waitOf s m args below meth c H locs 0 0 (MQ below (PiM D cy b z tx k) args s 0 0 (gA b 12 z)) (F0 m 11 ls [])) : ∀ (a1 : Int32) (a2 : Int32) (a3 : Int32) (a4 : Int32) (S : sSt) (H : Heap) (locs : List Loc) (ls : Array Slot) , Bb_X12_waitOf_11 kk11 a1 a2 a3 a4 S k → RelM D cy b z tx S s H → va_S (gA b 12 z) s.heap H locs → lv_has ls 5 [(0, .ref (b + adM 0 0)), (1, .int a1), (2, .int a2), (3, .int a3), (4, .int a4)] → W p l e rm_X12_waitOf s m args below meth c H locs 0 0 (MQ below (PiM D cy b z tx k) args s 0 0 (gA b 12 z)) (F0 m 11 ls []) := by
  intro a1 a2 a3 a4 S H locs ls h hR hS hl
  have hx := C0.1
  have hb := C0.2.1
  unfold Bb_X12_waitOf_11 at h
  refine lv_iload hx hb dX12_waitOf_11 (lv_at hl 4 rfl) ?_
  refine lv_iload_n hx hb dX12_waitOf_13 rfl (lv_at hl 2 rfl) ?_
  refine lv_icmp_ge (tgt := 34) hx hb dX12_waitOf_14 (by decide) (fun c2 => ?_) (fun c2 => ?_)
  · have h := h.1 c2
    exact Bw_X12_waitOf_34 C0 hr hlk hT a1 a2 a3 S _ _ _ h hR hS (lv_sub hl [0, 1, 2, 3] rfl)
  · have h := h.2 c2
    refine lv_iload_n hx hb dX12_waitOf_17 rfl (lv_at hl 3 rfl) ?_
    refine lv_ldcw (v := 1000000) hx hb C0.2.2.2.1 (C0.2.2.2.2 _ mM6_9_11) dX12_waitOf_18 ?_
    refine lv_icmp_ge (tgt := 34) hx hb dX12_waitOf_21 (by decide) (fun c4 => ?_) (fun c4 => ?_)
    · have h := h.1 c4
      exact Bw_X12_waitOf_34 C0 hr hlk hT a1 a2 a3 S _ _ _ h hR hS (lv_sub hl [0, 1, 2, 3] rfl)
    · have h := h.2 c4
      refine lv_iload_n hx hb dX12_waitOf_24 rfl (lv_at hl 3 rfl) ?_
      refine lv_iconst (v := 2) hx hb dX12_waitOf_25 (by decide) ?_
      refine lv_imul hx hb dX12_waitOf_26 ?_
      refine lv_topi (fun x5 ex5 => ?_)
      have h := h x5 ex5
      refine lv_istore_n (lv' := [(3, .int x5), (0, .ref (b + adM 0 0)), (1, .int a1), (2, .int a2), (4, .int a4)]) hx hb dX12_waitOf_27 rfl hl (by decide) rfl (fun ls hl => ?_)
      obtain ⟨x6, ex6⟩ : ∃ x6 : Int32, x6 = a4 + 1 := ⟨_, rfl⟩
      have h := h x6 ex6
      refine w_iinc (v0 := 1) (lv' := [(4, .int x6), (3, .int x5), (0, .ref (b + adM 0 0)), (1, .int a1), (2, .int a2)]) C0 dX12_waitOf_28 hl (k := 4) rfl (by decide) (by decide) x6 ex6 rfl (fun ls hl => ?_)
      refine lv_goto (tgt := 11) hx hb dX12_waitOf_31 (by decide) ?_
      exact ih11 a1 a2 x5 x6 S _ _ _  h hR hS (lv_sub hl [2, 3, 4, 1, 0] rfl)
def B_X12_waitOf_11 (n9 : Nat) (a1 : Int32) (a2 : Int32) (a3 : Int32) (a4 : Int32) (S : sSt) (k : Int32 → sSt → Prop) : Prop := (Nat.rec (motive := fun _ => Int32 → Int32 → Int32 → Int32 → sSt → Prop) (fun _ _ _ _ _ => False) (fun _ r9 => fun a1 a2 a3 a4 S => Bb_X12_waitOf_11 r9 a1 a2 a3 a4 S k) n9 : Int32 → Int32 → Int32 → Int32 → sSt → Prop) a1 a2 a3 a4 S
theorem B_X12_waitOf_11_s (n9 : Nat) (a1 : Int32) (a2 : Int32) (a3 : Int32) (a4 : Int32) (S : sSt) (k : Int32 → sSt → Prop) : B_X12_waitOf_11 (n9 + 1) a1 a2 a3 a4 S k = Bb_X12_waitOf_11 (fun a1 a2 a3 a4 S => B_X12_waitOf_11 n9 a1 a2 a3 a4 S k) a1 a2 a3 a4 S k := rfl
set_option maxHeartbeats 4000000 in
set_option maxRecDepth 100000 in
theorem Bw_X12_waitOf_11 {p : Program} {l : Launch} {e : Env} {s : State} {m : MethodId} {args : Array Value} {below : List Frame} {meth : Method} {c : Code} {D : va_G} {cy : Nat → ClassId} {b z : Nat} {tx : TX} (C0 : CallFix p m c cX12_waitOf 5 s args TB RX12) (hr : meth.sig.returnType = (some .int)) (hlk : meth.locks = false) (hT : TxR tx s) {k : Int32 → sSt → Prop} : ∀ (n9 : Nat), ∀ (a1 : Int32) (a2 : Int32) (a3 : Int32) (a4 : Int32) (S : sSt) (H : Heap) (locs : List Loc) (ls : Array Slot) , B_X12_waitOf_11 n9 a1 a2 a3 a4 S k → RelM D cy b z tx S s H → va_S (gA b 12 z) s.heap H locs → lv_has ls 5 [(0, .ref (b + adM 0 0)), (1, .int a1), (2, .int a2), (3, .int a3), (4, .int a4)] → W p l e rm_X12_waitOf s m args below meth c H locs 0 0 (MQ below (PiM D cy b z tx k) args s 0 0 (gA b 12 z)) (F0 m 11 ls []) := by
  intro n9
  induction n9 with
  | zero => intro a1 a2 a3 a4 S H locs ls h; exact h.elim
  | succ n9 ih =>
    intro a1 a2 a3 a4 S H locs ls h hR hS hl
    exact Bbw_X12_waitOf_11 C0 hr hlk hT ih a1 a2 a3 a4 S H locs ls h hR hS hl
def F_X12_waitOf (a1 : Int32) (a2 : Int32) (S : sSt) (k : Int32 → sSt → Prop) : Prop := ∀ x1 : Int32, x1 = (S.1 1 0 10) → B_X12_waitOf_11 fuel a1 a2 x1 1 S k
set_option maxHeartbeats 4000000 in
set_option maxRecDepth 100000 in
theorem c_X12_waitOf (l : Launch) {D : va_G} {cy : Nat → ClassId} {b z : Nat} {tx : TX} {a1 : Int32} {a2 : Int32} {S : sSt} {k : Int32 → sSt → Prop} (h : F_X12_waitOf a1 a2 S k) : Met l yX12_waitOf (Cond.code yX12_waitOf cX12_waitOf 5 (some .int) :: TB) rm_X12_waitOf (va_Pc [.ref (b + adM 0 0), .int a1, .int a2] (fun U => RelM D cy b z tx S U U.heap ∧ TxR tx U)) (PiM D cy b z tx k) 0 0 (gA b 12 z) := by
  refine Met.ofW (cc := cX12_waitOf) (maxL := 5) (ret := (some .int)) (by decide) rfl ?_
  intro p e s m args below meth c s₁ B hml hv
  obtain ⟨rfl, hR, hT⟩ := hv
  have C0 : CallFix p m c cX12_waitOf 5 s _ TB RX12 := ⟨B.exec, B.bytes, hml, findClass_of_methodNamed B.named, fun w hw => atoms_spec B.pre w (List.mem_cons_of_mem _ hw)⟩
  have hr := B.returns
  have hlk := B.notSynchronized
  have hx := C0.1
  have hb := C0.2.1
  have hS : va_S (gA b 12 z) s.heap s.heap [] := va_S.rf
  have hl := lv_entry ([.ref (b + adM 0 0), .int a1, .int a2]) (n := 5) (Nat.le_of_ble_eq_true rfl)
  rw [lg_entry_eq]
  generalize (lg_sl ([.ref (b + adM 0 0), .int a1, .int a2]) ++ List.replicate (5 - (lg_sl ([.ref (b + adM 0 0), .int a1, .int a2])).length) Slot.unset).toArray = ls at hl ⊢
  have hl : lv_has ls 5 [(0, .ref (b + adM 0 0)), (1, .int a1), (2, .int a2)] := hl
  show W p l e rm_X12_waitOf s m _ below meth c s.heap [] 0 0 (MQ below (PiM D cy b z tx k) _ s 0 0 (gA b 12 z)) _
  unfold F_X12_waitOf at h
  refine lv_aload_n hx hb dX12_waitOf_0 rfl (lv_at hl 0 rfl) ?_
  refine gM_0_2 C0 hR Nat.zero_lt_one tbs_wsX120 mM6_7_79 dX12_waitOf_1 ?_
  refine lv_bipush (v := 10) hx hb dX12_waitOf_4 (by decide) ?_
  refine lM_1 C0 hR Nat.zero_lt_one (by decide) rfl dX12_waitOf_6 ?_
  refine lv_topi (fun x1 ex1 => ?_)
  have h := h x1 ex1
  refine lv_istore_n (lv' := [(3, .int x1), (0, .ref (b + adM 0 0)), (1, .int a1), (2, .int a2)]) hx hb dX12_waitOf_7 rfl hl (by decide) rfl (fun ls hl => ?_)
  refine lv_iconst (v := 1) hx hb dX12_waitOf_8 (by decide) ?_
  refine lv_istore (lv' := [(4, .int 1), (3, .int x1), (0, .ref (b + adM 0 0)), (1, .int a1), (2, .int a2)]) hx hb dX12_waitOf_9 hl (by decide) rfl (fun ls hl => ?_)
  exact Bw_X12_waitOf_11 C0 hr hlk hT fuel a1 a2 x1 1 S _ _ _ h hR hS (lv_sub hl [2, 3, 4, 1, 0] rfl)

def rm_X12_failsBy : Room := { frames := 2, cells := 0, slots := 0, locals := 46 }
def B_X12_failsBy_137 (a1 : Int32) (a2 : Int32) (a4 : Int32) (t1 : Int32) (t2 : Int32) (S : sSt) (k : sSt → Prop) : Prop := ix t1 10421 (fun j11 => ∀ S12, S12 = uI S 1 0 j11 t2 → ((¬ a4 = 0 → k S12) ∧ (a4 = 0 → F_X12_numberOf a1 S12 (fun r14 S15 => ix (a2 + 6) 10421 (fun j16 => F_X12_waitOf r14 (S15.1 1 0 j16) S15 (fun r17 S18 => ix (a2 + 5) 10421 (fun j19 => ∀ S20, S20 = uI S18 1 0 j19 ((S12.1 1 0 3) + r17) → k S20)))))))
set_option maxHeartbeats 4000000 in
set_option maxRecDepth 100000 in
theorem Bw_X12_failsBy_137 {p : Program} {l : Launch} {e : Env} {s : State} {m : MethodId} {args : Array Value} {below : List Frame} {meth : Method} {c : Code} {D : va_G} {cy : Nat → ClassId} {b z : Nat} {tx : TX} (C0 : CallFix p m c cX12_failsBy 5 s args TB RX12) (hr : meth.sig.returnType = none) (hlk : meth.locks = false) (hT : TxR tx s) {k : sSt → Prop} : ∀ (a1 : Int32) (a2 : Int32) (a4 : Int32) (t1 : Int32) (t2 : Int32) (S : sSt) (H : Heap) (locs : List Loc) (ls : Array Slot) , B_X12_failsBy_137 a1 a2 a4 t1 t2 S k → RelM D cy b z tx S s H → va_S (gA b 12 z) s.heap H locs → lv_has ls 5 [(0, .ref (b + adM 0 0)), (1, .int a1), (2, .int a2), (4, .int a4)] → W p l e rm_X12_failsBy s m args below meth c H locs 0 0 (MQ below (PvM D cy b z tx k) args s 0 0 (gA b 12 z)) (F0 m 137 ls [.int t2, .int t1, .ref (b + adM 1 0)]) := by
  intro a1 a2 a4 t1 t2 S H locs ls h hR hS hl
  have hx := C0.1
  have hb := C0.2.1
  unfold B_X12_failsBy_137 at h
  obtain ⟨j11, hj11, ej11, h⟩ := h
  refine sM_1 C0 hR hS Nat.zero_lt_one hj11 ej11 dX12_failsBy_137 (fun S12 eS12 H locs hR hS => ?_)
  have h := h S12 eS12
  refine lv_iload hx hb dX12_failsBy_138 (lv_at hl 3 rfl) ?_
  refine lv_if_ne (tgt := 176) hx hb dX12_failsBy_140 (by decide) (fun c13 => ?_) (fun c13 => ?_)
  · have h := h.1 c13
    exact rtM_v C0 hr hlk hR hS h dX12_failsBy_176
  · have h := h.2 c13
    refine lv_aload_n hx hb dX12_failsBy_143 rfl (lv_at hl 0 rfl) ?_
    refine gM_0_2 C0 hR Nat.zero_lt_one tbs_wsX120 mM6_7_79 dX12_failsBy_144 ?_
    refine lv_iload_n hx hb dX12_failsBy_147 rfl (lv_at hl 2 rfl) ?_
    refine lv_iconst (v := 5) hx hb dX12_failsBy_148 (by decide) ?_
    refine lv_iadd hx hb dX12_failsBy_149 ?_
    refine lv_aload_n hx hb dX12_failsBy_150 rfl (lv_at hl 0 rfl) ?_
    refine gM_0_2 C0 hR Nat.zero_lt_one tbs_wsX120 mM6_7_79 dX12_failsBy_151 ?_
    refine lv_iconst (v := 3) hx hb dX12_failsBy_154 (by decide) ?_
    refine lM_1 C0 hR Nat.zero_lt_one (by decide) rfl dX12_failsBy_155 ?_
    refine lv_aload_n hx hb dX12_failsBy_156 rfl (lv_at hl 0 rfl) ?_
    refine lv_aload_n hx hb dX12_failsBy_157 rfl (lv_at hl 0 rfl) ?_
    refine lv_iload_n hx hb dX12_failsBy_158 rfl (lv_at hl 1 rfl) ?_
    refine qM_Vi (As := [.int a1]) (rest := [.ref (b + adM 0 0), .int (S12.1 1 0 3), .int (a2 + 5), .ref (b + adM 1 0)]) C0 (c_X12_numberOf l h) (cwV 1 C0.2.2.2.2 (tbV mM6_7_202 ⟨mM6_7_204, mpM6_3_3, mM6_1_11, mM6_7_205⟩) rfl rfl rfl (by decide +kernel) ⟨Nat.le_of_ble_eq_true rfl, Nat.le_of_ble_eq_true rfl⟩) (rcM_0 hR Nat.zero_lt_one) hR hT hS rfl hl.1 rfl (Nat.le_of_ble_eq_true rfl) dX12_failsBy_159 ⟨Nat.zero_le _, Nat.zero_le _⟩ (fun r14 S15 H locs h hR hS => ?_)
    refine lv_aload_n hx hb dX12_failsBy_162 rfl (lv_at hl 0 rfl) ?_
    refine gM_0_2 C0 hR Nat.zero_lt_one tbs_wsX120 mM6_7_79 dX12_failsBy_163 ?_
    refine lv_iload_n hx hb dX12_failsBy_166 rfl (lv_at hl 2 rfl) ?_
    refine lv_bipush (v := 6) hx hb dX12_failsBy_167 (by decide) ?_
    refine lv_iadd hx hb dX12_failsBy_169 ?_
    obtain ⟨j16, hj16, ej16, h⟩ := h
    refine lM_1 C0 hR Nat.zero_lt_one hj16 ej16 dX12_failsBy_170 ?_
    refine qM_Vi (As := [.int r14, .int (S15.1 1 0 j16)]) (rest := [.int (S12.1 1 0 3), .int (a2 + 5), .ref (b + adM 1 0)]) C0 (c_X12_waitOf l h) (cwV 2 C0.2.2.2.2 (tbV mM6_9_7 ⟨mM6_9_9, mpM6_6_6, mM6_1_11, mM6_9_10⟩) rfl rfl rfl (by decide +kernel) ⟨Nat.le_of_ble_eq_true rfl, Nat.le_of_ble_eq_true rfl⟩) (rcM_0 hR Nat.zero_lt_one) hR hT hS rfl hl.1 rfl (Nat.le_of_ble_eq_true rfl) dX12_failsBy_171 ⟨Nat.zero_le _, Nat.zero_le _⟩ (fun r17 S18 H locs h hR hS => ?_)
    refine lv_iadd hx hb dX12_failsBy_174 ?_
    obtain ⟨j19, hj19, ej19, h⟩ := h
    refine sM_1 C0 hR hS Nat.zero_lt_one hj19 ej19 dX12_failsBy_175 (fun S20 eS20 H locs hR hS => ?_)
    have h := h S20 eS20
    exact rtM_v C0 hr hlk hR hS h dX12_failsBy_176
def B_X12_failsBy_118 (a1 : Int32) (a2 : Int32) (t0 : Int32) (S : sSt) (k : sSt → Prop) : Prop := ((t0 = 0 → B_X12_failsBy_137 a1 a2 t0 (a2 + 3) 0 S k) ∧ (¬ t0 = 0 → B_X12_failsBy_137 a1 a2 t0 (a2 + 3) 3 S k))
set_option maxHeartbeats 4000000 in
set_option maxRecDepth 100000 in
theorem Bw_X12_failsBy_118 {p : Program} {l : Launch} {e : Env} {s : State} {m : MethodId} {args : Array Value} {below : List Frame} {meth : Method} {c : Code} {D : va_G} {cy : Nat → ClassId} {b z : Nat} {tx : TX} (C0 : CallFix p m c cX12_failsBy 5 s args TB RX12) (hr : meth.sig.returnType = none) (hlk : meth.locks = false) (hT : TxR tx s) {k : sSt → Prop} : ∀ (a1 : Int32) (a2 : Int32) (t0 : Int32) (S : sSt) (H : Heap) (locs : List Loc) (ls : Array Slot) , B_X12_failsBy_118 a1 a2 t0 S k → RelM D cy b z tx S s H → va_S (gA b 12 z) s.heap H locs → lv_has ls 5 [(0, .ref (b + adM 0 0)), (1, .int a1), (2, .int a2)] → W p l e rm_X12_failsBy s m args below meth c H locs 0 0 (MQ below (PvM D cy b z tx k) args s 0 0 (gA b 12 z)) (F0 m 118 ls [.int t0]) := by
  intro a1 a2 t0 S H locs ls h hR hS hl
  have hx := C0.1
  have hb := C0.2.1
  unfold B_X12_failsBy_118 at h
  refine lv_istore (lv' := [(4, .int t0), (0, .ref (b + adM 0 0)), (1, .int a1), (2, .int a2)]) hx hb dX12_failsBy_118 hl (by decide) rfl (fun ls hl => ?_)
  refine lv_aload_n hx hb dX12_failsBy_120 rfl (lv_at hl 1 rfl) ?_
  refine gM_0_2 C0 hR Nat.zero_lt_one tbs_wsX120 mM6_7_79 dX12_failsBy_121 ?_
  refine lv_iload_n hx hb dX12_failsBy_124 rfl (lv_at hl 3 rfl) ?_
  refine lv_iconst (v := 3) hx hb dX12_failsBy_125 (by decide) ?_
  refine lv_iadd hx hb dX12_failsBy_126 ?_
  refine lv_iload hx hb dX12_failsBy_127 (lv_at hl 0 rfl) ?_
  refine lv_if_eq (tgt := 136) hx hb dX12_failsBy_129 (by decide) (fun c10 => ?_) (fun c10 => ?_)
  · have h := h.1 c10
    refine lv_iconst (v := 0) hx hb dX12_failsBy_136 (by decide) ?_
    exact Bw_X12_failsBy_137 C0 hr hlk hT a1 a2 t0 (a2 + 3) 0 S _ _ _ h hR hS (lv_sub hl [1, 2, 3, 0] rfl)
  · have h := h.2 c10
    refine lv_iconst (v := 3) hx hb dX12_failsBy_132 (by decide) ?_
    refine lv_goto (tgt := 137) hx hb dX12_failsBy_133 (by decide) ?_
    exact Bw_X12_failsBy_137 C0 hr hlk hT a1 a2 t0 (a2 + 3) 3 S _ _ _ h hR hS (lv_sub hl [1, 2, 3, 0] rfl)
def B_X12_failsBy_113 (a1 : Int32) (a2 : Int32) (S : sSt) (k : sSt → Prop) : Prop := B_X12_failsBy_118 a1 a2 1 S k
set_option maxHeartbeats 4000000 in
set_option maxRecDepth 100000 in
theorem Bw_X12_failsBy_113 {p : Program} {l : Launch} {e : Env} {s : State} {m : MethodId} {args : Array Value} {below : List Frame} {meth : Method} {c : Code} {D : va_G} {cy : Nat → ClassId} {b z : Nat} {tx : TX} (C0 : CallFix p m c cX12_failsBy 5 s args TB RX12) (hr : meth.sig.returnType = none) (hlk : meth.locks = false) (hT : TxR tx s) {k : sSt → Prop} : ∀ (a1 : Int32) (a2 : Int32) (S : sSt) (H : Heap) (locs : List Loc) (ls : Array Slot) , B_X12_failsBy_113 a1 a2 S k → RelM D cy b z tx S s H → va_S (gA b 12 z) s.heap H locs → lv_has ls 5 [(0, .ref (b + adM 0 0)), (1, .int a1), (2, .int a2)] → W p l e rm_X12_failsBy s m args below meth c H locs 0 0 (MQ below (PvM D cy b z tx k) args s 0 0 (gA b 12 z)) (F0 m 113 ls []) := by
  intro a1 a2 S H locs ls h hR hS hl
  have hx := C0.1
  have hb := C0.2.1
  unfold B_X12_failsBy_113 at h
  refine lv_iconst (v := 1) hx hb dX12_failsBy_113 (by decide) ?_
  refine lv_goto (tgt := 118) hx hb dX12_failsBy_114 (by decide) ?_
  exact Bw_X12_failsBy_118 C0 hr hlk hT a1 a2 1 S _ _ _ h hR hS (lv_sub hl [0, 1, 2] rfl)
def Bb_X12_failsBy_17 (kk17 : Int32 → Int32 → Int32 → Int32 → sSt → Prop) (a1 : Int32) (a2 : Int32) (a3 : Int32) (a4 : Int32) (S : sSt) (k : sSt → Prop) : Prop := ((a4 ≤ 0 → ix (a2 + 13) 10421 (fun j5 => ∀ S6, S6 = uI S 1 0 j5 a3 → ix (a2 + 7) 10421 (fun j7 => ∀ S8, S8 = uI S6 1 0 j7 (if ((S6.1 1 0 j7) + 1) < 9 then ((S6.1 1 0 j7) + 1) else 9) → ((a3 = 5 → B_X12_failsBy_113 a1 a2 S8 k) ∧ (¬ a3 = 5 → ix (a2 + 6) 10421 (fun j21 => (((S8.1 1 0 j21) < (S8.1 1 0 13) → B_X12_failsBy_118 a1 a2 0 S8 k) ∧ (¬ (S8.1 1 0 j21) < (S8.1 1 0 13) → B_X12_failsBy_113 a1 a2 S8 k)))))))) ∧ (¬ a4 ≤ 0 → ix (((a2 + 13) + a4) - 1) 10421 (fun j23 => ix ((a2 + 13) + a4) 10421 (fun j24 => ∀ S25, S25 = uI S 1 0 j24 (S.1 1 0 j23) → ∀ x26 : Int32, x26 = a4 + (-1) → kk17 a1 a2 a3 x26 S25))))
set_option maxHeartbeats 4000000 in
set_option maxRecDepth 100000 in
theorem Bbw_X12_failsBy_17 {p : Program} {l : Launch} {e : Env} {s : State} {m : MethodId} {args : Array Value} {below : List Frame} {meth : Method} {c : Code} {D : va_G} {cy : Nat → ClassId} {b z : Nat} {tx : TX} (C0 : CallFix p m c cX12_failsBy 5 s args TB RX12) (hr : meth.sig.returnType = none) (hlk : meth.locks = false) (hT : TxR tx s) {k : sSt → Prop} {kk17 : Int32 → Int32 → Int32 → Int32 → sSt → Prop} (ih17 : ∀ (a1 : Int32) (a2 : Int32) (a3 : Int32) (a4 : Int32) (S : sSt) (H : Heap) (locs : List Loc) (ls : Array Slot) , kk17 a1 a2 a3 a4 S → RelM D cy b z tx S s H → va_S (gA b 12 z) s.heap H locs → lv_has ls 5 [(0, .ref (b + adM 0 0)), (1, .int a1), (2, .int a2), (3, .int a3), (4, .int a4)] → W p l e rm_X12_failsBy s m args below meth c H locs 0 0 (MQ below (PvM D cy b z tx k) args s 0 0 (gA b 12 z)) (F0 m 17 ls [])) : ∀ (a1 : Int32) (a2 : Int32) (a3 : Int32) (a4 : Int32) (S : sSt) (H : Heap) (locs : List Loc) (ls : Array Slot) , Bb_X12_failsBy_17 kk17 a1 a2 a3 a4 S k → RelM D cy b z tx S s H → va_S (gA b 12 z) s.heap H locs → lv_has ls 5 [(0, .ref (b + adM 0 0)), (1, .int a1), (2, .int a2), (3, .int a3), (4, .int a4)] → W p l e rm_X12_failsBy s m args below meth c H locs 0 0 (MQ below (PvM D cy b z tx k) args s 0 0 (gA b 12 z)) (F0 m 17 ls []) := by
  intro a1 a2 a3 a4 S H locs ls h hR hS hl
  have hx := C0.1
  have hb := C0.2.1
  unfold Bb_X12_failsBy_17 at h
  refine lv_iload hx hb dX12_failsBy_17 (lv_at hl 4 rfl) ?_
  refine lv_if_le (tgt := 54) hx hb dX12_failsBy_19 (by decide) (fun c4 => ?_) (fun c4 => ?_)
  · have h := h.1 c4
    refine lv_aload_n hx hb dX12_failsBy_54 rfl (lv_at hl 0 rfl) ?_
    refine gM_0_2 C0 hR Nat.zero_lt_one tbs_wsX120 mM6_7_79 dX12_failsBy_55 ?_
    refine lv_iload_n hx hb dX12_failsBy_58 rfl (lv_at hl 2 rfl) ?_
    refine lv_bipush (v := 13) hx hb dX12_failsBy_59 (by decide) ?_
    refine lv_iadd hx hb dX12_failsBy_61 ?_
    refine lv_iload_n hx hb dX12_failsBy_62 rfl (lv_at hl 3 rfl) ?_
    obtain ⟨j5, hj5, ej5, h⟩ := h
    refine sM_1 C0 hR hS Nat.zero_lt_one hj5 ej5 dX12_failsBy_63 (fun S6 eS6 H locs hR hS => ?_)
    have h := h S6 eS6
    refine lv_aload_n hx hb dX12_failsBy_64 rfl (lv_at hl 0 rfl) ?_
    refine gM_0_2 C0 hR Nat.zero_lt_one tbs_wsX120 mM6_7_79 dX12_failsBy_65 ?_
    refine lv_iload_n hx hb dX12_failsBy_68 rfl (lv_at hl 2 rfl) ?_
    refine lv_bipush (v := 7) hx hb dX12_failsBy_69 (by decide) ?_
    refine lv_iadd hx hb dX12_failsBy_71 ?_
    refine lv_bipush (v := 9) hx hb dX12_failsBy_72 (by decide) ?_
    refine lv_aload_n hx hb dX12_failsBy_74 rfl (lv_at hl 0 rfl) ?_
    refine gM_0_2 C0 hR Nat.zero_lt_one tbs_wsX120 mM6_7_79 dX12_failsBy_75 ?_
    refine lv_iload_n hx hb dX12_failsBy_78 rfl (lv_at hl 2 rfl) ?_
    refine lv_bipush (v := 7) hx hb dX12_failsBy_79 (by decide) ?_
    refine lv_iadd hx hb dX12_failsBy_81 ?_
    obtain ⟨j7, hj7, ej7, h⟩ := h
    refine lM_1 C0 hR Nat.zero_lt_one hj7 ej7 dX12_failsBy_82 ?_
    refine lv_iconst (v := 1) hx hb dX12_failsBy_83 (by decide) ?_
    refine lv_iadd hx hb dX12_failsBy_84 ?_
    refine va_mmin hx hb (C0.2.2.1.trans hl.1.symm) C0.2.2.2.1 (C0.2.2.2.2 _ mM6_8_142) (C0.2.2.2.2 _ mM6_5_67) (C0.2.2.2.2 _ mM6_1_25) (C0.2.2.2.2 _ mM6_5_68) (Nat.le_of_ble_eq_true rfl) (Nat.le_of_ble_eq_true rfl) (Nat.zero_le _) (Nat.zero_le _) dX12_failsBy_85 ?_
    refine sM_1 C0 hR hS Nat.zero_lt_one hj7 ej7 dX12_failsBy_88 (fun S8 eS8 H locs hR hS => ?_)
    have h := h S8 eS8
    refine lv_iload_n hx hb dX12_failsBy_89 rfl (lv_at hl 3 rfl) ?_
    refine lv_iconst (v := 5) hx hb dX12_failsBy_90 (by decide) ?_
    refine lv_icmp_eq (tgt := 113) hx hb dX12_failsBy_91 (by decide) (fun c9 => ?_) (fun c9 => ?_)
    · have h := h.1 c9
      exact Bw_X12_failsBy_113 C0 hr hlk hT a1 a2 S8 _ _ _ h hR hS (lv_sub hl [0, 1, 2] rfl)
    · have h := h.2 c9
      refine lv_aload_n hx hb dX12_failsBy_94 rfl (lv_at hl 0 rfl) ?_
      refine gM_0_2 C0 hR Nat.zero_lt_one tbs_wsX120 mM6_7_79 dX12_failsBy_95 ?_
      refine lv_iload_n hx hb dX12_failsBy_98 rfl (lv_at hl 2 rfl) ?_
      refine lv_bipush (v := 6) hx hb dX12_failsBy_99 (by decide) ?_
      refine lv_iadd hx hb dX12_failsBy_101 ?_
      obtain ⟨j21, hj21, ej21, h⟩ := h
      refine lM_1 C0 hR Nat.zero_lt_one hj21 ej21 dX12_failsBy_102 ?_
      refine lv_aload_n hx hb dX12_failsBy_103 rfl (lv_at hl 0 rfl) ?_
      refine gM_0_2 C0 hR Nat.zero_lt_one tbs_wsX120 mM6_7_79 dX12_failsBy_104 ?_
      refine lv_bipush (v := 13) hx hb dX12_failsBy_107 (by decide) ?_
      refine lM_1 C0 hR Nat.zero_lt_one (by decide) rfl dX12_failsBy_109 ?_
      refine lv_icmp_lt (tgt := 117) hx hb dX12_failsBy_110 (by decide) (fun c22 => ?_) (fun c22 => ?_)
      · have h := h.1 c22
        refine lv_iconst (v := 0) hx hb dX12_failsBy_117 (by decide) ?_
        exact Bw_X12_failsBy_118 C0 hr hlk hT a1 a2 0 S8 _ _ _ h hR hS (lv_sub hl [0, 1, 2] rfl)
      · have h := h.2 c22
        exact Bw_X12_failsBy_113 C0 hr hlk hT a1 a2 S8 _ _ _ h hR hS (lv_sub hl [0, 1, 2] rfl)
  · have h := h.2 c4
    refine lv_aload_n hx hb dX12_failsBy_22 rfl (lv_at hl 0 rfl) ?_
    refine gM_0_2 C0 hR Nat.zero_lt_one tbs_wsX120 mM6_7_79 dX12_failsBy_23 ?_
    refine lv_iload_n hx hb dX12_failsBy_26 rfl (lv_at hl 2 rfl) ?_
    refine lv_bipush (v := 13) hx hb dX12_failsBy_27 (by decide) ?_
    refine lv_iadd hx hb dX12_failsBy_29 ?_
    refine lv_iload hx hb dX12_failsBy_30 (lv_at hl 4 rfl) ?_
    refine lv_iadd hx hb dX12_failsBy_32 ?_
    refine lv_aload_n hx hb dX12_failsBy_33 rfl (lv_at hl 0 rfl) ?_
    refine gM_0_2 C0 hR Nat.zero_lt_one tbs_wsX120 mM6_7_79 dX12_failsBy_34 ?_
    refine lv_iload_n hx hb dX12_failsBy_37 rfl (lv_at hl 2 rfl) ?_
    refine lv_bipush (v := 13) hx hb dX12_failsBy_38 (by decide) ?_
    refine lv_iadd hx hb dX12_failsBy_40 ?_
    refine lv_iload hx hb dX12_failsBy_41 (lv_at hl 4 rfl) ?_
    refine lv_iadd hx hb dX12_failsBy_43 ?_
    refine lv_iconst (v := 1) hx hb dX12_failsBy_44 (by decide) ?_
    refine lv_isub hx hb dX12_failsBy_45 ?_
    obtain ⟨j23, hj23, ej23, h⟩ := h
    refine lM_1 C0 hR Nat.zero_lt_one hj23 ej23 dX12_failsBy_46 ?_
    obtain ⟨j24, hj24, ej24, h⟩ := h
    refine sM_1 C0 hR hS Nat.zero_lt_one hj24 ej24 dX12_failsBy_47 (fun S25 eS25 H locs hR hS => ?_)
    have h := h S25 eS25
    obtain ⟨x26, ex26⟩ : ∃ x26 : Int32, x26 = a4 + (-1) := ⟨_, rfl⟩
    have h := h x26 ex26
    refine w_iinc (v0 := (-1)) (lv' := [(4, .int x26), (0, .ref (b + adM 0 0)), (1, .int a1), (2, .int a2), (3, .int a3)]) C0 dX12_failsBy_48 hl (k := 4) rfl (by decide) (by decide) x26 ex26 rfl (fun ls hl => ?_)
    refine lv_goto (tgt := 17) hx hb dX12_failsBy_51 (by decide) ?_
    exact ih17 a1 a2 a3 x26 S25 _ _ _  h hR hS (lv_sub hl [1, 2, 3, 4, 0] rfl)
def B_X12_failsBy_17 (n9 : Nat) (a1 : Int32) (a2 : Int32) (a3 : Int32) (a4 : Int32) (S : sSt) (k : sSt → Prop) : Prop := (Nat.rec (motive := fun _ => Int32 → Int32 → Int32 → Int32 → sSt → Prop) (fun _ _ _ _ _ => False) (fun _ r9 => fun a1 a2 a3 a4 S => Bb_X12_failsBy_17 r9 a1 a2 a3 a4 S k) n9 : Int32 → Int32 → Int32 → Int32 → sSt → Prop) a1 a2 a3 a4 S
theorem B_X12_failsBy_17_s (n9 : Nat) (a1 : Int32) (a2 : Int32) (a3 : Int32) (a4 : Int32) (S : sSt) (k : sSt → Prop) : B_X12_failsBy_17 (n9 + 1) a1 a2 a3 a4 S k = Bb_X12_failsBy_17 (fun a1 a2 a3 a4 S => B_X12_failsBy_17 n9 a1 a2 a3 a4 S k) a1 a2 a3 a4 S k := rfl
set_option maxHeartbeats 4000000 in
set_option maxRecDepth 100000 in
theorem Bw_X12_failsBy_17 {p : Program} {l : Launch} {e : Env} {s : State} {m : MethodId} {args : Array Value} {below : List Frame} {meth : Method} {c : Code} {D : va_G} {cy : Nat → ClassId} {b z : Nat} {tx : TX} (C0 : CallFix p m c cX12_failsBy 5 s args TB RX12) (hr : meth.sig.returnType = none) (hlk : meth.locks = false) (hT : TxR tx s) {k : sSt → Prop} : ∀ (n9 : Nat), ∀ (a1 : Int32) (a2 : Int32) (a3 : Int32) (a4 : Int32) (S : sSt) (H : Heap) (locs : List Loc) (ls : Array Slot) , B_X12_failsBy_17 n9 a1 a2 a3 a4 S k → RelM D cy b z tx S s H → va_S (gA b 12 z) s.heap H locs → lv_has ls 5 [(0, .ref (b + adM 0 0)), (1, .int a1), (2, .int a2), (3, .int a3), (4, .int a4)] → W p l e rm_X12_failsBy s m args below meth c H locs 0 0 (MQ below (PvM D cy b z tx k) args s 0 0 (gA b 12 z)) (F0 m 17 ls []) := by
  intro n9
  induction n9 with
  | zero => intro a1 a2 a3 a4 S H locs ls h; exact h.elim
  | succ n9 ih =>
    intro a1 a2 a3 a4 S H locs ls h hR hS hl
    exact Bbw_X12_failsBy_17 C0 hr hlk hT ih a1 a2 a3 a4 S H locs ls h hR hS hl
def F_X12_failsBy (a1 : Int32) (a2 : Int32) (a3 : Int32) (S : sSt) (k : sSt → Prop) : Prop := ∀ x1 : Int32, x1 = (a2 + 6) → ix x1 10421 (fun j2 => ∀ S3, S3 = uI S 1 0 j2 ((S.1 1 0 j2) + 1) → B_X12_failsBy_17 fuel a1 a2 a3 8 S3 k)
set_option maxHeartbeats 4000000 in
set_option maxRecDepth 100000 in
theorem c_X12_failsBy (l : Launch) {D : va_G} {cy : Nat → ClassId} {b z : Nat} {tx : TX} {a1 : Int32} {a2 : Int32} {a3 : Int32} {S : sSt} {k : sSt → Prop} (h : F_X12_failsBy a1 a2 a3 S k) : Met l yX12_failsBy (Cond.code yX12_failsBy cX12_failsBy 5 none :: TB) rm_X12_failsBy (va_Pc [.ref (b + adM 0 0), .int a1, .int a2, .int a3] (fun U => RelM D cy b z tx S U U.heap ∧ TxR tx U)) (PvM D cy b z tx k) 0 0 (gA b 12 z) := by
  refine Met.ofW (cc := cX12_failsBy) (maxL := 5) (ret := none) (by decide) rfl ?_
  intro p e s m args below meth c s₁ B hml hv
  obtain ⟨rfl, hR, hT⟩ := hv
  have C0 : CallFix p m c cX12_failsBy 5 s _ TB RX12 := ⟨B.exec, B.bytes, hml, findClass_of_methodNamed B.named, fun w hw => atoms_spec B.pre w (List.mem_cons_of_mem _ hw)⟩
  have hr := B.returns
  have hlk := B.notSynchronized
  have hx := C0.1
  have hb := C0.2.1
  have hS : va_S (gA b 12 z) s.heap s.heap [] := va_S.rf
  have hl := lv_entry ([.ref (b + adM 0 0), .int a1, .int a2, .int a3]) (n := 5) (Nat.le_of_ble_eq_true rfl)
  rw [lg_entry_eq]
  generalize (lg_sl ([.ref (b + adM 0 0), .int a1, .int a2, .int a3]) ++ List.replicate (5 - (lg_sl ([.ref (b + adM 0 0), .int a1, .int a2, .int a3])).length) Slot.unset).toArray = ls at hl ⊢
  have hl : lv_has ls 5 [(0, .ref (b + adM 0 0)), (1, .int a1), (2, .int a2), (3, .int a3)] := hl
  show W p l e rm_X12_failsBy s m _ below meth c s.heap [] 0 0 (MQ below (PvM D cy b z tx k) _ s 0 0 (gA b 12 z)) _
  unfold F_X12_failsBy at h
  refine lv_aload_n hx hb dX12_failsBy_0 rfl (lv_at hl 0 rfl) ?_
  refine gM_0_2 C0 hR Nat.zero_lt_one tbs_wsX120 mM6_7_79 dX12_failsBy_1 ?_
  refine lv_iload_n hx hb dX12_failsBy_4 rfl (lv_at hl 2 rfl) ?_
  refine lv_bipush (v := 6) hx hb dX12_failsBy_5 (by decide) ?_
  refine lv_iadd hx hb dX12_failsBy_7 ?_
  refine lv_topi (fun x1 ex1 => ?_)
  have h := h x1 ex1
  refine lv_dup2_11 hx hb dX12_failsBy_8 rfl rfl ?_
  obtain ⟨j2, hj2, ej2, h⟩ := h
  refine lM_1 C0 hR Nat.zero_lt_one hj2 ej2 dX12_failsBy_9 ?_
  refine lv_iconst (v := 1) hx hb dX12_failsBy_10 (by decide) ?_
  refine lv_iadd hx hb dX12_failsBy_11 ?_
  refine sM_1 C0 hR hS Nat.zero_lt_one hj2 ej2 dX12_failsBy_12 (fun S3 eS3 H locs hR hS => ?_)
  have h := h S3 eS3
  refine lv_bipush (v := 8) hx hb dX12_failsBy_13 (by decide) ?_
  refine lv_istore (lv' := [(4, .int 8), (0, .ref (b + adM 0 0)), (1, .int a1), (2, .int a2), (3, .int a3)]) hx hb dX12_failsBy_15 hl (by decide) rfl (fun ls hl => ?_)
  exact Bw_X12_failsBy_17 C0 hr hlk hT fuel a1 a2 a3 8 S3 _ _ _ h hR hS (lv_sub hl [1, 2, 3, 4, 0] rfl)

def rm_X12_fail : Room := { frames := 6, cells := 0, slots := 0, locals := 132 }
def B_X12_fail_30 (a1 : Int32) (a3 : Int32) (a4 : Int32) (a5 : Int32) (t1 : Int32) (S : sSt) (k : Int32 → sSt → Prop) : Prop := F_X12_throwsIf t1 2 S (fun r7 S8 => ((¬ r7 = 0 → k 0 S8) ∧ (r7 = 0 → F_X12_bars a5 a1 a3 S8 (fun r10 S11 => F_X12_refuses r10 3 S11 (fun r12 S13 => ((r12 = 0 → F_X12_locks a5 a1 S13 (fun r15 S16 => F_X12_failsBy a5 r15 a4 S16 (fun S18 => ix (r15 + 3) 10421 (fun j19 => ∀ x20 : Int32, x20 = (S18.1 1 0 j19) → F_X12_isDone a1 S18 (fun S22 => k x20 S22))))) ∧ (¬ r12 = 0 → k 0 S13)))))))
set_option maxHeartbeats 4000000 in
set_option maxRecDepth 100000 in
theorem Bw_X12_fail_30 {p : Program} {l : Launch} {e : Env} {s : State} {m : MethodId} {args : Array Value} {below : List Frame} {meth : Method} {c : Code} {D : va_G} {cy : Nat → ClassId} {b z : Nat} {tx : TX} (C0 : CallFix p m c cX12_fail 8 s args TB RX12) (hr : meth.sig.returnType = (some .int)) (hlk : meth.locks = false) (hT : TxR tx s) {k : Int32 → sSt → Prop} : ∀ (a1 : Int32) (a3 : Int32) (a4 : Int32) (a5 : Int32) (t1 : Int32) (S : sSt) (H : Heap) (locs : List Loc) (ls : Array Slot) , B_X12_fail_30 a1 a3 a4 a5 t1 S k → RelM D cy b z tx S s H → va_S (gA b 12 z) s.heap H locs → lv_has ls 8 [(0, .ref (b + adM 0 0)), (1, .int a1), (3, .int a3), (4, .int a4), (5, .int a5)] → W p l e rm_X12_fail s m args below meth c H locs 0 0 (MQ below (PiM D cy b z tx k) args s 0 0 (gA b 12 z)) (F0 m 30 ls [.int t1, .ref (b + adM 0 0)]) := by
  intro a1 a3 a4 a5 t1 S H locs ls h hR hS hl
  have hx := C0.1
  have hb := C0.2.1
  unfold B_X12_fail_30 at h
  refine lv_iconst (v := 2) hx hb dX12_fail_30 (by decide) ?_
  refine qM_Vi (As := [.int t1, .int 2]) (rest := []) C0 (c_X12_throwsIf l h) (cwV 2 C0.2.2.2.2 (tbV mM6_8_25 ⟨mM6_8_27, mpM6_3_13, mM6_1_11, mM6_8_28⟩) rfl rfl rfl (by decide +kernel) ⟨Nat.le_of_ble_eq_true rfl, Nat.le_of_ble_eq_true rfl⟩) (rcM_0 hR Nat.zero_lt_one) hR hT hS rfl hl.1 rfl (Nat.le_of_ble_eq_true rfl) dX12_fail_31 ⟨Nat.zero_le _, Nat.zero_le _⟩ (fun r7 S8 H locs h hR hS => ?_)
  refine lv_if_ne (tgt := 53) hx hb dX12_fail_34 (by decide) (fun c9 => ?_) (fun c9 => ?_)
  · have h := h.1 c9
    refine lv_iconst (v := 0) hx hb dX12_fail_53 (by decide) ?_
    exact rtM_i C0 hr hlk hR hS h dX12_fail_54
  · have h := h.2 c9
    refine lv_aload_n hx hb dX12_fail_37 rfl (lv_at hl 0 rfl) ?_
    refine lv_aload_n hx hb dX12_fail_38 rfl (lv_at hl 0 rfl) ?_
    refine lv_iload hx hb dX12_fail_39 (lv_at hl 4 rfl) ?_
    refine lv_iload_n hx hb dX12_fail_41 rfl (lv_at hl 1 rfl) ?_
    refine lv_iload_n hx hb dX12_fail_42 rfl (lv_at hl 2 rfl) ?_
    refine qM_Vi (As := [.int a5, .int a1, .int a3]) (rest := [.ref (b + adM 0 0)]) C0 (c_X12_bars l h) (cwV 3 C0.2.2.2.2 (tbV mM6_8_231 ⟨mM6_8_233, mpM6_6_4, mM6_1_11, mM6_8_234⟩) rfl rfl rfl (by decide +kernel) ⟨Nat.le_of_ble_eq_true rfl, Nat.le_of_ble_eq_true rfl⟩) (rcM_0 hR Nat.zero_lt_one) hR hT hS rfl hl.1 rfl (Nat.le_of_ble_eq_true rfl) dX12_fail_43 ⟨Nat.zero_le _, Nat.zero_le _⟩ (fun r10 S11 H locs h hR hS => ?_)
    refine lv_iconst (v := 3) hx hb dX12_fail_46 (by decide) ?_
    refine qM_Vi (As := [.int r10, .int 3]) (rest := []) C0 (c_X12_refuses l h) (cwV 2 C0.2.2.2.2 (tbV mM6_8_91 ⟨mM6_8_93, mpM6_4_8, mM6_1_11, mM6_8_94⟩) rfl rfl rfl (by decide +kernel) ⟨Nat.le_of_ble_eq_true rfl, Nat.le_of_ble_eq_true rfl⟩) (rcM_0 hR Nat.zero_lt_one) hR hT hS rfl hl.1 rfl (Nat.le_of_ble_eq_true rfl) dX12_fail_47 ⟨Nat.zero_le _, Nat.zero_le _⟩ (fun r12 S13 H locs h hR hS => ?_)
    refine lv_if_eq (tgt := 55) hx hb dX12_fail_50 (by decide) (fun c14 => ?_) (fun c14 => ?_)
    · have h := h.1 c14
      refine lv_aload_n hx hb dX12_fail_55 rfl (lv_at hl 0 rfl) ?_
      refine lv_iload hx hb dX12_fail_56 (lv_at hl 4 rfl) ?_
      refine lv_iload_n hx hb dX12_fail_58 rfl (lv_at hl 1 rfl) ?_
      refine qM_Vi (As := [.int a5, .int a1]) (rest := []) C0 (c_X12_locks l h) (cwV 2 C0.2.2.2.2 (tbV mM6_8_207 ⟨mM6_8_209, mpM6_5_15, mM6_1_11, mM6_8_210⟩) rfl rfl rfl (by decide +kernel) ⟨Nat.le_of_ble_eq_true rfl, Nat.le_of_ble_eq_true rfl⟩) (rcM_0 hR Nat.zero_lt_one) hR hT hS rfl hl.1 rfl (Nat.le_of_ble_eq_true rfl) dX12_fail_59 ⟨Nat.zero_le _, Nat.zero_le _⟩ (fun r15 S16 H locs h hR hS => ?_)
      refine lv_istore (lv' := [(6, .int r15), (0, .ref (b + adM 0 0)), (1, .int a1), (3, .int a3), (4, .int a4), (5, .int a5)]) hx hb dX12_fail_62 hl (by decide) rfl (fun ls hl => ?_)
      refine lv_aload_n hx hb dX12_fail_64 rfl (lv_at hl 1 rfl) ?_
      refine lv_iload hx hb dX12_fail_65 (lv_at hl 5 rfl) ?_
      refine lv_iload hx hb dX12_fail_67 (lv_at hl 0 rfl) ?_
      refine lv_iload hx hb dX12_fail_69 (lv_at hl 4 rfl) ?_
      refine qM_Vv (As := [.int a5, .int r15, .int a4]) (rest := []) C0 (c_X12_failsBy l h) (cwV 3 C0.2.2.2.2 (tbV mM6_9_3 ⟨mM6_9_5, mpM6_6_5, mM6_1_11, mM6_9_6⟩) rfl rfl rfl (by decide +kernel) ⟨Nat.le_of_ble_eq_true rfl, Nat.le_of_ble_eq_true rfl⟩) (rcM_0 hR Nat.zero_lt_one) hR hT hS rfl hl.1 rfl (Nat.le_of_ble_eq_true rfl) dX12_fail_71 ⟨Nat.zero_le _, Nat.zero_le _⟩ (fun S18 H locs h hR hS => ?_)
      refine lv_aload_n hx hb dX12_fail_74 rfl (lv_at hl 1 rfl) ?_
      refine gM_0_2 C0 hR Nat.zero_lt_one tbs_wsX120 mM6_7_79 dX12_fail_75 ?_
      refine lv_iload hx hb dX12_fail_78 (lv_at hl 0 rfl) ?_
      refine lv_iconst (v := 3) hx hb dX12_fail_80 (by decide) ?_
      refine lv_iadd hx hb dX12_fail_81 ?_
      obtain ⟨j19, hj19, ej19, h⟩ := h
      refine lM_1 C0 hR Nat.zero_lt_one hj19 ej19 dX12_fail_82 ?_
      refine lv_topi (fun x20 ex20 => ?_)
      have h := h x20 ex20
      refine lv_istore (lv' := [(7, .int x20), (6, .int r15), (0, .ref (b + adM 0 0)), (1, .int a1), (3, .int a3), (4, .int a4), (5, .int a5)]) hx hb dX12_fail_83 hl (by decide) rfl (fun ls hl => ?_)
      refine lv_aload_n hx hb dX12_fail_85 rfl (lv_at hl 2 rfl) ?_
      refine lv_iload_n hx hb dX12_fail_86 rfl (lv_at hl 3 rfl) ?_
      refine qM_Vv (As := [.int a1]) (rest := []) C0 (c_X12_isDone l h) (cwV 1 C0.2.2.2.2 (tbV mM6_8_211 ⟨mM6_8_213, mpM6_6_0, mM6_1_11, mM6_8_214⟩) rfl rfl rfl (by decide +kernel) ⟨Nat.le_of_ble_eq_true rfl, Nat.le_of_ble_eq_true rfl⟩) (rcM_0 hR Nat.zero_lt_one) hR hT hS rfl hl.1 rfl (Nat.le_of_ble_eq_true rfl) dX12_fail_87 ⟨Nat.zero_le _, Nat.zero_le _⟩ (fun S22 H locs h hR hS => ?_)
      refine lv_iload hx hb dX12_fail_90 (lv_at hl 0 rfl) ?_
      exact rtM_i C0 hr hlk hR hS h dX12_fail_92
    · have h := h.2 c14
      refine lv_iconst (v := 0) hx hb dX12_fail_53 (by decide) ?_
      exact rtM_i C0 hr hlk hR hS h dX12_fail_54
def F_X12_fail (a1 : Int32) (a2 : Int32) (a3 : Int32) (a4 : Int32) (S : sSt) (k : Int32 → sSt → Prop) : Prop := F_X12_ownJobFor a1 a2 S (fun r1 S2 => ((r1 = (-1) → k 0 S2) ∧ (¬ r1 = (-1) → F_X12_in a4 0 5 S2 (fun r4 S5 => ((¬ r4 = 0 → B_X12_fail_30 a1 a3 a4 r1 0 S5 k) ∧ (r4 = 0 → B_X12_fail_30 a1 a3 a4 r1 1 S5 k))))))
set_option maxHeartbeats 4000000 in
set_option maxRecDepth 100000 in
theorem c_X12_fail (l : Launch) {D : va_G} {cy : Nat → ClassId} {b z : Nat} {tx : TX} {a1 : Int32} {a2 : Int32} {a3 : Int32} {a4 : Int32} {S : sSt} {k : Int32 → sSt → Prop} (h : F_X12_fail a1 a2 a3 a4 S k) : Met l yX12_fail (Cond.code yX12_fail cX12_fail 8 (some .int) :: TB) rm_X12_fail (va_Pc [.ref (b + adM 0 0), .int a1, .int a2, .int a3, .int a4] (fun U => RelM D cy b z tx S U U.heap ∧ TxR tx U)) (PiM D cy b z tx k) 0 0 (gA b 12 z) := by
  refine Met.ofW (cc := cX12_fail) (maxL := 8) (ret := (some .int)) (by decide) rfl ?_
  intro p e s m args below meth c s₁ B hml hv
  obtain ⟨rfl, hR, hT⟩ := hv
  have C0 : CallFix p m c cX12_fail 8 s _ TB RX12 := ⟨B.exec, B.bytes, hml, findClass_of_methodNamed B.named, fun w hw => atoms_spec B.pre w (List.mem_cons_of_mem _ hw)⟩
  have hr := B.returns
  have hlk := B.notSynchronized
  have hx := C0.1
  have hb := C0.2.1
  have hS : va_S (gA b 12 z) s.heap s.heap [] := va_S.rf
  have hl := lv_entry ([.ref (b + adM 0 0), .int a1, .int a2, .int a3, .int a4]) (n := 8) (Nat.le_of_ble_eq_true rfl)
  rw [lg_entry_eq]
  generalize (lg_sl ([.ref (b + adM 0 0), .int a1, .int a2, .int a3, .int a4]) ++ List.replicate (8 - (lg_sl ([.ref (b + adM 0 0), .int a1, .int a2, .int a3, .int a4])).length) Slot.unset).toArray = ls at hl ⊢
  have hl : lv_has ls 8 [(0, .ref (b + adM 0 0)), (1, .int a1), (2, .int a2), (3, .int a3), (4, .int a4)] := hl
  show W p l e rm_X12_fail s m _ below meth c s.heap [] 0 0 (MQ below (PiM D cy b z tx k) _ s 0 0 (gA b 12 z)) _
  unfold F_X12_fail at h
  refine lv_aload_n hx hb dX12_fail_0 rfl (lv_at hl 0 rfl) ?_
  refine lv_iload_n hx hb dX12_fail_1 rfl (lv_at hl 1 rfl) ?_
  refine lv_iload_n hx hb dX12_fail_2 rfl (lv_at hl 2 rfl) ?_
  refine qM_Vi (As := [.int a1, .int a2]) (rest := []) C0 (c_X12_ownJobFor l h) (cwV 2 C0.2.2.2.2 (tbV mM6_8_219 ⟨mM6_8_221, mpM6_6_1, mM6_1_11, mM6_8_222⟩) rfl rfl rfl (by decide +kernel) ⟨Nat.le_of_ble_eq_true rfl, Nat.le_of_ble_eq_true rfl⟩) (rcM_0 hR Nat.zero_lt_one) hR hT hS rfl hl.1 rfl (Nat.le_of_ble_eq_true rfl) dX12_fail_3 ⟨Nat.zero_le _, Nat.zero_le _⟩ (fun r1 S2 H locs h hR hS => ?_)
  refine lv_istore (lv' := [(5, .int r1), (0, .ref (b + adM 0 0)), (1, .int a1), (2, .int a2), (3, .int a3), (4, .int a4)]) hx hb dX12_fail_6 hl (by decide) rfl (fun ls hl => ?_)
  refine lv_iload hx hb dX12_fail_8 (lv_at hl 0 rfl) ?_
  refine lv_iconst (v := (-1)) hx hb dX12_fail_10 (by decide) ?_
  refine lv_icmp_eq (tgt := 53) hx hb dX12_fail_11 (by decide) (fun c3 => ?_) (fun c3 => ?_)
  · have h := h.1 c3
    refine lv_iconst (v := 0) hx hb dX12_fail_53 (by decide) ?_
    exact rtM_i C0 hr hlk hR hS h dX12_fail_54
  · have h := h.2 c3
    refine lv_aload_n hx hb dX12_fail_14 rfl (lv_at hl 1 rfl) ?_
    refine lv_iload hx hb dX12_fail_15 (lv_at hl 5 rfl) ?_
    refine lv_iconst (v := 0) hx hb dX12_fail_17 (by decide) ?_
    refine lv_iconst (v := 5) hx hb dX12_fail_18 (by decide) ?_
    refine qM_Si (As := [.int a4, .int 0, .int 5]) (rest := [.ref (b + adM 0 0)]) C0 (c_X12_in l h) (va_cwS 3 C0.2.2.2.2 (tbS mM6_8_37 ⟨mM6_8_38, mM6_1_11, mM6_8_39⟩) rfl rfl rfl (by decide +kernel) ⟨Nat.le_of_ble_eq_true rfl, Nat.le_of_ble_eq_true rfl⟩) hR hT hS rfl hl.1 rfl (Nat.le_of_ble_eq_true rfl) dX12_fail_19 ⟨Nat.zero_le _, Nat.zero_le _⟩ (fun r4 S5 H locs h hR hS => ?_)
    refine lv_if_ne (tgt := 29) hx hb dX12_fail_22 (by decide) (fun c6 => ?_) (fun c6 => ?_)
    · have h := h.1 c6
      refine lv_iconst (v := 0) hx hb dX12_fail_29 (by decide) ?_
      exact Bw_X12_fail_30 C0 hr hlk hT a1 a3 a4 r1 0 S5 _ _ _ h hR hS (lv_sub hl [1, 2, 4, 5, 0] rfl)
    · have h := h.2 c6
      refine lv_iconst (v := 1) hx hb dX12_fail_25 (by decide) ?_
      refine lv_goto (tgt := 30) hx hb dX12_fail_26 (by decide) ?_
      exact Bw_X12_fail_30 C0 hr hlk hT a1 a3 a4 r1 1 S5 _ _ _ h hR hS (lv_sub hl [1, 2, 4, 5, 0] rfl)

def rm_X12_give : Room := { frames := 6, cells := 0, slots := 0, locals := 132 }
def F_X12_give (a1 : Int32) (a2 : Int32) (a3 : Int32) (S : sSt) (k : Int32 → sSt → Prop) : Prop := F_X12_ownJobFor a1 a2 S (fun r1 S2 => ((r1 = (-1) → k 0 S2) ∧ (¬ r1 = (-1) → F_X12_bars r1 a1 a3 S2 (fun r4 S5 => F_X12_refuses r4 2 S5 (fun r6 S7 => ((r6 = 0 → F_X12_locks r1 a1 S7 (fun r9 S10 => ix (r9 + 3) 10421 (fun j11 => ∀ S12, S12 = uI S10 1 0 j11 0 → ix (r9 + 5) 10421 (fun j13 => ∀ S14, S14 = uI S12 1 0 j13 (S12.1 1 0 3) → ix (r9 + 10) 10421 (fun j15 => ∀ x16 : Int32, x16 = ((S14.1 1 0 j15) - (S14.1 1 0 3)) → F_X12_isDone a1 S14 (fun S18 => k x16 S18)))))) ∧ (¬ r6 = 0 → k 0 S7)))))))
set_option maxHeartbeats 4000000 in
set_option maxRecDepth 100000 in
theorem c_X12_give (l : Launch) {D : va_G} {cy : Nat → ClassId} {b z : Nat} {tx : TX} {a1 : Int32} {a2 : Int32} {a3 : Int32} {S : sSt} {k : Int32 → sSt → Prop} (h : F_X12_give a1 a2 a3 S k) : Met l yX12_give (Cond.code yX12_give cX12_give 7 (some .int) :: TB) rm_X12_give (va_Pc [.ref (b + adM 0 0), .int a1, .int a2, .int a3] (fun U => RelM D cy b z tx S U U.heap ∧ TxR tx U)) (PiM D cy b z tx k) 0 0 (gA b 12 z) := by
  refine Met.ofW (cc := cX12_give) (maxL := 7) (ret := (some .int)) (by decide) rfl ?_
  intro p e s m args below meth c s₁ B hml hv
  obtain ⟨rfl, hR, hT⟩ := hv
  have C0 : CallFix p m c cX12_give 7 s _ TB RX12 := ⟨B.exec, B.bytes, hml, findClass_of_methodNamed B.named, fun w hw => atoms_spec B.pre w (List.mem_cons_of_mem _ hw)⟩
  have hr := B.returns
  have hlk := B.notSynchronized
  have hx := C0.1
  have hb := C0.2.1
  have hS : va_S (gA b 12 z) s.heap s.heap [] := va_S.rf
  have hl := lv_entry ([.ref (b + adM 0 0), .int a1, .int a2, .int a3]) (n := 7) (Nat.le_of_ble_eq_true rfl)
  rw [lg_entry_eq]
  generalize (lg_sl ([.ref (b + adM 0 0), .int a1, .int a2, .int a3]) ++ List.replicate (7 - (lg_sl ([.ref (b + adM 0 0), .int a1, .int a2, .int a3])).length) Slot.unset).toArray = ls at hl ⊢
  have hl : lv_has ls 7 [(0, .ref (b + adM 0 0)), (1, .int a1), (2, .int a2), (3, .int a3)] := hl
  show W p l e rm_X12_give s m _ below meth c s.heap [] 0 0 (MQ below (PiM D cy b z tx k) _ s 0 0 (gA b 12 z)) _
  unfold F_X12_give at h
  refine lv_aload_n hx hb dX12_give_0 rfl (lv_at hl 0 rfl) ?_
  refine lv_iload_n hx hb dX12_give_1 rfl (lv_at hl 1 rfl) ?_
  refine lv_iload_n hx hb dX12_give_2 rfl (lv_at hl 2 rfl) ?_
  refine qM_Vi (As := [.int a1, .int a2]) (rest := []) C0 (c_X12_ownJobFor l h) (cwV 2 C0.2.2.2.2 (tbV mM6_8_219 ⟨mM6_8_221, mpM6_6_1, mM6_1_11, mM6_8_222⟩) rfl rfl rfl (by decide +kernel) ⟨Nat.le_of_ble_eq_true rfl, Nat.le_of_ble_eq_true rfl⟩) (rcM_0 hR Nat.zero_lt_one) hR hT hS rfl hl.1 rfl (Nat.le_of_ble_eq_true rfl) dX12_give_3 ⟨Nat.zero_le _, Nat.zero_le _⟩ (fun r1 S2 H locs h hR hS => ?_)
  refine lv_istore (lv' := [(4, .int r1), (0, .ref (b + adM 0 0)), (1, .int a1), (2, .int a2), (3, .int a3)]) hx hb dX12_give_6 hl (by decide) rfl (fun ls hl => ?_)
  refine lv_iload hx hb dX12_give_8 (lv_at hl 0 rfl) ?_
  refine lv_iconst (v := (-1)) hx hb dX12_give_10 (by decide) ?_
  refine lv_icmp_eq (tgt := 30) hx hb dX12_give_11 (by decide) (fun c3 => ?_) (fun c3 => ?_)
  · have h := h.1 c3
    refine lv_iconst (v := 0) hx hb dX12_give_30 (by decide) ?_
    exact rtM_i C0 hr hlk hR hS h dX12_give_31
  · have h := h.2 c3
    refine lv_aload_n hx hb dX12_give_14 rfl (lv_at hl 1 rfl) ?_
    refine lv_aload_n hx hb dX12_give_15 rfl (lv_at hl 1 rfl) ?_
    refine lv_iload hx hb dX12_give_16 (lv_at hl 0 rfl) ?_
    refine lv_iload_n hx hb dX12_give_18 rfl (lv_at hl 2 rfl) ?_
    refine lv_iload_n hx hb dX12_give_19 rfl (lv_at hl 4 rfl) ?_
    refine qM_Vi (As := [.int r1, .int a1, .int a3]) (rest := [.ref (b + adM 0 0)]) C0 (c_X12_bars l h) (cwV 3 C0.2.2.2.2 (tbV mM6_8_231 ⟨mM6_8_233, mpM6_6_4, mM6_1_11, mM6_8_234⟩) rfl rfl rfl (by decide +kernel) ⟨Nat.le_of_ble_eq_true rfl, Nat.le_of_ble_eq_true rfl⟩) (rcM_0 hR Nat.zero_lt_one) hR hT hS rfl hl.1 rfl (Nat.le_of_ble_eq_true rfl) dX12_give_20 ⟨Nat.zero_le _, Nat.zero_le _⟩ (fun r4 S5 H locs h hR hS => ?_)
    refine lv_iconst (v := 2) hx hb dX12_give_23 (by decide) ?_
    refine qM_Vi (As := [.int r4, .int 2]) (rest := []) C0 (c_X12_refuses l h) (cwV 2 C0.2.2.2.2 (tbV mM6_8_91 ⟨mM6_8_93, mpM6_4_8, mM6_1_11, mM6_8_94⟩) rfl rfl rfl (by decide +kernel) ⟨Nat.le_of_ble_eq_true rfl, Nat.le_of_ble_eq_true rfl⟩) (rcM_0 hR Nat.zero_lt_one) hR hT hS rfl hl.1 rfl (Nat.le_of_ble_eq_true rfl) dX12_give_24 ⟨Nat.zero_le _, Nat.zero_le _⟩ (fun r6 S7 H locs h hR hS => ?_)
    refine lv_if_eq (tgt := 32) hx hb dX12_give_27 (by decide) (fun c8 => ?_) (fun c8 => ?_)
    · have h := h.1 c8
      refine lv_aload_n hx hb dX12_give_32 rfl (lv_at hl 1 rfl) ?_
      refine lv_iload hx hb dX12_give_33 (lv_at hl 0 rfl) ?_
      refine lv_iload_n hx hb dX12_give_35 rfl (lv_at hl 2 rfl) ?_
      refine qM_Vi (As := [.int r1, .int a1]) (rest := []) C0 (c_X12_locks l h) (cwV 2 C0.2.2.2.2 (tbV mM6_8_207 ⟨mM6_8_209, mpM6_5_15, mM6_1_11, mM6_8_210⟩) rfl rfl rfl (by decide +kernel) ⟨Nat.le_of_ble_eq_true rfl, Nat.le_of_ble_eq_true rfl⟩) (rcM_0 hR Nat.zero_lt_one) hR hT hS rfl hl.1 rfl (Nat.le_of_ble_eq_true rfl) dX12_give_36 ⟨Nat.zero_le _, Nat.zero_le _⟩ (fun r9 S10 H locs h hR hS => ?_)
      refine lv_istore (lv' := [(5, .int r9), (4, .int r1), (0, .ref (b + adM 0 0)), (1, .int a1), (2, .int a2), (3, .int a3)]) hx hb dX12_give_39 hl (by decide) rfl (fun ls hl => ?_)
      refine lv_aload_n hx hb dX12_give_41 rfl (lv_at hl 2 rfl) ?_
      refine gM_0_2 C0 hR Nat.zero_lt_one tbs_wsX120 mM6_7_79 dX12_give_42 ?_
      refine lv_iload hx hb dX12_give_45 (lv_at hl 0 rfl) ?_
      refine lv_iconst (v := 3) hx hb dX12_give_47 (by decide) ?_
      refine lv_iadd hx hb dX12_give_48 ?_
      refine lv_iconst (v := 0) hx hb dX12_give_49 (by decide) ?_
      obtain ⟨j11, hj11, ej11, h⟩ := h
      refine sM_1 C0 hR hS Nat.zero_lt_one hj11 ej11 dX12_give_50 (fun S12 eS12 H locs hR hS => ?_)
      have h := h S12 eS12
      refine lv_aload_n hx hb dX12_give_51 rfl (lv_at hl 2 rfl) ?_
      refine gM_0_2 C0 hR Nat.zero_lt_one tbs_wsX120 mM6_7_79 dX12_give_52 ?_
      refine lv_iload hx hb dX12_give_55 (lv_at hl 0 rfl) ?_
      refine lv_iconst (v := 5) hx hb dX12_give_57 (by decide) ?_
      refine lv_iadd hx hb dX12_give_58 ?_
      refine lv_aload_n hx hb dX12_give_59 rfl (lv_at hl 2 rfl) ?_
      refine gM_0_2 C0 hR Nat.zero_lt_one tbs_wsX120 mM6_7_79 dX12_give_60 ?_
      refine lv_iconst (v := 3) hx hb dX12_give_63 (by decide) ?_
      refine lM_1 C0 hR Nat.zero_lt_one (by decide) rfl dX12_give_64 ?_
      obtain ⟨j13, hj13, ej13, h⟩ := h
      refine sM_1 C0 hR hS Nat.zero_lt_one hj13 ej13 dX12_give_65 (fun S14 eS14 H locs hR hS => ?_)
      have h := h S14 eS14
      refine lv_aload_n hx hb dX12_give_66 rfl (lv_at hl 2 rfl) ?_
      refine gM_0_2 C0 hR Nat.zero_lt_one tbs_wsX120 mM6_7_79 dX12_give_67 ?_
      refine lv_iload hx hb dX12_give_70 (lv_at hl 0 rfl) ?_
      refine lv_bipush (v := 10) hx hb dX12_give_72 (by decide) ?_
      refine lv_iadd hx hb dX12_give_74 ?_
      obtain ⟨j15, hj15, ej15, h⟩ := h
      refine lM_1 C0 hR Nat.zero_lt_one hj15 ej15 dX12_give_75 ?_
      refine lv_aload_n hx hb dX12_give_76 rfl (lv_at hl 2 rfl) ?_
      refine gM_0_2 C0 hR Nat.zero_lt_one tbs_wsX120 mM6_7_79 dX12_give_77 ?_
      refine lv_iconst (v := 3) hx hb dX12_give_80 (by decide) ?_
      refine lM_1 C0 hR Nat.zero_lt_one (by decide) rfl dX12_give_81 ?_
      refine lv_isub hx hb dX12_give_82 ?_
      refine lv_topi (fun x16 ex16 => ?_)
      have h := h x16 ex16
      refine lv_istore (lv' := [(6, .int x16), (5, .int r9), (4, .int r1), (0, .ref (b + adM 0 0)), (1, .int a1), (2, .int a2), (3, .int a3)]) hx hb dX12_give_83 hl (by decide) rfl (fun ls hl => ?_)
      refine lv_aload_n hx hb dX12_give_85 rfl (lv_at hl 3 rfl) ?_
      refine lv_iload_n hx hb dX12_give_86 rfl (lv_at hl 4 rfl) ?_
      refine qM_Vv (As := [.int a1]) (rest := []) C0 (c_X12_isDone l h) (cwV 1 C0.2.2.2.2 (tbV mM6_8_211 ⟨mM6_8_213, mpM6_6_0, mM6_1_11, mM6_8_214⟩) rfl rfl rfl (by decide +kernel) ⟨Nat.le_of_ble_eq_true rfl, Nat.le_of_ble_eq_true rfl⟩) (rcM_0 hR Nat.zero_lt_one) hR hT hS rfl hl.1 rfl (Nat.le_of_ble_eq_true rfl) dX12_give_87 ⟨Nat.zero_le _, Nat.zero_le _⟩ (fun S18 H locs h hR hS => ?_)
      refine lv_iload hx hb dX12_give_90 (lv_at hl 0 rfl) ?_
      exact rtM_i C0 hr hlk hR hS h dX12_give_92
    · have h := h.2 c8
      refine lv_iconst (v := 0) hx hb dX12_give_30 (by decide) ?_
      exact rtM_i C0 hr hlk hR hS h dX12_give_31

def rm_X12_reap : Room := { frames := 6, cells := 0, slots := 0, locals := 128 }
def B_X12_reap_98 (kk28 : Int32 → Int32 → Int32 → sSt → Prop) (a1 : Int32) (a2 : Int32) (a3 : Int32) (S : sSt) (k : Int32 → sSt → Prop) : Prop := F_X12_numberOf a3 S (fun r17 S18 => F_X12_behindNumber r17 S18 (fun r19 S20 => kk28 a1 a2 r19 S20))
set_option maxHeartbeats 4000000 in
set_option maxRecDepth 100000 in
theorem Bw_X12_reap_98 {p : Program} {l : Launch} {e : Env} {s : State} {m : MethodId} {args : Array Value} {below : List Frame} {meth : Method} {c : Code} {D : va_G} {cy : Nat → ClassId} {b z : Nat} {tx : TX} (C0 : CallFix p m c cX12_reap 5 s args TB RX12) (hr : meth.sig.returnType = (some .int)) (hlk : meth.locks = false) (hT : TxR tx s) {k : Int32 → sSt → Prop} {kk28 : Int32 → Int32 → Int32 → sSt → Prop} (ih28 : ∀ (a1 : Int32) (a2 : Int32) (a3 : Int32) (S : sSt) (H : Heap) (locs : List Loc) (ls : Array Slot) , kk28 a1 a2 a3 S → RelM D cy b z tx S s H → va_S (gA b 12 z) s.heap H locs → lv_has ls 5 [(0, .ref (b + adM 0 0)), (1, .int a1), (2, .int a2), (3, .int a3)] → W p l e rm_X12_reap s m args below meth c H locs 0 0 (MQ below (PiM D cy b z tx k) args s 0 0 (gA b 12 z)) (F0 m 28 ls [])) : ∀ (a1 : Int32) (a2 : Int32) (a3 : Int32) (S : sSt) (H : Heap) (locs : List Loc) (ls : Array Slot) , B_X12_reap_98 kk28 a1 a2 a3 S k → RelM D cy b z tx S s H → va_S (gA b 12 z) s.heap H locs → lv_has ls 5 [(0, .ref (b + adM 0 0)), (1, .int a1), (2, .int a2), (3, .int a3)] → W p l e rm_X12_reap s m args below meth c H locs 0 0 (MQ below (PiM D cy b z tx k) args s 0 0 (gA b 12 z)) (F0 m 98 ls []) := by
  intro a1 a2 a3 S H locs ls h hR hS hl
  have hx := C0.1
  have hb := C0.2.1
  unfold B_X12_reap_98 at h
  refine lv_aload_n hx hb dX12_reap_98 rfl (lv_at hl 0 rfl) ?_
  refine lv_aload_n hx hb dX12_reap_99 rfl (lv_at hl 0 rfl) ?_
  refine lv_iload_n hx hb dX12_reap_100 rfl (lv_at hl 3 rfl) ?_
  refine qM_Vi (As := [.int a3]) (rest := [.ref (b + adM 0 0)]) C0 (c_X12_numberOf l h) (cwV 1 C0.2.2.2.2 (tbV mM6_7_202 ⟨mM6_7_204, mpM6_3_3, mM6_1_11, mM6_7_205⟩) rfl rfl rfl (by decide +kernel) ⟨Nat.le_of_ble_eq_true rfl, Nat.le_of_ble_eq_true rfl⟩) (rcM_0 hR Nat.zero_lt_one) hR hT hS rfl hl.1 rfl (Nat.le_of_ble_eq_true rfl) dX12_reap_101 ⟨Nat.zero_le _, Nat.zero_le _⟩ (fun r17 S18 H locs h hR hS => ?_)
  refine qM_Vi (As := [.int r17]) (rest := []) C0 (c_X12_behindNumber l h) (cwV 1 C0.2.2.2.2 (tbV mM6_8_134 ⟨mM6_8_136, mpM6_4_15, mM6_1_11, mM6_8_137⟩) rfl rfl rfl (by decide +kernel) ⟨Nat.le_of_ble_eq_true rfl, Nat.le_of_ble_eq_true rfl⟩) (rcM_0 hR Nat.zero_lt_one) hR hT hS rfl hl.1 rfl (Nat.le_of_ble_eq_true rfl) dX12_reap_104 ⟨Nat.zero_le _, Nat.zero_le _⟩ (fun r19 S20 H locs h hR hS => ?_)
  refine lv_istore_n (lv' := [(3, .int r19), (0, .ref (b + adM 0 0)), (1, .int a1), (2, .int a2)]) hx hb dX12_reap_107 rfl hl (by decide) rfl (fun ls hl => ?_)
  refine lv_goto (tgt := 28) hx hb dX12_reap_108 (by decide) ?_
  exact ih28 a1 a2 r19 S20 _ _ _  h hR hS (lv_sub hl [1, 2, 3, 0] rfl)
def Bb_X12_reap_28 (kk28 : Int32 → Int32 → Int32 → sSt → Prop) (a1 : Int32) (a2 : Int32) (a3 : Int32) (S : sSt) (k : Int32 → sSt → Prop) : Prop := ((a3 = (-1) → F_X12_isDone a1 S (fun S11 => k a2 S11)) ∧ (¬ a3 = (-1) → F_X12_seen a3 a1 S (fun r12 S13 => F_X12_isState r12 1 S13 (fun r14 S15 => ((r14 = 0 → B_X12_reap_98 kk28 a1 a2 a3 S15 k) ∧ (¬ r14 = 0 → F_X12_isOthers a3 a1 S15 (fun r21 S22 => ((¬ r21 = 0 → B_X12_reap_98 kk28 a1 a2 a3 S22 k) ∧ (r21 = 0 → ix (r12 + 10) 10421 (fun j24 => (((S22.1 1 0 j24) < (S22.1 1 0 3) → F_X12_locks a3 a1 S22 (fun r26 S27 => F_X12_failsBy a3 r26 6 S27 (fun S29 => ∀ x30 : Int32, x30 = a2 + 1 → B_X12_reap_98 kk28 a1 x30 a3 S29 k))) ∧ (¬ (S22.1 1 0 j24) < (S22.1 1 0 3) → B_X12_reap_98 kk28 a1 a2 a3 S22 k))))))))))))
set_option maxHeartbeats 4000000 in
set_option maxRecDepth 100000 in
theorem Bbw_X12_reap_28 {p : Program} {l : Launch} {e : Env} {s : State} {m : MethodId} {args : Array Value} {below : List Frame} {meth : Method} {c : Code} {D : va_G} {cy : Nat → ClassId} {b z : Nat} {tx : TX} (C0 : CallFix p m c cX12_reap 5 s args TB RX12) (hr : meth.sig.returnType = (some .int)) (hlk : meth.locks = false) (hT : TxR tx s) {k : Int32 → sSt → Prop} {kk28 : Int32 → Int32 → Int32 → sSt → Prop} (ih28 : ∀ (a1 : Int32) (a2 : Int32) (a3 : Int32) (S : sSt) (H : Heap) (locs : List Loc) (ls : Array Slot) , kk28 a1 a2 a3 S → RelM D cy b z tx S s H → va_S (gA b 12 z) s.heap H locs → lv_has ls 5 [(0, .ref (b + adM 0 0)), (1, .int a1), (2, .int a2), (3, .int a3)] → W p l e rm_X12_reap s m args below meth c H locs 0 0 (MQ below (PiM D cy b z tx k) args s 0 0 (gA b 12 z)) (F0 m 28 ls [])) : ∀ (a1 : Int32) (a2 : Int32) (a3 : Int32) (S : sSt) (H : Heap) (locs : List Loc) (ls : Array Slot) , Bb_X12_reap_28 kk28 a1 a2 a3 S k → RelM D cy b z tx S s H → va_S (gA b 12 z) s.heap H locs → lv_has ls 5 [(0, .ref (b + adM 0 0)), (1, .int a1), (2, .int a2), (3, .int a3)] → W p l e rm_X12_reap s m args below meth c H locs 0 0 (MQ below (PiM D cy b z tx k) args s 0 0 (gA b 12 z)) (F0 m 28 ls []) := by
  intro a1 a2 a3 S H locs ls h hR hS hl
  have hx := C0.1
  have hb := C0.2.1
  unfold Bb_X12_reap_28 at h
  refine lv_iload_n hx hb dX12_reap_28 rfl (lv_at hl 3 rfl) ?_
  refine lv_iconst (v := (-1)) hx hb dX12_reap_29 (by decide) ?_
  refine lv_icmp_eq (tgt := 111) hx hb dX12_reap_30 (by decide) (fun c9 => ?_) (fun c9 => ?_)
  · have h := h.1 c9
    refine lv_aload_n hx hb dX12_reap_111 rfl (lv_at hl 0 rfl) ?_
    refine lv_iload_n hx hb dX12_reap_112 rfl (lv_at hl 1 rfl) ?_
    refine qM_Vv (As := [.int a1]) (rest := []) C0 (c_X12_isDone l h) (cwV 1 C0.2.2.2.2 (tbV mM6_8_211 ⟨mM6_8_213, mpM6_6_0, mM6_1_11, mM6_8_214⟩) rfl rfl rfl (by decide +kernel) ⟨Nat.le_of_ble_eq_true rfl, Nat.le_of_ble_eq_true rfl⟩) (rcM_0 hR Nat.zero_lt_one) hR hT hS rfl hl.1 rfl (Nat.le_of_ble_eq_true rfl) dX12_reap_113 ⟨Nat.zero_le _, Nat.zero_le _⟩ (fun S11 H locs h hR hS => ?_)
    refine lv_iload_n hx hb dX12_reap_116 rfl (lv_at hl 2 rfl) ?_
    exact rtM_i C0 hr hlk hR hS h dX12_reap_117
  · have h := h.2 c9
    refine lv_aload_n hx hb dX12_reap_33 rfl (lv_at hl 0 rfl) ?_
    refine lv_iload_n hx hb dX12_reap_34 rfl (lv_at hl 3 rfl) ?_
    refine lv_iload_n hx hb dX12_reap_35 rfl (lv_at hl 1 rfl) ?_
    refine qM_Vi (As := [.int a3, .int a1]) (rest := []) C0 (c_X12_seen l h) (cwV 2 C0.2.2.2.2 (tbV mM6_8_167 ⟨mM6_8_169, mpM6_5_5, mM6_1_11, mM6_8_170⟩) rfl rfl rfl (by decide +kernel) ⟨Nat.le_of_ble_eq_true rfl, Nat.le_of_ble_eq_true rfl⟩) (rcM_0 hR Nat.zero_lt_one) hR hT hS rfl hl.1 rfl (Nat.le_of_ble_eq_true rfl) dX12_reap_36 ⟨Nat.zero_le _, Nat.zero_le _⟩ (fun r12 S13 H locs h hR hS => ?_)
    refine lv_istore (lv' := [(4, .int r12), (0, .ref (b + adM 0 0)), (1, .int a1), (2, .int a2), (3, .int a3)]) hx hb dX12_reap_39 hl (by decide) rfl (fun ls hl => ?_)
    refine lv_aload_n hx hb dX12_reap_41 rfl (lv_at hl 1 rfl) ?_
    refine lv_iload hx hb dX12_reap_42 (lv_at hl 0 rfl) ?_
    refine lv_iconst (v := 1) hx hb dX12_reap_44 (by decide) ?_
    refine qM_Vi (As := [.int r12, .int 1]) (rest := []) C0 (c_X12_isState l h) (cwV 2 C0.2.2.2.2 (tbV mM6_8_171 ⟨mM6_8_173, mpM6_5_6, mM6_1_11, mM6_8_174⟩) rfl rfl rfl (by decide +kernel) ⟨Nat.le_of_ble_eq_true rfl, Nat.le_of_ble_eq_true rfl⟩) (rcM_0 hR Nat.zero_lt_one) hR hT hS rfl hl.1 rfl (Nat.le_of_ble_eq_true rfl) dX12_reap_45 ⟨Nat.zero_le _, Nat.zero_le _⟩ (fun r14 S15 H locs h hR hS => ?_)
    refine lv_if_eq (tgt := 98) hx hb dX12_reap_48 (by decide) (fun c16 => ?_) (fun c16 => ?_)
    · have h := h.1 c16
      exact Bw_X12_reap_98 C0 hr hlk hT ih28 a1 a2 a3 S15 _ _ _ h hR hS (lv_sub hl [1, 2, 3, 4] rfl)
    · have h := h.2 c16
      refine lv_aload_n hx hb dX12_reap_51 rfl (lv_at hl 1 rfl) ?_
      refine lv_iload_n hx hb dX12_reap_52 rfl (lv_at hl 4 rfl) ?_
      refine lv_iload_n hx hb dX12_reap_53 rfl (lv_at hl 2 rfl) ?_
      refine qM_Vi (As := [.int a3, .int a1]) (rest := []) C0 (c_X12_isOthers l h) (cwV 2 C0.2.2.2.2 (tbV mM6_8_175 ⟨mM6_8_177, mpM6_5_7, mM6_1_11, mM6_8_178⟩) rfl rfl rfl (by decide +kernel) ⟨Nat.le_of_ble_eq_true rfl, Nat.le_of_ble_eq_true rfl⟩) (rcM_0 hR Nat.zero_lt_one) hR hT hS rfl hl.1 rfl (Nat.le_of_ble_eq_true rfl) dX12_reap_54 ⟨Nat.zero_le _, Nat.zero_le _⟩ (fun r21 S22 H locs h hR hS => ?_)
      refine lv_if_ne (tgt := 98) hx hb dX12_reap_57 (by decide) (fun c23 => ?_) (fun c23 => ?_)
      · have h := h.1 c23
        exact Bw_X12_reap_98 C0 hr hlk hT ih28 a1 a2 a3 S22 _ _ _ h hR hS (lv_sub hl [1, 2, 3, 4] rfl)
      · have h := h.2 c23
        refine lv_aload_n hx hb dX12_reap_60 rfl (lv_at hl 1 rfl) ?_
        refine gM_0_2 C0 hR Nat.zero_lt_one tbs_wsX120 mM6_7_79 dX12_reap_61 ?_
        refine lv_iload hx hb dX12_reap_64 (lv_at hl 0 rfl) ?_
        refine lv_bipush (v := 10) hx hb dX12_reap_66 (by decide) ?_
        refine lv_iadd hx hb dX12_reap_68 ?_
        obtain ⟨j24, hj24, ej24, h⟩ := h
        refine lM_1 C0 hR Nat.zero_lt_one hj24 ej24 dX12_reap_69 ?_
        refine lv_aload_n hx hb dX12_reap_70 rfl (lv_at hl 1 rfl) ?_
        refine gM_0_2 C0 hR Nat.zero_lt_one tbs_wsX120 mM6_7_79 dX12_reap_71 ?_
        refine lv_iconst (v := 3) hx hb dX12_reap_74 (by decide) ?_
        refine lM_1 C0 hR Nat.zero_lt_one (by decide) rfl dX12_reap_75 ?_
        refine lv_icmp_lt (tgt := 82) hx hb dX12_reap_76 (by decide) (fun c25 => ?_) (fun c25 => ?_)
        · have h := h.1 c25
          refine lv_aload_n hx hb dX12_reap_82 rfl (lv_at hl 1 rfl) ?_
          refine lv_iload_n hx hb dX12_reap_83 rfl (lv_at hl 4 rfl) ?_
          refine lv_aload_n hx hb dX12_reap_84 rfl (lv_at hl 1 rfl) ?_
          refine lv_iload_n hx hb dX12_reap_85 rfl (lv_at hl 4 rfl) ?_
          refine lv_iload_n hx hb dX12_reap_86 rfl (lv_at hl 2 rfl) ?_
          refine qM_Vi (As := [.int a3, .int a1]) (rest := [.int a3, .ref (b + adM 0 0)]) C0 (c_X12_locks l h) (cwV 2 C0.2.2.2.2 (tbV mM6_8_207 ⟨mM6_8_209, mpM6_5_15, mM6_1_11, mM6_8_210⟩) rfl rfl rfl (by decide +kernel) ⟨Nat.le_of_ble_eq_true rfl, Nat.le_of_ble_eq_true rfl⟩) (rcM_0 hR Nat.zero_lt_one) hR hT hS rfl hl.1 rfl (Nat.le_of_ble_eq_true rfl) dX12_reap_87 ⟨Nat.zero_le _, Nat.zero_le _⟩ (fun r26 S27 H locs h hR hS => ?_)
          refine lv_bipush (v := 6) hx hb dX12_reap_90 (by decide) ?_
          refine qM_Vv (As := [.int a3, .int r26, .int 6]) (rest := []) C0 (c_X12_failsBy l h) (cwV 3 C0.2.2.2.2 (tbV mM6_9_3 ⟨mM6_9_5, mpM6_6_5, mM6_1_11, mM6_9_6⟩) rfl rfl rfl (by decide +kernel) ⟨Nat.le_of_ble_eq_true rfl, Nat.le_of_ble_eq_true rfl⟩) (rcM_0 hR Nat.zero_lt_one) hR hT hS rfl hl.1 rfl (Nat.le_of_ble_eq_true rfl) dX12_reap_92 ⟨Nat.zero_le _, Nat.zero_le _⟩ (fun S29 H locs h hR hS => ?_)
          obtain ⟨x30, ex30⟩ : ∃ x30 : Int32, x30 = a2 + 1 := ⟨_, rfl⟩
          have h := h x30 ex30
          refine w_iinc (v0 := 1) (lv' := [(2, .int x30), (4, .int r12), (0, .ref (b + adM 0 0)), (1, .int a1), (3, .int a3)]) C0 dX12_reap_95 hl (k := 3) rfl (by decide) (by decide) x30 ex30 rfl (fun ls hl => ?_)
          exact Bw_X12_reap_98 C0 hr hlk hT ih28 a1 x30 a3 S29 _ _ _ h hR hS (lv_sub hl [2, 3, 0, 4] rfl)
        · have h := h.2 c25
          refine lv_goto (tgt := 98) hx hb dX12_reap_79 (by decide) ?_
          exact Bw_X12_reap_98 C0 hr hlk hT ih28 a1 a2 a3 S22 _ _ _ h hR hS (lv_sub hl [1, 2, 3, 4] rfl)
def B_X12_reap_28 (n9 : Nat) (a1 : Int32) (a2 : Int32) (a3 : Int32) (S : sSt) (k : Int32 → sSt → Prop) : Prop := (Nat.rec (motive := fun _ => Int32 → Int32 → Int32 → sSt → Prop) (fun _ _ _ _ => False) (fun _ r9 => fun a1 a2 a3 S => Bb_X12_reap_28 r9 a1 a2 a3 S k) n9 : Int32 → Int32 → Int32 → sSt → Prop) a1 a2 a3 S
theorem B_X12_reap_28_s (n9 : Nat) (a1 : Int32) (a2 : Int32) (a3 : Int32) (S : sSt) (k : Int32 → sSt → Prop) : B_X12_reap_28 (n9 + 1) a1 a2 a3 S k = Bb_X12_reap_28 (fun a1 a2 a3 S => B_X12_reap_28 n9 a1 a2 a3 S k) a1 a2 a3 S k := rfl
set_option maxHeartbeats 4000000 in
set_option maxRecDepth 100000 in
theorem Bw_X12_reap_28 {p : Program} {l : Launch} {e : Env} {s : State} {m : MethodId} {args : Array Value} {below : List Frame} {meth : Method} {c : Code} {D : va_G} {cy : Nat → ClassId} {b z : Nat} {tx : TX} (C0 : CallFix p m c cX12_reap 5 s args TB RX12) (hr : meth.sig.returnType = (some .int)) (hlk : meth.locks = false) (hT : TxR tx s) {k : Int32 → sSt → Prop} : ∀ (n9 : Nat), ∀ (a1 : Int32) (a2 : Int32) (a3 : Int32) (S : sSt) (H : Heap) (locs : List Loc) (ls : Array Slot) , B_X12_reap_28 n9 a1 a2 a3 S k → RelM D cy b z tx S s H → va_S (gA b 12 z) s.heap H locs → lv_has ls 5 [(0, .ref (b + adM 0 0)), (1, .int a1), (2, .int a2), (3, .int a3)] → W p l e rm_X12_reap s m args below meth c H locs 0 0 (MQ below (PiM D cy b z tx k) args s 0 0 (gA b 12 z)) (F0 m 28 ls []) := by
  intro n9
  induction n9 with
  | zero => intro a1 a2 a3 S H locs ls h; exact h.elim
  | succ n9 ih =>
    intro a1 a2 a3 S H locs ls h hR hS hl
    exact Bbw_X12_reap_28 C0 hr hlk hT ih a1 a2 a3 S H locs ls h hR hS hl
def F_X12_reap (a1 : Int32) (S : sSt) (k : Int32 → sSt → Prop) : Prop := ∀ S1, S1 = uI S 0 0 0 0 → F_X12_noSession a1 S1 (fun r2 S3 => F_X12_throwsIf r2 1 S3 (fun r4 S5 => ((r4 = 0 → F_X12_behindNumber (-1) S5 (fun r7 S8 => B_X12_reap_28 fuel a1 0 r7 S8 k)) ∧ (¬ r4 = 0 → k 0 S5))))
set_option maxHeartbeats 4000000 in
set_option maxRecDepth 100000 in
theorem c_X12_reap (l : Launch) {D : va_G} {cy : Nat → ClassId} {b z : Nat} {tx : TX} {a1 : Int32} {S : sSt} {k : Int32 → sSt → Prop} (h : F_X12_reap a1 S k) : Met l yX12_reap (Cond.code yX12_reap cX12_reap 5 (some .int) :: TB) rm_X12_reap (va_Pc [.ref (b + adM 0 0), .int a1] (fun U => RelM D cy b z tx S U U.heap ∧ TxR tx U)) (PiM D cy b z tx k) 0 0 (gA b 12 z) := by
  refine Met.ofW (cc := cX12_reap) (maxL := 5) (ret := (some .int)) (by decide) rfl ?_
  intro p e s m args below meth c s₁ B hml hv
  obtain ⟨rfl, hR, hT⟩ := hv
  have C0 : CallFix p m c cX12_reap 5 s _ TB RX12 := ⟨B.exec, B.bytes, hml, findClass_of_methodNamed B.named, fun w hw => atoms_spec B.pre w (List.mem_cons_of_mem _ hw)⟩
  have hr := B.returns
  have hlk := B.notSynchronized
  have hx := C0.1
  have hb := C0.2.1
  have hS : va_S (gA b 12 z) s.heap s.heap [] := va_S.rf
  have hl := lv_entry ([.ref (b + adM 0 0), .int a1]) (n := 5) (Nat.le_of_ble_eq_true rfl)
  rw [lg_entry_eq]
  generalize (lg_sl ([.ref (b + adM 0 0), .int a1]) ++ List.replicate (5 - (lg_sl ([.ref (b + adM 0 0), .int a1])).length) Slot.unset).toArray = ls at hl ⊢
  have hl : lv_has ls 5 [(0, .ref (b + adM 0 0)), (1, .int a1)] := hl
  show W p l e rm_X12_reap s m _ below meth c s.heap [] 0 0 (MQ below (PiM D cy b z tx k) _ s 0 0 (gA b 12 z)) _
  unfold F_X12_reap at h
  refine lv_aload_n hx hb dX12_reap_0 rfl (lv_at hl 0 rfl) ?_
  refine lv_iconst (v := 0) hx hb dX12_reap_1 (by decide) ?_
  refine pM_0_0 C0 hR hS Nat.zero_lt_one tbs_wsX120 mM6_7_77 dX12_reap_2 (fun S1 eS1 H locs hR hS => ?_)
  have h := h S1 eS1
  refine lv_aload_n hx hb dX12_reap_5 rfl (lv_at hl 0 rfl) ?_
  refine lv_aload_n hx hb dX12_reap_6 rfl (lv_at hl 0 rfl) ?_
  refine lv_iload_n hx hb dX12_reap_7 rfl (lv_at hl 1 rfl) ?_
  refine qM_Vi (As := [.int a1]) (rest := [.ref (b + adM 0 0)]) C0 (c_X12_noSession l h) (cwV 1 C0.2.2.2.2 (tbV mM6_8_33 ⟨mM6_8_35, mpM6_3_14, mM6_1_11, mM6_8_36⟩) rfl rfl rfl (by decide +kernel) ⟨Nat.le_of_ble_eq_true rfl, Nat.le_of_ble_eq_true rfl⟩) (rcM_0 hR Nat.zero_lt_one) hR hT hS rfl hl.1 rfl (Nat.le_of_ble_eq_true rfl) dX12_reap_8 ⟨Nat.zero_le _, Nat.zero_le _⟩ (fun r2 S3 H locs h hR hS => ?_)
  refine lv_iconst (v := 1) hx hb dX12_reap_11 (by decide) ?_
  refine qM_Vi (As := [.int r2, .int 1]) (rest := []) C0 (c_X12_throwsIf l h) (cwV 2 C0.2.2.2.2 (tbV mM6_8_25 ⟨mM6_8_27, mpM6_3_13, mM6_1_11, mM6_8_28⟩) rfl rfl rfl (by decide +kernel) ⟨Nat.le_of_ble_eq_true rfl, Nat.le_of_ble_eq_true rfl⟩) (rcM_0 hR Nat.zero_lt_one) hR hT hS rfl hl.1 rfl (Nat.le_of_ble_eq_true rfl) dX12_reap_12 ⟨Nat.zero_le _, Nat.zero_le _⟩ (fun r4 S5 H locs h hR hS => ?_)
  refine lv_if_eq (tgt := 20) hx hb dX12_reap_15 (by decide) (fun c6 => ?_) (fun c6 => ?_)
  · have h := h.1 c6
    refine lv_iconst (v := 0) hx hb dX12_reap_20 (by decide) ?_
    refine lv_istore_n (lv' := [(2, .int 0), (0, .ref (b + adM 0 0)), (1, .int a1)]) hx hb dX12_reap_21 rfl hl (by decide) rfl (fun ls hl => ?_)
    refine lv_aload_n hx hb dX12_reap_22 rfl (lv_at hl 1 rfl) ?_
    refine lv_iconst (v := (-1)) hx hb dX12_reap_23 (by decide) ?_
    refine qM_Vi (As := [.int (-1)]) (rest := []) C0 (c_X12_behindNumber l h) (cwV 1 C0.2.2.2.2 (tbV mM6_8_134 ⟨mM6_8_136, mpM6_4_15, mM6_1_11, mM6_8_137⟩) rfl rfl rfl (by decide +kernel) ⟨Nat.le_of_ble_eq_true rfl, Nat.le_of_ble_eq_true rfl⟩) (rcM_0 hR Nat.zero_lt_one) hR hT hS rfl hl.1 rfl (Nat.le_of_ble_eq_true rfl) dX12_reap_24 ⟨Nat.zero_le _, Nat.zero_le _⟩ (fun r7 S8 H locs h hR hS => ?_)
    refine lv_istore_n (lv' := [(3, .int r7), (2, .int 0), (0, .ref (b + adM 0 0)), (1, .int a1)]) hx hb dX12_reap_27 rfl hl (by decide) rfl (fun ls hl => ?_)
    exact Bw_X12_reap_28 C0 hr hlk hT fuel a1 0 r7 S8 _ _ _ h hR hS (lv_sub hl [2, 3, 1, 0] rfl)
  · have h := h.2 c6
    refine lv_iconst (v := 0) hx hb dX12_reap_18 (by decide) ?_
    exact rtM_i C0 hr hlk hR hS h dX12_reap_19

def rm_X12_retry : Room := { frames := 6, cells := 0, slots := 0, locals := 132 }
def B_X12_retry_46 (a1 : Int32) (a3 : Int32) (t0 : Int32) (S : sSt) (k : Int32 → sSt → Prop) : Prop := F_X12_refuses t0 2 S (fun r12 S13 => ((r12 = 0 → F_X12_locks a3 a1 S13 (fun r15 S16 => ix (r15 + 6) 10421 (fun j17 => ∀ x18 : Int32, x18 = (S16.1 1 0 j17) → ix (r15 + 3) 10421 (fun j19 => ∀ S20, S20 = uI S16 1 0 j19 0 → ∀ S21, S21 = uI S20 1 0 j17 0 → ix (r15 + 5) 10421 (fun j22 => ∀ S23, S23 = uI S21 1 0 j22 (S21.1 1 0 3) → F_X12_isDone a1 S23 (fun S25 => k x18 S25)))))) ∧ (¬ r12 = 0 → k 0 S13)))
set_option maxHeartbeats 4000000 in
set_option maxRecDepth 100000 in
theorem Bw_X12_retry_46 {p : Program} {l : Launch} {e : Env} {s : State} {m : MethodId} {args : Array Value} {below : List Frame} {meth : Method} {c : Code} {D : va_G} {cy : Nat → ClassId} {b z : Nat} {tx : TX} (C0 : CallFix p m c cX12_retry 7 s args TB RX12) (hr : meth.sig.returnType = (some .int)) (hlk : meth.locks = false) (hT : TxR tx s) {k : Int32 → sSt → Prop} : ∀ (a1 : Int32) (a3 : Int32) (t0 : Int32) (S : sSt) (H : Heap) (locs : List Loc) (ls : Array Slot) , B_X12_retry_46 a1 a3 t0 S k → RelM D cy b z tx S s H → va_S (gA b 12 z) s.heap H locs → lv_has ls 7 [(0, .ref (b + adM 0 0)), (1, .int a1), (3, .int a3)] → W p l e rm_X12_retry s m args below meth c H locs 0 0 (MQ below (PiM D cy b z tx k) args s 0 0 (gA b 12 z)) (F0 m 46 ls [.int t0]) := by
  intro a1 a3 t0 S H locs ls h hR hS hl
  have hx := C0.1
  have hb := C0.2.1
  unfold B_X12_retry_46 at h
  refine lv_istore (lv' := [(4, .int t0), (0, .ref (b + adM 0 0)), (1, .int a1), (3, .int a3)]) hx hb dX12_retry_46 hl (by decide) rfl (fun ls hl => ?_)
  refine lv_aload_n hx hb dX12_retry_48 rfl (lv_at hl 1 rfl) ?_
  refine lv_iload hx hb dX12_retry_49 (lv_at hl 0 rfl) ?_
  refine lv_iconst (v := 2) hx hb dX12_retry_51 (by decide) ?_
  refine qM_Vi (As := [.int t0, .int 2]) (rest := []) C0 (c_X12_refuses l h) (cwV 2 C0.2.2.2.2 (tbV mM6_8_91 ⟨mM6_8_93, mpM6_4_8, mM6_1_11, mM6_8_94⟩) rfl rfl rfl (by decide +kernel) ⟨Nat.le_of_ble_eq_true rfl, Nat.le_of_ble_eq_true rfl⟩) (rcM_0 hR Nat.zero_lt_one) hR hT hS rfl hl.1 rfl (Nat.le_of_ble_eq_true rfl) dX12_retry_52 ⟨Nat.zero_le _, Nat.zero_le _⟩ (fun r12 S13 H locs h hR hS => ?_)
  refine lv_if_eq (tgt := 60) hx hb dX12_retry_55 (by decide) (fun c14 => ?_) (fun c14 => ?_)
  · have h := h.1 c14
    refine lv_aload_n hx hb dX12_retry_60 rfl (lv_at hl 1 rfl) ?_
    refine lv_iload_n hx hb dX12_retry_61 rfl (lv_at hl 3 rfl) ?_
    refine lv_iload_n hx hb dX12_retry_62 rfl (lv_at hl 2 rfl) ?_
    refine qM_Vi (As := [.int a3, .int a1]) (rest := []) C0 (c_X12_locks l h) (cwV 2 C0.2.2.2.2 (tbV mM6_8_207 ⟨mM6_8_209, mpM6_5_15, mM6_1_11, mM6_8_210⟩) rfl rfl rfl (by decide +kernel) ⟨Nat.le_of_ble_eq_true rfl, Nat.le_of_ble_eq_true rfl⟩) (rcM_0 hR Nat.zero_lt_one) hR hT hS rfl hl.1 rfl (Nat.le_of_ble_eq_true rfl) dX12_retry_63 ⟨Nat.zero_le _, Nat.zero_le _⟩ (fun r15 S16 H locs h hR hS => ?_)
    refine lv_istore (lv' := [(5, .int r15), (4, .int t0), (0, .ref (b + adM 0 0)), (1, .int a1), (3, .int a3)]) hx hb dX12_retry_66 hl (by decide) rfl (fun ls hl => ?_)
    refine lv_aload_n hx hb dX12_retry_68 rfl (lv_at hl 2 rfl) ?_
    refine gM_0_2 C0 hR Nat.zero_lt_one tbs_wsX120 mM6_7_79 dX12_retry_69 ?_
    refine lv_iload hx hb dX12_retry_72 (lv_at hl 0 rfl) ?_
    refine lv_bipush (v := 6) hx hb dX12_retry_74 (by decide) ?_
    refine lv_iadd hx hb dX12_retry_76 ?_
    obtain ⟨j17, hj17, ej17, h⟩ := h
    refine lM_1 C0 hR Nat.zero_lt_one hj17 ej17 dX12_retry_77 ?_
    refine lv_topi (fun x18 ex18 => ?_)
    have h := h x18 ex18
    refine lv_istore (lv' := [(6, .int x18), (5, .int r15), (4, .int t0), (0, .ref (b + adM 0 0)), (1, .int a1), (3, .int a3)]) hx hb dX12_retry_78 hl (by decide) rfl (fun ls hl => ?_)
    refine lv_aload_n hx hb dX12_retry_80 rfl (lv_at hl 3 rfl) ?_
    refine gM_0_2 C0 hR Nat.zero_lt_one tbs_wsX120 mM6_7_79 dX12_retry_81 ?_
    refine lv_iload hx hb dX12_retry_84 (lv_at hl 1 rfl) ?_
    refine lv_iconst (v := 3) hx hb dX12_retry_86 (by decide) ?_
    refine lv_iadd hx hb dX12_retry_87 ?_
    refine lv_iconst (v := 0) hx hb dX12_retry_88 (by decide) ?_
    obtain ⟨j19, hj19, ej19, h⟩ := h
    refine sM_1 C0 hR hS Nat.zero_lt_one hj19 ej19 dX12_retry_89 (fun S20 eS20 H locs hR hS => ?_)
    have h := h S20 eS20
    refine lv_aload_n hx hb dX12_retry_90 rfl (lv_at hl 3 rfl) ?_
    refine gM_0_2 C0 hR Nat.zero_lt_one tbs_wsX120 mM6_7_79 dX12_retry_91 ?_
    refine lv_iload hx hb dX12_retry_94 (lv_at hl 1 rfl) ?_
    refine lv_bipush (v := 6) hx hb dX12_retry_96 (by decide) ?_
    refine lv_iadd hx hb dX12_retry_98 ?_
    refine lv_iconst (v := 0) hx hb dX12_retry_99 (by decide) ?_
    refine sM_1 C0 hR hS Nat.zero_lt_one hj17 ej17 dX12_retry_100 (fun S21 eS21 H locs hR hS => ?_)
    have h := h S21 eS21
    refine lv_aload_n hx hb dX12_retry_101 rfl (lv_at hl 3 rfl) ?_
    refine gM_0_2 C0 hR Nat.zero_lt_one tbs_wsX120 mM6_7_79 dX12_retry_102 ?_
    refine lv_iload hx hb dX12_retry_105 (lv_at hl 1 rfl) ?_
    refine lv_iconst (v := 5) hx hb dX12_retry_107 (by decide) ?_
    refine lv_iadd hx hb dX12_retry_108 ?_
    refine lv_aload_n hx hb dX12_retry_109 rfl (lv_at hl 3 rfl) ?_
    refine gM_0_2 C0 hR Nat.zero_lt_one tbs_wsX120 mM6_7_79 dX12_retry_110 ?_
    refine lv_iconst (v := 3) hx hb dX12_retry_113 (by decide) ?_
    refine lM_1 C0 hR Nat.zero_lt_one (by decide) rfl dX12_retry_114 ?_
    obtain ⟨j22, hj22, ej22, h⟩ := h
    refine sM_1 C0 hR hS Nat.zero_lt_one hj22 ej22 dX12_retry_115 (fun S23 eS23 H locs hR hS => ?_)
    have h := h S23 eS23
    refine lv_aload_n hx hb dX12_retry_116 rfl (lv_at hl 3 rfl) ?_
    refine lv_iload_n hx hb dX12_retry_117 rfl (lv_at hl 4 rfl) ?_
    refine qM_Vv (As := [.int a1]) (rest := []) C0 (c_X12_isDone l h) (cwV 1 C0.2.2.2.2 (tbV mM6_8_211 ⟨mM6_8_213, mpM6_6_0, mM6_1_11, mM6_8_214⟩) rfl rfl rfl (by decide +kernel) ⟨Nat.le_of_ble_eq_true rfl, Nat.le_of_ble_eq_true rfl⟩) (rcM_0 hR Nat.zero_lt_one) hR hT hS rfl hl.1 rfl (Nat.le_of_ble_eq_true rfl) dX12_retry_118 ⟨Nat.zero_le _, Nat.zero_le _⟩ (fun S25 H locs h hR hS => ?_)
    refine lv_iload hx hb dX12_retry_121 (lv_at hl 0 rfl) ?_
    exact rtM_i C0 hr hlk hR hS h dX12_retry_123
  · have h := h.2 c14
    refine lv_iconst (v := 0) hx hb dX12_retry_58 (by decide) ?_
    exact rtM_i C0 hr hlk hR hS h dX12_retry_59
def F_X12_retry (a1 : Int32) (a2 : Int32) (S : sSt) (k : Int32 → sSt → Prop) : Prop := F_X12_ownJobFor a1 a2 S (fun r1 S2 => ((¬ r1 = (-1) → F_X12_isOthers r1 a1 S2 (fun r4 S5 => ((r4 = 0 → F_X12_seen r1 a1 S5 (fun r7 S8 => F_X12_isState r7 3 S8 (fun r9 S10 => ((r9 = 0 → B_X12_retry_46 a1 r1 3 S10 k) ∧ (¬ r9 = 0 → B_X12_retry_46 a1 r1 0 S10 k))))) ∧ (¬ r4 = 0 → B_X12_retry_46 a1 r1 2 S5 k)))) ∧ (r1 = (-1) → k 0 S2)))
set_option maxHeartbeats 4000000 in
set_option maxRecDepth 100000 in
theorem c_X12_retry (l : Launch) {D : va_G} {cy : Nat → ClassId} {b z : Nat} {tx : TX} {a1 : Int32} {a2 : Int32} {S : sSt} {k : Int32 → sSt → Prop} (h : F_X12_retry a1 a2 S k) : Met l yX12_retry (Cond.code yX12_retry cX12_retry 7 (some .int) :: TB) rm_X12_retry (va_Pc [.ref (b + adM 0 0), .int a1, .int a2] (fun U => RelM D cy b z tx S U U.heap ∧ TxR tx U)) (PiM D cy b z tx k) 0 0 (gA b 12 z) := by
  refine Met.ofW (cc := cX12_retry) (maxL := 7) (ret := (some .int)) (by decide) rfl ?_
  intro p e s m args below meth c s₁ B hml hv
  obtain ⟨rfl, hR, hT⟩ := hv
  have C0 : CallFix p m c cX12_retry 7 s _ TB RX12 := ⟨B.exec, B.bytes, hml, findClass_of_methodNamed B.named, fun w hw => atoms_spec B.pre w (List.mem_cons_of_mem _ hw)⟩
  have hr := B.returns
  have hlk := B.notSynchronized
  have hx := C0.1
  have hb := C0.2.1
  have hS : va_S (gA b 12 z) s.heap s.heap [] := va_S.rf
  have hl := lv_entry ([.ref (b + adM 0 0), .int a1, .int a2]) (n := 7) (Nat.le_of_ble_eq_true rfl)
  rw [lg_entry_eq]
  generalize (lg_sl ([.ref (b + adM 0 0), .int a1, .int a2]) ++ List.replicate (7 - (lg_sl ([.ref (b + adM 0 0), .int a1, .int a2])).length) Slot.unset).toArray = ls at hl ⊢
  have hl : lv_has ls 7 [(0, .ref (b + adM 0 0)), (1, .int a1), (2, .int a2)] := hl
  show W p l e rm_X12_retry s m _ below meth c s.heap [] 0 0 (MQ below (PiM D cy b z tx k) _ s 0 0 (gA b 12 z)) _
  unfold F_X12_retry at h
  refine lv_aload_n hx hb dX12_retry_0 rfl (lv_at hl 0 rfl) ?_
  refine lv_iload_n hx hb dX12_retry_1 rfl (lv_at hl 1 rfl) ?_
  refine lv_iload_n hx hb dX12_retry_2 rfl (lv_at hl 2 rfl) ?_
  refine qM_Vi (As := [.int a1, .int a2]) (rest := []) C0 (c_X12_ownJobFor l h) (cwV 2 C0.2.2.2.2 (tbV mM6_8_219 ⟨mM6_8_221, mpM6_6_1, mM6_1_11, mM6_8_222⟩) rfl rfl rfl (by decide +kernel) ⟨Nat.le_of_ble_eq_true rfl, Nat.le_of_ble_eq_true rfl⟩) (rcM_0 hR Nat.zero_lt_one) hR hT hS rfl hl.1 rfl (Nat.le_of_ble_eq_true rfl) dX12_retry_3 ⟨Nat.zero_le _, Nat.zero_le _⟩ (fun r1 S2 H locs h hR hS => ?_)
  refine lv_istore_n (lv' := [(3, .int r1), (0, .ref (b + adM 0 0)), (1, .int a1), (2, .int a2)]) hx hb dX12_retry_6 rfl hl (by decide) rfl (fun ls hl => ?_)
  refine lv_iload_n hx hb dX12_retry_7 rfl (lv_at hl 0 rfl) ?_
  refine lv_iconst (v := (-1)) hx hb dX12_retry_8 (by decide) ?_
  refine lv_icmp_ne (tgt := 14) hx hb dX12_retry_9 (by decide) (fun c3 => ?_) (fun c3 => ?_)
  · have h := h.1 c3
    refine lv_aload_n hx hb dX12_retry_14 rfl (lv_at hl 1 rfl) ?_
    refine lv_iload_n hx hb dX12_retry_15 rfl (lv_at hl 0 rfl) ?_
    refine lv_iload_n hx hb dX12_retry_16 rfl (lv_at hl 2 rfl) ?_
    refine qM_Vi (As := [.int r1, .int a1]) (rest := []) C0 (c_X12_isOthers l h) (cwV 2 C0.2.2.2.2 (tbV mM6_8_175 ⟨mM6_8_177, mpM6_5_7, mM6_1_11, mM6_8_178⟩) rfl rfl rfl (by decide +kernel) ⟨Nat.le_of_ble_eq_true rfl, Nat.le_of_ble_eq_true rfl⟩) (rcM_0 hR Nat.zero_lt_one) hR hT hS rfl hl.1 rfl (Nat.le_of_ble_eq_true rfl) dX12_retry_17 ⟨Nat.zero_le _, Nat.zero_le _⟩ (fun r4 S5 H locs h hR hS => ?_)
    refine lv_if_eq (tgt := 27) hx hb dX12_retry_20 (by decide) (fun c6 => ?_) (fun c6 => ?_)
    · have h := h.1 c6
      refine lv_aload_n hx hb dX12_retry_27 rfl (lv_at hl 1 rfl) ?_
      refine lv_aload_n hx hb dX12_retry_28 rfl (lv_at hl 1 rfl) ?_
      refine lv_iload_n hx hb dX12_retry_29 rfl (lv_at hl 0 rfl) ?_
      refine lv_iload_n hx hb dX12_retry_30 rfl (lv_at hl 2 rfl) ?_
      refine qM_Vi (As := [.int r1, .int a1]) (rest := [.ref (b + adM 0 0)]) C0 (c_X12_seen l h) (cwV 2 C0.2.2.2.2 (tbV mM6_8_167 ⟨mM6_8_169, mpM6_5_5, mM6_1_11, mM6_8_170⟩) rfl rfl rfl (by decide +kernel) ⟨Nat.le_of_ble_eq_true rfl, Nat.le_of_ble_eq_true rfl⟩) (rcM_0 hR Nat.zero_lt_one) hR hT hS rfl hl.1 rfl (Nat.le_of_ble_eq_true rfl) dX12_retry_31 ⟨Nat.zero_le _, Nat.zero_le _⟩ (fun r7 S8 H locs h hR hS => ?_)
      refine lv_iconst (v := 3) hx hb dX12_retry_34 (by decide) ?_
      refine qM_Vi (As := [.int r7, .int 3]) (rest := []) C0 (c_X12_isState l h) (cwV 2 C0.2.2.2.2 (tbV mM6_8_171 ⟨mM6_8_173, mpM6_5_6, mM6_1_11, mM6_8_174⟩) rfl rfl rfl (by decide +kernel) ⟨Nat.le_of_ble_eq_true rfl, Nat.le_of_ble_eq_true rfl⟩) (rcM_0 hR Nat.zero_lt_one) hR hT hS rfl hl.1 rfl (Nat.le_of_ble_eq_true rfl) dX12_retry_35 ⟨Nat.zero_le _, Nat.zero_le _⟩ (fun r9 S10 H locs h hR hS => ?_)
      refine lv_if_eq (tgt := 45) hx hb dX12_retry_38 (by decide) (fun c11 => ?_) (fun c11 => ?_)
      · have h := h.1 c11
        refine lv_iconst (v := 3) hx hb dX12_retry_45 (by decide) ?_
        exact Bw_X12_retry_46 C0 hr hlk hT a1 r1 3 S10 _ _ _ h hR hS (lv_sub hl [1, 2, 0] rfl)
      · have h := h.2 c11
        refine lv_iconst (v := 0) hx hb dX12_retry_41 (by decide) ?_
        refine lv_goto (tgt := 46) hx hb dX12_retry_42 (by decide) ?_
        exact Bw_X12_retry_46 C0 hr hlk hT a1 r1 0 S10 _ _ _ h hR hS (lv_sub hl [1, 2, 0] rfl)
    · have h := h.2 c6
      refine lv_iconst (v := 2) hx hb dX12_retry_23 (by decide) ?_
      refine lv_goto (tgt := 46) hx hb dX12_retry_24 (by decide) ?_
      exact Bw_X12_retry_46 C0 hr hlk hT a1 r1 2 S5 _ _ _ h hR hS (lv_sub hl [1, 2, 0] rfl)
  · have h := h.2 c3
    refine lv_iconst (v := 0) hx hb dX12_retry_12 (by decide) ?_
    exact rtM_i C0 hr hlk hR hS h dX12_retry_13
