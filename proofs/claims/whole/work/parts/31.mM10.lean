theorem mM10_9_161 : Cond.methodLink RX12 400 yX12_isAtWork ∈ TB := tbT_9 _ (List.mem_of_getElem? (i := 161) rfl) rfl
theorem mM10_9_164 : Cond.code yX12_isAtWork cX12_isAtWork 3 (some .boolean) ∈ TB := tbT_9 _ (List.mem_of_getElem? (i := 164) rfl) rfl
theorem mM10_9_163 : Cond.instanceMethod yX12_isAtWork ∈ TB := tbT_9 _ (List.mem_of_getElem? (i := 163) rfl) rfl
theorem mpM10_7_8 : Cond.selects RX12 yX12_isAtWork yX12_isAtWork ∈ TB := tbP_7 (yX12_isAtWork, 19) (List.mem_of_getElem? (i := 8) rfl)
theorem mM10_1_11 : Cond.initialized RX12 ∈ TB := tbT_1 _ (List.mem_of_getElem? (i := 11) rfl) rfl
theorem mM10_9_11 : Cond.constant RX12 346 1000000 ∈ TB := tbT_9 _ (List.mem_of_getElem? (i := 11) rfl) rfl
theorem mM10_7_95 : Cond.fieldLink RX12 48 "ClaimTableModel" "begun" "[I" ∈ TB := tbT_7 _ (List.mem_of_getElem? (i := 95) rfl) rfl
theorem mM10_7_79 : Cond.fieldLink RX12 13 "ClaimTableModel" "world" "[I" ∈ TB := tbT_7 _ (List.mem_of_getElem? (i := 79) rfl) rfl
theorem mM10_7_74 : Cond.methodLink RX12 51 yX12_jobAt ∈ TB := tbT_7 _ (List.mem_of_getElem? (i := 74) rfl) rfl
theorem mM10_7_76 : Cond.code yX12_jobAt cX12_jobAt 2 (some .int) ∈ TB := tbT_7 _ (List.mem_of_getElem? (i := 76) rfl) rfl
theorem mM10_7_75 : Cond.static yX12_jobAt ∈ TB := tbT_7 _ (List.mem_of_getElem? (i := 75) rfl) rfl
theorem mM10_8_142 : Cond.methodLink RX12 258 Lib.Math.min.name ∈ TB := tbT_8 _ (List.mem_of_getElem? (i := 142) rfl) rfl
theorem mM10_5_67 : Cond.static Lib.Math.min.name ∈ TB := tbT_5 _ (List.mem_of_getElem? (i := 67) rfl) rfl
theorem mM10_1_25 : Cond.initialized "java/lang/Math" ∈ TB := tbT_1 _ (List.mem_of_getElem? (i := 25) rfl) rfl
theorem mM10_5_68 : Cond.code Lib.Math.min.name Lib.Math.min.code 2 (some .int) ∈ TB := tbT_5 _ (List.mem_of_getElem? (i := 68) rfl) rfl
theorem mM10_9_157 : Cond.methodLink RX12 397 yX12_dueOf ∈ TB := tbT_9 _ (List.mem_of_getElem? (i := 157) rfl) rfl
theorem mM10_9_160 : Cond.code yX12_dueOf cX12_dueOf 3 (some .int) ∈ TB := tbT_9 _ (List.mem_of_getElem? (i := 160) rfl) rfl
theorem mM10_9_159 : Cond.instanceMethod yX12_dueOf ∈ TB := tbT_9 _ (List.mem_of_getElem? (i := 159) rfl) rfl
theorem mpM10_7_7 : Cond.selects RX12 yX12_dueOf yX12_dueOf ∈ TB := tbP_7 (yX12_dueOf, 19) (List.mem_of_getElem? (i := 7) rfl)
theorem mM10_9_149 : Cond.methodLink RX12 406 yX12_nextToBegin ∈ TB := tbT_9 _ (List.mem_of_getElem? (i := 149) rfl) rfl
theorem mM10_9_152 : Cond.code yX12_nextToBegin cX12_nextToBegin 4 (some .int) ∈ TB := tbT_9 _ (List.mem_of_getElem? (i := 152) rfl) rfl
theorem mM10_9_151 : Cond.instanceMethod yX12_nextToBegin ∈ TB := tbT_9 _ (List.mem_of_getElem? (i := 151) rfl) rfl
theorem mpM10_7_5 : Cond.selects RX12 yX12_nextToBegin yX12_nextToBegin ∈ TB := tbP_7 (yX12_nextToBegin, 19) (List.mem_of_getElem? (i := 5) rfl)
theorem mM10_9_169 : Cond.methodLink RX12 412 yX12_timeBehind ∈ TB := tbT_9 _ (List.mem_of_getElem? (i := 169) rfl) rfl
theorem mM10_9_172 : Cond.code yX12_timeBehind cX12_timeBehind 4 (some .int) ∈ TB := tbT_9 _ (List.mem_of_getElem? (i := 172) rfl) rfl
theorem mM10_9_171 : Cond.instanceMethod yX12_timeBehind ∈ TB := tbT_9 _ (List.mem_of_getElem? (i := 171) rfl) rfl
theorem mpM10_7_10 : Cond.selects RX12 yX12_timeBehind yX12_timeBehind ∈ TB := tbP_7 (yX12_timeBehind, 19) (List.mem_of_getElem? (i := 10) rfl)
theorem mM10_9_165 : Cond.methodLink RX12 409 yX12_workingAt ∈ TB := tbT_9 _ (List.mem_of_getElem? (i := 165) rfl) rfl
theorem mM10_9_168 : Cond.code yX12_workingAt cX12_workingAt 4 (some .int) ∈ TB := tbT_9 _ (List.mem_of_getElem? (i := 168) rfl) rfl
theorem mM10_9_167 : Cond.instanceMethod yX12_workingAt ∈ TB := tbT_9 _ (List.mem_of_getElem? (i := 167) rfl) rfl
theorem mpM10_7_9 : Cond.selects RX12 yX12_workingAt yX12_workingAt ∈ TB := tbP_7 (yX12_workingAt, 19) (List.mem_of_getElem? (i := 9) rfl)
theorem mM10_9_48 : Cond.methodLink RX12 353 Lib.Math.max.name ∈ TB := tbT_9 _ (List.mem_of_getElem? (i := 48) rfl) rfl
theorem mM10_3_47 : Cond.static Lib.Math.max.name ∈ TB := tbT_3 _ (List.mem_of_getElem? (i := 47) rfl) rfl
theorem mM10_3_48 : Cond.code Lib.Math.max.name Lib.Math.max.code 2 (some .int) ∈ TB := tbT_3 _ (List.mem_of_getElem? (i := 48) rfl) rfl
theorem mM10_8_122 : Cond.methodLink RX12 73 yX12_isIn ∈ TB := tbT_8 _ (List.mem_of_getElem? (i := 122) rfl) rfl
theorem mM10_8_125 : Cond.code yX12_isIn cX12_isIn 2 (some .boolean) ∈ TB := tbT_8 _ (List.mem_of_getElem? (i := 125) rfl) rfl
theorem mM10_8_124 : Cond.instanceMethod yX12_isIn ∈ TB := tbT_8 _ (List.mem_of_getElem? (i := 124) rfl) rfl
theorem mpM10_4_13 : Cond.selects RX12 yX12_isIn yX12_isIn ∈ TB := tbP_4 (yX12_isIn, 19) (List.mem_of_getElem? (i := 13) rfl)
theorem mM10_7_77 : Cond.fieldLink RX12 3 "ClaimTableModel" "thrown" "I" ∈ TB := tbT_7 _ (List.mem_of_getElem? (i := 77) rfl) rfl
theorem mM10_8_37 : Cond.methodLink RX12 66 yX12_in ∈ TB := tbT_8 _ (List.mem_of_getElem? (i := 37) rfl) rfl
theorem mM10_8_39 : Cond.code yX12_in cX12_in 3 (some .boolean) ∈ TB := tbT_8 _ (List.mem_of_getElem? (i := 39) rfl) rfl
theorem mM10_8_38 : Cond.static yX12_in ∈ TB := tbT_8 _ (List.mem_of_getElem? (i := 38) rfl) rfl
theorem mM10_8_25 : Cond.methodLink RX12 199 yX12_throwsIf ∈ TB := tbT_8 _ (List.mem_of_getElem? (i := 25) rfl) rfl
theorem mM10_8_28 : Cond.code yX12_throwsIf cX12_throwsIf 3 (some .boolean) ∈ TB := tbT_8 _ (List.mem_of_getElem? (i := 28) rfl) rfl
theorem mM10_8_27 : Cond.instanceMethod yX12_throwsIf ∈ TB := tbT_8 _ (List.mem_of_getElem? (i := 27) rfl) rfl
theorem mpM10_3_13 : Cond.selects RX12 yX12_throwsIf yX12_throwsIf ∈ TB := tbP_3 (yX12_throwsIf, 19) (List.mem_of_getElem? (i := 13) rfl)
theorem mM10_8_227 : Cond.methodLink RX12 334 yX12_jobOf ∈ TB := tbT_8 _ (List.mem_of_getElem? (i := 227) rfl) rfl
theorem mM10_8_230 : Cond.code yX12_jobOf cX12_jobOf 3 (some .int) ∈ TB := tbT_8 _ (List.mem_of_getElem? (i := 230) rfl) rfl
theorem mM10_8_229 : Cond.instanceMethod yX12_jobOf ∈ TB := tbT_8 _ (List.mem_of_getElem? (i := 229) rfl) rfl
theorem mpM10_6_3 : Cond.selects RX12 yX12_jobOf yX12_jobOf ∈ TB := tbP_6 (yX12_jobOf, 19) (List.mem_of_getElem? (i := 3) rfl)
theorem mM10_9_145 : Cond.methodLink RX12 415 yX12_worksAll ∈ TB := tbT_9 _ (List.mem_of_getElem? (i := 145) rfl) rfl
theorem mM10_9_148 : Cond.code yX12_worksAll cX12_worksAll 5 (some .int) ∈ TB := tbT_9 _ (List.mem_of_getElem? (i := 148) rfl) rfl
theorem mM10_9_147 : Cond.instanceMethod yX12_worksAll ∈ TB := tbT_9 _ (List.mem_of_getElem? (i := 147) rfl) rfl
theorem mpM10_7_4 : Cond.selects RX12 yX12_worksAll yX12_worksAll ∈ TB := tbP_7 (yX12_worksAll, 19) (List.mem_of_getElem? (i := 4) rfl)
theorem mM10_8_223 : Cond.methodLink RX12 337 yX12_jobFor ∈ TB := tbT_8 _ (List.mem_of_getElem? (i := 223) rfl) rfl
theorem mM10_8_226 : Cond.code yX12_jobFor cX12_jobFor 5 (some .int) ∈ TB := tbT_8 _ (List.mem_of_getElem? (i := 226) rfl) rfl
theorem mM10_8_225 : Cond.instanceMethod yX12_jobFor ∈ TB := tbT_8 _ (List.mem_of_getElem? (i := 225) rfl) rfl
theorem mpM10_6_2 : Cond.selects RX12 yX12_jobFor yX12_jobFor ∈ TB := tbP_6 (yX12_jobFor, 19) (List.mem_of_getElem? (i := 2) rfl)
theorem mM10_9_177 : Cond.methodLink RX12 418 yX12_ofLog ∈ TB := tbT_9 _ (List.mem_of_getElem? (i := 177) rfl) rfl
theorem mM10_9_180 : Cond.code yX12_ofLog cX12_ofLog 3 (some .int) ∈ TB := tbT_9 _ (List.mem_of_getElem? (i := 180) rfl) rfl
theorem mM10_9_179 : Cond.instanceMethod yX12_ofLog ∈ TB := tbT_9 _ (List.mem_of_getElem? (i := 179) rfl) rfl
theorem mpM10_7_11 : Cond.selects RX12 yX12_ofLog yX12_ofLog ∈ TB := tbP_7 (yX12_ofLog, 19) (List.mem_of_getElem? (i := 11) rfl)
theorem mM10_9_185 : Cond.methodLink RX12 421 yX12_laterRow ∈ TB := tbT_9 _ (List.mem_of_getElem? (i := 185) rfl) rfl
theorem mM10_9_188 : Cond.code yX12_laterRow cX12_laterRow 3 (some .int) ∈ TB := tbT_9 _ (List.mem_of_getElem? (i := 188) rfl) rfl
theorem mM10_9_187 : Cond.instanceMethod yX12_laterRow ∈ TB := tbT_9 _ (List.mem_of_getElem? (i := 187) rfl) rfl
theorem mpM10_7_12 : Cond.selects RX12 yX12_laterRow yX12_laterRow ∈ TB := tbP_7 (yX12_laterRow, 19) (List.mem_of_getElem? (i := 12) rfl)
theorem mM10_7_202 : Cond.methodLink RX12 59 yX12_numberOf ∈ TB := tbT_7 _ (List.mem_of_getElem? (i := 202) rfl) rfl
theorem mM10_7_205 : Cond.code yX12_numberOf cX12_numberOf 2 (some .int) ∈ TB := tbT_7 _ (List.mem_of_getElem? (i := 205) rfl) rfl
theorem mM10_7_204 : Cond.instanceMethod yX12_numberOf ∈ TB := tbT_7 _ (List.mem_of_getElem? (i := 204) rfl) rfl
theorem mpM10_3_3 : Cond.selects RX12 yX12_numberOf yX12_numberOf ∈ TB := tbP_3 (yX12_numberOf, 19) (List.mem_of_getElem? (i := 3) rfl)
def rm_X12_workingAt : Room := { frames := 2, cells := 0, slots := 0, locals := 44 }
def B_X12_workingAt_25 (kk4 : Int32 → Int32 → Int32 → sSt → Prop) (a1 : Int32) (a3 : Int32) (t0 : Int32) (t1 : Int32) (S : sSt) (k : Int32 → sSt → Prop) : Prop := ∀ x5 : Int32, x5 = (t0 + t1) → ∀ x6 : Int32, x6 = a3 + 1 → kk4 a1 x5 x6 S
set_option maxHeartbeats 4000000 in
set_option maxRecDepth 100000 in
theorem Bw_X12_workingAt_25 {p : Program} {l : Launch} {e : Env} {s : State} {m : MethodId} {args : Array Value} {below : List Frame} {meth : Method} {c : Code} {D : va_G} {cy : Nat → ClassId} {b z : Nat} {tx : TX} (C0 : CallFix p m c cX12_workingAt 4 s args TB RX12) (hr : meth.sig.returnType = (some .int)) (hlk : meth.locks = false) (hT : TxR tx s) {k : Int32 → sSt → Prop} {kk4 : Int32 → Int32 → Int32 → sSt → Prop} (ih4 : ∀ (a1 : Int32) (a2 : Int32) (a3 : Int32) (S : sSt) (H : Heap) (locs : List Loc) (ls : Array Slot) , kk4 a1 a2 a3 S → RelM D cy b z tx S s H → va_S (gA b 12 z) s.heap H locs → lv_has ls 4 [(0, .ref (b + adM 0 0)), (1, .int a1), (2, .int a2), (3, .int a3)] → W p l e rm_X12_workingAt s m args below meth c H locs 0 0 (MQ below (PiM D cy b z tx k) args s 0 0 (gA b 12 z)) (F0 m 4 ls [])) : ∀ (a1 : Int32) (a3 : Int32) (t0 : Int32) (t1 : Int32) (S : sSt) (H : Heap) (locs : List Loc) (ls : Array Slot) , B_X12_workingAt_25 kk4 a1 a3 t0 t1 S k → RelM D cy b z tx S s H → va_S (gA b 12 z) s.heap H locs → lv_has ls 4 [(0, .ref (b + adM 0 0)), (1, .int a1), (3, .int a3)] → W p l e rm_X12_workingAt s m args below meth c H locs 0 0 (MQ below (PiM D cy b z tx k) args s 0 0 (gA b 12 z)) (F0 m 25 ls [.int t1, .int t0]) := by
  intro a1 a3 t0 t1 S H locs ls h hR hS hl
  have hx := C0.1
  have hb := C0.2.1
  unfold B_X12_workingAt_25 at h
  refine lv_iadd hx hb dX12_workingAt_25 ?_
  refine lv_topi (fun x5 ex5 => ?_)
  have h := h x5 ex5
  refine lv_istore_n (lv' := [(2, .int x5), (0, .ref (b + adM 0 0)), (1, .int a1), (3, .int a3)]) hx hb dX12_workingAt_26 rfl hl (by decide) rfl (fun ls hl => ?_)
  obtain ⟨x6, ex6⟩ : ∃ x6 : Int32, x6 = a3 + 1 := ⟨_, rfl⟩
  have h := h x6 ex6
  refine w_iinc (v0 := 1) (lv' := [(3, .int x6), (2, .int x5), (0, .ref (b + adM 0 0)), (1, .int a1)]) C0 dX12_workingAt_27 hl (k := 3) rfl (by decide) (by decide) x6 ex6 rfl (fun ls hl => ?_)
  refine lv_goto (tgt := 4) hx hb dX12_workingAt_30 (by decide) ?_
  exact ih4 a1 x5 x6 S _ _ _  h hR hS (lv_sub hl [2, 3, 1, 0] rfl)
def Bb_X12_workingAt_4 (kk4 : Int32 → Int32 → Int32 → sSt → Prop) (a1 : Int32) (a2 : Int32) (a3 : Int32) (S : sSt) (k : Int32 → sSt → Prop) : Prop := ((24 ≤ a3 → k a2 S) ∧ (¬ 24 ≤ a3 → F_X12_isAtWork a3 a1 S (fun r2 S3 => ((r2 = 0 → B_X12_workingAt_25 kk4 a1 a3 a2 0 S3 k) ∧ (¬ r2 = 0 → B_X12_workingAt_25 kk4 a1 a3 a2 1 S3 k)))))
set_option maxHeartbeats 4000000 in
set_option maxRecDepth 100000 in
theorem Bbw_X12_workingAt_4 {p : Program} {l : Launch} {e : Env} {s : State} {m : MethodId} {args : Array Value} {below : List Frame} {meth : Method} {c : Code} {D : va_G} {cy : Nat → ClassId} {b z : Nat} {tx : TX} (C0 : CallFix p m c cX12_workingAt 4 s args TB RX12) (hr : meth.sig.returnType = (some .int)) (hlk : meth.locks = false) (hT : TxR tx s) {k : Int32 → sSt → Prop} {kk4 : Int32 → Int32 → Int32 → sSt → Prop} (ih4 : ∀ (a1 : Int32) (a2 : Int32) (a3 : Int32) (S : sSt) (H : Heap) (locs : List Loc) (ls : Array Slot) , kk4 a1 a2 a3 S → RelM D cy b z tx S s H → va_S (gA b 12 z) s.heap H locs → lv_has ls 4 [(0, .ref (b + adM 0 0)), (1, .int a1), (2, .int a2), (3, .int a3)] → W p l e rm_X12_workingAt s m args below meth c H locs 0 0 (MQ below (PiM D cy b z tx k) args s 0 0 (gA b 12 z)) (F0 m 4 ls [])) : ∀ (a1 : Int32) (a2 : Int32) (a3 : Int32) (S : sSt) (H : Heap) (locs : List Loc) (ls : Array Slot) , Bb_X12_workingAt_4 kk4 a1 a2 a3 S k → RelM D cy b z tx S s H → va_S (gA b 12 z) s.heap H locs → lv_has ls 4 [(0, .ref (b + adM 0 0)), (1, .int a1), (2, .int a2), (3, .int a3)] → W p l e rm_X12_workingAt s m args below meth c H locs 0 0 (MQ below (PiM D cy b z tx k) args s 0 0 (gA b 12 z)) (F0 m 4 ls []) := by
  intro a1 a2 a3 S H locs ls h hR hS hl
  have hx := C0.1
  have hb := C0.2.1
  unfold Bb_X12_workingAt_4 at h
  refine lv_iload_n hx hb dX12_workingAt_4 rfl (lv_at hl 3 rfl) ?_
  refine lv_bipush (v := 24) hx hb dX12_workingAt_5 (by decide) ?_
  refine lv_icmp_ge (tgt := 33) hx hb dX12_workingAt_7 (by decide) (fun c1 => ?_) (fun c1 => ?_)
  · have h := h.1 c1
    refine lv_iload_n hx hb dX12_workingAt_33 rfl (lv_at hl 2 rfl) ?_
    exact rtM_i C0 hr hlk hR hS h dX12_workingAt_34
  · have h := h.2 c1
    refine lv_iload_n hx hb dX12_workingAt_10 rfl (lv_at hl 2 rfl) ?_
    refine lv_aload_n hx hb dX12_workingAt_11 rfl (lv_at hl 0 rfl) ?_
    refine lv_iload_n hx hb dX12_workingAt_12 rfl (lv_at hl 3 rfl) ?_
    refine lv_iload_n hx hb dX12_workingAt_13 rfl (lv_at hl 1 rfl) ?_
    refine qM_Vi (As := [.int a3, .int a1]) (rest := [.int a2]) C0 (c_X12_isAtWork l h) (cwV 2 C0.2.2.2.2 (tbV mM10_9_161 ⟨mM10_9_163, mpM10_7_8, mM10_1_11, mM10_9_164⟩) rfl rfl rfl (by decide +kernel) ⟨Nat.le_of_ble_eq_true rfl, Nat.le_of_ble_eq_true rfl⟩) (rcM_0 hR Nat.zero_lt_one) hR hT hS rfl hl.1 rfl (Nat.le_of_ble_eq_true rfl) dX12_workingAt_14 ⟨Nat.zero_le _, Nat.zero_le _⟩ (fun r2 S3 H locs h hR hS => ?_)
    refine lv_if_eq (tgt := 24) hx hb dX12_workingAt_17 (by decide) (fun c4 => ?_) (fun c4 => ?_)
    · have h := h.1 c4
      refine lv_iconst (v := 0) hx hb dX12_workingAt_24 (by decide) ?_
      exact Bw_X12_workingAt_25 C0 hr hlk hT ih4 a1 a3 a2 0 S3 _ _ _ h hR hS (lv_sub hl [0, 1, 3] rfl)
    · have h := h.2 c4
      refine lv_iconst (v := 1) hx hb dX12_workingAt_20 (by decide) ?_
      refine lv_goto (tgt := 25) hx hb dX12_workingAt_21 (by decide) ?_
      exact Bw_X12_workingAt_25 C0 hr hlk hT ih4 a1 a3 a2 1 S3 _ _ _ h hR hS (lv_sub hl [0, 1, 3] rfl)
def B_X12_workingAt_4 (n9 : Nat) (a1 : Int32) (a2 : Int32) (a3 : Int32) (S : sSt) (k : Int32 → sSt → Prop) : Prop := (Nat.rec (motive := fun _ => Int32 → Int32 → Int32 → sSt → Prop) (fun _ _ _ _ => False) (fun _ r9 => fun a1 a2 a3 S => Bb_X12_workingAt_4 r9 a1 a2 a3 S k) n9 : Int32 → Int32 → Int32 → sSt → Prop) a1 a2 a3 S
theorem B_X12_workingAt_4_s (n9 : Nat) (a1 : Int32) (a2 : Int32) (a3 : Int32) (S : sSt) (k : Int32 → sSt → Prop) : B_X12_workingAt_4 (n9 + 1) a1 a2 a3 S k = Bb_X12_workingAt_4 (fun a1 a2 a3 S => B_X12_workingAt_4 n9 a1 a2 a3 S k) a1 a2 a3 S k := rfl
set_option maxHeartbeats 4000000 in
set_option maxRecDepth 100000 in
theorem Bw_X12_workingAt_4 {p : Program} {l : Launch} {e : Env} {s : State} {m : MethodId} {args : Array Value} {below : List Frame} {meth : Method} {c : Code} {D : va_G} {cy : Nat → ClassId} {b z : Nat} {tx : TX} (C0 : CallFix p m c cX12_workingAt 4 s args TB RX12) (hr : meth.sig.returnType = (some .int)) (hlk : meth.locks = false) (hT : TxR tx s) {k : Int32 → sSt → Prop} : ∀ (n9 : Nat), ∀ (a1 : Int32) (a2 : Int32) (a3 : Int32) (S : sSt) (H : Heap) (locs : List Loc) (ls : Array Slot) , B_X12_workingAt_4 n9 a1 a2 a3 S k → RelM D cy b z tx S s H → va_S (gA b 12 z) s.heap H locs → lv_has ls 4 [(0, .ref (b + adM 0 0)), (1, .int a1), (2, .int a2), (3, .int a3)] → W p l e rm_X12_workingAt s m args below meth c H locs 0 0 (MQ below (PiM D cy b z tx k) args s 0 0 (gA b 12 z)) (F0 m 4 ls []) := by
  intro n9
  induction n9 with
  | zero => intro a1 a2 a3 S H locs ls h; exact h.elim
  | succ n9 ih =>
    intro a1 a2 a3 S H locs ls h hR hS hl
    exact Bbw_X12_workingAt_4 C0 hr hlk hT ih a1 a2 a3 S H locs ls h hR hS hl
def F_X12_workingAt (a1 : Int32) (S : sSt) (k : Int32 → sSt → Prop) : Prop := B_X12_workingAt_4 fuel a1 0 0 S k
set_option maxHeartbeats 4000000 in
set_option maxRecDepth 100000 in
theorem c_X12_workingAt (l : Launch) {D : va_G} {cy : Nat → ClassId} {b z : Nat} {tx : TX} {a1 : Int32} {S : sSt} {k : Int32 → sSt → Prop} (h : F_X12_workingAt a1 S k) : Met l yX12_workingAt (Cond.code yX12_workingAt cX12_workingAt 4 (some .int) :: TB) rm_X12_workingAt (va_Pc [.ref (b + adM 0 0), .int a1] (fun U => RelM D cy b z tx S U U.heap ∧ TxR tx U)) (PiM D cy b z tx k) 0 0 (gA b 12 z) := by
  refine Met.ofW (cc := cX12_workingAt) (maxL := 4) (ret := (some .int)) (by decide) rfl ?_
  intro p e s m args below meth c s₁ B hml hv
  obtain ⟨rfl, hR, hT⟩ := hv
  have C0 : CallFix p m c cX12_workingAt 4 s _ TB RX12 := ⟨B.exec, B.bytes, hml, findClass_of_methodNamed B.named, fun w hw => atoms_spec B.pre w (List.mem_cons_of_mem _ hw)⟩
  have hr := B.returns
  have hlk := B.notSynchronized
  have hx := C0.1
  have hb := C0.2.1
  have hS : va_S (gA b 12 z) s.heap s.heap [] := va_S.rf
  have hl := lv_entry ([.ref (b + adM 0 0), .int a1]) (n := 4) (Nat.le_of_ble_eq_true rfl)
  rw [lg_entry_eq]
  generalize (lg_sl ([.ref (b + adM 0 0), .int a1]) ++ List.replicate (4 - (lg_sl ([.ref (b + adM 0 0), .int a1])).length) Slot.unset).toArray = ls at hl ⊢
  have hl : lv_has ls 4 [(0, .ref (b + adM 0 0)), (1, .int a1)] := hl
  show W p l e rm_X12_workingAt s m _ below meth c s.heap [] 0 0 (MQ below (PiM D cy b z tx k) _ s 0 0 (gA b 12 z)) _
  unfold F_X12_workingAt at h
  refine lv_iconst (v := 0) hx hb dX12_workingAt_0 (by decide) ?_
  refine lv_istore_n (lv' := [(2, .int 0), (0, .ref (b + adM 0 0)), (1, .int a1)]) hx hb dX12_workingAt_1 rfl hl (by decide) rfl (fun ls hl => ?_)
  refine lv_iconst (v := 0) hx hb dX12_workingAt_2 (by decide) ?_
  refine lv_istore_n (lv' := [(3, .int 0), (2, .int 0), (0, .ref (b + adM 0 0)), (1, .int a1)]) hx hb dX12_workingAt_3 rfl hl (by decide) rfl (fun ls hl => ?_)
  exact Bw_X12_workingAt_4 C0 hr hlk hT fuel a1 0 0 S _ _ _ h hR hS (lv_sub hl [2, 3, 1, 0] rfl)

def rm_X12_timeBehind : Room := { frames := 2, cells := 0, slots := 0, locals := 44 }
def B_X12_timeBehind_76 (kk6 : Int32 → Int32 → Int32 → sSt → Prop) (a1 : Int32) (a2 : Int32) (a3 : Int32) (S : sSt) (k : Int32 → sSt → Prop) : Prop := ∀ x7 : Int32, x7 = a3 + 1 → kk6 a1 a2 x7 S
set_option maxHeartbeats 4000000 in
set_option maxRecDepth 100000 in
theorem Bw_X12_timeBehind_76 {p : Program} {l : Launch} {e : Env} {s : State} {m : MethodId} {args : Array Value} {below : List Frame} {meth : Method} {c : Code} {D : va_G} {cy : Nat → ClassId} {b z : Nat} {tx : TX} (C0 : CallFix p m c cX12_timeBehind 4 s args TB RX12) (hr : meth.sig.returnType = (some .int)) (hlk : meth.locks = false) (hT : TxR tx s) {k : Int32 → sSt → Prop} {kk6 : Int32 → Int32 → Int32 → sSt → Prop} (ih6 : ∀ (a1 : Int32) (a2 : Int32) (a3 : Int32) (S : sSt) (H : Heap) (locs : List Loc) (ls : Array Slot) , kk6 a1 a2 a3 S → RelM D cy b z tx S s H → va_S (gA b 12 z) s.heap H locs → lv_has ls 4 [(0, .ref (b + adM 0 0)), (1, .int a1), (2, .int a2), (3, .int a3)] → W p l e rm_X12_timeBehind s m args below meth c H locs 0 0 (MQ below (PiM D cy b z tx k) args s 0 0 (gA b 12 z)) (F0 m 6 ls [])) : ∀ (a1 : Int32) (a2 : Int32) (a3 : Int32) (S : sSt) (H : Heap) (locs : List Loc) (ls : Array Slot) , B_X12_timeBehind_76 kk6 a1 a2 a3 S k → RelM D cy b z tx S s H → va_S (gA b 12 z) s.heap H locs → lv_has ls 4 [(0, .ref (b + adM 0 0)), (1, .int a1), (2, .int a2), (3, .int a3)] → W p l e rm_X12_timeBehind s m args below meth c H locs 0 0 (MQ below (PiM D cy b z tx k) args s 0 0 (gA b 12 z)) (F0 m 76 ls []) := by
  intro a1 a2 a3 S H locs ls h hR hS hl
  have hx := C0.1
  have hb := C0.2.1
  unfold B_X12_timeBehind_76 at h
  obtain ⟨x7, ex7⟩ : ∃ x7 : Int32, x7 = a3 + 1 := ⟨_, rfl⟩
  have h := h x7 ex7
  refine w_iinc (v0 := 1) (lv' := [(3, .int x7), (0, .ref (b + adM 0 0)), (1, .int a1), (2, .int a2)]) C0 dX12_timeBehind_76 hl (k := 3) rfl (by decide) (by decide) x7 ex7 rfl (fun ls hl => ?_)
  refine lv_goto (tgt := 6) hx hb dX12_timeBehind_79 (by decide) ?_
  exact ih6 a1 a2 x7 S _ _ _  h hR hS (lv_sub hl [1, 2, 3, 0] rfl)
def B_X12_timeBehind_43 (kk6 : Int32 → Int32 → Int32 → sSt → Prop) (a1 : Int32) (a2 : Int32) (a3 : Int32) (S : sSt) (k : Int32 → sSt → Prop) : Prop := F_X12_isAtWork a3 a1 S (fun r4 S5 => ((r4 = 0 → B_X12_timeBehind_76 kk6 a1 a2 a3 S5 k) ∧ (¬ r4 = 0 → ix a3 24 (fun j8 => F_X12_jobAt a3 3 S5 (fun r9 S10 => ix (r9 + 2) 10421 (fun j11 => ∀ x12 : Int32, x12 = (if ((S5.1 11 0 j8) + (S10.1 1 0 j11)) < a2 then ((S5.1 11 0 j8) + (S10.1 1 0 j11)) else a2) → B_X12_timeBehind_76 kk6 a1 x12 a3 S10 k))))))
set_option maxHeartbeats 4000000 in
set_option maxRecDepth 100000 in
theorem Bw_X12_timeBehind_43 {p : Program} {l : Launch} {e : Env} {s : State} {m : MethodId} {args : Array Value} {below : List Frame} {meth : Method} {c : Code} {D : va_G} {cy : Nat → ClassId} {b z : Nat} {tx : TX} (C0 : CallFix p m c cX12_timeBehind 4 s args TB RX12) (hr : meth.sig.returnType = (some .int)) (hlk : meth.locks = false) (hT : TxR tx s) {k : Int32 → sSt → Prop} {kk6 : Int32 → Int32 → Int32 → sSt → Prop} (ih6 : ∀ (a1 : Int32) (a2 : Int32) (a3 : Int32) (S : sSt) (H : Heap) (locs : List Loc) (ls : Array Slot) , kk6 a1 a2 a3 S → RelM D cy b z tx S s H → va_S (gA b 12 z) s.heap H locs → lv_has ls 4 [(0, .ref (b + adM 0 0)), (1, .int a1), (2, .int a2), (3, .int a3)] → W p l e rm_X12_timeBehind s m args below meth c H locs 0 0 (MQ below (PiM D cy b z tx k) args s 0 0 (gA b 12 z)) (F0 m 6 ls [])) : ∀ (a1 : Int32) (a2 : Int32) (a3 : Int32) (S : sSt) (H : Heap) (locs : List Loc) (ls : Array Slot) , B_X12_timeBehind_43 kk6 a1 a2 a3 S k → RelM D cy b z tx S s H → va_S (gA b 12 z) s.heap H locs → lv_has ls 4 [(0, .ref (b + adM 0 0)), (1, .int a1), (2, .int a2), (3, .int a3)] → W p l e rm_X12_timeBehind s m args below meth c H locs 0 0 (MQ below (PiM D cy b z tx k) args s 0 0 (gA b 12 z)) (F0 m 43 ls []) := by
  intro a1 a2 a3 S H locs ls h hR hS hl
  have hx := C0.1
  have hb := C0.2.1
  unfold B_X12_timeBehind_43 at h
  refine lv_aload_n hx hb dX12_timeBehind_43 rfl (lv_at hl 0 rfl) ?_
  refine lv_iload_n hx hb dX12_timeBehind_44 rfl (lv_at hl 3 rfl) ?_
  refine lv_iload_n hx hb dX12_timeBehind_45 rfl (lv_at hl 1 rfl) ?_
  refine qM_Vi (As := [.int a3, .int a1]) (rest := []) C0 (c_X12_isAtWork l h) (cwV 2 C0.2.2.2.2 (tbV mM10_9_161 ⟨mM10_9_163, mpM10_7_8, mM10_1_11, mM10_9_164⟩) rfl rfl rfl (by decide +kernel) ⟨Nat.le_of_ble_eq_true rfl, Nat.le_of_ble_eq_true rfl⟩) (rcM_0 hR Nat.zero_lt_one) hR hT hS rfl hl.1 rfl (Nat.le_of_ble_eq_true rfl) dX12_timeBehind_46 ⟨Nat.zero_le _, Nat.zero_le _⟩ (fun r4 S5 H locs h hR hS => ?_)
  refine lv_if_eq (tgt := 76) hx hb dX12_timeBehind_49 (by decide) (fun c6 => ?_) (fun c6 => ?_)
  · have h := h.1 c6
    exact Bw_X12_timeBehind_76 C0 hr hlk hT ih6 a1 a2 a3 S5 _ _ _ h hR hS (lv_sub hl [0, 1, 2, 3] rfl)
  · have h := h.2 c6
    refine lv_iload_n hx hb dX12_timeBehind_52 rfl (lv_at hl 2 rfl) ?_
    refine lv_aload_n hx hb dX12_timeBehind_53 rfl (lv_at hl 0 rfl) ?_
    refine gM_0_18 C0 hR Nat.zero_lt_one tbs_wsX120 mM10_7_95 dX12_timeBehind_54 ?_
    refine lv_iload_n hx hb dX12_timeBehind_57 rfl (lv_at hl 3 rfl) ?_
    obtain ⟨j8, hj8, ej8, h⟩ := h
    refine lM_11 C0 hR Nat.zero_lt_one hj8 ej8 dX12_timeBehind_58 ?_
    refine lv_aload_n hx hb dX12_timeBehind_59 rfl (lv_at hl 0 rfl) ?_
    refine gM_0_2 C0 hR Nat.zero_lt_one tbs_wsX120 mM10_7_79 dX12_timeBehind_60 ?_
    refine lv_iload_n hx hb dX12_timeBehind_63 rfl (lv_at hl 3 rfl) ?_
    refine lv_iconst (v := 3) hx hb dX12_timeBehind_64 (by decide) ?_
    refine qM_Si (As := [.int a3, .int 3]) (rest := [.ref (b + adM 1 0), .int (S5.1 11 0 j8), .int a2]) C0 (c_X12_jobAt l h) (va_cwS 2 C0.2.2.2.2 (tbS mM10_7_74 ⟨mM10_7_75, mM10_1_11, mM10_7_76⟩) rfl rfl rfl (by decide +kernel) ⟨Nat.le_of_ble_eq_true rfl, Nat.le_of_ble_eq_true rfl⟩) hR hT hS rfl hl.1 rfl (Nat.le_of_ble_eq_true rfl) dX12_timeBehind_65 ⟨Nat.zero_le _, Nat.zero_le _⟩ (fun r9 S10 H locs h hR hS => ?_)
    refine lv_iconst (v := 2) hx hb dX12_timeBehind_68 (by decide) ?_
    refine lv_iadd hx hb dX12_timeBehind_69 ?_
    obtain ⟨j11, hj11, ej11, h⟩ := h
    refine lM_1 C0 hR Nat.zero_lt_one hj11 ej11 dX12_timeBehind_70 ?_
    refine lv_iadd hx hb dX12_timeBehind_71 ?_
    refine va_mmin hx hb (C0.2.2.1.trans hl.1.symm) C0.2.2.2.1 (C0.2.2.2.2 _ mM10_8_142) (C0.2.2.2.2 _ mM10_5_67) (C0.2.2.2.2 _ mM10_1_25) (C0.2.2.2.2 _ mM10_5_68) (Nat.le_of_ble_eq_true rfl) (Nat.le_of_ble_eq_true rfl) (Nat.zero_le _) (Nat.zero_le _) dX12_timeBehind_72 ?_
    refine lv_topi (fun x12 ex12 => ?_)
    have h := h x12 ex12
    refine lv_istore_n (lv' := [(2, .int x12), (0, .ref (b + adM 0 0)), (1, .int a1), (3, .int a3)]) hx hb dX12_timeBehind_75 rfl hl (by decide) rfl (fun ls hl => ?_)
    exact Bw_X12_timeBehind_76 C0 hr hlk hT ih6 a1 x12 a3 S10 _ _ _ h hR hS (lv_sub hl [1, 2, 0, 3] rfl)
def Bb_X12_timeBehind_6 (kk6 : Int32 → Int32 → Int32 → sSt → Prop) (a1 : Int32) (a2 : Int32) (a3 : Int32) (S : sSt) (k : Int32 → sSt → Prop) : Prop := ((24 ≤ a3 → k a2 S) ∧ (¬ 24 ≤ a3 → ix a3 24 (fun j2 => ((¬ (S.1 11 0 j2) = 1000000 → B_X12_timeBehind_43 kk6 a1 a2 a3 S k) ∧ ((S.1 11 0 j2) = 1000000 → F_X12_dueOf a3 S (fun r13 S14 => ((r13 ≤ a1 → B_X12_timeBehind_43 kk6 a1 a2 a3 S14 k) ∧ (¬ r13 ≤ a1 → F_X12_dueOf a3 S14 (fun r16 S17 => ∀ x18 : Int32, x18 = (if r16 < a2 then r16 else a2) → B_X12_timeBehind_43 kk6 a1 x18 a3 S17 k)))))))))
set_option maxHeartbeats 4000000 in
set_option maxRecDepth 100000 in
theorem Bbw_X12_timeBehind_6 {p : Program} {l : Launch} {e : Env} {s : State} {m : MethodId} {args : Array Value} {below : List Frame} {meth : Method} {c : Code} {D : va_G} {cy : Nat → ClassId} {b z : Nat} {tx : TX} (C0 : CallFix p m c cX12_timeBehind 4 s args TB RX12) (hr : meth.sig.returnType = (some .int)) (hlk : meth.locks = false) (hT : TxR tx s) {k : Int32 → sSt → Prop} {kk6 : Int32 → Int32 → Int32 → sSt → Prop} (ih6 : ∀ (a1 : Int32) (a2 : Int32) (a3 : Int32) (S : sSt) (H : Heap) (locs : List Loc) (ls : Array Slot) , kk6 a1 a2 a3 S → RelM D cy b z tx S s H → va_S (gA b 12 z) s.heap H locs → lv_has ls 4 [(0, .ref (b + adM 0 0)), (1, .int a1), (2, .int a2), (3, .int a3)] → W p l e rm_X12_timeBehind s m args below meth c H locs 0 0 (MQ below (PiM D cy b z tx k) args s 0 0 (gA b 12 z)) (F0 m 6 ls [])) : ∀ (a1 : Int32) (a2 : Int32) (a3 : Int32) (S : sSt) (H : Heap) (locs : List Loc) (ls : Array Slot) , Bb_X12_timeBehind_6 kk6 a1 a2 a3 S k → RelM D cy b z tx S s H → va_S (gA b 12 z) s.heap H locs → lv_has ls 4 [(0, .ref (b + adM 0 0)), (1, .int a1), (2, .int a2), (3, .int a3)] → W p l e rm_X12_timeBehind s m args below meth c H locs 0 0 (MQ below (PiM D cy b z tx k) args s 0 0 (gA b 12 z)) (F0 m 6 ls []) := by
  intro a1 a2 a3 S H locs ls h hR hS hl
  have hx := C0.1
  have hb := C0.2.1
  unfold Bb_X12_timeBehind_6 at h
  refine lv_iload_n hx hb dX12_timeBehind_6 rfl (lv_at hl 3 rfl) ?_
  refine lv_bipush (v := 24) hx hb dX12_timeBehind_7 (by decide) ?_
  refine lv_icmp_ge (tgt := 82) hx hb dX12_timeBehind_9 (by decide) (fun c1 => ?_) (fun c1 => ?_)
  · have h := h.1 c1
    refine lv_iload_n hx hb dX12_timeBehind_82 rfl (lv_at hl 2 rfl) ?_
    exact rtM_i C0 hr hlk hR hS h dX12_timeBehind_83
  · have h := h.2 c1
    refine lv_aload_n hx hb dX12_timeBehind_12 rfl (lv_at hl 0 rfl) ?_
    refine gM_0_18 C0 hR Nat.zero_lt_one tbs_wsX120 mM10_7_95 dX12_timeBehind_13 ?_
    refine lv_iload_n hx hb dX12_timeBehind_16 rfl (lv_at hl 3 rfl) ?_
    obtain ⟨j2, hj2, ej2, h⟩ := h
    refine lM_11 C0 hR Nat.zero_lt_one hj2 ej2 dX12_timeBehind_17 ?_
    refine lv_ldcw (v := 1000000) hx hb C0.2.2.2.1 (C0.2.2.2.2 _ mM10_9_11) dX12_timeBehind_18 ?_
    refine lv_icmp_ne (tgt := 43) hx hb dX12_timeBehind_21 (by decide) (fun c3 => ?_) (fun c3 => ?_)
    · have h := h.1 c3
      exact Bw_X12_timeBehind_43 C0 hr hlk hT ih6 a1 a2 a3 S _ _ _ h hR hS (lv_sub hl [0, 1, 2, 3] rfl)
    · have h := h.2 c3
      refine lv_aload_n hx hb dX12_timeBehind_24 rfl (lv_at hl 0 rfl) ?_
      refine lv_iload_n hx hb dX12_timeBehind_25 rfl (lv_at hl 3 rfl) ?_
      refine qM_Vi (As := [.int a3]) (rest := []) C0 (c_X12_dueOf l h) (cwV 1 C0.2.2.2.2 (tbV mM10_9_157 ⟨mM10_9_159, mpM10_7_7, mM10_1_11, mM10_9_160⟩) rfl rfl rfl (by decide +kernel) ⟨Nat.le_of_ble_eq_true rfl, Nat.le_of_ble_eq_true rfl⟩) (rcM_0 hR Nat.zero_lt_one) hR hT hS rfl hl.1 rfl (Nat.le_of_ble_eq_true rfl) dX12_timeBehind_26 ⟨Nat.zero_le _, Nat.zero_le _⟩ (fun r13 S14 H locs h hR hS => ?_)
      refine lv_iload_n hx hb dX12_timeBehind_29 rfl (lv_at hl 1 rfl) ?_
      refine lv_icmp_le (tgt := 43) hx hb dX12_timeBehind_30 (by decide) (fun c15 => ?_) (fun c15 => ?_)
      · have h := h.1 c15
        exact Bw_X12_timeBehind_43 C0 hr hlk hT ih6 a1 a2 a3 S14 _ _ _ h hR hS (lv_sub hl [0, 1, 2, 3] rfl)
      · have h := h.2 c15
        refine lv_iload_n hx hb dX12_timeBehind_33 rfl (lv_at hl 2 rfl) ?_
        refine lv_aload_n hx hb dX12_timeBehind_34 rfl (lv_at hl 0 rfl) ?_
        refine lv_iload_n hx hb dX12_timeBehind_35 rfl (lv_at hl 3 rfl) ?_
        refine qM_Vi (As := [.int a3]) (rest := [.int a2]) C0 (c_X12_dueOf l h) (cwV 1 C0.2.2.2.2 (tbV mM10_9_157 ⟨mM10_9_159, mpM10_7_7, mM10_1_11, mM10_9_160⟩) rfl rfl rfl (by decide +kernel) ⟨Nat.le_of_ble_eq_true rfl, Nat.le_of_ble_eq_true rfl⟩) (rcM_0 hR Nat.zero_lt_one) hR hT hS rfl hl.1 rfl (Nat.le_of_ble_eq_true rfl) dX12_timeBehind_36 ⟨Nat.zero_le _, Nat.zero_le _⟩ (fun r16 S17 H locs h hR hS => ?_)
        refine va_mmin hx hb (C0.2.2.1.trans hl.1.symm) C0.2.2.2.1 (C0.2.2.2.2 _ mM10_8_142) (C0.2.2.2.2 _ mM10_5_67) (C0.2.2.2.2 _ mM10_1_25) (C0.2.2.2.2 _ mM10_5_68) (Nat.le_of_ble_eq_true rfl) (Nat.le_of_ble_eq_true rfl) (Nat.zero_le _) (Nat.zero_le _) dX12_timeBehind_39 ?_
        refine lv_topi (fun x18 ex18 => ?_)
        have h := h x18 ex18
        refine lv_istore_n (lv' := [(2, .int x18), (0, .ref (b + adM 0 0)), (1, .int a1), (3, .int a3)]) hx hb dX12_timeBehind_42 rfl hl (by decide) rfl (fun ls hl => ?_)
        exact Bw_X12_timeBehind_43 C0 hr hlk hT ih6 a1 x18 a3 S17 _ _ _ h hR hS (lv_sub hl [1, 2, 0, 3] rfl)
def B_X12_timeBehind_6 (n9 : Nat) (a1 : Int32) (a2 : Int32) (a3 : Int32) (S : sSt) (k : Int32 → sSt → Prop) : Prop := (Nat.rec (motive := fun _ => Int32 → Int32 → Int32 → sSt → Prop) (fun _ _ _ _ => False) (fun _ r9 => fun a1 a2 a3 S => Bb_X12_timeBehind_6 r9 a1 a2 a3 S k) n9 : Int32 → Int32 → Int32 → sSt → Prop) a1 a2 a3 S
theorem B_X12_timeBehind_6_s (n9 : Nat) (a1 : Int32) (a2 : Int32) (a3 : Int32) (S : sSt) (k : Int32 → sSt → Prop) : B_X12_timeBehind_6 (n9 + 1) a1 a2 a3 S k = Bb_X12_timeBehind_6 (fun a1 a2 a3 S => B_X12_timeBehind_6 n9 a1 a2 a3 S k) a1 a2 a3 S k := rfl
set_option maxHeartbeats 4000000 in
set_option maxRecDepth 100000 in
theorem Bw_X12_timeBehind_6 {p : Program} {l : Launch} {e : Env} {s : State} {m : MethodId} {args : Array Value} {below : List Frame} {meth : Method} {c : Code} {D : va_G} {cy : Nat → ClassId} {b z : Nat} {tx : TX} (C0 : CallFix p m c cX12_timeBehind 4 s args TB RX12) (hr : meth.sig.returnType = (some .int)) (hlk : meth.locks = false) (hT : TxR tx s) {k : Int32 → sSt → Prop} : ∀ (n9 : Nat), ∀ (a1 : Int32) (a2 : Int32) (a3 : Int32) (S : sSt) (H : Heap) (locs : List Loc) (ls : Array Slot) , B_X12_timeBehind_6 n9 a1 a2 a3 S k → RelM D cy b z tx S s H → va_S (gA b 12 z) s.heap H locs → lv_has ls 4 [(0, .ref (b + adM 0 0)), (1, .int a1), (2, .int a2), (3, .int a3)] → W p l e rm_X12_timeBehind s m args below meth c H locs 0 0 (MQ below (PiM D cy b z tx k) args s 0 0 (gA b 12 z)) (F0 m 6 ls []) := by
  intro n9
  induction n9 with
  | zero => intro a1 a2 a3 S H locs ls h; exact h.elim
  | succ n9 ih =>
    intro a1 a2 a3 S H locs ls h hR hS hl
    exact Bbw_X12_timeBehind_6 C0 hr hlk hT ih a1 a2 a3 S H locs ls h hR hS hl
def F_X12_timeBehind (a1 : Int32) (S : sSt) (k : Int32 → sSt → Prop) : Prop := B_X12_timeBehind_6 fuel a1 1000000 0 S k
set_option maxHeartbeats 4000000 in
set_option maxRecDepth 100000 in
theorem c_X12_timeBehind (l : Launch) {D : va_G} {cy : Nat → ClassId} {b z : Nat} {tx : TX} {a1 : Int32} {S : sSt} {k : Int32 → sSt → Prop} (h : F_X12_timeBehind a1 S k) : Met l yX12_timeBehind (Cond.code yX12_timeBehind cX12_timeBehind 4 (some .int) :: TB) rm_X12_timeBehind (va_Pc [.ref (b + adM 0 0), .int a1] (fun U => RelM D cy b z tx S U U.heap ∧ TxR tx U)) (PiM D cy b z tx k) 0 0 (gA b 12 z) := by
  refine Met.ofW (cc := cX12_timeBehind) (maxL := 4) (ret := (some .int)) (by decide) rfl ?_
  intro p e s m args below meth c s₁ B hml hv
  obtain ⟨rfl, hR, hT⟩ := hv
  have C0 : CallFix p m c cX12_timeBehind 4 s _ TB RX12 := ⟨B.exec, B.bytes, hml, findClass_of_methodNamed B.named, fun w hw => atoms_spec B.pre w (List.mem_cons_of_mem _ hw)⟩
  have hr := B.returns
  have hlk := B.notSynchronized
  have hx := C0.1
  have hb := C0.2.1
  have hS : va_S (gA b 12 z) s.heap s.heap [] := va_S.rf
  have hl := lv_entry ([.ref (b + adM 0 0), .int a1]) (n := 4) (Nat.le_of_ble_eq_true rfl)
  rw [lg_entry_eq]
  generalize (lg_sl ([.ref (b + adM 0 0), .int a1]) ++ List.replicate (4 - (lg_sl ([.ref (b + adM 0 0), .int a1])).length) Slot.unset).toArray = ls at hl ⊢
  have hl : lv_has ls 4 [(0, .ref (b + adM 0 0)), (1, .int a1)] := hl
  show W p l e rm_X12_timeBehind s m _ below meth c s.heap [] 0 0 (MQ below (PiM D cy b z tx k) _ s 0 0 (gA b 12 z)) _
  unfold F_X12_timeBehind at h
  refine lv_ldcw (v := 1000000) hx hb C0.2.2.2.1 (C0.2.2.2.2 _ mM10_9_11) dX12_timeBehind_0 ?_
  refine lv_istore_n (lv' := [(2, .int 1000000), (0, .ref (b + adM 0 0)), (1, .int a1)]) hx hb dX12_timeBehind_3 rfl hl (by decide) rfl (fun ls hl => ?_)
  refine lv_iconst (v := 0) hx hb dX12_timeBehind_4 (by decide) ?_
  refine lv_istore_n (lv' := [(3, .int 0), (2, .int 1000000), (0, .ref (b + adM 0 0)), (1, .int a1)]) hx hb dX12_timeBehind_5 rfl hl (by decide) rfl (fun ls hl => ?_)
  exact Bw_X12_timeBehind_6 C0 hr hlk hT fuel a1 1000000 0 S _ _ _ h hR hS (lv_sub hl [2, 3, 1, 0] rfl)

def rm_X12_worksAll : Room := { frames := 4, cells := 0, slots := 0, locals := 93 }
def B_X12_worksAll_132 (kk65 : Int32 → Int32 → Int32 → sSt → Prop) (a1 : Int32) (a2 : Int32) (a3 : Int32) (S : sSt) (k : Int32 → sSt → Prop) : Prop := F_X12_timeBehind a3 S (fun r8 S9 => kk65 a1 a2 r8 S9)
set_option maxHeartbeats 4000000 in
set_option maxRecDepth 100000 in
theorem Bw_X12_worksAll_132 {p : Program} {l : Launch} {e : Env} {s : State} {m : MethodId} {args : Array Value} {below : List Frame} {meth : Method} {c : Code} {D : va_G} {cy : Nat → ClassId} {b z : Nat} {tx : TX} (C0 : CallFix p m c cX12_worksAll 5 s args TB RX12) (hr : meth.sig.returnType = (some .int)) (hlk : meth.locks = false) (hT : TxR tx s) {k : Int32 → sSt → Prop} {kk65 : Int32 → Int32 → Int32 → sSt → Prop} (ih65 : ∀ (a1 : Int32) (a2 : Int32) (a3 : Int32) (S : sSt) (H : Heap) (locs : List Loc) (ls : Array Slot) , kk65 a1 a2 a3 S → RelM D cy b z tx S s H → va_S (gA b 12 z) s.heap H locs → lv_has ls 5 [(0, .ref (b + adM 0 0)), (1, .int a1), (2, .int a2), (3, .int a3)] → W p l e rm_X12_worksAll s m args below meth c H locs 0 0 (MQ below (PiM D cy b z tx k) args s 0 0 (gA b 12 z)) (F0 m 65 ls [])) : ∀ (a1 : Int32) (a2 : Int32) (a3 : Int32) (S : sSt) (H : Heap) (locs : List Loc) (ls : Array Slot) , B_X12_worksAll_132 kk65 a1 a2 a3 S k → RelM D cy b z tx S s H → va_S (gA b 12 z) s.heap H locs → lv_has ls 5 [(0, .ref (b + adM 0 0)), (1, .int a1), (2, .int a2), (3, .int a3)] → W p l e rm_X12_worksAll s m args below meth c H locs 0 0 (MQ below (PiM D cy b z tx k) args s 0 0 (gA b 12 z)) (F0 m 132 ls []) := by
  intro a1 a2 a3 S H locs ls h hR hS hl
  have hx := C0.1
  have hb := C0.2.1
  unfold B_X12_worksAll_132 at h
  refine lv_aload_n hx hb dX12_worksAll_132 rfl (lv_at hl 0 rfl) ?_
  refine lv_iload_n hx hb dX12_worksAll_133 rfl (lv_at hl 3 rfl) ?_
  refine qM_Vi (As := [.int a3]) (rest := []) C0 (c_X12_timeBehind l h) (cwV 1 C0.2.2.2.2 (tbV mM10_9_169 ⟨mM10_9_171, mpM10_7_10, mM10_1_11, mM10_9_172⟩) rfl rfl rfl (by decide +kernel) ⟨Nat.le_of_ble_eq_true rfl, Nat.le_of_ble_eq_true rfl⟩) (rcM_0 hR Nat.zero_lt_one) hR hT hS rfl hl.1 rfl (Nat.le_of_ble_eq_true rfl) dX12_worksAll_134 ⟨Nat.zero_le _, Nat.zero_le _⟩ (fun r8 S9 H locs h hR hS => ?_)
  refine lv_istore_n (lv' := [(3, .int r8), (0, .ref (b + adM 0 0)), (1, .int a1), (2, .int a2)]) hx hb dX12_worksAll_137 rfl hl (by decide) rfl (fun ls hl => ?_)
  refine lv_goto (tgt := 65) hx hb dX12_worksAll_138 (by decide) ?_
  exact ih65 a1 a2 r8 S9 _ _ _  h hR hS (lv_sub hl [1, 2, 3, 0] rfl)
def Bb_X12_worksAll_79 (kk65 : Int32 → Int32 → Int32 → sSt → Prop) (kk79 : Int32 → Int32 → Int32 → Int32 → sSt → Prop) (a1 : Int32) (a2 : Int32) (a3 : Int32) (a4 : Int32) (S : sSt) (k : Int32 → sSt → Prop) : Prop := ((a4 = (-1) → B_X12_worksAll_132 kk65 a1 a2 a3 S k) ∧ (¬ a4 = (-1) → F_X12_workingAt a3 S (fun r10 S11 => ((a1 ≤ r10 → B_X12_worksAll_132 kk65 a1 a2 a3 S11 k) ∧ (¬ a1 ≤ r10 → ix a4 24 (fun j13 => ∀ S14, S14 = uI S11 11 0 j13 a3 → F_X12_jobAt a4 3 S14 (fun r15 S16 => ix (r15 + 2) 10421 (fun j17 => ∀ x18 : Int32, x18 = (if a2 < (a3 + (S16.1 1 0 j17)) then (a3 + (S16.1 1 0 j17)) else a2) → F_X12_nextToBegin a3 S16 (fun r19 S20 => kk79 a1 x18 a3 r19 S20)))))))))
set_option maxHeartbeats 4000000 in
set_option maxRecDepth 100000 in
theorem Bbw_X12_worksAll_79 {p : Program} {l : Launch} {e : Env} {s : State} {m : MethodId} {args : Array Value} {below : List Frame} {meth : Method} {c : Code} {D : va_G} {cy : Nat → ClassId} {b z : Nat} {tx : TX} (C0 : CallFix p m c cX12_worksAll 5 s args TB RX12) (hr : meth.sig.returnType = (some .int)) (hlk : meth.locks = false) (hT : TxR tx s) {k : Int32 → sSt → Prop} {kk65 : Int32 → Int32 → Int32 → sSt → Prop} {kk79 : Int32 → Int32 → Int32 → Int32 → sSt → Prop} (ih65 : ∀ (a1 : Int32) (a2 : Int32) (a3 : Int32) (S : sSt) (H : Heap) (locs : List Loc) (ls : Array Slot) , kk65 a1 a2 a3 S → RelM D cy b z tx S s H → va_S (gA b 12 z) s.heap H locs → lv_has ls 5 [(0, .ref (b + adM 0 0)), (1, .int a1), (2, .int a2), (3, .int a3)] → W p l e rm_X12_worksAll s m args below meth c H locs 0 0 (MQ below (PiM D cy b z tx k) args s 0 0 (gA b 12 z)) (F0 m 65 ls [])) (ih79 : ∀ (a1 : Int32) (a2 : Int32) (a3 : Int32) (a4 : Int32) (S : sSt) (H : Heap) (locs : List Loc) (ls : Array Slot) , kk79 a1 a2 a3 a4 S → RelM D cy b z tx S s H → va_S (gA b 12 z) s.heap H locs → lv_has ls 5 [(0, .ref (b + adM 0 0)), (1, .int a1), (2, .int a2), (3, .int a3), (4, .int a4)] → W p l e rm_X12_worksAll s m args below meth c H locs 0 0 (MQ below (PiM D cy b z tx k) args s 0 0 (gA b 12 z)) (F0 m 79 ls [])) : ∀ (a1 : Int32) (a2 : Int32) (a3 : Int32) (a4 : Int32) (S : sSt) (H : Heap) (locs : List Loc) (ls : Array Slot) , Bb_X12_worksAll_79 kk65 kk79 a1 a2 a3 a4 S k → RelM D cy b z tx S s H → va_S (gA b 12 z) s.heap H locs → lv_has ls 5 [(0, .ref (b + adM 0 0)), (1, .int a1), (2, .int a2), (3, .int a3), (4, .int a4)] → W p l e rm_X12_worksAll s m args below meth c H locs 0 0 (MQ below (PiM D cy b z tx k) args s 0 0 (gA b 12 z)) (F0 m 79 ls []) := by
  intro a1 a2 a3 a4 S H locs ls h hR hS hl
  have hx := C0.1
  have hb := C0.2.1
  unfold Bb_X12_worksAll_79 at h
  refine lv_iload hx hb dX12_worksAll_79 (lv_at hl 4 rfl) ?_
  refine lv_iconst (v := (-1)) hx hb dX12_worksAll_81 (by decide) ?_
  refine lv_icmp_eq (tgt := 132) hx hb dX12_worksAll_82 (by decide) (fun c7 => ?_) (fun c7 => ?_)
  · have h := h.1 c7
    exact Bw_X12_worksAll_132 C0 hr hlk hT ih65 a1 a2 a3 S _ _ _ h hR hS (lv_sub hl [0, 1, 2, 3] rfl)
  · have h := h.2 c7
    refine lv_aload_n hx hb dX12_worksAll_85 rfl (lv_at hl 0 rfl) ?_
    refine lv_iload_n hx hb dX12_worksAll_86 rfl (lv_at hl 3 rfl) ?_
    refine qM_Vi (As := [.int a3]) (rest := []) C0 (c_X12_workingAt l h) (cwV 1 C0.2.2.2.2 (tbV mM10_9_165 ⟨mM10_9_167, mpM10_7_9, mM10_1_11, mM10_9_168⟩) rfl rfl rfl (by decide +kernel) ⟨Nat.le_of_ble_eq_true rfl, Nat.le_of_ble_eq_true rfl⟩) (rcM_0 hR Nat.zero_lt_one) hR hT hS rfl hl.1 rfl (Nat.le_of_ble_eq_true rfl) dX12_worksAll_87 ⟨Nat.zero_le _, Nat.zero_le _⟩ (fun r10 S11 H locs h hR hS => ?_)
    refine lv_iload_n hx hb dX12_worksAll_90 rfl (lv_at hl 1 rfl) ?_
    refine lv_icmp_ge (tgt := 132) hx hb dX12_worksAll_91 (by decide) (fun c12 => ?_) (fun c12 => ?_)
    · have h := h.1 c12
      exact Bw_X12_worksAll_132 C0 hr hlk hT ih65 a1 a2 a3 S11 _ _ _ h hR hS (lv_sub hl [0, 1, 2, 3] rfl)
    · have h := h.2 c12
      refine lv_aload_n hx hb dX12_worksAll_94 rfl (lv_at hl 0 rfl) ?_
      refine gM_0_18 C0 hR Nat.zero_lt_one tbs_wsX120 mM10_7_95 dX12_worksAll_95 ?_
      refine lv_iload hx hb dX12_worksAll_98 (lv_at hl 4 rfl) ?_
      refine lv_iload_n hx hb dX12_worksAll_100 rfl (lv_at hl 3 rfl) ?_
      obtain ⟨j13, hj13, ej13, h⟩ := h
      refine sM_11 C0 hR hS Nat.zero_lt_one hj13 ej13 dX12_worksAll_101 (fun S14 eS14 H locs hR hS => ?_)
      have h := h S14 eS14
      refine lv_iload_n hx hb dX12_worksAll_102 rfl (lv_at hl 2 rfl) ?_
      refine lv_iload_n hx hb dX12_worksAll_103 rfl (lv_at hl 3 rfl) ?_
      refine lv_aload_n hx hb dX12_worksAll_104 rfl (lv_at hl 0 rfl) ?_
      refine gM_0_2 C0 hR Nat.zero_lt_one tbs_wsX120 mM10_7_79 dX12_worksAll_105 ?_
      refine lv_iload hx hb dX12_worksAll_108 (lv_at hl 4 rfl) ?_
      refine lv_iconst (v := 3) hx hb dX12_worksAll_110 (by decide) ?_
      refine qM_Si (As := [.int a4, .int 3]) (rest := [.ref (b + adM 1 0), .int a3, .int a2]) C0 (c_X12_jobAt l h) (va_cwS 2 C0.2.2.2.2 (tbS mM10_7_74 ⟨mM10_7_75, mM10_1_11, mM10_7_76⟩) rfl rfl rfl (by decide +kernel) ⟨Nat.le_of_ble_eq_true rfl, Nat.le_of_ble_eq_true rfl⟩) hR hT hS rfl hl.1 rfl (Nat.le_of_ble_eq_true rfl) dX12_worksAll_111 ⟨Nat.zero_le _, Nat.zero_le _⟩ (fun r15 S16 H locs h hR hS => ?_)
      refine lv_iconst (v := 2) hx hb dX12_worksAll_114 (by decide) ?_
      refine lv_iadd hx hb dX12_worksAll_115 ?_
      obtain ⟨j17, hj17, ej17, h⟩ := h
      refine lM_1 C0 hR Nat.zero_lt_one hj17 ej17 dX12_worksAll_116 ?_
      refine lv_iadd hx hb dX12_worksAll_117 ?_
      refine va_mmax hx hb (C0.2.2.1.trans hl.1.symm) C0.2.2.2.1 (C0.2.2.2.2 _ mM10_9_48) (C0.2.2.2.2 _ mM10_3_47) (C0.2.2.2.2 _ mM10_1_25) (C0.2.2.2.2 _ mM10_3_48) (Nat.le_of_ble_eq_true rfl) (Nat.le_of_ble_eq_true rfl) (Nat.zero_le _) (Nat.zero_le _) dX12_worksAll_118 ?_
      refine lv_topi (fun x18 ex18 => ?_)
      have h := h x18 ex18
      refine lv_istore_n (lv' := [(2, .int x18), (0, .ref (b + adM 0 0)), (1, .int a1), (3, .int a3), (4, .int a4)]) hx hb dX12_worksAll_121 rfl hl (by decide) rfl (fun ls hl => ?_)
      refine lv_aload_n hx hb dX12_worksAll_122 rfl (lv_at hl 1 rfl) ?_
      refine lv_iload_n hx hb dX12_worksAll_123 rfl (lv_at hl 3 rfl) ?_
      refine qM_Vi (As := [.int a3]) (rest := []) C0 (c_X12_nextToBegin l h) (cwV 1 C0.2.2.2.2 (tbV mM10_9_149 ⟨mM10_9_151, mpM10_7_5, mM10_1_11, mM10_9_152⟩) rfl rfl rfl (by decide +kernel) ⟨Nat.le_of_ble_eq_true rfl, Nat.le_of_ble_eq_true rfl⟩) (rcM_0 hR Nat.zero_lt_one) hR hT hS rfl hl.1 rfl (Nat.le_of_ble_eq_true rfl) dX12_worksAll_124 ⟨Nat.zero_le _, Nat.zero_le _⟩ (fun r19 S20 H locs h hR hS => ?_)
      refine lv_istore (lv' := [(4, .int r19), (2, .int x18), (0, .ref (b + adM 0 0)), (1, .int a1), (3, .int a3)]) hx hb dX12_worksAll_127 hl (by decide) rfl (fun ls hl => ?_)
      refine lv_goto (tgt := 79) hx hb dX12_worksAll_129 (by decide) ?_
      exact ih79 a1 x18 a3 r19 S20 _ _ _  h hR hS (lv_sub hl [2, 3, 1, 4, 0] rfl)
def B_X12_worksAll_79 (kk65 : Int32 → Int32 → Int32 → sSt → Prop) (n9 : Nat) (a1 : Int32) (a2 : Int32) (a3 : Int32) (a4 : Int32) (S : sSt) (k : Int32 → sSt → Prop) : Prop := (Nat.rec (motive := fun _ => Int32 → Int32 → Int32 → Int32 → sSt → Prop) (fun _ _ _ _ _ => False) (fun _ r9 => fun a1 a2 a3 a4 S => Bb_X12_worksAll_79 kk65 r9 a1 a2 a3 a4 S k) n9 : Int32 → Int32 → Int32 → Int32 → sSt → Prop) a1 a2 a3 a4 S
theorem B_X12_worksAll_79_s (kk65 : Int32 → Int32 → Int32 → sSt → Prop) (n9 : Nat) (a1 : Int32) (a2 : Int32) (a3 : Int32) (a4 : Int32) (S : sSt) (k : Int32 → sSt → Prop) : B_X12_worksAll_79 kk65 (n9 + 1) a1 a2 a3 a4 S k = Bb_X12_worksAll_79 kk65 (fun a1 a2 a3 a4 S => B_X12_worksAll_79 kk65 n9 a1 a2 a3 a4 S k) a1 a2 a3 a4 S k := rfl
set_option maxHeartbeats 4000000 in
set_option maxRecDepth 100000 in
theorem Bw_X12_worksAll_79 {p : Program} {l : Launch} {e : Env} {s : State} {m : MethodId} {args : Array Value} {below : List Frame} {meth : Method} {c : Code} {D : va_G} {cy : Nat → ClassId} {b z : Nat} {tx : TX} (C0 : CallFix p m c cX12_worksAll 5 s args TB RX12) (hr : meth.sig.returnType = (some .int)) (hlk : meth.locks = false) (hT : TxR tx s) {k : Int32 → sSt → Prop} {kk65 : Int32 → Int32 → Int32 → sSt → Prop} (ih65 : ∀ (a1 : Int32) (a2 : Int32) (a3 : Int32) (S : sSt) (H : Heap) (locs : List Loc) (ls : Array Slot) , kk65 a1 a2 a3 S → RelM D cy b z tx S s H → va_S (gA b 12 z) s.heap H locs → lv_has ls 5 [(0, .ref (b + adM 0 0)), (1, .int a1), (2, .int a2), (3, .int a3)] → W p l e rm_X12_worksAll s m args below meth c H locs 0 0 (MQ below (PiM D cy b z tx k) args s 0 0 (gA b 12 z)) (F0 m 65 ls [])) : ∀ (n9 : Nat), ∀ (a1 : Int32) (a2 : Int32) (a3 : Int32) (a4 : Int32) (S : sSt) (H : Heap) (locs : List Loc) (ls : Array Slot) , B_X12_worksAll_79 kk65 n9 a1 a2 a3 a4 S k → RelM D cy b z tx S s H → va_S (gA b 12 z) s.heap H locs → lv_has ls 5 [(0, .ref (b + adM 0 0)), (1, .int a1), (2, .int a2), (3, .int a3), (4, .int a4)] → W p l e rm_X12_worksAll s m args below meth c H locs 0 0 (MQ below (PiM D cy b z tx k) args s 0 0 (gA b 12 z)) (F0 m 79 ls []) := by
  intro n9
  induction n9 with
  | zero => intro a1 a2 a3 a4 S H locs ls h; exact h.elim
  | succ n9 ih =>
    intro a1 a2 a3 a4 S H locs ls h hR hS hl
    exact Bbw_X12_worksAll_79 C0 hr hlk hT ih65 ih a1 a2 a3 a4 S H locs ls h hR hS hl
def Bb_X12_worksAll_65 (kk65 : Int32 → Int32 → Int32 → sSt → Prop) (a1 : Int32) (a2 : Int32) (a3 : Int32) (S : sSt) (k : Int32 → sSt → Prop) : Prop := ((1000000 ≤ a3 → k a2 S) ∧ (¬ 1000000 ≤ a3 → F_X12_nextToBegin a3 S (fun r5 S6 => B_X12_worksAll_79 kk65 fuel a1 a2 a3 r5 S6 k)))
set_option maxHeartbeats 4000000 in
set_option maxRecDepth 100000 in
theorem Bbw_X12_worksAll_65 {p : Program} {l : Launch} {e : Env} {s : State} {m : MethodId} {args : Array Value} {below : List Frame} {meth : Method} {c : Code} {D : va_G} {cy : Nat → ClassId} {b z : Nat} {tx : TX} (C0 : CallFix p m c cX12_worksAll 5 s args TB RX12) (hr : meth.sig.returnType = (some .int)) (hlk : meth.locks = false) (hT : TxR tx s) {k : Int32 → sSt → Prop} {kk65 : Int32 → Int32 → Int32 → sSt → Prop} (ih65 : ∀ (a1 : Int32) (a2 : Int32) (a3 : Int32) (S : sSt) (H : Heap) (locs : List Loc) (ls : Array Slot) , kk65 a1 a2 a3 S → RelM D cy b z tx S s H → va_S (gA b 12 z) s.heap H locs → lv_has ls 5 [(0, .ref (b + adM 0 0)), (1, .int a1), (2, .int a2), (3, .int a3)] → W p l e rm_X12_worksAll s m args below meth c H locs 0 0 (MQ below (PiM D cy b z tx k) args s 0 0 (gA b 12 z)) (F0 m 65 ls [])) : ∀ (a1 : Int32) (a2 : Int32) (a3 : Int32) (S : sSt) (H : Heap) (locs : List Loc) (ls : Array Slot) , Bb_X12_worksAll_65 kk65 a1 a2 a3 S k → RelM D cy b z tx S s H → va_S (gA b 12 z) s.heap H locs → lv_has ls 5 [(0, .ref (b + adM 0 0)), (1, .int a1), (2, .int a2), (3, .int a3)] → W p l e rm_X12_worksAll s m args below meth c H locs 0 0 (MQ below (PiM D cy b z tx k) args s 0 0 (gA b 12 z)) (F0 m 65 ls []) := by
  intro a1 a2 a3 S H locs ls h hR hS hl
  have hx := C0.1
  have hb := C0.2.1
  unfold Bb_X12_worksAll_65 at h
  refine lv_iload_n hx hb dX12_worksAll_65 rfl (lv_at hl 3 rfl) ?_
  refine lv_ldcw (v := 1000000) hx hb C0.2.2.2.1 (C0.2.2.2.2 _ mM10_9_11) dX12_worksAll_66 ?_
  refine lv_icmp_ge (tgt := 141) hx hb dX12_worksAll_69 (by decide) (fun c4 => ?_) (fun c4 => ?_)
  · have h := h.1 c4
    refine lv_iload_n hx hb dX12_worksAll_141 rfl (lv_at hl 2 rfl) ?_
    exact rtM_i C0 hr hlk hR hS h dX12_worksAll_142
  · have h := h.2 c4
    refine lv_aload_n hx hb dX12_worksAll_72 rfl (lv_at hl 0 rfl) ?_
    refine lv_iload_n hx hb dX12_worksAll_73 rfl (lv_at hl 3 rfl) ?_
    refine qM_Vi (As := [.int a3]) (rest := []) C0 (c_X12_nextToBegin l h) (cwV 1 C0.2.2.2.2 (tbV mM10_9_149 ⟨mM10_9_151, mpM10_7_5, mM10_1_11, mM10_9_152⟩) rfl rfl rfl (by decide +kernel) ⟨Nat.le_of_ble_eq_true rfl, Nat.le_of_ble_eq_true rfl⟩) (rcM_0 hR Nat.zero_lt_one) hR hT hS rfl hl.1 rfl (Nat.le_of_ble_eq_true rfl) dX12_worksAll_74 ⟨Nat.zero_le _, Nat.zero_le _⟩ (fun r5 S6 H locs h hR hS => ?_)
    refine lv_istore (lv' := [(4, .int r5), (0, .ref (b + adM 0 0)), (1, .int a1), (2, .int a2), (3, .int a3)]) hx hb dX12_worksAll_77 hl (by decide) rfl (fun ls hl => ?_)
    exact Bw_X12_worksAll_79 C0 hr hlk hT ih65 fuel a1 a2 a3 r5 S6 _ _ _ h hR hS (lv_sub hl [1, 2, 3, 4, 0] rfl)
def B_X12_worksAll_65 (n9 : Nat) (a1 : Int32) (a2 : Int32) (a3 : Int32) (S : sSt) (k : Int32 → sSt → Prop) : Prop := (Nat.rec (motive := fun _ => Int32 → Int32 → Int32 → sSt → Prop) (fun _ _ _ _ => False) (fun _ r9 => fun a1 a2 a3 S => Bb_X12_worksAll_65 r9 a1 a2 a3 S k) n9 : Int32 → Int32 → Int32 → sSt → Prop) a1 a2 a3 S
theorem B_X12_worksAll_65_s (n9 : Nat) (a1 : Int32) (a2 : Int32) (a3 : Int32) (S : sSt) (k : Int32 → sSt → Prop) : B_X12_worksAll_65 (n9 + 1) a1 a2 a3 S k = Bb_X12_worksAll_65 (fun a1 a2 a3 S => B_X12_worksAll_65 n9 a1 a2 a3 S k) a1 a2 a3 S k := rfl
set_option maxHeartbeats 4000000 in
set_option maxRecDepth 100000 in
theorem Bw_X12_worksAll_65 {p : Program} {l : Launch} {e : Env} {s : State} {m : MethodId} {args : Array Value} {below : List Frame} {meth : Method} {c : Code} {D : va_G} {cy : Nat → ClassId} {b z : Nat} {tx : TX} (C0 : CallFix p m c cX12_worksAll 5 s args TB RX12) (hr : meth.sig.returnType = (some .int)) (hlk : meth.locks = false) (hT : TxR tx s) {k : Int32 → sSt → Prop} : ∀ (n9 : Nat), ∀ (a1 : Int32) (a2 : Int32) (a3 : Int32) (S : sSt) (H : Heap) (locs : List Loc) (ls : Array Slot) , B_X12_worksAll_65 n9 a1 a2 a3 S k → RelM D cy b z tx S s H → va_S (gA b 12 z) s.heap H locs → lv_has ls 5 [(0, .ref (b + adM 0 0)), (1, .int a1), (2, .int a2), (3, .int a3)] → W p l e rm_X12_worksAll s m args below meth c H locs 0 0 (MQ below (PiM D cy b z tx k) args s 0 0 (gA b 12 z)) (F0 m 65 ls []) := by
  intro n9
  induction n9 with
  | zero => intro a1 a2 a3 S H locs ls h; exact h.elim
  | succ n9 ih =>
    intro a1 a2 a3 S H locs ls h hR hS hl
    exact Bbw_X12_worksAll_65 C0 hr hlk hT ih a1 a2 a3 S H locs ls h hR hS hl
def B_X12_worksAll_44 (kk2 : Int32 → Int32 → sSt → Prop) (a1 : Int32) (a2 : Int32) (t1 : Int32) (t2 : Int32) (S : sSt) (k : Int32 → sSt → Prop) : Prop := ix t1 24 (fun j24 => ∀ S25, S25 = uI S 11 0 j24 t2 → ∀ x26 : Int32, x26 = a2 + 1 → kk2 a1 x26 S25)
set_option maxHeartbeats 4000000 in
set_option maxRecDepth 100000 in
theorem Bw_X12_worksAll_44 {p : Program} {l : Launch} {e : Env} {s : State} {m : MethodId} {args : Array Value} {below : List Frame} {meth : Method} {c : Code} {D : va_G} {cy : Nat → ClassId} {b z : Nat} {tx : TX} (C0 : CallFix p m c cX12_worksAll 5 s args TB RX12) (hr : meth.sig.returnType = (some .int)) (hlk : meth.locks = false) (hT : TxR tx s) {k : Int32 → sSt → Prop} {kk2 : Int32 → Int32 → sSt → Prop} (ih2 : ∀ (a1 : Int32) (a2 : Int32) (S : sSt) (H : Heap) (locs : List Loc) (ls : Array Slot) , kk2 a1 a2 S → RelM D cy b z tx S s H → va_S (gA b 12 z) s.heap H locs → lv_has ls 5 [(0, .ref (b + adM 0 0)), (1, .int a1), (2, .int a2)] → W p l e rm_X12_worksAll s m args below meth c H locs 0 0 (MQ below (PiM D cy b z tx k) args s 0 0 (gA b 12 z)) (F0 m 2 ls [])) : ∀ (a1 : Int32) (a2 : Int32) (t1 : Int32) (t2 : Int32) (S : sSt) (H : Heap) (locs : List Loc) (ls : Array Slot) , B_X12_worksAll_44 kk2 a1 a2 t1 t2 S k → RelM D cy b z tx S s H → va_S (gA b 12 z) s.heap H locs → lv_has ls 5 [(0, .ref (b + adM 0 0)), (1, .int a1), (2, .int a2)] → W p l e rm_X12_worksAll s m args below meth c H locs 0 0 (MQ below (PiM D cy b z tx k) args s 0 0 (gA b 12 z)) (F0 m 44 ls [.int t2, .int t1, .ref (b + adM 11 0)]) := by
  intro a1 a2 t1 t2 S H locs ls h hR hS hl
  have hx := C0.1
  have hb := C0.2.1
  unfold B_X12_worksAll_44 at h
  obtain ⟨j24, hj24, ej24, h⟩ := h
  refine sM_11 C0 hR hS Nat.zero_lt_one hj24 ej24 dX12_worksAll_44 (fun S25 eS25 H locs hR hS => ?_)
  have h := h S25 eS25
  obtain ⟨x26, ex26⟩ : ∃ x26 : Int32, x26 = a2 + 1 := ⟨_, rfl⟩
  have h := h x26 ex26
  refine w_iinc (v0 := 1) (lv' := [(2, .int x26), (0, .ref (b + adM 0 0)), (1, .int a1)]) C0 dX12_worksAll_45 hl (k := 2) rfl (by decide) (by decide) x26 ex26 rfl (fun ls hl => ?_)
  refine lv_goto (tgt := 2) hx hb dX12_worksAll_48 (by decide) ?_
  exact ih2 a1 x26 S25 _ _ _  h hR hS (lv_sub hl [1, 2, 0] rfl)
def B_X12_worksAll_43 (kk2 : Int32 → Int32 → sSt → Prop) (a1 : Int32) (a2 : Int32) (t1 : Int32) (S : sSt) (k : Int32 → sSt → Prop) : Prop := B_X12_worksAll_44 kk2 a1 a2 t1 (-1) S k
set_option maxHeartbeats 4000000 in
set_option maxRecDepth 100000 in
theorem Bw_X12_worksAll_43 {p : Program} {l : Launch} {e : Env} {s : State} {m : MethodId} {args : Array Value} {below : List Frame} {meth : Method} {c : Code} {D : va_G} {cy : Nat → ClassId} {b z : Nat} {tx : TX} (C0 : CallFix p m c cX12_worksAll 5 s args TB RX12) (hr : meth.sig.returnType = (some .int)) (hlk : meth.locks = false) (hT : TxR tx s) {k : Int32 → sSt → Prop} {kk2 : Int32 → Int32 → sSt → Prop} (ih2 : ∀ (a1 : Int32) (a2 : Int32) (S : sSt) (H : Heap) (locs : List Loc) (ls : Array Slot) , kk2 a1 a2 S → RelM D cy b z tx S s H → va_S (gA b 12 z) s.heap H locs → lv_has ls 5 [(0, .ref (b + adM 0 0)), (1, .int a1), (2, .int a2)] → W p l e rm_X12_worksAll s m args below meth c H locs 0 0 (MQ below (PiM D cy b z tx k) args s 0 0 (gA b 12 z)) (F0 m 2 ls [])) : ∀ (a1 : Int32) (a2 : Int32) (t1 : Int32) (S : sSt) (H : Heap) (locs : List Loc) (ls : Array Slot) , B_X12_worksAll_43 kk2 a1 a2 t1 S k → RelM D cy b z tx S s H → va_S (gA b 12 z) s.heap H locs → lv_has ls 5 [(0, .ref (b + adM 0 0)), (1, .int a1), (2, .int a2)] → W p l e rm_X12_worksAll s m args below meth c H locs 0 0 (MQ below (PiM D cy b z tx k) args s 0 0 (gA b 12 z)) (F0 m 43 ls [.int t1, .ref (b + adM 11 0)]) := by
  intro a1 a2 t1 S H locs ls h hR hS hl
  have hx := C0.1
  have hb := C0.2.1
  unfold B_X12_worksAll_43 at h
  refine lv_iconst (v := (-1)) hx hb dX12_worksAll_43 (by decide) ?_
  exact Bw_X12_worksAll_44 C0 hr hlk hT ih2 a1 a2 t1 (-1) S _ _ _ h hR hS (lv_sub hl [0, 1, 2] rfl)
def Bb_X12_worksAll_2 (kk2 : Int32 → Int32 → sSt → Prop) (a1 : Int32) (a2 : Int32) (S : sSt) (k : Int32 → sSt → Prop) : Prop := ((24 ≤ a2 → ∀ x2 : Int32, x2 = (S.1 1 0 3) → ∀ x3 : Int32, x3 = (S.1 1 0 3) → B_X12_worksAll_65 fuel a1 x2 x3 S k) ∧ (¬ 24 ≤ a2 → F_X12_isIn a2 S (fun r21 S22 => ((r21 = 0 → B_X12_worksAll_43 kk2 a1 a2 a2 S22 k) ∧ (¬ r21 = 0 → F_X12_jobAt a2 3 S22 (fun r27 S28 => ix (r27 + 3) 10421 (fun j29 => ((1 < (S28.1 1 0 j29) → B_X12_worksAll_43 kk2 a1 a2 a2 S28 k) ∧ (¬ 1 < (S28.1 1 0 j29) → B_X12_worksAll_44 kk2 a1 a2 a2 1000000 S28 k)))))))))
set_option maxHeartbeats 4000000 in
set_option maxRecDepth 100000 in
theorem Bbw_X12_worksAll_2 {p : Program} {l : Launch} {e : Env} {s : State} {m : MethodId} {args : Array Value} {below : List Frame} {meth : Method} {c : Code} {D : va_G} {cy : Nat → ClassId} {b z : Nat} {tx : TX} (C0 : CallFix p m c cX12_worksAll 5 s args TB RX12) (hr : meth.sig.returnType = (some .int)) (hlk : meth.locks = false) (hT : TxR tx s) {k : Int32 → sSt → Prop} {kk2 : Int32 → Int32 → sSt → Prop} (ih2 : ∀ (a1 : Int32) (a2 : Int32) (S : sSt) (H : Heap) (locs : List Loc) (ls : Array Slot) , kk2 a1 a2 S → RelM D cy b z tx S s H → va_S (gA b 12 z) s.heap H locs → lv_has ls 5 [(0, .ref (b + adM 0 0)), (1, .int a1), (2, .int a2)] → W p l e rm_X12_worksAll s m args below meth c H locs 0 0 (MQ below (PiM D cy b z tx k) args s 0 0 (gA b 12 z)) (F0 m 2 ls [])) : ∀ (a1 : Int32) (a2 : Int32) (S : sSt) (H : Heap) (locs : List Loc) (ls : Array Slot) , Bb_X12_worksAll_2 kk2 a1 a2 S k → RelM D cy b z tx S s H → va_S (gA b 12 z) s.heap H locs → lv_has ls 5 [(0, .ref (b + adM 0 0)), (1, .int a1), (2, .int a2)] → W p l e rm_X12_worksAll s m args below meth c H locs 0 0 (MQ below (PiM D cy b z tx k) args s 0 0 (gA b 12 z)) (F0 m 2 ls []) := by
  intro a1 a2 S H locs ls h hR hS hl
  have hx := C0.1
  have hb := C0.2.1
  unfold Bb_X12_worksAll_2 at h
  refine lv_iload_n hx hb dX12_worksAll_2 rfl (lv_at hl 2 rfl) ?_
  refine lv_bipush (v := 24) hx hb dX12_worksAll_3 (by decide) ?_
  refine lv_icmp_ge (tgt := 51) hx hb dX12_worksAll_5 (by decide) (fun c1 => ?_) (fun c1 => ?_)
  · have h := h.1 c1
    refine lv_aload_n hx hb dX12_worksAll_51 rfl (lv_at hl 0 rfl) ?_
    refine gM_0_2 C0 hR Nat.zero_lt_one tbs_wsX120 mM10_7_79 dX12_worksAll_52 ?_
    refine lv_iconst (v := 3) hx hb dX12_worksAll_55 (by decide) ?_
    refine lM_1 C0 hR Nat.zero_lt_one (by decide) rfl dX12_worksAll_56 ?_
    refine lv_topi (fun x2 ex2 => ?_)
    have h := h x2 ex2
    refine lv_istore_n (lv' := [(2, .int x2), (0, .ref (b + adM 0 0)), (1, .int a1)]) hx hb dX12_worksAll_57 rfl hl (by decide) rfl (fun ls hl => ?_)
    refine lv_aload_n hx hb dX12_worksAll_58 rfl (lv_at hl 1 rfl) ?_
    refine gM_0_2 C0 hR Nat.zero_lt_one tbs_wsX120 mM10_7_79 dX12_worksAll_59 ?_
    refine lv_iconst (v := 3) hx hb dX12_worksAll_62 (by decide) ?_
    refine lM_1 C0 hR Nat.zero_lt_one (by decide) rfl dX12_worksAll_63 ?_
    refine lv_topi (fun x3 ex3 => ?_)
    have h := h x3 ex3
    refine lv_istore_n (lv' := [(3, .int x3), (2, .int x2), (0, .ref (b + adM 0 0)), (1, .int a1)]) hx hb dX12_worksAll_64 rfl hl (by decide) rfl (fun ls hl => ?_)
    exact Bw_X12_worksAll_65 C0 hr hlk hT fuel a1 x2 x3 S _ _ _ h hR hS (lv_sub hl [2, 3, 1, 0] rfl)
  · have h := h.2 c1
    refine lv_aload_n hx hb dX12_worksAll_8 rfl (lv_at hl 0 rfl) ?_
    refine gM_0_18 C0 hR Nat.zero_lt_one tbs_wsX120 mM10_7_95 dX12_worksAll_9 ?_
    refine lv_iload_n hx hb dX12_worksAll_12 rfl (lv_at hl 2 rfl) ?_
    refine lv_aload_n hx hb dX12_worksAll_13 rfl (lv_at hl 0 rfl) ?_
    refine lv_iload_n hx hb dX12_worksAll_14 rfl (lv_at hl 2 rfl) ?_
    refine qM_Vi (As := [.int a2]) (rest := [.int a2, .ref (b + adM 11 0)]) C0 (c_X12_isIn l h) (cwV 1 C0.2.2.2.2 (tbV mM10_8_122 ⟨mM10_8_124, mpM10_4_13, mM10_1_11, mM10_8_125⟩) rfl rfl rfl (by decide +kernel) ⟨Nat.le_of_ble_eq_true rfl, Nat.le_of_ble_eq_true rfl⟩) (rcM_0 hR Nat.zero_lt_one) hR hT hS rfl hl.1 rfl (Nat.le_of_ble_eq_true rfl) dX12_worksAll_15 ⟨Nat.zero_le _, Nat.zero_le _⟩ (fun r21 S22 H locs h hR hS => ?_)
    refine lv_if_eq (tgt := 43) hx hb dX12_worksAll_18 (by decide) (fun c23 => ?_) (fun c23 => ?_)
    · have h := h.1 c23
      exact Bw_X12_worksAll_43 C0 hr hlk hT ih2 a1 a2 a2 S22 _ _ _ h hR hS (lv_sub hl [0, 1, 2] rfl)
    · have h := h.2 c23
      refine lv_aload_n hx hb dX12_worksAll_21 rfl (lv_at hl 0 rfl) ?_
      refine gM_0_2 C0 hR Nat.zero_lt_one tbs_wsX120 mM10_7_79 dX12_worksAll_22 ?_
      refine lv_iload_n hx hb dX12_worksAll_25 rfl (lv_at hl 2 rfl) ?_
      refine lv_iconst (v := 3) hx hb dX12_worksAll_26 (by decide) ?_
      refine qM_Si (As := [.int a2, .int 3]) (rest := [.ref (b + adM 1 0), .int a2, .ref (b + adM 11 0)]) C0 (c_X12_jobAt l h) (va_cwS 2 C0.2.2.2.2 (tbS mM10_7_74 ⟨mM10_7_75, mM10_1_11, mM10_7_76⟩) rfl rfl rfl (by decide +kernel) ⟨Nat.le_of_ble_eq_true rfl, Nat.le_of_ble_eq_true rfl⟩) hR hT hS rfl hl.1 rfl (Nat.le_of_ble_eq_true rfl) dX12_worksAll_27 ⟨Nat.zero_le _, Nat.zero_le _⟩ (fun r27 S28 H locs h hR hS => ?_)
      refine lv_iconst (v := 3) hx hb dX12_worksAll_30 (by decide) ?_
      refine lv_iadd hx hb dX12_worksAll_31 ?_
      obtain ⟨j29, hj29, ej29, h⟩ := h
      refine lM_1 C0 hR Nat.zero_lt_one hj29 ej29 dX12_worksAll_32 ?_
      refine lv_iconst (v := 1) hx hb dX12_worksAll_33 (by decide) ?_
      refine lv_icmp_gt (tgt := 43) hx hb dX12_worksAll_34 (by decide) (fun c30 => ?_) (fun c30 => ?_)
      · have h := h.1 c30
        exact Bw_X12_worksAll_43 C0 hr hlk hT ih2 a1 a2 a2 S28 _ _ _ h hR hS (lv_sub hl [0, 1, 2] rfl)
      · have h := h.2 c30
        refine lv_ldcw (v := 1000000) hx hb C0.2.2.2.1 (C0.2.2.2.2 _ mM10_9_11) dX12_worksAll_37 ?_
        refine lv_goto (tgt := 44) hx hb dX12_worksAll_40 (by decide) ?_
        exact Bw_X12_worksAll_44 C0 hr hlk hT ih2 a1 a2 a2 1000000 S28 _ _ _ h hR hS (lv_sub hl [0, 1, 2] rfl)
def B_X12_worksAll_2 (n9 : Nat) (a1 : Int32) (a2 : Int32) (S : sSt) (k : Int32 → sSt → Prop) : Prop := (Nat.rec (motive := fun _ => Int32 → Int32 → sSt → Prop) (fun _ _ _ => False) (fun _ r9 => fun a1 a2 S => Bb_X12_worksAll_2 r9 a1 a2 S k) n9 : Int32 → Int32 → sSt → Prop) a1 a2 S
theorem B_X12_worksAll_2_s (n9 : Nat) (a1 : Int32) (a2 : Int32) (S : sSt) (k : Int32 → sSt → Prop) : B_X12_worksAll_2 (n9 + 1) a1 a2 S k = Bb_X12_worksAll_2 (fun a1 a2 S => B_X12_worksAll_2 n9 a1 a2 S k) a1 a2 S k := rfl
set_option maxHeartbeats 4000000 in
set_option maxRecDepth 100000 in
theorem Bw_X12_worksAll_2 {p : Program} {l : Launch} {e : Env} {s : State} {m : MethodId} {args : Array Value} {below : List Frame} {meth : Method} {c : Code} {D : va_G} {cy : Nat → ClassId} {b z : Nat} {tx : TX} (C0 : CallFix p m c cX12_worksAll 5 s args TB RX12) (hr : meth.sig.returnType = (some .int)) (hlk : meth.locks = false) (hT : TxR tx s) {k : Int32 → sSt → Prop} : ∀ (n9 : Nat), ∀ (a1 : Int32) (a2 : Int32) (S : sSt) (H : Heap) (locs : List Loc) (ls : Array Slot) , B_X12_worksAll_2 n9 a1 a2 S k → RelM D cy b z tx S s H → va_S (gA b 12 z) s.heap H locs → lv_has ls 5 [(0, .ref (b + adM 0 0)), (1, .int a1), (2, .int a2)] → W p l e rm_X12_worksAll s m args below meth c H locs 0 0 (MQ below (PiM D cy b z tx k) args s 0 0 (gA b 12 z)) (F0 m 2 ls []) := by
  intro n9
  induction n9 with
  | zero => intro a1 a2 S H locs ls h; exact h.elim
  | succ n9 ih =>
    intro a1 a2 S H locs ls h hR hS hl
    exact Bbw_X12_worksAll_2 C0 hr hlk hT ih a1 a2 S H locs ls h hR hS hl
def F_X12_worksAll (a1 : Int32) (S : sSt) (k : Int32 → sSt → Prop) : Prop := B_X12_worksAll_2 fuel a1 0 S k
set_option maxHeartbeats 4000000 in
set_option maxRecDepth 100000 in
theorem c_X12_worksAll (l : Launch) {D : va_G} {cy : Nat → ClassId} {b z : Nat} {tx : TX} {a1 : Int32} {S : sSt} {k : Int32 → sSt → Prop} (h : F_X12_worksAll a1 S k) : Met l yX12_worksAll (Cond.code yX12_worksAll cX12_worksAll 5 (some .int) :: TB) rm_X12_worksAll (va_Pc [.ref (b + adM 0 0), .int a1] (fun U => RelM D cy b z tx S U U.heap ∧ TxR tx U)) (PiM D cy b z tx k) 0 0 (gA b 12 z) := by
  refine Met.ofW (cc := cX12_worksAll) (maxL := 5) (ret := (some .int)) (by decide) rfl ?_
  intro p e s m args below meth c s₁ B hml hv
  obtain ⟨rfl, hR, hT⟩ := hv
  have C0 : CallFix p m c cX12_worksAll 5 s _ TB RX12 := ⟨B.exec, B.bytes, hml, findClass_of_methodNamed B.named, fun w hw => atoms_spec B.pre w (List.mem_cons_of_mem _ hw)⟩
  have hr := B.returns
  have hlk := B.notSynchronized
  have hx := C0.1
  have hb := C0.2.1
  have hS : va_S (gA b 12 z) s.heap s.heap [] := va_S.rf
  have hl := lv_entry ([.ref (b + adM 0 0), .int a1]) (n := 5) (Nat.le_of_ble_eq_true rfl)
  rw [lg_entry_eq]
  generalize (lg_sl ([.ref (b + adM 0 0), .int a1]) ++ List.replicate (5 - (lg_sl ([.ref (b + adM 0 0), .int a1])).length) Slot.unset).toArray = ls at hl ⊢
  have hl : lv_has ls 5 [(0, .ref (b + adM 0 0)), (1, .int a1)] := hl
  show W p l e rm_X12_worksAll s m _ below meth c s.heap [] 0 0 (MQ below (PiM D cy b z tx k) _ s 0 0 (gA b 12 z)) _
  unfold F_X12_worksAll at h
  refine lv_iconst (v := 0) hx hb dX12_worksAll_0 (by decide) ?_
  refine lv_istore_n (lv' := [(2, .int 0), (0, .ref (b + adM 0 0)), (1, .int a1)]) hx hb dX12_worksAll_1 rfl hl (by decide) rfl (fun ls hl => ?_)
  exact Bw_X12_worksAll_2 C0 hr hlk hT fuel a1 0 S _ _ _ h hR hS (lv_sub hl [1, 2, 0] rfl)

def rm_X12_work : Room := { frames := 5, cells := 0, slots := 0, locals := 117 }
def B_X12_work_68 (a1 : Int32) (a2 : Int32) (a3 : Int32) (t1 : Int32) (S : sSt) (k : Int32 → sSt → Prop) : Prop := F_X12_throwsIf t1 2 S (fun r12 S13 => ((r12 = 0 → F_X12_worksAll a1 S13 (fun r15 S16 => ((¬ a2 = (-1) → ix a3 24 (fun j18 => k (S16.1 11 0 j18) S16)) ∧ (a2 = (-1) → k r15 S16)))) ∧ (¬ r12 = 0 → k 0 S13)))
set_option maxHeartbeats 4000000 in
set_option maxRecDepth 100000 in
theorem Bw_X12_work_68 {p : Program} {l : Launch} {e : Env} {s : State} {m : MethodId} {args : Array Value} {below : List Frame} {meth : Method} {c : Code} {D : va_G} {cy : Nat → ClassId} {b z : Nat} {tx : TX} (C0 : CallFix p m c cX12_work 5 s args TB RX12) (hr : meth.sig.returnType = (some .int)) (hlk : meth.locks = false) (hT : TxR tx s) {k : Int32 → sSt → Prop} : ∀ (a1 : Int32) (a2 : Int32) (a3 : Int32) (t1 : Int32) (S : sSt) (H : Heap) (locs : List Loc) (ls : Array Slot) , B_X12_work_68 a1 a2 a3 t1 S k → RelM D cy b z tx S s H → va_S (gA b 12 z) s.heap H locs → lv_has ls 5 [(0, .ref (b + adM 0 0)), (1, .int a1), (2, .int a2), (3, .int a3)] → W p l e rm_X12_work s m args below meth c H locs 0 0 (MQ below (PiM D cy b z tx k) args s 0 0 (gA b 12 z)) (F0 m 68 ls [.int t1, .ref (b + adM 0 0)]) := by
  intro a1 a2 a3 t1 S H locs ls h hR hS hl
  have hx := C0.1
  have hb := C0.2.1
  unfold B_X12_work_68 at h
  refine lv_iconst (v := 2) hx hb dX12_work_68 (by decide) ?_
  refine qM_Vi (As := [.int t1, .int 2]) (rest := []) C0 (c_X12_throwsIf l h) (cwV 2 C0.2.2.2.2 (tbV mM10_8_25 ⟨mM10_8_27, mpM10_3_13, mM10_1_11, mM10_8_28⟩) rfl rfl rfl (by decide +kernel) ⟨Nat.le_of_ble_eq_true rfl, Nat.le_of_ble_eq_true rfl⟩) (rcM_0 hR Nat.zero_lt_one) hR hT hS rfl hl.1 rfl (Nat.le_of_ble_eq_true rfl) dX12_work_69 ⟨Nat.zero_le _, Nat.zero_le _⟩ (fun r12 S13 H locs h hR hS => ?_)
  refine lv_if_eq (tgt := 77) hx hb dX12_work_72 (by decide) (fun c14 => ?_) (fun c14 => ?_)
  · have h := h.1 c14
    refine lv_aload_n hx hb dX12_work_77 rfl (lv_at hl 0 rfl) ?_
    refine lv_iload_n hx hb dX12_work_78 rfl (lv_at hl 1 rfl) ?_
    refine qM_Vi (As := [.int a1]) (rest := []) C0 (c_X12_worksAll l h) (cwV 1 C0.2.2.2.2 (tbV mM10_9_145 ⟨mM10_9_147, mpM10_7_4, mM10_1_11, mM10_9_148⟩) rfl rfl rfl (by decide +kernel) ⟨Nat.le_of_ble_eq_true rfl, Nat.le_of_ble_eq_true rfl⟩) (rcM_0 hR Nat.zero_lt_one) hR hT hS rfl hl.1 rfl (Nat.le_of_ble_eq_true rfl) dX12_work_79 ⟨Nat.zero_le _, Nat.zero_le _⟩ (fun r15 S16 H locs h hR hS => ?_)
    refine lv_istore (lv' := [(4, .int r15), (0, .ref (b + adM 0 0)), (1, .int a1), (2, .int a2), (3, .int a3)]) hx hb dX12_work_82 hl (by decide) rfl (fun ls hl => ?_)
    refine lv_iload_n hx hb dX12_work_84 rfl (lv_at hl 3 rfl) ?_
    refine lv_iconst (v := (-1)) hx hb dX12_work_85 (by decide) ?_
    refine lv_icmp_ne (tgt := 94) hx hb dX12_work_86 (by decide) (fun c17 => ?_) (fun c17 => ?_)
    · have h := h.1 c17
      refine lv_aload_n hx hb dX12_work_94 rfl (lv_at hl 1 rfl) ?_
      refine gM_0_18 C0 hR Nat.zero_lt_one tbs_wsX120 mM10_7_95 dX12_work_95 ?_
      refine lv_iload_n hx hb dX12_work_98 rfl (lv_at hl 4 rfl) ?_
      obtain ⟨j18, hj18, ej18, h⟩ := h
      refine lM_11 C0 hR Nat.zero_lt_one hj18 ej18 dX12_work_99 ?_
      exact rtM_i C0 hr hlk hR hS h dX12_work_100
    · have h := h.2 c17
      refine lv_iload hx hb dX12_work_89 (lv_at hl 0 rfl) ?_
      refine lv_goto (tgt := 100) hx hb dX12_work_91 (by decide) ?_
      exact rtM_i C0 hr hlk hR hS h dX12_work_100
  · have h := h.2 c14
    refine lv_iconst (v := 0) hx hb dX12_work_75 (by decide) ?_
    exact rtM_i C0 hr hlk hR hS h dX12_work_76
def B_X12_work_67 (a1 : Int32) (a2 : Int32) (a3 : Int32) (S : sSt) (k : Int32 → sSt → Prop) : Prop := B_X12_work_68 a1 a2 a3 0 S k
set_option maxHeartbeats 4000000 in
set_option maxRecDepth 100000 in
theorem Bw_X12_work_67 {p : Program} {l : Launch} {e : Env} {s : State} {m : MethodId} {args : Array Value} {below : List Frame} {meth : Method} {c : Code} {D : va_G} {cy : Nat → ClassId} {b z : Nat} {tx : TX} (C0 : CallFix p m c cX12_work 5 s args TB RX12) (hr : meth.sig.returnType = (some .int)) (hlk : meth.locks = false) (hT : TxR tx s) {k : Int32 → sSt → Prop} : ∀ (a1 : Int32) (a2 : Int32) (a3 : Int32) (S : sSt) (H : Heap) (locs : List Loc) (ls : Array Slot) , B_X12_work_67 a1 a2 a3 S k → RelM D cy b z tx S s H → va_S (gA b 12 z) s.heap H locs → lv_has ls 5 [(0, .ref (b + adM 0 0)), (1, .int a1), (2, .int a2), (3, .int a3)] → W p l e rm_X12_work s m args below meth c H locs 0 0 (MQ below (PiM D cy b z tx k) args s 0 0 (gA b 12 z)) (F0 m 67 ls [.ref (b + adM 0 0)]) := by
  intro a1 a2 a3 S H locs ls h hR hS hl
  have hx := C0.1
  have hb := C0.2.1
  unfold B_X12_work_67 at h
  refine lv_iconst (v := 0) hx hb dX12_work_67 (by decide) ?_
  exact Bw_X12_work_68 C0 hr hlk hT a1 a2 a3 0 S _ _ _ h hR hS (lv_sub hl [0, 1, 2, 3] rfl)
def B_X12_work_63 (a1 : Int32) (a2 : Int32) (a3 : Int32) (S : sSt) (k : Int32 → sSt → Prop) : Prop := B_X12_work_68 a1 a2 a3 1 S k
set_option maxHeartbeats 4000000 in
set_option maxRecDepth 100000 in
theorem Bw_X12_work_63 {p : Program} {l : Launch} {e : Env} {s : State} {m : MethodId} {args : Array Value} {below : List Frame} {meth : Method} {c : Code} {D : va_G} {cy : Nat → ClassId} {b z : Nat} {tx : TX} (C0 : CallFix p m c cX12_work 5 s args TB RX12) (hr : meth.sig.returnType = (some .int)) (hlk : meth.locks = false) (hT : TxR tx s) {k : Int32 → sSt → Prop} : ∀ (a1 : Int32) (a2 : Int32) (a3 : Int32) (S : sSt) (H : Heap) (locs : List Loc) (ls : Array Slot) , B_X12_work_63 a1 a2 a3 S k → RelM D cy b z tx S s H → va_S (gA b 12 z) s.heap H locs → lv_has ls 5 [(0, .ref (b + adM 0 0)), (1, .int a1), (2, .int a2), (3, .int a3)] → W p l e rm_X12_work s m args below meth c H locs 0 0 (MQ below (PiM D cy b z tx k) args s 0 0 (gA b 12 z)) (F0 m 63 ls [.ref (b + adM 0 0)]) := by
  intro a1 a2 a3 S H locs ls h hR hS hl
  have hx := C0.1
  have hb := C0.2.1
  unfold B_X12_work_63 at h
  refine lv_iconst (v := 1) hx hb dX12_work_63 (by decide) ?_
  refine lv_goto (tgt := 68) hx hb dX12_work_64 (by decide) ?_
  exact Bw_X12_work_68 C0 hr hlk hT a1 a2 a3 1 S _ _ _ h hR hS (lv_sub hl [0, 1, 2, 3] rfl)
def B_X12_work_43 (a1 : Int32) (a2 : Int32) (t0 : Int32) (S : sSt) (k : Int32 → sSt → Prop) : Prop := ((a2 = (-1) → B_X12_work_67 a1 a2 t0 S k) ∧ (¬ a2 = (-1) → ((t0 = (-1) → B_X12_work_63 a1 a2 t0 S k) ∧ (¬ t0 = (-1) → F_X12_isIn t0 S (fun r20 S21 => ((¬ r20 = 0 → B_X12_work_67 a1 a2 t0 S21 k) ∧ (r20 = 0 → B_X12_work_63 a1 a2 t0 S21 k)))))))
set_option maxHeartbeats 4000000 in
set_option maxRecDepth 100000 in
theorem Bw_X12_work_43 {p : Program} {l : Launch} {e : Env} {s : State} {m : MethodId} {args : Array Value} {below : List Frame} {meth : Method} {c : Code} {D : va_G} {cy : Nat → ClassId} {b z : Nat} {tx : TX} (C0 : CallFix p m c cX12_work 5 s args TB RX12) (hr : meth.sig.returnType = (some .int)) (hlk : meth.locks = false) (hT : TxR tx s) {k : Int32 → sSt → Prop} : ∀ (a1 : Int32) (a2 : Int32) (t0 : Int32) (S : sSt) (H : Heap) (locs : List Loc) (ls : Array Slot) , B_X12_work_43 a1 a2 t0 S k → RelM D cy b z tx S s H → va_S (gA b 12 z) s.heap H locs → lv_has ls 5 [(0, .ref (b + adM 0 0)), (1, .int a1), (2, .int a2)] → W p l e rm_X12_work s m args below meth c H locs 0 0 (MQ below (PiM D cy b z tx k) args s 0 0 (gA b 12 z)) (F0 m 43 ls [.int t0]) := by
  intro a1 a2 t0 S H locs ls h hR hS hl
  have hx := C0.1
  have hb := C0.2.1
  unfold B_X12_work_43 at h
  refine lv_istore_n (lv' := [(3, .int t0), (0, .ref (b + adM 0 0)), (1, .int a1), (2, .int a2)]) hx hb dX12_work_43 rfl hl (by decide) rfl (fun ls hl => ?_)
  refine lv_aload_n hx hb dX12_work_44 rfl (lv_at hl 1 rfl) ?_
  refine lv_iload_n hx hb dX12_work_45 rfl (lv_at hl 3 rfl) ?_
  refine lv_iconst (v := (-1)) hx hb dX12_work_46 (by decide) ?_
  refine lv_icmp_eq (tgt := 67) hx hb dX12_work_47 (by decide) (fun c11 => ?_) (fun c11 => ?_)
  · have h := h.1 c11
    exact Bw_X12_work_67 C0 hr hlk hT a1 a2 t0 S _ _ _ h hR hS (lv_sub hl [1, 2, 3, 0] rfl)
  · have h := h.2 c11
    refine lv_iload_n hx hb dX12_work_50 rfl (lv_at hl 0 rfl) ?_
    refine lv_iconst (v := (-1)) hx hb dX12_work_51 (by decide) ?_
    refine lv_icmp_eq (tgt := 63) hx hb dX12_work_52 (by decide) (fun c19 => ?_) (fun c19 => ?_)
    · have h := h.1 c19
      exact Bw_X12_work_63 C0 hr hlk hT a1 a2 t0 S _ _ _ h hR hS (lv_sub hl [1, 2, 3, 0] rfl)
    · have h := h.2 c19
      refine lv_aload_n hx hb dX12_work_55 rfl (lv_at hl 1 rfl) ?_
      refine lv_iload_n hx hb dX12_work_56 rfl (lv_at hl 0 rfl) ?_
      refine qM_Vi (As := [.int t0]) (rest := [.ref (b + adM 0 0)]) C0 (c_X12_isIn l h) (cwV 1 C0.2.2.2.2 (tbV mM10_8_122 ⟨mM10_8_124, mpM10_4_13, mM10_1_11, mM10_8_125⟩) rfl rfl rfl (by decide +kernel) ⟨Nat.le_of_ble_eq_true rfl, Nat.le_of_ble_eq_true rfl⟩) (rcM_0 hR Nat.zero_lt_one) hR hT hS rfl hl.1 rfl (Nat.le_of_ble_eq_true rfl) dX12_work_57 ⟨Nat.zero_le _, Nat.zero_le _⟩ (fun r20 S21 H locs h hR hS => ?_)
      refine lv_if_ne (tgt := 67) hx hb dX12_work_60 (by decide) (fun c22 => ?_) (fun c22 => ?_)
      · have h := h.1 c22
        exact Bw_X12_work_67 C0 hr hlk hT a1 a2 t0 S21 _ _ _ h hR hS (lv_sub hl [1, 2, 3, 0] rfl)
      · have h := h.2 c22
        exact Bw_X12_work_63 C0 hr hlk hT a1 a2 t0 S21 _ _ _ h hR hS (lv_sub hl [1, 2, 3, 0] rfl)
def B_X12_work_20 (a1 : Int32) (a2 : Int32) (t1 : Int32) (S : sSt) (k : Int32 → sSt → Prop) : Prop := F_X12_throwsIf t1 1 S (fun r5 S6 => ((r5 = 0 → ((¬ a2 = (-1) → F_X12_jobOf a2 S6 (fun r9 S10 => B_X12_work_43 a1 a2 r9 S10 k)) ∧ (a2 = (-1) → B_X12_work_43 a1 a2 (-1) S6 k))) ∧ (¬ r5 = 0 → k 0 S6)))
set_option maxHeartbeats 4000000 in
set_option maxRecDepth 100000 in
theorem Bw_X12_work_20 {p : Program} {l : Launch} {e : Env} {s : State} {m : MethodId} {args : Array Value} {below : List Frame} {meth : Method} {c : Code} {D : va_G} {cy : Nat → ClassId} {b z : Nat} {tx : TX} (C0 : CallFix p m c cX12_work 5 s args TB RX12) (hr : meth.sig.returnType = (some .int)) (hlk : meth.locks = false) (hT : TxR tx s) {k : Int32 → sSt → Prop} : ∀ (a1 : Int32) (a2 : Int32) (t1 : Int32) (S : sSt) (H : Heap) (locs : List Loc) (ls : Array Slot) , B_X12_work_20 a1 a2 t1 S k → RelM D cy b z tx S s H → va_S (gA b 12 z) s.heap H locs → lv_has ls 5 [(0, .ref (b + adM 0 0)), (1, .int a1), (2, .int a2)] → W p l e rm_X12_work s m args below meth c H locs 0 0 (MQ below (PiM D cy b z tx k) args s 0 0 (gA b 12 z)) (F0 m 20 ls [.int t1, .ref (b + adM 0 0)]) := by
  intro a1 a2 t1 S H locs ls h hR hS hl
  have hx := C0.1
  have hb := C0.2.1
  unfold B_X12_work_20 at h
  refine lv_iconst (v := 1) hx hb dX12_work_20 (by decide) ?_
  refine qM_Vi (As := [.int t1, .int 1]) (rest := []) C0 (c_X12_throwsIf l h) (cwV 2 C0.2.2.2.2 (tbV mM10_8_25 ⟨mM10_8_27, mpM10_3_13, mM10_1_11, mM10_8_28⟩) rfl rfl rfl (by decide +kernel) ⟨Nat.le_of_ble_eq_true rfl, Nat.le_of_ble_eq_true rfl⟩) (rcM_0 hR Nat.zero_lt_one) hR hT hS rfl hl.1 rfl (Nat.le_of_ble_eq_true rfl) dX12_work_21 ⟨Nat.zero_le _, Nat.zero_le _⟩ (fun r5 S6 H locs h hR hS => ?_)
  refine lv_if_eq (tgt := 29) hx hb dX12_work_24 (by decide) (fun c7 => ?_) (fun c7 => ?_)
  · have h := h.1 c7
    refine lv_iload_n hx hb dX12_work_29 rfl (lv_at hl 2 rfl) ?_
    refine lv_iconst (v := (-1)) hx hb dX12_work_30 (by decide) ?_
    refine lv_icmp_ne (tgt := 38) hx hb dX12_work_31 (by decide) (fun c8 => ?_) (fun c8 => ?_)
    · have h := h.1 c8
      refine lv_aload_n hx hb dX12_work_38 rfl (lv_at hl 0 rfl) ?_
      refine lv_iload_n hx hb dX12_work_39 rfl (lv_at hl 2 rfl) ?_
      refine qM_Vi (As := [.int a2]) (rest := []) C0 (c_X12_jobOf l h) (cwV 1 C0.2.2.2.2 (tbV mM10_8_227 ⟨mM10_8_229, mpM10_6_3, mM10_1_11, mM10_8_230⟩) rfl rfl rfl (by decide +kernel) ⟨Nat.le_of_ble_eq_true rfl, Nat.le_of_ble_eq_true rfl⟩) (rcM_0 hR Nat.zero_lt_one) hR hT hS rfl hl.1 rfl (Nat.le_of_ble_eq_true rfl) dX12_work_40 ⟨Nat.zero_le _, Nat.zero_le _⟩ (fun r9 S10 H locs h hR hS => ?_)
      exact Bw_X12_work_43 C0 hr hlk hT a1 a2 r9 S10 _ _ _ h hR hS (lv_sub hl [0, 1, 2] rfl)
    · have h := h.2 c8
      refine lv_iconst (v := (-1)) hx hb dX12_work_34 (by decide) ?_
      refine lv_goto (tgt := 43) hx hb dX12_work_35 (by decide) ?_
      exact Bw_X12_work_43 C0 hr hlk hT a1 a2 (-1) S6 _ _ _ h hR hS (lv_sub hl [0, 1, 2] rfl)
  · have h := h.2 c7
    refine lv_iconst (v := 0) hx hb dX12_work_27 (by decide) ?_
    exact rtM_i C0 hr hlk hR hS h dX12_work_28
def F_X12_work (a1 : Int32) (a2 : Int32) (S : sSt) (k : Int32 → sSt → Prop) : Prop := ∀ S1, S1 = uI S 0 0 0 0 → F_X12_in a1 1 4 S1 (fun r2 S3 => ((¬ r2 = 0 → B_X12_work_20 a1 a2 0 S3 k) ∧ (r2 = 0 → B_X12_work_20 a1 a2 1 S3 k)))
set_option maxHeartbeats 4000000 in
set_option maxRecDepth 100000 in
theorem c_X12_work (l : Launch) {D : va_G} {cy : Nat → ClassId} {b z : Nat} {tx : TX} {a1 : Int32} {a2 : Int32} {S : sSt} {k : Int32 → sSt → Prop} (h : F_X12_work a1 a2 S k) : Met l yX12_work (Cond.code yX12_work cX12_work 5 (some .int) :: TB) rm_X12_work (va_Pc [.ref (b + adM 0 0), .int a1, .int a2] (fun U => RelM D cy b z tx S U U.heap ∧ TxR tx U)) (PiM D cy b z tx k) 0 0 (gA b 12 z) := by
  refine Met.ofW (cc := cX12_work) (maxL := 5) (ret := (some .int)) (by decide) rfl ?_
  intro p e s m args below meth c s₁ B hml hv
  obtain ⟨rfl, hR, hT⟩ := hv
  have C0 : CallFix p m c cX12_work 5 s _ TB RX12 := ⟨B.exec, B.bytes, hml, findClass_of_methodNamed B.named, fun w hw => atoms_spec B.pre w (List.mem_cons_of_mem _ hw)⟩
  have hr := B.returns
  have hlk := B.notSynchronized
  have hx := C0.1
  have hb := C0.2.1
  have hS : va_S (gA b 12 z) s.heap s.heap [] := va_S.rf
  have hl := lv_entry ([.ref (b + adM 0 0), .int a1, .int a2]) (n := 5) (Nat.le_of_ble_eq_true rfl)
  rw [lg_entry_eq]
  generalize (lg_sl ([.ref (b + adM 0 0), .int a1, .int a2]) ++ List.replicate (5 - (lg_sl ([.ref (b + adM 0 0), .int a1, .int a2])).length) Slot.unset).toArray = ls at hl ⊢
  have hl : lv_has ls 5 [(0, .ref (b + adM 0 0)), (1, .int a1), (2, .int a2)] := hl
  show W p l e rm_X12_work s m _ below meth c s.heap [] 0 0 (MQ below (PiM D cy b z tx k) _ s 0 0 (gA b 12 z)) _
  unfold F_X12_work at h
  refine lv_aload_n hx hb dX12_work_0 rfl (lv_at hl 0 rfl) ?_
  refine lv_iconst (v := 0) hx hb dX12_work_1 (by decide) ?_
  refine pM_0_0 C0 hR hS Nat.zero_lt_one tbs_wsX120 mM10_7_77 dX12_work_2 (fun S1 eS1 H locs hR hS => ?_)
  have h := h S1 eS1
  refine lv_aload_n hx hb dX12_work_5 rfl (lv_at hl 0 rfl) ?_
  refine lv_iload_n hx hb dX12_work_6 rfl (lv_at hl 1 rfl) ?_
  refine lv_iconst (v := 1) hx hb dX12_work_7 (by decide) ?_
  refine lv_iconst (v := 4) hx hb dX12_work_8 (by decide) ?_
  refine qM_Si (As := [.int a1, .int 1, .int 4]) (rest := [.ref (b + adM 0 0)]) C0 (c_X12_in l h) (va_cwS 3 C0.2.2.2.2 (tbS mM10_8_37 ⟨mM10_8_38, mM10_1_11, mM10_8_39⟩) rfl rfl rfl (by decide +kernel) ⟨Nat.le_of_ble_eq_true rfl, Nat.le_of_ble_eq_true rfl⟩) hR hT hS rfl hl.1 rfl (Nat.le_of_ble_eq_true rfl) dX12_work_9 ⟨Nat.zero_le _, Nat.zero_le _⟩ (fun r2 S3 H locs h hR hS => ?_)
  refine lv_if_ne (tgt := 19) hx hb dX12_work_12 (by decide) (fun c4 => ?_) (fun c4 => ?_)
  · have h := h.1 c4
    refine lv_iconst (v := 0) hx hb dX12_work_19 (by decide) ?_
    exact Bw_X12_work_20 C0 hr hlk hT a1 a2 0 S3 _ _ _ h hR hS (lv_sub hl [0, 1, 2] rfl)
  · have h := h.2 c4
    refine lv_iconst (v := 1) hx hb dX12_work_15 (by decide) ?_
    refine lv_goto (tgt := 20) hx hb dX12_work_16 (by decide) ?_
    exact Bw_X12_work_20 C0 hr hlk hT a1 a2 1 S3 _ _ _ h hR hS (lv_sub hl [0, 1, 2] rfl)

def rm_X12_ofLog : Room := { frames := 0, cells := 0, slots := 0, locals := 0 }
def F_X12_ofLog (a1 : Int32) (a2 : Int32) (S : sSt) (k : Int32 → sSt → Prop) : Prop := ix ((1289 + (5 * a1)) + a2) 10421 (fun j1 => k (S.1 1 0 j1) S)
set_option maxHeartbeats 4000000 in
set_option maxRecDepth 100000 in
theorem c_X12_ofLog (l : Launch) {D : va_G} {cy : Nat → ClassId} {b z : Nat} {tx : TX} {a1 : Int32} {a2 : Int32} {S : sSt} {k : Int32 → sSt → Prop} (h : F_X12_ofLog a1 a2 S k) : Met l yX12_ofLog (Cond.code yX12_ofLog cX12_ofLog 3 (some .int) :: TB) rm_X12_ofLog (va_Pc [.ref (b + adM 0 0), .int a1, .int a2] (fun U => RelM D cy b z tx S U U.heap ∧ TxR tx U)) (PiM D cy b z tx k) 0 0 (gA b 12 z) := by
  refine Met.ofW (cc := cX12_ofLog) (maxL := 3) (ret := (some .int)) (by decide) rfl ?_
  intro p e s m args below meth c s₁ B hml hv
  obtain ⟨rfl, hR, hT⟩ := hv
  have C0 : CallFix p m c cX12_ofLog 3 s _ TB RX12 := ⟨B.exec, B.bytes, hml, findClass_of_methodNamed B.named, fun w hw => atoms_spec B.pre w (List.mem_cons_of_mem _ hw)⟩
  have hr := B.returns
  have hlk := B.notSynchronized
  have hx := C0.1
  have hb := C0.2.1
  have hS : va_S (gA b 12 z) s.heap s.heap [] := va_S.rf
  have hl := lv_entry ([.ref (b + adM 0 0), .int a1, .int a2]) (n := 3) (Nat.le_of_ble_eq_true rfl)
  rw [lg_entry_eq]
  generalize (lg_sl ([.ref (b + adM 0 0), .int a1, .int a2]) ++ List.replicate (3 - (lg_sl ([.ref (b + adM 0 0), .int a1, .int a2])).length) Slot.unset).toArray = ls at hl ⊢
  have hl : lv_has ls 3 [(0, .ref (b + adM 0 0)), (1, .int a1), (2, .int a2)] := hl
  show W p l e rm_X12_ofLog s m _ below meth c s.heap [] 0 0 (MQ below (PiM D cy b z tx k) _ s 0 0 (gA b 12 z)) _
  unfold F_X12_ofLog at h
  refine lv_aload_n hx hb dX12_ofLog_0 rfl (lv_at hl 0 rfl) ?_
  refine gM_0_2 C0 hR Nat.zero_lt_one tbs_wsX120 mM10_7_79 dX12_ofLog_1 ?_
  refine lv_sipush (v := 1289) hx hb dX12_ofLog_4 (by decide) ?_
  refine lv_iconst (v := 5) hx hb dX12_ofLog_7 (by decide) ?_
  refine lv_iload_n hx hb dX12_ofLog_8 rfl (lv_at hl 1 rfl) ?_
  refine lv_imul hx hb dX12_ofLog_9 ?_
  refine lv_iadd hx hb dX12_ofLog_10 ?_
  refine lv_iload_n hx hb dX12_ofLog_11 rfl (lv_at hl 2 rfl) ?_
  refine lv_iadd hx hb dX12_ofLog_12 ?_
  obtain ⟨j1, hj1, ej1, h⟩ := h
  refine lM_1 C0 hR Nat.zero_lt_one hj1 ej1 dX12_ofLog_13 ?_
  exact rtM_i C0 hr hlk hR hS h dX12_ofLog_14

def rm_X12_was : Room := { frames := 5, cells := 0, slots := 0, locals := 109 }
def B_X12_was_51 (a3 : Int32) (S : sSt) (k : Int32 → sSt → Prop) : Prop := (((S.1 1 0 14) ≤ a3 → k (-1) S) ∧ (¬ (S.1 1 0 14) ≤ a3 → F_X12_ofLog a3 2 S (fun r6 S7 => ((¬ r6 = 1 → k (-1) S7) ∧ (r6 = 1 → F_X12_ofLog a3 3 S7 (fun r9 S10 => k r9 S10))))))
set_option maxHeartbeats 4000000 in
set_option maxRecDepth 100000 in
theorem Bw_X12_was_51 {p : Program} {l : Launch} {e : Env} {s : State} {m : MethodId} {args : Array Value} {below : List Frame} {meth : Method} {c : Code} {D : va_G} {cy : Nat → ClassId} {b z : Nat} {tx : TX} (C0 : CallFix p m c cX12_was 4 s args TB RX12) (hr : meth.sig.returnType = (some .int)) (hlk : meth.locks = false) (hT : TxR tx s) {k : Int32 → sSt → Prop} : ∀ (a3 : Int32) (S : sSt) (H : Heap) (locs : List Loc) (ls : Array Slot) , B_X12_was_51 a3 S k → RelM D cy b z tx S s H → va_S (gA b 12 z) s.heap H locs → lv_has ls 4 [(0, .ref (b + adM 0 0)), (3, .int a3)] → W p l e rm_X12_was s m args below meth c H locs 0 0 (MQ below (PiM D cy b z tx k) args s 0 0 (gA b 12 z)) (F0 m 51 ls []) := by
  intro a3 S H locs ls h hR hS hl
  have hx := C0.1
  have hb := C0.2.1
  unfold B_X12_was_51 at h
  refine lv_iload_n hx hb dX12_was_51 rfl (lv_at hl 1 rfl) ?_
  refine lv_aload_n hx hb dX12_was_52 rfl (lv_at hl 0 rfl) ?_
  refine gM_0_2 C0 hR Nat.zero_lt_one tbs_wsX120 mM10_7_79 dX12_was_53 ?_
  refine lv_bipush (v := 14) hx hb dX12_was_56 (by decide) ?_
  refine lM_1 C0 hR Nat.zero_lt_one (by decide) rfl dX12_was_58 ?_
  refine lv_icmp_ge (tgt := 81) hx hb dX12_was_59 (by decide) (fun c5 => ?_) (fun c5 => ?_)
  · have h := h.1 c5
    refine lv_iconst (v := (-1)) hx hb dX12_was_81 (by decide) ?_
    exact rtM_i C0 hr hlk hR hS h dX12_was_82
  · have h := h.2 c5
    refine lv_aload_n hx hb dX12_was_62 rfl (lv_at hl 0 rfl) ?_
    refine lv_iload_n hx hb dX12_was_63 rfl (lv_at hl 1 rfl) ?_
    refine lv_iconst (v := 2) hx hb dX12_was_64 (by decide) ?_
    refine qM_Vi (As := [.int a3, .int 2]) (rest := []) C0 (c_X12_ofLog l h) (cwV 2 C0.2.2.2.2 (tbV mM10_9_177 ⟨mM10_9_179, mpM10_7_11, mM10_1_11, mM10_9_180⟩) rfl rfl rfl (by decide +kernel) ⟨Nat.le_of_ble_eq_true rfl, Nat.le_of_ble_eq_true rfl⟩) (rcM_0 hR Nat.zero_lt_one) hR hT hS rfl hl.1 rfl (Nat.le_of_ble_eq_true rfl) dX12_was_65 ⟨Nat.zero_le _, Nat.zero_le _⟩ (fun r6 S7 H locs h hR hS => ?_)
    refine lv_iconst (v := 1) hx hb dX12_was_68 (by decide) ?_
    refine lv_icmp_ne (tgt := 81) hx hb dX12_was_69 (by decide) (fun c8 => ?_) (fun c8 => ?_)
    · have h := h.1 c8
      refine lv_iconst (v := (-1)) hx hb dX12_was_81 (by decide) ?_
      exact rtM_i C0 hr hlk hR hS h dX12_was_82
    · have h := h.2 c8
      refine lv_aload_n hx hb dX12_was_72 rfl (lv_at hl 0 rfl) ?_
      refine lv_iload_n hx hb dX12_was_73 rfl (lv_at hl 1 rfl) ?_
      refine lv_iconst (v := 3) hx hb dX12_was_74 (by decide) ?_
      refine qM_Vi (As := [.int a3, .int 3]) (rest := []) C0 (c_X12_ofLog l h) (cwV 2 C0.2.2.2.2 (tbV mM10_9_177 ⟨mM10_9_179, mpM10_7_11, mM10_1_11, mM10_9_180⟩) rfl rfl rfl (by decide +kernel) ⟨Nat.le_of_ble_eq_true rfl, Nat.le_of_ble_eq_true rfl⟩) (rcM_0 hR Nat.zero_lt_one) hR hT hS rfl hl.1 rfl (Nat.le_of_ble_eq_true rfl) dX12_was_75 ⟨Nat.zero_le _, Nat.zero_le _⟩ (fun r9 S10 H locs h hR hS => ?_)
      refine lv_goto (tgt := 82) hx hb dX12_was_78 (by decide) ?_
      exact rtM_i C0 hr hlk hR hS h dX12_was_82
def B_X12_was_45 (kk14 : Int32 → Int32 → Int32 → sSt → Prop) (a1 : Int32) (a2 : Int32) (a3 : Int32) (S : sSt) (k : Int32 → sSt → Prop) : Prop := ∀ x14 : Int32, x14 = a3 + 1 → kk14 a1 a2 x14 S
set_option maxHeartbeats 4000000 in
set_option maxRecDepth 100000 in
theorem Bw_X12_was_45 {p : Program} {l : Launch} {e : Env} {s : State} {m : MethodId} {args : Array Value} {below : List Frame} {meth : Method} {c : Code} {D : va_G} {cy : Nat → ClassId} {b z : Nat} {tx : TX} (C0 : CallFix p m c cX12_was 4 s args TB RX12) (hr : meth.sig.returnType = (some .int)) (hlk : meth.locks = false) (hT : TxR tx s) {k : Int32 → sSt → Prop} {kk14 : Int32 → Int32 → Int32 → sSt → Prop} (ih14 : ∀ (a1 : Int32) (a2 : Int32) (a3 : Int32) (S : sSt) (H : Heap) (locs : List Loc) (ls : Array Slot) , kk14 a1 a2 a3 S → RelM D cy b z tx S s H → va_S (gA b 12 z) s.heap H locs → lv_has ls 4 [(0, .ref (b + adM 0 0)), (1, .int a1), (2, .int a2), (3, .int a3)] → W p l e rm_X12_was s m args below meth c H locs 0 0 (MQ below (PiM D cy b z tx k) args s 0 0 (gA b 12 z)) (F0 m 14 ls [])) : ∀ (a1 : Int32) (a2 : Int32) (a3 : Int32) (S : sSt) (H : Heap) (locs : List Loc) (ls : Array Slot) , B_X12_was_45 kk14 a1 a2 a3 S k → RelM D cy b z tx S s H → va_S (gA b 12 z) s.heap H locs → lv_has ls 4 [(0, .ref (b + adM 0 0)), (1, .int a1), (2, .int a2), (3, .int a3)] → W p l e rm_X12_was s m args below meth c H locs 0 0 (MQ below (PiM D cy b z tx k) args s 0 0 (gA b 12 z)) (F0 m 45 ls []) := by
  intro a1 a2 a3 S H locs ls h hR hS hl
  have hx := C0.1
  have hb := C0.2.1
  unfold B_X12_was_45 at h
  obtain ⟨x14, ex14⟩ : ∃ x14 : Int32, x14 = a3 + 1 := ⟨_, rfl⟩
  have h := h x14 ex14
  refine w_iinc (v0 := 1) (lv' := [(3, .int x14), (0, .ref (b + adM 0 0)), (1, .int a1), (2, .int a2)]) C0 dX12_was_45 hl (k := 3) rfl (by decide) (by decide) x14 ex14 rfl (fun ls hl => ?_)
  refine lv_goto (tgt := 14) hx hb dX12_was_48 (by decide) ?_
  exact ih14 a1 a2 x14 S _ _ _  h hR hS (lv_sub hl [1, 2, 3, 0] rfl)
def Bb_X12_was_14 (kk14 : Int32 → Int32 → Int32 → sSt → Prop) (a1 : Int32) (a2 : Int32) (a3 : Int32) (S : sSt) (k : Int32 → sSt → Prop) : Prop := (((S.1 1 0 14) ≤ a3 → B_X12_was_51 a3 S k) ∧ (¬ (S.1 1 0 14) ≤ a3 → F_X12_ofLog a3 1 S (fun r11 S12 => ((¬ r11 = a1 → B_X12_was_45 kk14 a1 a2 a3 S12 k) ∧ (r11 = a1 → F_X12_ofLog a3 0 S12 (fun r15 S16 => ((r15 ≤ a2 → B_X12_was_51 a3 S16 k) ∧ (¬ r15 ≤ a2 → B_X12_was_45 kk14 a1 a2 a3 S16 k))))))))
set_option maxHeartbeats 4000000 in
set_option maxRecDepth 100000 in
theorem Bbw_X12_was_14 {p : Program} {l : Launch} {e : Env} {s : State} {m : MethodId} {args : Array Value} {below : List Frame} {meth : Method} {c : Code} {D : va_G} {cy : Nat → ClassId} {b z : Nat} {tx : TX} (C0 : CallFix p m c cX12_was 4 s args TB RX12) (hr : meth.sig.returnType = (some .int)) (hlk : meth.locks = false) (hT : TxR tx s) {k : Int32 → sSt → Prop} {kk14 : Int32 → Int32 → Int32 → sSt → Prop} (ih14 : ∀ (a1 : Int32) (a2 : Int32) (a3 : Int32) (S : sSt) (H : Heap) (locs : List Loc) (ls : Array Slot) , kk14 a1 a2 a3 S → RelM D cy b z tx S s H → va_S (gA b 12 z) s.heap H locs → lv_has ls 4 [(0, .ref (b + adM 0 0)), (1, .int a1), (2, .int a2), (3, .int a3)] → W p l e rm_X12_was s m args below meth c H locs 0 0 (MQ below (PiM D cy b z tx k) args s 0 0 (gA b 12 z)) (F0 m 14 ls [])) : ∀ (a1 : Int32) (a2 : Int32) (a3 : Int32) (S : sSt) (H : Heap) (locs : List Loc) (ls : Array Slot) , Bb_X12_was_14 kk14 a1 a2 a3 S k → RelM D cy b z tx S s H → va_S (gA b 12 z) s.heap H locs → lv_has ls 4 [(0, .ref (b + adM 0 0)), (1, .int a1), (2, .int a2), (3, .int a3)] → W p l e rm_X12_was s m args below meth c H locs 0 0 (MQ below (PiM D cy b z tx k) args s 0 0 (gA b 12 z)) (F0 m 14 ls []) := by
  intro a1 a2 a3 S H locs ls h hR hS hl
  have hx := C0.1
  have hb := C0.2.1
  unfold Bb_X12_was_14 at h
  refine lv_iload_n hx hb dX12_was_14 rfl (lv_at hl 3 rfl) ?_
  refine lv_aload_n hx hb dX12_was_15 rfl (lv_at hl 0 rfl) ?_
  refine gM_0_2 C0 hR Nat.zero_lt_one tbs_wsX120 mM10_7_79 dX12_was_16 ?_
  refine lv_bipush (v := 14) hx hb dX12_was_19 (by decide) ?_
  refine lM_1 C0 hR Nat.zero_lt_one (by decide) rfl dX12_was_21 ?_
  refine lv_icmp_ge (tgt := 51) hx hb dX12_was_22 (by decide) (fun c4 => ?_) (fun c4 => ?_)
  · have h := h.1 c4
    exact Bw_X12_was_51 C0 hr hlk hT a3 S _ _ _ h hR hS (lv_sub hl [0, 3] rfl)
  · have h := h.2 c4
    refine lv_aload_n hx hb dX12_was_25 rfl (lv_at hl 0 rfl) ?_
    refine lv_iload_n hx hb dX12_was_26 rfl (lv_at hl 3 rfl) ?_
    refine lv_iconst (v := 1) hx hb dX12_was_27 (by decide) ?_
    refine qM_Vi (As := [.int a3, .int 1]) (rest := []) C0 (c_X12_ofLog l h) (cwV 2 C0.2.2.2.2 (tbV mM10_9_177 ⟨mM10_9_179, mpM10_7_11, mM10_1_11, mM10_9_180⟩) rfl rfl rfl (by decide +kernel) ⟨Nat.le_of_ble_eq_true rfl, Nat.le_of_ble_eq_true rfl⟩) (rcM_0 hR Nat.zero_lt_one) hR hT hS rfl hl.1 rfl (Nat.le_of_ble_eq_true rfl) dX12_was_28 ⟨Nat.zero_le _, Nat.zero_le _⟩ (fun r11 S12 H locs h hR hS => ?_)
    refine lv_iload_n hx hb dX12_was_31 rfl (lv_at hl 1 rfl) ?_
    refine lv_icmp_ne (tgt := 45) hx hb dX12_was_32 (by decide) (fun c13 => ?_) (fun c13 => ?_)
    · have h := h.1 c13
      exact Bw_X12_was_45 C0 hr hlk hT ih14 a1 a2 a3 S12 _ _ _ h hR hS (lv_sub hl [0, 1, 2, 3] rfl)
    · have h := h.2 c13
      refine lv_aload_n hx hb dX12_was_35 rfl (lv_at hl 0 rfl) ?_
      refine lv_iload_n hx hb dX12_was_36 rfl (lv_at hl 3 rfl) ?_
      refine lv_iconst (v := 0) hx hb dX12_was_37 (by decide) ?_
      refine qM_Vi (As := [.int a3, .int 0]) (rest := []) C0 (c_X12_ofLog l h) (cwV 2 C0.2.2.2.2 (tbV mM10_9_177 ⟨mM10_9_179, mpM10_7_11, mM10_1_11, mM10_9_180⟩) rfl rfl rfl (by decide +kernel) ⟨Nat.le_of_ble_eq_true rfl, Nat.le_of_ble_eq_true rfl⟩) (rcM_0 hR Nat.zero_lt_one) hR hT hS rfl hl.1 rfl (Nat.le_of_ble_eq_true rfl) dX12_was_38 ⟨Nat.zero_le _, Nat.zero_le _⟩ (fun r15 S16 H locs h hR hS => ?_)
      refine lv_iload_n hx hb dX12_was_41 rfl (lv_at hl 2 rfl) ?_
      refine lv_icmp_le (tgt := 51) hx hb dX12_was_42 (by decide) (fun c17 => ?_) (fun c17 => ?_)
      · have h := h.1 c17
        exact Bw_X12_was_51 C0 hr hlk hT a3 S16 _ _ _ h hR hS (lv_sub hl [0, 3] rfl)
      · have h := h.2 c17
        exact Bw_X12_was_45 C0 hr hlk hT ih14 a1 a2 a3 S16 _ _ _ h hR hS (lv_sub hl [0, 1, 2, 3] rfl)
def B_X12_was_14 (n9 : Nat) (a1 : Int32) (a2 : Int32) (a3 : Int32) (S : sSt) (k : Int32 → sSt → Prop) : Prop := (Nat.rec (motive := fun _ => Int32 → Int32 → Int32 → sSt → Prop) (fun _ _ _ _ => False) (fun _ r9 => fun a1 a2 a3 S => Bb_X12_was_14 r9 a1 a2 a3 S k) n9 : Int32 → Int32 → Int32 → sSt → Prop) a1 a2 a3 S
theorem B_X12_was_14_s (n9 : Nat) (a1 : Int32) (a2 : Int32) (a3 : Int32) (S : sSt) (k : Int32 → sSt → Prop) : B_X12_was_14 (n9 + 1) a1 a2 a3 S k = Bb_X12_was_14 (fun a1 a2 a3 S => B_X12_was_14 n9 a1 a2 a3 S k) a1 a2 a3 S k := rfl
set_option maxHeartbeats 4000000 in
set_option maxRecDepth 100000 in
theorem Bw_X12_was_14 {p : Program} {l : Launch} {e : Env} {s : State} {m : MethodId} {args : Array Value} {below : List Frame} {meth : Method} {c : Code} {D : va_G} {cy : Nat → ClassId} {b z : Nat} {tx : TX} (C0 : CallFix p m c cX12_was 4 s args TB RX12) (hr : meth.sig.returnType = (some .int)) (hlk : meth.locks = false) (hT : TxR tx s) {k : Int32 → sSt → Prop} : ∀ (n9 : Nat), ∀ (a1 : Int32) (a2 : Int32) (a3 : Int32) (S : sSt) (H : Heap) (locs : List Loc) (ls : Array Slot) , B_X12_was_14 n9 a1 a2 a3 S k → RelM D cy b z tx S s H → va_S (gA b 12 z) s.heap H locs → lv_has ls 4 [(0, .ref (b + adM 0 0)), (1, .int a1), (2, .int a2), (3, .int a3)] → W p l e rm_X12_was s m args below meth c H locs 0 0 (MQ below (PiM D cy b z tx k) args s 0 0 (gA b 12 z)) (F0 m 14 ls []) := by
  intro n9
  induction n9 with
  | zero => intro a1 a2 a3 S H locs ls h; exact h.elim
  | succ n9 ih =>
    intro a1 a2 a3 S H locs ls h hR hS hl
    exact Bbw_X12_was_14 C0 hr hlk hT ih a1 a2 a3 S H locs ls h hR hS hl
def F_X12_was (a1 : Int32) (a2 : Int32) (S : sSt) (k : Int32 → sSt → Prop) : Prop := F_X12_jobFor (-1) a1 S (fun r1 S2 => ((¬ r1 = (-1) → B_X12_was_14 fuel a1 a2 0 S2 k) ∧ (r1 = (-1) → k 0 S2)))
set_option maxHeartbeats 4000000 in
set_option maxRecDepth 100000 in
theorem c_X12_was (l : Launch) {D : va_G} {cy : Nat → ClassId} {b z : Nat} {tx : TX} {a1 : Int32} {a2 : Int32} {S : sSt} {k : Int32 → sSt → Prop} (h : F_X12_was a1 a2 S k) : Met l yX12_was (Cond.code yX12_was cX12_was 4 (some .int) :: TB) rm_X12_was (va_Pc [.ref (b + adM 0 0), .int a1, .int a2] (fun U => RelM D cy b z tx S U U.heap ∧ TxR tx U)) (PiM D cy b z tx k) 0 0 (gA b 12 z) := by
  refine Met.ofW (cc := cX12_was) (maxL := 4) (ret := (some .int)) (by decide) rfl ?_
  intro p e s m args below meth c s₁ B hml hv
  obtain ⟨rfl, hR, hT⟩ := hv
  have C0 : CallFix p m c cX12_was 4 s _ TB RX12 := ⟨B.exec, B.bytes, hml, findClass_of_methodNamed B.named, fun w hw => atoms_spec B.pre w (List.mem_cons_of_mem _ hw)⟩
  have hr := B.returns
  have hlk := B.notSynchronized
  have hx := C0.1
  have hb := C0.2.1
  have hS : va_S (gA b 12 z) s.heap s.heap [] := va_S.rf
  have hl := lv_entry ([.ref (b + adM 0 0), .int a1, .int a2]) (n := 4) (Nat.le_of_ble_eq_true rfl)
  rw [lg_entry_eq]
  generalize (lg_sl ([.ref (b + adM 0 0), .int a1, .int a2]) ++ List.replicate (4 - (lg_sl ([.ref (b + adM 0 0), .int a1, .int a2])).length) Slot.unset).toArray = ls at hl ⊢
  have hl : lv_has ls 4 [(0, .ref (b + adM 0 0)), (1, .int a1), (2, .int a2)] := hl
  show W p l e rm_X12_was s m _ below meth c s.heap [] 0 0 (MQ below (PiM D cy b z tx k) _ s 0 0 (gA b 12 z)) _
  unfold F_X12_was at h
  refine lv_aload_n hx hb dX12_was_0 rfl (lv_at hl 0 rfl) ?_
  refine lv_iconst (v := (-1)) hx hb dX12_was_1 (by decide) ?_
  refine lv_iload_n hx hb dX12_was_2 rfl (lv_at hl 1 rfl) ?_
  refine qM_Vi (As := [.int (-1), .int a1]) (rest := []) C0 (c_X12_jobFor l h) (cwV 2 C0.2.2.2.2 (tbV mM10_8_223 ⟨mM10_8_225, mpM10_6_2, mM10_1_11, mM10_8_226⟩) rfl rfl rfl (by decide +kernel) ⟨Nat.le_of_ble_eq_true rfl, Nat.le_of_ble_eq_true rfl⟩) (rcM_0 hR Nat.zero_lt_one) hR hT hS rfl hl.1 rfl (Nat.le_of_ble_eq_true rfl) dX12_was_3 ⟨Nat.zero_le _, Nat.zero_le _⟩ (fun r1 S2 H locs h hR hS => ?_)
  refine lv_iconst (v := (-1)) hx hb dX12_was_6 (by decide) ?_
  refine lv_icmp_ne (tgt := 12) hx hb dX12_was_7 (by decide) (fun c3 => ?_) (fun c3 => ?_)
  · have h := h.1 c3
    refine lv_iconst (v := 0) hx hb dX12_was_12 (by decide) ?_
    refine lv_istore_n (lv' := [(3, .int 0), (0, .ref (b + adM 0 0)), (1, .int a1), (2, .int a2)]) hx hb dX12_was_13 rfl hl (by decide) rfl (fun ls hl => ?_)
    exact Bw_X12_was_14 C0 hr hlk hT fuel a1 a2 0 S2 _ _ _ h hR hS (lv_sub hl [1, 2, 3, 0] rfl)
  · have h := h.2 c3
    refine lv_iconst (v := 0) hx hb dX12_was_10 (by decide) ?_
    exact rtM_i C0 hr hlk hR hS h dX12_was_11

def rm_X12_laterRow : Room := { frames := 1, cells := 0, slots := 0, locals := 22 }
def Bb_X12_laterRow_4 (kk4 : Int32 → Int32 → sSt → Prop) (a1 : Int32) (a2 : Int32) (S : sSt) (k : Int32 → sSt → Prop) : Prop := ((a2 < 0 → k a2 S) ∧ (¬ a2 < 0 → F_X12_ofLog a2 1 S (fun r3 S4 => F_X12_ofLog a1 1 S4 (fun r5 S6 => ((r3 = r5 → k a2 S6) ∧ (¬ r3 = r5 → ∀ x8 : Int32, x8 = a2 + (-1) → kk4 a1 x8 S6))))))
set_option maxHeartbeats 4000000 in
set_option maxRecDepth 100000 in
theorem Bbw_X12_laterRow_4 {p : Program} {l : Launch} {e : Env} {s : State} {m : MethodId} {args : Array Value} {below : List Frame} {meth : Method} {c : Code} {D : va_G} {cy : Nat → ClassId} {b z : Nat} {tx : TX} (C0 : CallFix p m c cX12_laterRow 3 s args TB RX12) (hr : meth.sig.returnType = (some .int)) (hlk : meth.locks = false) (hT : TxR tx s) {k : Int32 → sSt → Prop} {kk4 : Int32 → Int32 → sSt → Prop} (ih4 : ∀ (a1 : Int32) (a2 : Int32) (S : sSt) (H : Heap) (locs : List Loc) (ls : Array Slot) , kk4 a1 a2 S → RelM D cy b z tx S s H → va_S (gA b 12 z) s.heap H locs → lv_has ls 3 [(0, .ref (b + adM 0 0)), (1, .int a1), (2, .int a2)] → W p l e rm_X12_laterRow s m args below meth c H locs 0 0 (MQ below (PiM D cy b z tx k) args s 0 0 (gA b 12 z)) (F0 m 4 ls [])) : ∀ (a1 : Int32) (a2 : Int32) (S : sSt) (H : Heap) (locs : List Loc) (ls : Array Slot) , Bb_X12_laterRow_4 kk4 a1 a2 S k → RelM D cy b z tx S s H → va_S (gA b 12 z) s.heap H locs → lv_has ls 3 [(0, .ref (b + adM 0 0)), (1, .int a1), (2, .int a2)] → W p l e rm_X12_laterRow s m args below meth c H locs 0 0 (MQ below (PiM D cy b z tx k) args s 0 0 (gA b 12 z)) (F0 m 4 ls []) := by
  intro a1 a2 S H locs ls h hR hS hl
  have hx := C0.1
  have hb := C0.2.1
  unfold Bb_X12_laterRow_4 at h
  refine lv_iload_n hx hb dX12_laterRow_4 rfl (lv_at hl 2 rfl) ?_
  refine lv_if_lt (tgt := 29) hx hb dX12_laterRow_5 (by decide) (fun c2 => ?_) (fun c2 => ?_)
  · have h := h.1 c2
    refine lv_iload_n hx hb dX12_laterRow_29 rfl (lv_at hl 2 rfl) ?_
    exact rtM_i C0 hr hlk hR hS h dX12_laterRow_30
  · have h := h.2 c2
    refine lv_aload_n hx hb dX12_laterRow_8 rfl (lv_at hl 0 rfl) ?_
    refine lv_iload_n hx hb dX12_laterRow_9 rfl (lv_at hl 2 rfl) ?_
    refine lv_iconst (v := 1) hx hb dX12_laterRow_10 (by decide) ?_
    refine qM_Vi (As := [.int a2, .int 1]) (rest := []) C0 (c_X12_ofLog l h) (cwV 2 C0.2.2.2.2 (tbV mM10_9_177 ⟨mM10_9_179, mpM10_7_11, mM10_1_11, mM10_9_180⟩) rfl rfl rfl (by decide +kernel) ⟨Nat.le_of_ble_eq_true rfl, Nat.le_of_ble_eq_true rfl⟩) (rcM_0 hR Nat.zero_lt_one) hR hT hS rfl hl.1 rfl (Nat.le_of_ble_eq_true rfl) dX12_laterRow_11 ⟨Nat.zero_le _, Nat.zero_le _⟩ (fun r3 S4 H locs h hR hS => ?_)
    refine lv_aload_n hx hb dX12_laterRow_14 rfl (lv_at hl 0 rfl) ?_
    refine lv_iload_n hx hb dX12_laterRow_15 rfl (lv_at hl 1 rfl) ?_
    refine lv_iconst (v := 1) hx hb dX12_laterRow_16 (by decide) ?_
    refine qM_Vi (As := [.int a1, .int 1]) (rest := [.int r3]) C0 (c_X12_ofLog l h) (cwV 2 C0.2.2.2.2 (tbV mM10_9_177 ⟨mM10_9_179, mpM10_7_11, mM10_1_11, mM10_9_180⟩) rfl rfl rfl (by decide +kernel) ⟨Nat.le_of_ble_eq_true rfl, Nat.le_of_ble_eq_true rfl⟩) (rcM_0 hR Nat.zero_lt_one) hR hT hS rfl hl.1 rfl (Nat.le_of_ble_eq_true rfl) dX12_laterRow_17 ⟨Nat.zero_le _, Nat.zero_le _⟩ (fun r5 S6 H locs h hR hS => ?_)
    refine lv_icmp_eq (tgt := 29) hx hb dX12_laterRow_20 (by decide) (fun c7 => ?_) (fun c7 => ?_)
    · have h := h.1 c7
      refine lv_iload_n hx hb dX12_laterRow_29 rfl (lv_at hl 2 rfl) ?_
      exact rtM_i C0 hr hlk hR hS h dX12_laterRow_30
    · have h := h.2 c7
      obtain ⟨x8, ex8⟩ : ∃ x8 : Int32, x8 = a2 + (-1) := ⟨_, rfl⟩
      have h := h x8 ex8
      refine w_iinc (v0 := (-1)) (lv' := [(2, .int x8), (0, .ref (b + adM 0 0)), (1, .int a1)]) C0 dX12_laterRow_23 hl (k := 2) rfl (by decide) (by decide) x8 ex8 rfl (fun ls hl => ?_)
      refine lv_goto (tgt := 4) hx hb dX12_laterRow_26 (by decide) ?_
      exact ih4 a1 x8 S6 _ _ _  h hR hS (lv_sub hl [1, 2, 0] rfl)
def B_X12_laterRow_4 (n9 : Nat) (a1 : Int32) (a2 : Int32) (S : sSt) (k : Int32 → sSt → Prop) : Prop := (Nat.rec (motive := fun _ => Int32 → Int32 → sSt → Prop) (fun _ _ _ => False) (fun _ r9 => fun a1 a2 S => Bb_X12_laterRow_4 r9 a1 a2 S k) n9 : Int32 → Int32 → sSt → Prop) a1 a2 S
theorem B_X12_laterRow_4_s (n9 : Nat) (a1 : Int32) (a2 : Int32) (S : sSt) (k : Int32 → sSt → Prop) : B_X12_laterRow_4 (n9 + 1) a1 a2 S k = Bb_X12_laterRow_4 (fun a1 a2 S => B_X12_laterRow_4 n9 a1 a2 S k) a1 a2 S k := rfl
set_option maxHeartbeats 4000000 in
set_option maxRecDepth 100000 in
theorem Bw_X12_laterRow_4 {p : Program} {l : Launch} {e : Env} {s : State} {m : MethodId} {args : Array Value} {below : List Frame} {meth : Method} {c : Code} {D : va_G} {cy : Nat → ClassId} {b z : Nat} {tx : TX} (C0 : CallFix p m c cX12_laterRow 3 s args TB RX12) (hr : meth.sig.returnType = (some .int)) (hlk : meth.locks = false) (hT : TxR tx s) {k : Int32 → sSt → Prop} : ∀ (n9 : Nat), ∀ (a1 : Int32) (a2 : Int32) (S : sSt) (H : Heap) (locs : List Loc) (ls : Array Slot) , B_X12_laterRow_4 n9 a1 a2 S k → RelM D cy b z tx S s H → va_S (gA b 12 z) s.heap H locs → lv_has ls 3 [(0, .ref (b + adM 0 0)), (1, .int a1), (2, .int a2)] → W p l e rm_X12_laterRow s m args below meth c H locs 0 0 (MQ below (PiM D cy b z tx k) args s 0 0 (gA b 12 z)) (F0 m 4 ls []) := by
  intro n9
  induction n9 with
  | zero => intro a1 a2 S H locs ls h; exact h.elim
  | succ n9 ih =>
    intro a1 a2 S H locs ls h hR hS hl
    exact Bbw_X12_laterRow_4 C0 hr hlk hT ih a1 a2 S H locs ls h hR hS hl
def F_X12_laterRow (a1 : Int32) (S : sSt) (k : Int32 → sSt → Prop) : Prop := ∀ x1 : Int32, x1 = (a1 - 1) → B_X12_laterRow_4 fuel a1 x1 S k
set_option maxHeartbeats 4000000 in
set_option maxRecDepth 100000 in
theorem c_X12_laterRow (l : Launch) {D : va_G} {cy : Nat → ClassId} {b z : Nat} {tx : TX} {a1 : Int32} {S : sSt} {k : Int32 → sSt → Prop} (h : F_X12_laterRow a1 S k) : Met l yX12_laterRow (Cond.code yX12_laterRow cX12_laterRow 3 (some .int) :: TB) rm_X12_laterRow (va_Pc [.ref (b + adM 0 0), .int a1] (fun U => RelM D cy b z tx S U U.heap ∧ TxR tx U)) (PiM D cy b z tx k) 0 0 (gA b 12 z) := by
  refine Met.ofW (cc := cX12_laterRow) (maxL := 3) (ret := (some .int)) (by decide) rfl ?_
  intro p e s m args below meth c s₁ B hml hv
  obtain ⟨rfl, hR, hT⟩ := hv
  have C0 : CallFix p m c cX12_laterRow 3 s _ TB RX12 := ⟨B.exec, B.bytes, hml, findClass_of_methodNamed B.named, fun w hw => atoms_spec B.pre w (List.mem_cons_of_mem _ hw)⟩
  have hr := B.returns
  have hlk := B.notSynchronized
  have hx := C0.1
  have hb := C0.2.1
  have hS : va_S (gA b 12 z) s.heap s.heap [] := va_S.rf
  have hl := lv_entry ([.ref (b + adM 0 0), .int a1]) (n := 3) (Nat.le_of_ble_eq_true rfl)
  rw [lg_entry_eq]
  generalize (lg_sl ([.ref (b + adM 0 0), .int a1]) ++ List.replicate (3 - (lg_sl ([.ref (b + adM 0 0), .int a1])).length) Slot.unset).toArray = ls at hl ⊢
  have hl : lv_has ls 3 [(0, .ref (b + adM 0 0)), (1, .int a1)] := hl
  show W p l e rm_X12_laterRow s m _ below meth c s.heap [] 0 0 (MQ below (PiM D cy b z tx k) _ s 0 0 (gA b 12 z)) _
  unfold F_X12_laterRow at h
  refine lv_iload_n hx hb dX12_laterRow_0 rfl (lv_at hl 1 rfl) ?_
  refine lv_iconst (v := 1) hx hb dX12_laterRow_1 (by decide) ?_
  refine lv_isub hx hb dX12_laterRow_2 ?_
  refine lv_topi (fun x1 ex1 => ?_)
  have h := h x1 ex1
  refine lv_istore_n (lv' := [(2, .int x1), (0, .ref (b + adM 0 0)), (1, .int a1)]) hx hb dX12_laterRow_3 rfl hl (by decide) rfl (fun ls hl => ?_)
  exact Bw_X12_laterRow_4 C0 hr hlk hT fuel a1 x1 S _ _ _ h hR hS (lv_sub hl [1, 2, 0] rfl)

def rm_X12_longest : Room := { frames := 2, cells := 0, slots := 0, locals := 44 }
def B_X12_longest_73 (kk9 : Int32 → Int32 → sSt → Prop) (a1 : Int32) (a2 : Int32) (S : sSt) (k : Int32 → sSt → Prop) : Prop := ∀ x8 : Int32, x8 = a2 + 1 → kk9 a1 x8 S
set_option maxHeartbeats 4000000 in
set_option maxRecDepth 100000 in
theorem Bw_X12_longest_73 {p : Program} {l : Launch} {e : Env} {s : State} {m : MethodId} {args : Array Value} {below : List Frame} {meth : Method} {c : Code} {D : va_G} {cy : Nat → ClassId} {b z : Nat} {tx : TX} (C0 : CallFix p m c cX12_longest 4 s args TB RX12) (hr : meth.sig.returnType = (some .int)) (hlk : meth.locks = false) (hT : TxR tx s) {k : Int32 → sSt → Prop} {kk9 : Int32 → Int32 → sSt → Prop} (ih9 : ∀ (a1 : Int32) (a2 : Int32) (S : sSt) (H : Heap) (locs : List Loc) (ls : Array Slot) , kk9 a1 a2 S → RelM D cy b z tx S s H → va_S (gA b 12 z) s.heap H locs → lv_has ls 4 [(0, .ref (b + adM 0 0)), (1, .int a1), (2, .int a2)] → W p l e rm_X12_longest s m args below meth c H locs 0 0 (MQ below (PiM D cy b z tx k) args s 0 0 (gA b 12 z)) (F0 m 9 ls [])) : ∀ (a1 : Int32) (a2 : Int32) (S : sSt) (H : Heap) (locs : List Loc) (ls : Array Slot) , B_X12_longest_73 kk9 a1 a2 S k → RelM D cy b z tx S s H → va_S (gA b 12 z) s.heap H locs → lv_has ls 4 [(0, .ref (b + adM 0 0)), (1, .int a1), (2, .int a2)] → W p l e rm_X12_longest s m args below meth c H locs 0 0 (MQ below (PiM D cy b z tx k) args s 0 0 (gA b 12 z)) (F0 m 73 ls []) := by
  intro a1 a2 S H locs ls h hR hS hl
  have hx := C0.1
  have hb := C0.2.1
  unfold B_X12_longest_73 at h
  obtain ⟨x8, ex8⟩ : ∃ x8 : Int32, x8 = a2 + 1 := ⟨_, rfl⟩
  have h := h x8 ex8
  refine w_iinc (v0 := 1) (lv' := [(2, .int x8), (0, .ref (b + adM 0 0)), (1, .int a1)]) C0 dX12_longest_73 hl (k := 2) rfl (by decide) (by decide) x8 ex8 rfl (fun ls hl => ?_)
  refine lv_goto (tgt := 9) hx hb dX12_longest_76 (by decide) ?_
  exact ih9 a1 x8 S _ _ _  h hR hS (lv_sub hl [1, 2, 0] rfl)
def Bb_X12_longest_9 (kk9 : Int32 → Int32 → sSt → Prop) (a1 : Int32) (a2 : Int32) (S : sSt) (k : Int32 → sSt → Prop) : Prop := (((S.1 1 0 14) ≤ a2 → k a1 S) ∧ (¬ (S.1 1 0 14) ≤ a2 → F_X12_laterRow a2 S (fun r3 S4 => F_X12_ofLog a2 2 S4 (fun r5 S6 => ((¬ r5 = 1 → B_X12_longest_73 kk9 a1 a2 S6 k) ∧ (r5 = 1 → ((r3 < 0 → B_X12_longest_73 kk9 a1 a2 S6 k) ∧ (¬ r3 < 0 → F_X12_ofLog r3 3 S6 (fun r10 S11 => F_X12_ofLog a2 3 S11 (fun r12 S13 => ((¬ r10 = r12 → B_X12_longest_73 kk9 a1 a2 S13 k) ∧ (r10 = r12 → F_X12_ofLog r3 0 S13 (fun r15 S16 => F_X12_ofLog a2 0 S16 (fun r17 S18 => ∀ x19 : Int32, x19 = (if a1 < (r15 - r17) then (r15 - r17) else a1) → B_X12_longest_73 kk9 x19 a2 S18 k))))))))))))))
set_option maxHeartbeats 4000000 in
set_option maxRecDepth 100000 in
theorem Bbw_X12_longest_9 {p : Program} {l : Launch} {e : Env} {s : State} {m : MethodId} {args : Array Value} {below : List Frame} {meth : Method} {c : Code} {D : va_G} {cy : Nat → ClassId} {b z : Nat} {tx : TX} (C0 : CallFix p m c cX12_longest 4 s args TB RX12) (hr : meth.sig.returnType = (some .int)) (hlk : meth.locks = false) (hT : TxR tx s) {k : Int32 → sSt → Prop} {kk9 : Int32 → Int32 → sSt → Prop} (ih9 : ∀ (a1 : Int32) (a2 : Int32) (S : sSt) (H : Heap) (locs : List Loc) (ls : Array Slot) , kk9 a1 a2 S → RelM D cy b z tx S s H → va_S (gA b 12 z) s.heap H locs → lv_has ls 4 [(0, .ref (b + adM 0 0)), (1, .int a1), (2, .int a2)] → W p l e rm_X12_longest s m args below meth c H locs 0 0 (MQ below (PiM D cy b z tx k) args s 0 0 (gA b 12 z)) (F0 m 9 ls [])) : ∀ (a1 : Int32) (a2 : Int32) (S : sSt) (H : Heap) (locs : List Loc) (ls : Array Slot) , Bb_X12_longest_9 kk9 a1 a2 S k → RelM D cy b z tx S s H → va_S (gA b 12 z) s.heap H locs → lv_has ls 4 [(0, .ref (b + adM 0 0)), (1, .int a1), (2, .int a2)] → W p l e rm_X12_longest s m args below meth c H locs 0 0 (MQ below (PiM D cy b z tx k) args s 0 0 (gA b 12 z)) (F0 m 9 ls []) := by
  intro a1 a2 S H locs ls h hR hS hl
  have hx := C0.1
  have hb := C0.2.1
  unfold Bb_X12_longest_9 at h
  refine lv_iload_n hx hb dX12_longest_9 rfl (lv_at hl 2 rfl) ?_
  refine lv_aload_n hx hb dX12_longest_10 rfl (lv_at hl 0 rfl) ?_
  refine gM_0_2 C0 hR Nat.zero_lt_one tbs_wsX120 mM10_7_79 dX12_longest_11 ?_
  refine lv_bipush (v := 14) hx hb dX12_longest_14 (by decide) ?_
  refine lM_1 C0 hR Nat.zero_lt_one (by decide) rfl dX12_longest_16 ?_
  refine lv_icmp_ge (tgt := 79) hx hb dX12_longest_17 (by decide) (fun c2 => ?_) (fun c2 => ?_)
  · have h := h.1 c2
    refine lv_iload_n hx hb dX12_longest_79 rfl (lv_at hl 1 rfl) ?_
    exact rtM_i C0 hr hlk hR hS h dX12_longest_80
  · have h := h.2 c2
    refine lv_aload_n hx hb dX12_longest_20 rfl (lv_at hl 0 rfl) ?_
    refine lv_iload_n hx hb dX12_longest_21 rfl (lv_at hl 2 rfl) ?_
    refine qM_Vi (As := [.int a2]) (rest := []) C0 (c_X12_laterRow l h) (cwV 1 C0.2.2.2.2 (tbV mM10_9_185 ⟨mM10_9_187, mpM10_7_12, mM10_1_11, mM10_9_188⟩) rfl rfl rfl (by decide +kernel) ⟨Nat.le_of_ble_eq_true rfl, Nat.le_of_ble_eq_true rfl⟩) (rcM_0 hR Nat.zero_lt_one) hR hT hS rfl hl.1 rfl (Nat.le_of_ble_eq_true rfl) dX12_longest_22 ⟨Nat.zero_le _, Nat.zero_le _⟩ (fun r3 S4 H locs h hR hS => ?_)
    refine lv_istore_n (lv' := [(3, .int r3), (0, .ref (b + adM 0 0)), (1, .int a1), (2, .int a2)]) hx hb dX12_longest_25 rfl hl (by decide) rfl (fun ls hl => ?_)
    refine lv_aload_n hx hb dX12_longest_26 rfl (lv_at hl 1 rfl) ?_
    refine lv_iload_n hx hb dX12_longest_27 rfl (lv_at hl 3 rfl) ?_
    refine lv_iconst (v := 2) hx hb dX12_longest_28 (by decide) ?_
    refine qM_Vi (As := [.int a2, .int 2]) (rest := []) C0 (c_X12_ofLog l h) (cwV 2 C0.2.2.2.2 (tbV mM10_9_177 ⟨mM10_9_179, mpM10_7_11, mM10_1_11, mM10_9_180⟩) rfl rfl rfl (by decide +kernel) ⟨Nat.le_of_ble_eq_true rfl, Nat.le_of_ble_eq_true rfl⟩) (rcM_0 hR Nat.zero_lt_one) hR hT hS rfl hl.1 rfl (Nat.le_of_ble_eq_true rfl) dX12_longest_29 ⟨Nat.zero_le _, Nat.zero_le _⟩ (fun r5 S6 H locs h hR hS => ?_)
    refine lv_iconst (v := 1) hx hb dX12_longest_32 (by decide) ?_
    refine lv_icmp_ne (tgt := 73) hx hb dX12_longest_33 (by decide) (fun c7 => ?_) (fun c7 => ?_)
    · have h := h.1 c7
      exact Bw_X12_longest_73 C0 hr hlk hT ih9 a1 a2 S6 _ _ _ h hR hS (lv_sub hl [1, 2, 3] rfl)
    · have h := h.2 c7
      refine lv_iload_n hx hb dX12_longest_36 rfl (lv_at hl 0 rfl) ?_
      refine lv_if_lt (tgt := 73) hx hb dX12_longest_37 (by decide) (fun c9 => ?_) (fun c9 => ?_)
      · have h := h.1 c9
        exact Bw_X12_longest_73 C0 hr hlk hT ih9 a1 a2 S6 _ _ _ h hR hS (lv_sub hl [1, 2, 3] rfl)
      · have h := h.2 c9
        refine lv_aload_n hx hb dX12_longest_40 rfl (lv_at hl 1 rfl) ?_
        refine lv_iload_n hx hb dX12_longest_41 rfl (lv_at hl 0 rfl) ?_
        refine lv_iconst (v := 3) hx hb dX12_longest_42 (by decide) ?_
        refine qM_Vi (As := [.int r3, .int 3]) (rest := []) C0 (c_X12_ofLog l h) (cwV 2 C0.2.2.2.2 (tbV mM10_9_177 ⟨mM10_9_179, mpM10_7_11, mM10_1_11, mM10_9_180⟩) rfl rfl rfl (by decide +kernel) ⟨Nat.le_of_ble_eq_true rfl, Nat.le_of_ble_eq_true rfl⟩) (rcM_0 hR Nat.zero_lt_one) hR hT hS rfl hl.1 rfl (Nat.le_of_ble_eq_true rfl) dX12_longest_43 ⟨Nat.zero_le _, Nat.zero_le _⟩ (fun r10 S11 H locs h hR hS => ?_)
        refine lv_aload_n hx hb dX12_longest_46 rfl (lv_at hl 1 rfl) ?_
        refine lv_iload_n hx hb dX12_longest_47 rfl (lv_at hl 3 rfl) ?_
        refine lv_iconst (v := 3) hx hb dX12_longest_48 (by decide) ?_
        refine qM_Vi (As := [.int a2, .int 3]) (rest := [.int r10]) C0 (c_X12_ofLog l h) (cwV 2 C0.2.2.2.2 (tbV mM10_9_177 ⟨mM10_9_179, mpM10_7_11, mM10_1_11, mM10_9_180⟩) rfl rfl rfl (by decide +kernel) ⟨Nat.le_of_ble_eq_true rfl, Nat.le_of_ble_eq_true rfl⟩) (rcM_0 hR Nat.zero_lt_one) hR hT hS rfl hl.1 rfl (Nat.le_of_ble_eq_true rfl) dX12_longest_49 ⟨Nat.zero_le _, Nat.zero_le _⟩ (fun r12 S13 H locs h hR hS => ?_)
        refine lv_icmp_ne (tgt := 73) hx hb dX12_longest_52 (by decide) (fun c14 => ?_) (fun c14 => ?_)
        · have h := h.1 c14
          exact Bw_X12_longest_73 C0 hr hlk hT ih9 a1 a2 S13 _ _ _ h hR hS (lv_sub hl [1, 2, 3] rfl)
        · have h := h.2 c14
          refine lv_iload_n hx hb dX12_longest_55 rfl (lv_at hl 2 rfl) ?_
          refine lv_aload_n hx hb dX12_longest_56 rfl (lv_at hl 1 rfl) ?_
          refine lv_iload_n hx hb dX12_longest_57 rfl (lv_at hl 0 rfl) ?_
          refine lv_iconst (v := 0) hx hb dX12_longest_58 (by decide) ?_
          refine qM_Vi (As := [.int r3, .int 0]) (rest := [.int a1]) C0 (c_X12_ofLog l h) (cwV 2 C0.2.2.2.2 (tbV mM10_9_177 ⟨mM10_9_179, mpM10_7_11, mM10_1_11, mM10_9_180⟩) rfl rfl rfl (by decide +kernel) ⟨Nat.le_of_ble_eq_true rfl, Nat.le_of_ble_eq_true rfl⟩) (rcM_0 hR Nat.zero_lt_one) hR hT hS rfl hl.1 rfl (Nat.le_of_ble_eq_true rfl) dX12_longest_59 ⟨Nat.zero_le _, Nat.zero_le _⟩ (fun r15 S16 H locs h hR hS => ?_)
          refine lv_aload_n hx hb dX12_longest_62 rfl (lv_at hl 1 rfl) ?_
          refine lv_iload_n hx hb dX12_longest_63 rfl (lv_at hl 3 rfl) ?_
          refine lv_iconst (v := 0) hx hb dX12_longest_64 (by decide) ?_
          refine qM_Vi (As := [.int a2, .int 0]) (rest := [.int r15, .int a1]) C0 (c_X12_ofLog l h) (cwV 2 C0.2.2.2.2 (tbV mM10_9_177 ⟨mM10_9_179, mpM10_7_11, mM10_1_11, mM10_9_180⟩) rfl rfl rfl (by decide +kernel) ⟨Nat.le_of_ble_eq_true rfl, Nat.le_of_ble_eq_true rfl⟩) (rcM_0 hR Nat.zero_lt_one) hR hT hS rfl hl.1 rfl (Nat.le_of_ble_eq_true rfl) dX12_longest_65 ⟨Nat.zero_le _, Nat.zero_le _⟩ (fun r17 S18 H locs h hR hS => ?_)
          refine lv_isub hx hb dX12_longest_68 ?_
          refine va_mmax hx hb (C0.2.2.1.trans hl.1.symm) C0.2.2.2.1 (C0.2.2.2.2 _ mM10_9_48) (C0.2.2.2.2 _ mM10_3_47) (C0.2.2.2.2 _ mM10_1_25) (C0.2.2.2.2 _ mM10_3_48) (Nat.le_of_ble_eq_true rfl) (Nat.le_of_ble_eq_true rfl) (Nat.zero_le _) (Nat.zero_le _) dX12_longest_69 ?_
          refine lv_topi (fun x19 ex19 => ?_)
          have h := h x19 ex19
          refine lv_istore_n (lv' := [(1, .int x19), (3, .int r3), (0, .ref (b + adM 0 0)), (2, .int a2)]) hx hb dX12_longest_72 rfl hl (by decide) rfl (fun ls hl => ?_)
          exact Bw_X12_longest_73 C0 hr hlk hT ih9 x19 a2 S18 _ _ _ h hR hS (lv_sub hl [2, 0, 3] rfl)
def B_X12_longest_9 (n9 : Nat) (a1 : Int32) (a2 : Int32) (S : sSt) (k : Int32 → sSt → Prop) : Prop := (Nat.rec (motive := fun _ => Int32 → Int32 → sSt → Prop) (fun _ _ _ => False) (fun _ r9 => fun a1 a2 S => Bb_X12_longest_9 r9 a1 a2 S k) n9 : Int32 → Int32 → sSt → Prop) a1 a2 S
theorem B_X12_longest_9_s (n9 : Nat) (a1 : Int32) (a2 : Int32) (S : sSt) (k : Int32 → sSt → Prop) : B_X12_longest_9 (n9 + 1) a1 a2 S k = Bb_X12_longest_9 (fun a1 a2 S => B_X12_longest_9 n9 a1 a2 S k) a1 a2 S k := rfl
set_option maxHeartbeats 4000000 in
set_option maxRecDepth 100000 in
theorem Bw_X12_longest_9 {p : Program} {l : Launch} {e : Env} {s : State} {m : MethodId} {args : Array Value} {below : List Frame} {meth : Method} {c : Code} {D : va_G} {cy : Nat → ClassId} {b z : Nat} {tx : TX} (C0 : CallFix p m c cX12_longest 4 s args TB RX12) (hr : meth.sig.returnType = (some .int)) (hlk : meth.locks = false) (hT : TxR tx s) {k : Int32 → sSt → Prop} : ∀ (n9 : Nat), ∀ (a1 : Int32) (a2 : Int32) (S : sSt) (H : Heap) (locs : List Loc) (ls : Array Slot) , B_X12_longest_9 n9 a1 a2 S k → RelM D cy b z tx S s H → va_S (gA b 12 z) s.heap H locs → lv_has ls 4 [(0, .ref (b + adM 0 0)), (1, .int a1), (2, .int a2)] → W p l e rm_X12_longest s m args below meth c H locs 0 0 (MQ below (PiM D cy b z tx k) args s 0 0 (gA b 12 z)) (F0 m 9 ls []) := by
  intro n9
  induction n9 with
  | zero => intro a1 a2 S H locs ls h; exact h.elim
  | succ n9 ih =>
    intro a1 a2 S H locs ls h hR hS hl
    exact Bbw_X12_longest_9 C0 hr hlk hT ih a1 a2 S H locs ls h hR hS hl
def F_X12_longest (S : sSt) (k : Int32 → sSt → Prop) : Prop := ∀ S1, S1 = uI S 0 0 0 0 → B_X12_longest_9 fuel 0 0 S1 k
set_option maxHeartbeats 4000000 in
set_option maxRecDepth 100000 in
theorem c_X12_longest (l : Launch) {D : va_G} {cy : Nat → ClassId} {b z : Nat} {tx : TX} {S : sSt} {k : Int32 → sSt → Prop} (h : F_X12_longest S k) : Met l yX12_longest (Cond.code yX12_longest cX12_longest 4 (some .int) :: TB) rm_X12_longest (va_Pc [.ref (b + adM 0 0)] (fun U => RelM D cy b z tx S U U.heap ∧ TxR tx U)) (PiM D cy b z tx k) 0 0 (gA b 12 z) := by
  refine Met.ofW (cc := cX12_longest) (maxL := 4) (ret := (some .int)) (by decide) rfl ?_
  intro p e s m args below meth c s₁ B hml hv
  obtain ⟨rfl, hR, hT⟩ := hv
  have C0 : CallFix p m c cX12_longest 4 s _ TB RX12 := ⟨B.exec, B.bytes, hml, findClass_of_methodNamed B.named, fun w hw => atoms_spec B.pre w (List.mem_cons_of_mem _ hw)⟩
  have hr := B.returns
  have hlk := B.notSynchronized
  have hx := C0.1
  have hb := C0.2.1
  have hS : va_S (gA b 12 z) s.heap s.heap [] := va_S.rf
  have hl := lv_entry ([.ref (b + adM 0 0)]) (n := 4) (Nat.le_of_ble_eq_true rfl)
  rw [lg_entry_eq]
  generalize (lg_sl ([.ref (b + adM 0 0)]) ++ List.replicate (4 - (lg_sl ([.ref (b + adM 0 0)])).length) Slot.unset).toArray = ls at hl ⊢
  have hl : lv_has ls 4 [(0, .ref (b + adM 0 0))] := hl
  show W p l e rm_X12_longest s m _ below meth c s.heap [] 0 0 (MQ below (PiM D cy b z tx k) _ s 0 0 (gA b 12 z)) _
  unfold F_X12_longest at h
  refine lv_aload_n hx hb dX12_longest_0 rfl (lv_at hl 0 rfl) ?_
  refine lv_iconst (v := 0) hx hb dX12_longest_1 (by decide) ?_
  refine pM_0_0 C0 hR hS Nat.zero_lt_one tbs_wsX120 mM10_7_77 dX12_longest_2 (fun S1 eS1 H locs hR hS => ?_)
  have h := h S1 eS1
  refine lv_iconst (v := 0) hx hb dX12_longest_5 (by decide) ?_
  refine lv_istore_n (lv' := [(1, .int 0), (0, .ref (b + adM 0 0))]) hx hb dX12_longest_6 rfl hl (by decide) rfl (fun ls hl => ?_)
  refine lv_iconst (v := 0) hx hb dX12_longest_7 (by decide) ?_
  refine lv_istore_n (lv' := [(2, .int 0), (1, .int 0), (0, .ref (b + adM 0 0))]) hx hb dX12_longest_8 rfl hl (by decide) rfl (fun ls hl => ?_)
  exact Bw_X12_longest_9 C0 hr hlk hT fuel 0 0 S1 _ _ _ h hR hS (lv_sub hl [2, 1, 0] rfl)

def rm_X12_firstHeld : Room := { frames := 2, cells := 0, slots := 0, locals := 42 }
def B_X12_firstHeld_38 (kk10 : Int32 → Int32 → sSt → Prop) (a1 : Int32) (a2 : Int32) (S : sSt) (k : Int32 → sSt → Prop) : Prop := ∀ x8 : Int32, x8 = a2 + (-1) → kk10 a1 x8 S
set_option maxHeartbeats 4000000 in
set_option maxRecDepth 100000 in
theorem Bw_X12_firstHeld_38 {p : Program} {l : Launch} {e : Env} {s : State} {m : MethodId} {args : Array Value} {below : List Frame} {meth : Method} {c : Code} {D : va_G} {cy : Nat → ClassId} {b z : Nat} {tx : TX} (C0 : CallFix p m c cX12_firstHeld 3 s args TB RX12) (hr : meth.sig.returnType = (some .int)) (hlk : meth.locks = false) (hT : TxR tx s) {k : Int32 → sSt → Prop} {kk10 : Int32 → Int32 → sSt → Prop} (ih10 : ∀ (a1 : Int32) (a2 : Int32) (S : sSt) (H : Heap) (locs : List Loc) (ls : Array Slot) , kk10 a1 a2 S → RelM D cy b z tx S s H → va_S (gA b 12 z) s.heap H locs → lv_has ls 3 [(0, .ref (b + adM 0 0)), (1, .int a1), (2, .int a2)] → W p l e rm_X12_firstHeld s m args below meth c H locs 0 0 (MQ below (PiM D cy b z tx k) args s 0 0 (gA b 12 z)) (F0 m 10 ls [])) : ∀ (a1 : Int32) (a2 : Int32) (S : sSt) (H : Heap) (locs : List Loc) (ls : Array Slot) , B_X12_firstHeld_38 kk10 a1 a2 S k → RelM D cy b z tx S s H → va_S (gA b 12 z) s.heap H locs → lv_has ls 3 [(0, .ref (b + adM 0 0)), (1, .int a1), (2, .int a2)] → W p l e rm_X12_firstHeld s m args below meth c H locs 0 0 (MQ below (PiM D cy b z tx k) args s 0 0 (gA b 12 z)) (F0 m 38 ls []) := by
  intro a1 a2 S H locs ls h hR hS hl
  have hx := C0.1
  have hb := C0.2.1
  unfold B_X12_firstHeld_38 at h
  obtain ⟨x8, ex8⟩ : ∃ x8 : Int32, x8 = a2 + (-1) := ⟨_, rfl⟩
  have h := h x8 ex8
  refine w_iinc (v0 := (-1)) (lv' := [(2, .int x8), (0, .ref (b + adM 0 0)), (1, .int a1)]) C0 dX12_firstHeld_38 hl (k := 2) rfl (by decide) (by decide) x8 ex8 rfl (fun ls hl => ?_)
  refine lv_goto (tgt := 10) hx hb dX12_firstHeld_41 (by decide) ?_
  exact ih10 a1 x8 S _ _ _  h hR hS (lv_sub hl [1, 2, 0] rfl)
def Bb_X12_firstHeld_10 (kk10 : Int32 → Int32 → sSt → Prop) (a1 : Int32) (a2 : Int32) (S : sSt) (k : Int32 → sSt → Prop) : Prop := ((a2 < 0 → k a2 S) ∧ (¬ a2 < 0 → F_X12_ofLog a2 1 S (fun r3 S4 => F_X12_numberOf a1 S4 (fun r5 S6 => ((¬ r3 = r5 → B_X12_firstHeld_38 kk10 a1 a2 S6 k) ∧ (r3 = r5 → F_X12_ofLog a2 2 S6 (fun r9 S10 => ((r9 = 1 → k a2 S10) ∧ (¬ r9 = 1 → B_X12_firstHeld_38 kk10 a1 a2 S10 k)))))))))
set_option maxHeartbeats 4000000 in
set_option maxRecDepth 100000 in
theorem Bbw_X12_firstHeld_10 {p : Program} {l : Launch} {e : Env} {s : State} {m : MethodId} {args : Array Value} {below : List Frame} {meth : Method} {c : Code} {D : va_G} {cy : Nat → ClassId} {b z : Nat} {tx : TX} (C0 : CallFix p m c cX12_firstHeld 3 s args TB RX12) (hr : meth.sig.returnType = (some .int)) (hlk : meth.locks = false) (hT : TxR tx s) {k : Int32 → sSt → Prop} {kk10 : Int32 → Int32 → sSt → Prop} (ih10 : ∀ (a1 : Int32) (a2 : Int32) (S : sSt) (H : Heap) (locs : List Loc) (ls : Array Slot) , kk10 a1 a2 S → RelM D cy b z tx S s H → va_S (gA b 12 z) s.heap H locs → lv_has ls 3 [(0, .ref (b + adM 0 0)), (1, .int a1), (2, .int a2)] → W p l e rm_X12_firstHeld s m args below meth c H locs 0 0 (MQ below (PiM D cy b z tx k) args s 0 0 (gA b 12 z)) (F0 m 10 ls [])) : ∀ (a1 : Int32) (a2 : Int32) (S : sSt) (H : Heap) (locs : List Loc) (ls : Array Slot) , Bb_X12_firstHeld_10 kk10 a1 a2 S k → RelM D cy b z tx S s H → va_S (gA b 12 z) s.heap H locs → lv_has ls 3 [(0, .ref (b + adM 0 0)), (1, .int a1), (2, .int a2)] → W p l e rm_X12_firstHeld s m args below meth c H locs 0 0 (MQ below (PiM D cy b z tx k) args s 0 0 (gA b 12 z)) (F0 m 10 ls []) := by
  intro a1 a2 S H locs ls h hR hS hl
  have hx := C0.1
  have hb := C0.2.1
  unfold Bb_X12_firstHeld_10 at h
  refine lv_iload_n hx hb dX12_firstHeld_10 rfl (lv_at hl 2 rfl) ?_
  refine lv_if_lt (tgt := 44) hx hb dX12_firstHeld_11 (by decide) (fun c2 => ?_) (fun c2 => ?_)
  · have h := h.1 c2
    refine lv_iload_n hx hb dX12_firstHeld_44 rfl (lv_at hl 2 rfl) ?_
    exact rtM_i C0 hr hlk hR hS h dX12_firstHeld_45
  · have h := h.2 c2
    refine lv_aload_n hx hb dX12_firstHeld_14 rfl (lv_at hl 0 rfl) ?_
    refine lv_iload_n hx hb dX12_firstHeld_15 rfl (lv_at hl 2 rfl) ?_
    refine lv_iconst (v := 1) hx hb dX12_firstHeld_16 (by decide) ?_
    refine qM_Vi (As := [.int a2, .int 1]) (rest := []) C0 (c_X12_ofLog l h) (cwV 2 C0.2.2.2.2 (tbV mM10_9_177 ⟨mM10_9_179, mpM10_7_11, mM10_1_11, mM10_9_180⟩) rfl rfl rfl (by decide +kernel) ⟨Nat.le_of_ble_eq_true rfl, Nat.le_of_ble_eq_true rfl⟩) (rcM_0 hR Nat.zero_lt_one) hR hT hS rfl hl.1 rfl (Nat.le_of_ble_eq_true rfl) dX12_firstHeld_17 ⟨Nat.zero_le _, Nat.zero_le _⟩ (fun r3 S4 H locs h hR hS => ?_)
    refine lv_aload_n hx hb dX12_firstHeld_20 rfl (lv_at hl 0 rfl) ?_
    refine lv_iload_n hx hb dX12_firstHeld_21 rfl (lv_at hl 1 rfl) ?_
    refine qM_Vi (As := [.int a1]) (rest := [.int r3]) C0 (c_X12_numberOf l h) (cwV 1 C0.2.2.2.2 (tbV mM10_7_202 ⟨mM10_7_204, mpM10_3_3, mM10_1_11, mM10_7_205⟩) rfl rfl rfl (by decide +kernel) ⟨Nat.le_of_ble_eq_true rfl, Nat.le_of_ble_eq_true rfl⟩) (rcM_0 hR Nat.zero_lt_one) hR hT hS rfl hl.1 rfl (Nat.le_of_ble_eq_true rfl) dX12_firstHeld_22 ⟨Nat.zero_le _, Nat.zero_le _⟩ (fun r5 S6 H locs h hR hS => ?_)
    refine lv_icmp_ne (tgt := 38) hx hb dX12_firstHeld_25 (by decide) (fun c7 => ?_) (fun c7 => ?_)
    · have h := h.1 c7
      exact Bw_X12_firstHeld_38 C0 hr hlk hT ih10 a1 a2 S6 _ _ _ h hR hS (lv_sub hl [0, 1, 2] rfl)
    · have h := h.2 c7
      refine lv_aload_n hx hb dX12_firstHeld_28 rfl (lv_at hl 0 rfl) ?_
      refine lv_iload_n hx hb dX12_firstHeld_29 rfl (lv_at hl 2 rfl) ?_
      refine lv_iconst (v := 2) hx hb dX12_firstHeld_30 (by decide) ?_
      refine qM_Vi (As := [.int a2, .int 2]) (rest := []) C0 (c_X12_ofLog l h) (cwV 2 C0.2.2.2.2 (tbV mM10_9_177 ⟨mM10_9_179, mpM10_7_11, mM10_1_11, mM10_9_180⟩) rfl rfl rfl (by decide +kernel) ⟨Nat.le_of_ble_eq_true rfl, Nat.le_of_ble_eq_true rfl⟩) (rcM_0 hR Nat.zero_lt_one) hR hT hS rfl hl.1 rfl (Nat.le_of_ble_eq_true rfl) dX12_firstHeld_31 ⟨Nat.zero_le _, Nat.zero_le _⟩ (fun r9 S10 H locs h hR hS => ?_)
      refine lv_iconst (v := 1) hx hb dX12_firstHeld_34 (by decide) ?_
      refine lv_icmp_eq (tgt := 44) hx hb dX12_firstHeld_35 (by decide) (fun c11 => ?_) (fun c11 => ?_)
      · have h := h.1 c11
        refine lv_iload_n hx hb dX12_firstHeld_44 rfl (lv_at hl 2 rfl) ?_
        exact rtM_i C0 hr hlk hR hS h dX12_firstHeld_45
      · have h := h.2 c11
        exact Bw_X12_firstHeld_38 C0 hr hlk hT ih10 a1 a2 S10 _ _ _ h hR hS (lv_sub hl [0, 1, 2] rfl)
def B_X12_firstHeld_10 (n9 : Nat) (a1 : Int32) (a2 : Int32) (S : sSt) (k : Int32 → sSt → Prop) : Prop := (Nat.rec (motive := fun _ => Int32 → Int32 → sSt → Prop) (fun _ _ _ => False) (fun _ r9 => fun a1 a2 S => Bb_X12_firstHeld_10 r9 a1 a2 S k) n9 : Int32 → Int32 → sSt → Prop) a1 a2 S
theorem B_X12_firstHeld_10_s (n9 : Nat) (a1 : Int32) (a2 : Int32) (S : sSt) (k : Int32 → sSt → Prop) : B_X12_firstHeld_10 (n9 + 1) a1 a2 S k = Bb_X12_firstHeld_10 (fun a1 a2 S => B_X12_firstHeld_10 n9 a1 a2 S k) a1 a2 S k := rfl
set_option maxHeartbeats 4000000 in
set_option maxRecDepth 100000 in
theorem Bw_X12_firstHeld_10 {p : Program} {l : Launch} {e : Env} {s : State} {m : MethodId} {args : Array Value} {below : List Frame} {meth : Method} {c : Code} {D : va_G} {cy : Nat → ClassId} {b z : Nat} {tx : TX} (C0 : CallFix p m c cX12_firstHeld 3 s args TB RX12) (hr : meth.sig.returnType = (some .int)) (hlk : meth.locks = false) (hT : TxR tx s) {k : Int32 → sSt → Prop} : ∀ (n9 : Nat), ∀ (a1 : Int32) (a2 : Int32) (S : sSt) (H : Heap) (locs : List Loc) (ls : Array Slot) , B_X12_firstHeld_10 n9 a1 a2 S k → RelM D cy b z tx S s H → va_S (gA b 12 z) s.heap H locs → lv_has ls 3 [(0, .ref (b + adM 0 0)), (1, .int a1), (2, .int a2)] → W p l e rm_X12_firstHeld s m args below meth c H locs 0 0 (MQ below (PiM D cy b z tx k) args s 0 0 (gA b 12 z)) (F0 m 10 ls []) := by
  intro n9
  induction n9 with
  | zero => intro a1 a2 S H locs ls h; exact h.elim
  | succ n9 ih =>
    intro a1 a2 S H locs ls h hR hS hl
    exact Bbw_X12_firstHeld_10 C0 hr hlk hT ih a1 a2 S H locs ls h hR hS hl
def F_X12_firstHeld (a1 : Int32) (S : sSt) (k : Int32 → sSt → Prop) : Prop := ∀ x1 : Int32, x1 = ((S.1 1 0 14) - 1) → B_X12_firstHeld_10 fuel a1 x1 S k
set_option maxHeartbeats 4000000 in
set_option maxRecDepth 100000 in
theorem c_X12_firstHeld (l : Launch) {D : va_G} {cy : Nat → ClassId} {b z : Nat} {tx : TX} {a1 : Int32} {S : sSt} {k : Int32 → sSt → Prop} (h : F_X12_firstHeld a1 S k) : Met l yX12_firstHeld (Cond.code yX12_firstHeld cX12_firstHeld 3 (some .int) :: TB) rm_X12_firstHeld (va_Pc [.ref (b + adM 0 0), .int a1] (fun U => RelM D cy b z tx S U U.heap ∧ TxR tx U)) (PiM D cy b z tx k) 0 0 (gA b 12 z) := by
  refine Met.ofW (cc := cX12_firstHeld) (maxL := 3) (ret := (some .int)) (by decide) rfl ?_
  intro p e s m args below meth c s₁ B hml hv
  obtain ⟨rfl, hR, hT⟩ := hv
  have C0 : CallFix p m c cX12_firstHeld 3 s _ TB RX12 := ⟨B.exec, B.bytes, hml, findClass_of_methodNamed B.named, fun w hw => atoms_spec B.pre w (List.mem_cons_of_mem _ hw)⟩
  have hr := B.returns
  have hlk := B.notSynchronized
  have hx := C0.1
  have hb := C0.2.1
  have hS : va_S (gA b 12 z) s.heap s.heap [] := va_S.rf
  have hl := lv_entry ([.ref (b + adM 0 0), .int a1]) (n := 3) (Nat.le_of_ble_eq_true rfl)
  rw [lg_entry_eq]
  generalize (lg_sl ([.ref (b + adM 0 0), .int a1]) ++ List.replicate (3 - (lg_sl ([.ref (b + adM 0 0), .int a1])).length) Slot.unset).toArray = ls at hl ⊢
  have hl : lv_has ls 3 [(0, .ref (b + adM 0 0)), (1, .int a1)] := hl
  show W p l e rm_X12_firstHeld s m _ below meth c s.heap [] 0 0 (MQ below (PiM D cy b z tx k) _ s 0 0 (gA b 12 z)) _
  unfold F_X12_firstHeld at h
  refine lv_aload_n hx hb dX12_firstHeld_0 rfl (lv_at hl 0 rfl) ?_
  refine gM_0_2 C0 hR Nat.zero_lt_one tbs_wsX120 mM10_7_79 dX12_firstHeld_1 ?_
  refine lv_bipush (v := 14) hx hb dX12_firstHeld_4 (by decide) ?_
  refine lM_1 C0 hR Nat.zero_lt_one (by decide) rfl dX12_firstHeld_6 ?_
  refine lv_iconst (v := 1) hx hb dX12_firstHeld_7 (by decide) ?_
  refine lv_isub hx hb dX12_firstHeld_8 ?_
  refine lv_topi (fun x1 ex1 => ?_)
  have h := h x1 ex1
  refine lv_istore_n (lv' := [(2, .int x1), (0, .ref (b + adM 0 0)), (1, .int a1)]) hx hb dX12_firstHeld_9 rfl hl (by decide) rfl (fun ls hl => ?_)
  exact Bw_X12_firstHeld_10 C0 hr hlk hT fuel a1 x1 S _ _ _ h hR hS (lv_sub hl [1, 2, 0] rfl)
