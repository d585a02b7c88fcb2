theorem mM11_7_77 : Cond.fieldLink RX12 3 "ClaimTableModel" "thrown" "I" ∈ TB := tbT_7 _ (List.mem_of_getElem? (i := 77) rfl) rfl
theorem mM11_8_37 : Cond.methodLink RX12 66 yX12_in ∈ TB := tbT_8 _ (List.mem_of_getElem? (i := 37) rfl) rfl
theorem mM11_8_39 : Cond.code yX12_in cX12_in 3 (some .boolean) ∈ TB := tbT_8 _ (List.mem_of_getElem? (i := 39) rfl) rfl
theorem mM11_8_38 : Cond.static yX12_in ∈ TB := tbT_8 _ (List.mem_of_getElem? (i := 38) rfl) rfl
theorem mM11_1_11 : Cond.initialized RX12 ∈ TB := tbT_1 _ (List.mem_of_getElem? (i := 11) rfl) rfl
theorem mM11_8_25 : Cond.methodLink RX12 199 yX12_throwsIf ∈ TB := tbT_8 _ (List.mem_of_getElem? (i := 25) rfl) rfl
theorem mM11_8_28 : Cond.code yX12_throwsIf cX12_throwsIf 3 (some .boolean) ∈ TB := tbT_8 _ (List.mem_of_getElem? (i := 28) rfl) rfl
theorem mM11_8_27 : Cond.instanceMethod yX12_throwsIf ∈ TB := tbT_8 _ (List.mem_of_getElem? (i := 27) rfl) rfl
theorem mpM11_3_13 : Cond.selects RX12 yX12_throwsIf yX12_throwsIf ∈ TB := tbP_3 (yX12_throwsIf, 19) (List.mem_of_getElem? (i := 13) rfl)
theorem mM11_8_122 : Cond.methodLink RX12 73 yX12_isIn ∈ TB := tbT_8 _ (List.mem_of_getElem? (i := 122) rfl) rfl
theorem mM11_8_125 : Cond.code yX12_isIn cX12_isIn 2 (some .boolean) ∈ TB := tbT_8 _ (List.mem_of_getElem? (i := 125) rfl) rfl
theorem mM11_8_124 : Cond.instanceMethod yX12_isIn ∈ TB := tbT_8 _ (List.mem_of_getElem? (i := 124) rfl) rfl
theorem mpM11_4_13 : Cond.selects RX12 yX12_isIn yX12_isIn ∈ TB := tbP_4 (yX12_isIn, 19) (List.mem_of_getElem? (i := 13) rfl)
theorem mM11_9_193 : Cond.methodLink RX12 424 yX12_firstHeld ∈ TB := tbT_9 _ (List.mem_of_getElem? (i := 193) rfl) rfl
theorem mM11_9_196 : Cond.code yX12_firstHeld cX12_firstHeld 3 (some .int) ∈ TB := tbT_9 _ (List.mem_of_getElem? (i := 196) rfl) rfl
theorem mM11_9_195 : Cond.instanceMethod yX12_firstHeld ∈ TB := tbT_9 _ (List.mem_of_getElem? (i := 195) rfl) rfl
theorem mpM11_7_13 : Cond.selects RX12 yX12_firstHeld yX12_firstHeld ∈ TB := tbP_7 (yX12_firstHeld, 19) (List.mem_of_getElem? (i := 13) rfl)
theorem mM11_8_187 : Cond.methodLink RX12 292 yX12_isOf ∈ TB := tbT_8 _ (List.mem_of_getElem? (i := 187) rfl) rfl
theorem mM11_8_190 : Cond.code yX12_isOf cX12_isOf 3 (some .boolean) ∈ TB := tbT_8 _ (List.mem_of_getElem? (i := 190) rfl) rfl
theorem mM11_8_189 : Cond.instanceMethod yX12_isOf ∈ TB := tbT_8 _ (List.mem_of_getElem? (i := 189) rfl) rfl
theorem mpM11_5_10 : Cond.selects RX12 yX12_isOf yX12_isOf ∈ TB := tbP_5 (yX12_isOf, 19) (List.mem_of_getElem? (i := 10) rfl)
theorem mM11_7_202 : Cond.methodLink RX12 59 yX12_numberOf ∈ TB := tbT_7 _ (List.mem_of_getElem? (i := 202) rfl) rfl
theorem mM11_7_205 : Cond.code yX12_numberOf cX12_numberOf 2 (some .int) ∈ TB := tbT_7 _ (List.mem_of_getElem? (i := 205) rfl) rfl
theorem mM11_7_204 : Cond.instanceMethod yX12_numberOf ∈ TB := tbT_7 _ (List.mem_of_getElem? (i := 204) rfl) rfl
theorem mpM11_3_3 : Cond.selects RX12 yX12_numberOf yX12_numberOf ∈ TB := tbP_3 (yX12_numberOf, 19) (List.mem_of_getElem? (i := 3) rfl)
theorem mM11_7_79 : Cond.fieldLink RX12 13 "ClaimTableModel" "world" "[I" ∈ TB := tbT_7 _ (List.mem_of_getElem? (i := 79) rfl) rfl
theorem mM11_9_177 : Cond.methodLink RX12 418 yX12_ofLog ∈ TB := tbT_9 _ (List.mem_of_getElem? (i := 177) rfl) rfl
theorem mM11_9_180 : Cond.code yX12_ofLog cX12_ofLog 3 (some .int) ∈ TB := tbT_9 _ (List.mem_of_getElem? (i := 180) rfl) rfl
theorem mM11_9_179 : Cond.instanceMethod yX12_ofLog ∈ TB := tbT_9 _ (List.mem_of_getElem? (i := 179) rfl) rfl
theorem mpM11_7_11 : Cond.selects RX12 yX12_ofLog yX12_ofLog ∈ TB := tbP_7 (yX12_ofLog, 19) (List.mem_of_getElem? (i := 11) rfl)
theorem mM11_8_223 : Cond.methodLink RX12 337 yX12_jobFor ∈ TB := tbT_8 _ (List.mem_of_getElem? (i := 223) rfl) rfl
theorem mM11_8_226 : Cond.code yX12_jobFor cX12_jobFor 5 (some .int) ∈ TB := tbT_8 _ (List.mem_of_getElem? (i := 226) rfl) rfl
theorem mM11_8_225 : Cond.instanceMethod yX12_jobFor ∈ TB := tbT_8 _ (List.mem_of_getElem? (i := 225) rfl) rfl
theorem mpM11_6_2 : Cond.selects RX12 yX12_jobFor yX12_jobFor ∈ TB := tbP_6 (yX12_jobFor, 19) (List.mem_of_getElem? (i := 2) rfl)
theorem mM11_7_74 : Cond.methodLink RX12 51 yX12_jobAt ∈ TB := tbT_7 _ (List.mem_of_getElem? (i := 74) rfl) rfl
theorem mM11_7_76 : Cond.code yX12_jobAt cX12_jobAt 2 (some .int) ∈ TB := tbT_7 _ (List.mem_of_getElem? (i := 76) rfl) rfl
theorem mM11_7_75 : Cond.static yX12_jobAt ∈ TB := tbT_7 _ (List.mem_of_getElem? (i := 75) rfl) rfl
theorem mM11_8_106 : Cond.methodLink RX12 70 yX12_lockerOf ∈ TB := tbT_8 _ (List.mem_of_getElem? (i := 106) rfl) rfl
theorem mM11_8_109 : Cond.code yX12_lockerOf cX12_lockerOf 2 (some .int) ∈ TB := tbT_8 _ (List.mem_of_getElem? (i := 109) rfl) rfl
theorem mM11_8_108 : Cond.instanceMethod yX12_lockerOf ∈ TB := tbT_8 _ (List.mem_of_getElem? (i := 108) rfl) rfl
theorem mpM11_4_10 : Cond.selects RX12 yX12_lockerOf yX12_lockerOf ∈ TB := tbP_4 (yX12_lockerOf, 19) (List.mem_of_getElem? (i := 10) rfl)
theorem mM11_8_134 : Cond.methodLink RX12 263 yX12_behindNumber ∈ TB := tbT_8 _ (List.mem_of_getElem? (i := 134) rfl) rfl
theorem mM11_8_137 : Cond.code yX12_behindNumber cX12_behindNumber 4 (some .int) ∈ TB := tbT_8 _ (List.mem_of_getElem? (i := 137) rfl) rfl
theorem mM11_8_136 : Cond.instanceMethod yX12_behindNumber ∈ TB := tbT_8 _ (List.mem_of_getElem? (i := 136) rfl) rfl
theorem mpM11_4_15 : Cond.selects RX12 yX12_behindNumber yX12_behindNumber ∈ TB := tbP_4 (yX12_behindNumber, 19) (List.mem_of_getElem? (i := 15) rfl)
theorem mM11_9_213 : Cond.methodLink RX12 427 yX12_isOfKind ∈ TB := tbT_9 _ (List.mem_of_getElem? (i := 213) rfl) rfl
theorem mM11_9_216 : Cond.code yX12_isOfKind cX12_isOfKind 4 (some .boolean) ∈ TB := tbT_9 _ (List.mem_of_getElem? (i := 216) rfl) rfl
theorem mM11_9_215 : Cond.instanceMethod yX12_isOfKind ∈ TB := tbT_9 _ (List.mem_of_getElem? (i := 215) rfl) rfl
theorem mpM11_7_14 : Cond.selects RX12 yX12_isOfKind yX12_isOfKind ∈ TB := tbP_7 (yX12_isOfKind, 19) (List.mem_of_getElem? (i := 14) rfl)
theorem mM11_8_95 : Cond.methodLink RX12 279 yX12_opened ∈ TB := tbT_8 _ (List.mem_of_getElem? (i := 95) rfl) rfl
theorem mM11_8_98 : Cond.code yX12_opened cX12_opened 3 (some .int) ∈ TB := tbT_8 _ (List.mem_of_getElem? (i := 98) rfl) rfl
theorem mM11_8_97 : Cond.instanceMethod yX12_opened ∈ TB := tbT_8 _ (List.mem_of_getElem? (i := 97) rfl) rfl
theorem mpM11_4_9 : Cond.selects RX12 yX12_opened yX12_opened ∈ TB := tbP_4 (yX12_opened, 19) (List.mem_of_getElem? (i := 9) rfl)
def rm_X12_overtaken : Room := { frames := 5, cells := 0, slots := 0, locals := 106 }
def B_X12_overtaken_131 (kk33 : Int32 → Int32 → Int32 → sSt → Prop) (kk42 : Int32 → Int32 → Int32 → Int32 → sSt → Prop) (a1 : Int32) (a3 : Int32) (a4 : Int32) (t0 : Int32) (t1 : Int32) (S : sSt) (k : Int32 → sSt → Prop) : Prop := ∀ x15 : Int32, x15 = (t0 + t1) → ∀ x16 : Int32, x16 = a4 + 1 → kk42 a1 x15 a3 x16 S
set_option maxHeartbeats 4000000 in
set_option maxRecDepth 100000 in
theorem Bw_X12_overtaken_131 {p : Program} {l : Launch} {e : Env} {s : State} {m : MethodId} {args : Array Value} {below : List Frame} {meth : Method} {c : Code} {D : va_G} {cy : Nat → ClassId} {b z : Nat} {tx : TX} (C0 : CallFix p m c cX12_overtaken 6 s args TB RX12) (hr : meth.sig.returnType = (some .int)) (hlk : meth.locks = false) (hT : TxR tx s) {k : Int32 → sSt → Prop} {kk33 : Int32 → Int32 → Int32 → sSt → Prop} {kk42 : Int32 → Int32 → Int32 → Int32 → sSt → Prop} (ih33 : ∀ (a1 : Int32) (a2 : Int32) (a3 : Int32) (S : sSt) (H : Heap) (locs : List Loc) (ls : Array Slot) , kk33 a1 a2 a3 S → RelM D cy b z tx S s H → va_S (gA b 12 z) s.heap H locs → lv_has ls 6 [(0, .ref (b + adM 0 0)), (1, .int a1), (2, .int a2), (3, .int a3)] → W p l e rm_X12_overtaken s m args below meth c H locs 0 0 (MQ below (PiM D cy b z tx k) args s 0 0 (gA b 12 z)) (F0 m 33 ls [])) (ih42 : ∀ (a1 : Int32) (a2 : Int32) (a3 : Int32) (a4 : Int32) (S : sSt) (H : Heap) (locs : List Loc) (ls : Array Slot) , kk42 a1 a2 a3 a4 S → RelM D cy b z tx S s H → va_S (gA b 12 z) s.heap H locs → lv_has ls 6 [(0, .ref (b + adM 0 0)), (1, .int a1), (2, .int a2), (3, .int a3), (4, .int a4)] → W p l e rm_X12_overtaken s m args below meth c H locs 0 0 (MQ below (PiM D cy b z tx k) args s 0 0 (gA b 12 z)) (F0 m 42 ls [])) : ∀ (a1 : Int32) (a3 : Int32) (a4 : Int32) (t0 : Int32) (t1 : Int32) (S : sSt) (H : Heap) (locs : List Loc) (ls : Array Slot) , B_X12_overtaken_131 kk33 kk42 a1 a3 a4 t0 t1 S k → RelM D cy b z tx S s H → va_S (gA b 12 z) s.heap H locs → lv_has ls 6 [(0, .ref (b + adM 0 0)), (1, .int a1), (3, .int a3), (4, .int a4)] → W p l e rm_X12_overtaken s m args below meth c H locs 0 0 (MQ below (PiM D cy b z tx k) args s 0 0 (gA b 12 z)) (F0 m 131 ls [.int t1, .int t0]) := by
  intro a1 a3 a4 t0 t1 S H locs ls h hR hS hl
  have hx := C0.1
  have hb := C0.2.1
  unfold B_X12_overtaken_131 at h
  refine lv_iadd hx hb dX12_overtaken_131 ?_
  refine lv_topi (fun x15 ex15 => ?_)
  have h := h x15 ex15
  refine lv_istore_n (lv' := [(2, .int x15), (0, .ref (b + adM 0 0)), (1, .int a1), (3, .int a3), (4, .int a4)]) hx hb dX12_overtaken_132 rfl hl (by decide) rfl (fun ls hl => ?_)
  obtain ⟨x16, ex16⟩ : ∃ x16 : Int32, x16 = a4 + 1 := ⟨_, rfl⟩
  have h := h x16 ex16
  refine w_iinc (v0 := 1) (lv' := [(4, .int x16), (2, .int x15), (0, .ref (b + adM 0 0)), (1, .int a1), (3, .int a3)]) C0 dX12_overtaken_133 hl (k := 4) rfl (by decide) (by decide) x16 ex16 rfl (fun ls hl => ?_)
  refine lv_goto (tgt := 42) hx hb dX12_overtaken_136 (by decide) ?_
  exact ih42 a1 x15 a3 x16 S _ _ _  h hR hS (lv_sub hl [2, 3, 1, 4, 0] rfl)
def B_X12_overtaken_130 (kk33 : Int32 → Int32 → Int32 → sSt → Prop) (kk42 : Int32 → Int32 → Int32 → Int32 → sSt → Prop) (a1 : Int32) (a3 : Int32) (a4 : Int32) (t0 : Int32) (S : sSt) (k : Int32 → sSt → Prop) : Prop := B_X12_overtaken_131 kk33 kk42 a1 a3 a4 t0 0 S k
set_option maxHeartbeats 4000000 in
set_option maxRecDepth 100000 in
theorem Bw_X12_overtaken_130 {p : Program} {l : Launch} {e : Env} {s : State} {m : MethodId} {args : Array Value} {below : List Frame} {meth : Method} {c : Code} {D : va_G} {cy : Nat → ClassId} {b z : Nat} {tx : TX} (C0 : CallFix p m c cX12_overtaken 6 s args TB RX12) (hr : meth.sig.returnType = (some .int)) (hlk : meth.locks = false) (hT : TxR tx s) {k : Int32 → sSt → Prop} {kk33 : Int32 → Int32 → Int32 → sSt → Prop} {kk42 : Int32 → Int32 → Int32 → Int32 → sSt → Prop} (ih33 : ∀ (a1 : Int32) (a2 : Int32) (a3 : Int32) (S : sSt) (H : Heap) (locs : List Loc) (ls : Array Slot) , kk33 a1 a2 a3 S → RelM D cy b z tx S s H → va_S (gA b 12 z) s.heap H locs → lv_has ls 6 [(0, .ref (b + adM 0 0)), (1, .int a1), (2, .int a2), (3, .int a3)] → W p l e rm_X12_overtaken s m args below meth c H locs 0 0 (MQ below (PiM D cy b z tx k) args s 0 0 (gA b 12 z)) (F0 m 33 ls [])) (ih42 : ∀ (a1 : Int32) (a2 : Int32) (a3 : Int32) (a4 : Int32) (S : sSt) (H : Heap) (locs : List Loc) (ls : Array Slot) , kk42 a1 a2 a3 a4 S → RelM D cy b z tx S s H → va_S (gA b 12 z) s.heap H locs → lv_has ls 6 [(0, .ref (b + adM 0 0)), (1, .int a1), (2, .int a2), (3, .int a3), (4, .int a4)] → W p l e rm_X12_overtaken s m args below meth c H locs 0 0 (MQ below (PiM D cy b z tx k) args s 0 0 (gA b 12 z)) (F0 m 42 ls [])) : ∀ (a1 : Int32) (a3 : Int32) (a4 : Int32) (t0 : Int32) (S : sSt) (H : Heap) (locs : List Loc) (ls : Array Slot) , B_X12_overtaken_130 kk33 kk42 a1 a3 a4 t0 S k → RelM D cy b z tx S s H → va_S (gA b 12 z) s.heap H locs → lv_has ls 6 [(0, .ref (b + adM 0 0)), (1, .int a1), (3, .int a3), (4, .int a4)] → W p l e rm_X12_overtaken s m args below meth c H locs 0 0 (MQ below (PiM D cy b z tx k) args s 0 0 (gA b 12 z)) (F0 m 130 ls [.int t0]) := by
  intro a1 a3 a4 t0 S H locs ls h hR hS hl
  have hx := C0.1
  have hb := C0.2.1
  unfold B_X12_overtaken_130 at h
  refine lv_iconst (v := 0) hx hb dX12_overtaken_130 (by decide) ?_
  exact Bw_X12_overtaken_131 C0 hr hlk hT ih33 ih42 a1 a3 a4 t0 0 S _ _ _ h hR hS (lv_sub hl [0, 1, 2, 3] rfl)
def B_X12_overtaken_104 (kk33 : Int32 → Int32 → Int32 → sSt → Prop) (kk42 : Int32 → Int32 → Int32 → Int32 → sSt → Prop) (a1 : Int32) (a2 : Int32) (a3 : Int32) (a4 : Int32) (t0 : Int32) (S : sSt) (k : Int32 → sSt → Prop) : Prop := ((t0 = 0 → B_X12_overtaken_130 kk33 kk42 a1 a3 a4 a2 S k) ∧ (¬ t0 = 0 → F_X12_firstHeld a3 S (fun r17 S18 => F_X12_firstHeld a4 S18 (fun r19 S20 => ((r17 ≤ r19 → B_X12_overtaken_130 kk33 kk42 a1 a3 a4 a2 S20 k) ∧ (¬ r17 ≤ r19 → B_X12_overtaken_131 kk33 kk42 a1 a3 a4 a2 1 S20 k))))))
set_option maxHeartbeats 4000000 in
set_option maxRecDepth 100000 in
theorem Bw_X12_overtaken_104 {p : Program} {l : Launch} {e : Env} {s : State} {m : MethodId} {args : Array Value} {below : List Frame} {meth : Method} {c : Code} {D : va_G} {cy : Nat → ClassId} {b z : Nat} {tx : TX} (C0 : CallFix p m c cX12_overtaken 6 s args TB RX12) (hr : meth.sig.returnType = (some .int)) (hlk : meth.locks = false) (hT : TxR tx s) {k : Int32 → sSt → Prop} {kk33 : Int32 → Int32 → Int32 → sSt → Prop} {kk42 : Int32 → Int32 → Int32 → Int32 → sSt → Prop} (ih33 : ∀ (a1 : Int32) (a2 : Int32) (a3 : Int32) (S : sSt) (H : Heap) (locs : List Loc) (ls : Array Slot) , kk33 a1 a2 a3 S → RelM D cy b z tx S s H → va_S (gA b 12 z) s.heap H locs → lv_has ls 6 [(0, .ref (b + adM 0 0)), (1, .int a1), (2, .int a2), (3, .int a3)] → W p l e rm_X12_overtaken s m args below meth c H locs 0 0 (MQ below (PiM D cy b z tx k) args s 0 0 (gA b 12 z)) (F0 m 33 ls [])) (ih42 : ∀ (a1 : Int32) (a2 : Int32) (a3 : Int32) (a4 : Int32) (S : sSt) (H : Heap) (locs : List Loc) (ls : Array Slot) , kk42 a1 a2 a3 a4 S → RelM D cy b z tx S s H → va_S (gA b 12 z) s.heap H locs → lv_has ls 6 [(0, .ref (b + adM 0 0)), (1, .int a1), (2, .int a2), (3, .int a3), (4, .int a4)] → W p l e rm_X12_overtaken s m args below meth c H locs 0 0 (MQ below (PiM D cy b z tx k) args s 0 0 (gA b 12 z)) (F0 m 42 ls [])) : ∀ (a1 : Int32) (a2 : Int32) (a3 : Int32) (a4 : Int32) (t0 : Int32) (S : sSt) (H : Heap) (locs : List Loc) (ls : Array Slot) , B_X12_overtaken_104 kk33 kk42 a1 a2 a3 a4 t0 S k → RelM D cy b z tx S s H → va_S (gA b 12 z) s.heap H locs → lv_has ls 6 [(0, .ref (b + adM 0 0)), (1, .int a1), (2, .int a2), (3, .int a3), (4, .int a4)] → W p l e rm_X12_overtaken s m args below meth c H locs 0 0 (MQ below (PiM D cy b z tx k) args s 0 0 (gA b 12 z)) (F0 m 104 ls [.int t0]) := by
  intro a1 a2 a3 a4 t0 S H locs ls h hR hS hl
  have hx := C0.1
  have hb := C0.2.1
  unfold B_X12_overtaken_104 at h
  refine lv_istore (lv' := [(5, .int t0), (0, .ref (b + adM 0 0)), (1, .int a1), (2, .int a2), (3, .int a3), (4, .int a4)]) hx hb dX12_overtaken_104 hl (by decide) rfl (fun ls hl => ?_)
  refine lv_iload_n hx hb dX12_overtaken_106 rfl (lv_at hl 3 rfl) ?_
  refine lv_iload hx hb dX12_overtaken_107 (lv_at hl 0 rfl) ?_
  refine lv_if_eq (tgt := 130) hx hb dX12_overtaken_109 (by decide) (fun c14 => ?_) (fun c14 => ?_)
  · have h := h.1 c14
    exact Bw_X12_overtaken_130 C0 hr hlk hT ih33 ih42 a1 a3 a4 a2 S _ _ _ h hR hS (lv_sub hl [1, 2, 4, 5] rfl)
  · have h := h.2 c14
    refine lv_aload_n hx hb dX12_overtaken_112 rfl (lv_at hl 1 rfl) ?_
    refine lv_iload_n hx hb dX12_overtaken_113 rfl (lv_at hl 4 rfl) ?_
    refine qM_Vi (As := [.int a3]) (rest := [.int a2]) C0 (c_X12_firstHeld l h) (cwV 1 C0.2.2.2.2 (tbV mM11_9_193 ⟨mM11_9_195, mpM11_7_13, mM11_1_11, mM11_9_196⟩) rfl rfl rfl (by decide +kernel) ⟨Nat.le_of_ble_eq_true rfl, Nat.le_of_ble_eq_true rfl⟩) (rcM_0 hR Nat.zero_lt_one) hR hT hS rfl hl.1 rfl (Nat.le_of_ble_eq_true rfl) dX12_overtaken_114 ⟨Nat.zero_le _, Nat.zero_le _⟩ (fun r17 S18 H locs h hR hS => ?_)
    refine lv_aload_n hx hb dX12_overtaken_117 rfl (lv_at hl 1 rfl) ?_
    refine lv_iload hx hb dX12_overtaken_118 (lv_at hl 5 rfl) ?_
    refine qM_Vi (As := [.int a4]) (rest := [.int r17, .int a2]) C0 (c_X12_firstHeld l h) (cwV 1 C0.2.2.2.2 (tbV mM11_9_193 ⟨mM11_9_195, mpM11_7_13, mM11_1_11, mM11_9_196⟩) rfl rfl rfl (by decide +kernel) ⟨Nat.le_of_ble_eq_true rfl, Nat.le_of_ble_eq_true rfl⟩) (rcM_0 hR Nat.zero_lt_one) hR hT hS rfl hl.1 rfl (Nat.le_of_ble_eq_true rfl) dX12_overtaken_120 ⟨Nat.zero_le _, Nat.zero_le _⟩ (fun r19 S20 H locs h hR hS => ?_)
    refine lv_icmp_le (tgt := 130) hx hb dX12_overtaken_123 (by decide) (fun c21 => ?_) (fun c21 => ?_)
    · have h := h.1 c21
      exact Bw_X12_overtaken_130 C0 hr hlk hT ih33 ih42 a1 a3 a4 a2 S20 _ _ _ h hR hS (lv_sub hl [1, 2, 4, 5] rfl)
    · have h := h.2 c21
      refine lv_iconst (v := 1) hx hb dX12_overtaken_126 (by decide) ?_
      refine lv_goto (tgt := 131) hx hb dX12_overtaken_127 (by decide) ?_
      exact Bw_X12_overtaken_131 C0 hr hlk hT ih33 ih42 a1 a3 a4 a2 1 S20 _ _ _ h hR hS (lv_sub hl [1, 2, 4, 5] rfl)
def B_X12_overtaken_103 (kk33 : Int32 → Int32 → Int32 → sSt → Prop) (kk42 : Int32 → Int32 → Int32 → Int32 → sSt → Prop) (a1 : Int32) (a2 : Int32) (a3 : Int32) (a4 : Int32) (S : sSt) (k : Int32 → sSt → Prop) : Prop := B_X12_overtaken_104 kk33 kk42 a1 a2 a3 a4 0 S k
set_option maxHeartbeats 4000000 in
set_option maxRecDepth 100000 in
theorem Bw_X12_overtaken_103 {p : Program} {l : Launch} {e : Env} {s : State} {m : MethodId} {args : Array Value} {below : List Frame} {meth : Method} {c : Code} {D : va_G} {cy : Nat → ClassId} {b z : Nat} {tx : TX} (C0 : CallFix p m c cX12_overtaken 6 s args TB RX12) (hr : meth.sig.returnType = (some .int)) (hlk : meth.locks = false) (hT : TxR tx s) {k : Int32 → sSt → Prop} {kk33 : Int32 → Int32 → Int32 → sSt → Prop} {kk42 : Int32 → Int32 → Int32 → Int32 → sSt → Prop} (ih33 : ∀ (a1 : Int32) (a2 : Int32) (a3 : Int32) (S : sSt) (H : Heap) (locs : List Loc) (ls : Array Slot) , kk33 a1 a2 a3 S → RelM D cy b z tx S s H → va_S (gA b 12 z) s.heap H locs → lv_has ls 6 [(0, .ref (b + adM 0 0)), (1, .int a1), (2, .int a2), (3, .int a3)] → W p l e rm_X12_overtaken s m args below meth c H locs 0 0 (MQ below (PiM D cy b z tx k) args s 0 0 (gA b 12 z)) (F0 m 33 ls [])) (ih42 : ∀ (a1 : Int32) (a2 : Int32) (a3 : Int32) (a4 : Int32) (S : sSt) (H : Heap) (locs : List Loc) (ls : Array Slot) , kk42 a1 a2 a3 a4 S → RelM D cy b z tx S s H → va_S (gA b 12 z) s.heap H locs → lv_has ls 6 [(0, .ref (b + adM 0 0)), (1, .int a1), (2, .int a2), (3, .int a3), (4, .int a4)] → W p l e rm_X12_overtaken s m args below meth c H locs 0 0 (MQ below (PiM D cy b z tx k) args s 0 0 (gA b 12 z)) (F0 m 42 ls [])) : ∀ (a1 : Int32) (a2 : Int32) (a3 : Int32) (a4 : Int32) (S : sSt) (H : Heap) (locs : List Loc) (ls : Array Slot) , B_X12_overtaken_103 kk33 kk42 a1 a2 a3 a4 S k → RelM D cy b z tx S s H → va_S (gA b 12 z) s.heap H locs → lv_has ls 6 [(0, .ref (b + adM 0 0)), (1, .int a1), (2, .int a2), (3, .int a3), (4, .int a4)] → W p l e rm_X12_overtaken s m args below meth c H locs 0 0 (MQ below (PiM D cy b z tx k) args s 0 0 (gA b 12 z)) (F0 m 103 ls []) := by
  intro a1 a2 a3 a4 S H locs ls h hR hS hl
  have hx := C0.1
  have hb := C0.2.1
  unfold B_X12_overtaken_103 at h
  refine lv_iconst (v := 0) hx hb dX12_overtaken_103 (by decide) ?_
  exact Bw_X12_overtaken_104 C0 hr hlk hT ih33 ih42 a1 a2 a3 a4 0 S _ _ _ h hR hS (lv_sub hl [0, 1, 2, 3, 4] rfl)
def Bb_X12_overtaken_42 (kk33 : Int32 → Int32 → Int32 → sSt → Prop) (kk42 : Int32 → Int32 → Int32 → Int32 → sSt → Prop) (a1 : Int32) (a2 : Int32) (a3 : Int32) (a4 : Int32) (S : sSt) (k : Int32 → sSt → Prop) : Prop := ((24 ≤ a4 → ∀ x10 : Int32, x10 = a3 + 1 → kk33 a1 a2 x10 S) ∧ (¬ 24 ≤ a4 → F_X12_isIn a3 S (fun r11 S12 => ((r11 = 0 → B_X12_overtaken_103 kk33 kk42 a1 a2 a3 a4 S12 k) ∧ (¬ r11 = 0 → F_X12_isIn a4 S12 (fun r22 S23 => ((r22 = 0 → B_X12_overtaken_103 kk33 kk42 a1 a2 a3 a4 S23 k) ∧ (¬ r22 = 0 → F_X12_isOf a3 a1 S23 (fun r25 S26 => ((r25 = 0 → B_X12_overtaken_103 kk33 kk42 a1 a2 a3 a4 S26 k) ∧ (¬ r25 = 0 → F_X12_isOf a4 a1 S26 (fun r28 S29 => ((r28 = 0 → B_X12_overtaken_103 kk33 kk42 a1 a2 a3 a4 S29 k) ∧ (¬ r28 = 0 → F_X12_numberOf a3 S29 (fun r31 S32 => F_X12_numberOf a4 S32 (fun r33 S34 => ((r31 ≤ r33 → B_X12_overtaken_103 kk33 kk42 a1 a2 a3 a4 S34 k) ∧ (¬ r31 ≤ r33 → B_X12_overtaken_104 kk33 kk42 a1 a2 a3 a4 1 S34 k))))))))))))))))))
set_option maxHeartbeats 4000000 in
set_option maxRecDepth 100000 in
theorem Bbw_X12_overtaken_42 {p : Program} {l : Launch} {e : Env} {s : State} {m : MethodId} {args : Array Value} {below : List Frame} {meth : Method} {c : Code} {D : va_G} {cy : Nat → ClassId} {b z : Nat} {tx : TX} (C0 : CallFix p m c cX12_overtaken 6 s args TB RX12) (hr : meth.sig.returnType = (some .int)) (hlk : meth.locks = false) (hT : TxR tx s) {k : Int32 → sSt → Prop} {kk33 : Int32 → Int32 → Int32 → sSt → Prop} {kk42 : Int32 → Int32 → Int32 → Int32 → sSt → Prop} (ih33 : ∀ (a1 : Int32) (a2 : Int32) (a3 : Int32) (S : sSt) (H : Heap) (locs : List Loc) (ls : Array Slot) , kk33 a1 a2 a3 S → RelM D cy b z tx S s H → va_S (gA b 12 z) s.heap H locs → lv_has ls 6 [(0, .ref (b + adM 0 0)), (1, .int a1), (2, .int a2), (3, .int a3)] → W p l e rm_X12_overtaken s m args below meth c H locs 0 0 (MQ below (PiM D cy b z tx k) args s 0 0 (gA b 12 z)) (F0 m 33 ls [])) (ih42 : ∀ (a1 : Int32) (a2 : Int32) (a3 : Int32) (a4 : Int32) (S : sSt) (H : Heap) (locs : List Loc) (ls : Array Slot) , kk42 a1 a2 a3 a4 S → RelM D cy b z tx S s H → va_S (gA b 12 z) s.heap H locs → lv_has ls 6 [(0, .ref (b + adM 0 0)), (1, .int a1), (2, .int a2), (3, .int a3), (4, .int a4)] → W p l e rm_X12_overtaken s m args below meth c H locs 0 0 (MQ below (PiM D cy b z tx k) args s 0 0 (gA b 12 z)) (F0 m 42 ls [])) : ∀ (a1 : Int32) (a2 : Int32) (a3 : Int32) (a4 : Int32) (S : sSt) (H : Heap) (locs : List Loc) (ls : Array Slot) , Bb_X12_overtaken_42 kk33 kk42 a1 a2 a3 a4 S k → RelM D cy b z tx S s H → va_S (gA b 12 z) s.heap H locs → lv_has ls 6 [(0, .ref (b + adM 0 0)), (1, .int a1), (2, .int a2), (3, .int a3), (4, .int a4)] → W p l e rm_X12_overtaken s m args below meth c H locs 0 0 (MQ below (PiM D cy b z tx k) args s 0 0 (gA b 12 z)) (F0 m 42 ls []) := by
  intro a1 a2 a3 a4 S H locs ls h hR hS hl
  have hx := C0.1
  have hb := C0.2.1
  unfold Bb_X12_overtaken_42 at h
  refine lv_iload hx hb dX12_overtaken_42 (lv_at hl 4 rfl) ?_
  refine lv_bipush (v := 24) hx hb dX12_overtaken_44 (by decide) ?_
  refine lv_icmp_ge (tgt := 139) hx hb dX12_overtaken_46 (by decide) (fun c9 => ?_) (fun c9 => ?_)
  · have h := h.1 c9
    obtain ⟨x10, ex10⟩ : ∃ x10 : Int32, x10 = a3 + 1 := ⟨_, rfl⟩
    have h := h x10 ex10
    refine w_iinc (v0 := 1) (lv' := [(3, .int x10), (0, .ref (b + adM 0 0)), (1, .int a1), (2, .int a2), (4, .int a4)]) C0 dX12_overtaken_139 hl (k := 3) rfl (by decide) (by decide) x10 ex10 rfl (fun ls hl => ?_)
    refine lv_goto (tgt := 33) hx hb dX12_overtaken_142 (by decide) ?_
    exact ih33 a1 a2 x10 S _ _ _  h hR hS (lv_sub hl [1, 2, 3, 0] rfl)
  · have h := h.2 c9
    refine lv_aload_n hx hb dX12_overtaken_49 rfl (lv_at hl 0 rfl) ?_
    refine lv_iload_n hx hb dX12_overtaken_50 rfl (lv_at hl 3 rfl) ?_
    refine qM_Vi (As := [.int a3]) (rest := []) C0 (c_X12_isIn l h) (cwV 1 C0.2.2.2.2 (tbV mM11_8_122 ⟨mM11_8_124, mpM11_4_13, mM11_1_11, mM11_8_125⟩) rfl rfl rfl (by decide +kernel) ⟨Nat.le_of_ble_eq_true rfl, Nat.le_of_ble_eq_true rfl⟩) (rcM_0 hR Nat.zero_lt_one) hR hT hS rfl hl.1 rfl (Nat.le_of_ble_eq_true rfl) dX12_overtaken_51 ⟨Nat.zero_le _, Nat.zero_le _⟩ (fun r11 S12 H locs h hR hS => ?_)
    refine lv_if_eq (tgt := 103) hx hb dX12_overtaken_54 (by decide) (fun c13 => ?_) (fun c13 => ?_)
    · have h := h.1 c13
      exact Bw_X12_overtaken_103 C0 hr hlk hT ih33 ih42 a1 a2 a3 a4 S12 _ _ _ h hR hS (lv_sub hl [0, 1, 2, 3, 4] rfl)
    · have h := h.2 c13
      refine lv_aload_n hx hb dX12_overtaken_57 rfl (lv_at hl 0 rfl) ?_
      refine lv_iload hx hb dX12_overtaken_58 (lv_at hl 4 rfl) ?_
      refine qM_Vi (As := [.int a4]) (rest := []) C0 (c_X12_isIn l h) (cwV 1 C0.2.2.2.2 (tbV mM11_8_122 ⟨mM11_8_124, mpM11_4_13, mM11_1_11, mM11_8_125⟩) rfl rfl rfl (by decide +kernel) ⟨Nat.le_of_ble_eq_true rfl, Nat.le_of_ble_eq_true rfl⟩) (rcM_0 hR Nat.zero_lt_one) hR hT hS rfl hl.1 rfl (Nat.le_of_ble_eq_true rfl) dX12_overtaken_60 ⟨Nat.zero_le _, Nat.zero_le _⟩ (fun r22 S23 H locs h hR hS => ?_)
      refine lv_if_eq (tgt := 103) hx hb dX12_overtaken_63 (by decide) (fun c24 => ?_) (fun c24 => ?_)
      · have h := h.1 c24
        exact Bw_X12_overtaken_103 C0 hr hlk hT ih33 ih42 a1 a2 a3 a4 S23 _ _ _ h hR hS (lv_sub hl [0, 1, 2, 3, 4] rfl)
      · have h := h.2 c24
        refine lv_aload_n hx hb dX12_overtaken_66 rfl (lv_at hl 0 rfl) ?_
        refine lv_iload_n hx hb dX12_overtaken_67 rfl (lv_at hl 3 rfl) ?_
        refine lv_iload_n hx hb dX12_overtaken_68 rfl (lv_at hl 1 rfl) ?_
        refine qM_Vi (As := [.int a3, .int a1]) (rest := []) C0 (c_X12_isOf l h) (cwV 2 C0.2.2.2.2 (tbV mM11_8_187 ⟨mM11_8_189, mpM11_5_10, mM11_1_11, mM11_8_190⟩) rfl rfl rfl (by decide +kernel) ⟨Nat.le_of_ble_eq_true rfl, Nat.le_of_ble_eq_true rfl⟩) (rcM_0 hR Nat.zero_lt_one) hR hT hS rfl hl.1 rfl (Nat.le_of_ble_eq_true rfl) dX12_overtaken_69 ⟨Nat.zero_le _, Nat.zero_le _⟩ (fun r25 S26 H locs h hR hS => ?_)
        refine lv_if_eq (tgt := 103) hx hb dX12_overtaken_72 (by decide) (fun c27 => ?_) (fun c27 => ?_)
        · have h := h.1 c27
          exact Bw_X12_overtaken_103 C0 hr hlk hT ih33 ih42 a1 a2 a3 a4 S26 _ _ _ h hR hS (lv_sub hl [0, 1, 2, 3, 4] rfl)
        · have h := h.2 c27
          refine lv_aload_n hx hb dX12_overtaken_75 rfl (lv_at hl 0 rfl) ?_
          refine lv_iload hx hb dX12_overtaken_76 (lv_at hl 4 rfl) ?_
          refine lv_iload_n hx hb dX12_overtaken_78 rfl (lv_at hl 1 rfl) ?_
          refine qM_Vi (As := [.int a4, .int a1]) (rest := []) C0 (c_X12_isOf l h) (cwV 2 C0.2.2.2.2 (tbV mM11_8_187 ⟨mM11_8_189, mpM11_5_10, mM11_1_11, mM11_8_190⟩) rfl rfl rfl (by decide +kernel) ⟨Nat.le_of_ble_eq_true rfl, Nat.le_of_ble_eq_true rfl⟩) (rcM_0 hR Nat.zero_lt_one) hR hT hS rfl hl.1 rfl (Nat.le_of_ble_eq_true rfl) dX12_overtaken_79 ⟨Nat.zero_le _, Nat.zero_le _⟩ (fun r28 S29 H locs h hR hS => ?_)
          refine lv_if_eq (tgt := 103) hx hb dX12_overtaken_82 (by decide) (fun c30 => ?_) (fun c30 => ?_)
          · have h := h.1 c30
            exact Bw_X12_overtaken_103 C0 hr hlk hT ih33 ih42 a1 a2 a3 a4 S29 _ _ _ h hR hS (lv_sub hl [0, 1, 2, 3, 4] rfl)
          · have h := h.2 c30
            refine lv_aload_n hx hb dX12_overtaken_85 rfl (lv_at hl 0 rfl) ?_
            refine lv_iload_n hx hb dX12_overtaken_86 rfl (lv_at hl 3 rfl) ?_
            refine qM_Vi (As := [.int a3]) (rest := []) C0 (c_X12_numberOf l h) (cwV 1 C0.2.2.2.2 (tbV mM11_7_202 ⟨mM11_7_204, mpM11_3_3, mM11_1_11, mM11_7_205⟩) rfl rfl rfl (by decide +kernel) ⟨Nat.le_of_ble_eq_true rfl, Nat.le_of_ble_eq_true rfl⟩) (rcM_0 hR Nat.zero_lt_one) hR hT hS rfl hl.1 rfl (Nat.le_of_ble_eq_true rfl) dX12_overtaken_87 ⟨Nat.zero_le _, Nat.zero_le _⟩ (fun r31 S32 H locs h hR hS => ?_)
            refine lv_aload_n hx hb dX12_overtaken_90 rfl (lv_at hl 0 rfl) ?_
            refine lv_iload hx hb dX12_overtaken_91 (lv_at hl 4 rfl) ?_
            refine qM_Vi (As := [.int a4]) (rest := [.int r31]) C0 (c_X12_numberOf l h) (cwV 1 C0.2.2.2.2 (tbV mM11_7_202 ⟨mM11_7_204, mpM11_3_3, mM11_1_11, mM11_7_205⟩) rfl rfl rfl (by decide +kernel) ⟨Nat.le_of_ble_eq_true rfl, Nat.le_of_ble_eq_true rfl⟩) (rcM_0 hR Nat.zero_lt_one) hR hT hS rfl hl.1 rfl (Nat.le_of_ble_eq_true rfl) dX12_overtaken_93 ⟨Nat.zero_le _, Nat.zero_le _⟩ (fun r33 S34 H locs h hR hS => ?_)
            refine lv_icmp_le (tgt := 103) hx hb dX12_overtaken_96 (by decide) (fun c35 => ?_) (fun c35 => ?_)
            · have h := h.1 c35
              exact Bw_X12_overtaken_103 C0 hr hlk hT ih33 ih42 a1 a2 a3 a4 S34 _ _ _ h hR hS (lv_sub hl [0, 1, 2, 3, 4] rfl)
            · have h := h.2 c35
              refine lv_iconst (v := 1) hx hb dX12_overtaken_99 (by decide) ?_
              refine lv_goto (tgt := 104) hx hb dX12_overtaken_100 (by decide) ?_
              exact Bw_X12_overtaken_104 C0 hr hlk hT ih33 ih42 a1 a2 a3 a4 1 S34 _ _ _ h hR hS (lv_sub hl [0, 1, 2, 3, 4] rfl)
def B_X12_overtaken_42 (kk33 : Int32 → Int32 → Int32 → sSt → Prop) (n9 : Nat) (a1 : Int32) (a2 : Int32) (a3 : Int32) (a4 : Int32) (S : sSt) (k : Int32 → sSt → Prop) : Prop := (Nat.rec (motive := fun _ => Int32 → Int32 → Int32 → Int32 → sSt → Prop) (fun _ _ _ _ _ => False) (fun _ r9 => fun a1 a2 a3 a4 S => Bb_X12_overtaken_42 kk33 r9 a1 a2 a3 a4 S k) n9 : Int32 → Int32 → Int32 → Int32 → sSt → Prop) a1 a2 a3 a4 S
theorem B_X12_overtaken_42_s (kk33 : Int32 → Int32 → Int32 → sSt → Prop) (n9 : Nat) (a1 : Int32) (a2 : Int32) (a3 : Int32) (a4 : Int32) (S : sSt) (k : Int32 → sSt → Prop) : B_X12_overtaken_42 kk33 (n9 + 1) a1 a2 a3 a4 S k = Bb_X12_overtaken_42 kk33 (fun a1 a2 a3 a4 S => B_X12_overtaken_42 kk33 n9 a1 a2 a3 a4 S k) a1 a2 a3 a4 S k := rfl
set_option maxHeartbeats 4000000 in
set_option maxRecDepth 100000 in
theorem Bw_X12_overtaken_42 {p : Program} {l : Launch} {e : Env} {s : State} {m : MethodId} {args : Array Value} {below : List Frame} {meth : Method} {c : Code} {D : va_G} {cy : Nat → ClassId} {b z : Nat} {tx : TX} (C0 : CallFix p m c cX12_overtaken 6 s args TB RX12) (hr : meth.sig.returnType = (some .int)) (hlk : meth.locks = false) (hT : TxR tx s) {k : Int32 → sSt → Prop} {kk33 : Int32 → Int32 → Int32 → sSt → Prop} (ih33 : ∀ (a1 : Int32) (a2 : Int32) (a3 : Int32) (S : sSt) (H : Heap) (locs : List Loc) (ls : Array Slot) , kk33 a1 a2 a3 S → RelM D cy b z tx S s H → va_S (gA b 12 z) s.heap H locs → lv_has ls 6 [(0, .ref (b + adM 0 0)), (1, .int a1), (2, .int a2), (3, .int a3)] → W p l e rm_X12_overtaken s m args below meth c H locs 0 0 (MQ below (PiM D cy b z tx k) args s 0 0 (gA b 12 z)) (F0 m 33 ls [])) : ∀ (n9 : Nat), ∀ (a1 : Int32) (a2 : Int32) (a3 : Int32) (a4 : Int32) (S : sSt) (H : Heap) (locs : List Loc) (ls : Array Slot) , B_X12_overtaken_42 kk33 n9 a1 a2 a3 a4 S k → RelM D cy b z tx S s H → va_S (gA b 12 z) s.heap H locs → lv_has ls 6 [(0, .ref (b + adM 0 0)), (1, .int a1), (2, .int a2), (3, .int a3), (4, .int a4)] → W p l e rm_X12_overtaken s m args below meth c H locs 0 0 (MQ below (PiM D cy b z tx k) args s 0 0 (gA b 12 z)) (F0 m 42 ls []) := by
  intro n9
  induction n9 with
  | zero => intro a1 a2 a3 a4 S H locs ls h; exact h.elim
  | succ n9 ih =>
    intro a1 a2 a3 a4 S H locs ls h hR hS hl
    exact Bbw_X12_overtaken_42 C0 hr hlk hT ih33 ih a1 a2 a3 a4 S H locs ls h hR hS hl
def Bb_X12_overtaken_33 (kk33 : Int32 → Int32 → Int32 → sSt → Prop) (a1 : Int32) (a2 : Int32) (a3 : Int32) (S : sSt) (k : Int32 → sSt → Prop) : Prop := ((24 ≤ a3 → k a2 S) ∧ (¬ 24 ≤ a3 → B_X12_overtaken_42 kk33 fuel a1 a2 a3 0 S k))
set_option maxHeartbeats 4000000 in
set_option maxRecDepth 100000 in
theorem Bbw_X12_overtaken_33 {p : Program} {l : Launch} {e : Env} {s : State} {m : MethodId} {args : Array Value} {below : List Frame} {meth : Method} {c : Code} {D : va_G} {cy : Nat → ClassId} {b z : Nat} {tx : TX} (C0 : CallFix p m c cX12_overtaken 6 s args TB RX12) (hr : meth.sig.returnType = (some .int)) (hlk : meth.locks = false) (hT : TxR tx s) {k : Int32 → sSt → Prop} {kk33 : Int32 → Int32 → Int32 → sSt → Prop} (ih33 : ∀ (a1 : Int32) (a2 : Int32) (a3 : Int32) (S : sSt) (H : Heap) (locs : List Loc) (ls : Array Slot) , kk33 a1 a2 a3 S → RelM D cy b z tx S s H → va_S (gA b 12 z) s.heap H locs → lv_has ls 6 [(0, .ref (b + adM 0 0)), (1, .int a1), (2, .int a2), (3, .int a3)] → W p l e rm_X12_overtaken s m args below meth c H locs 0 0 (MQ below (PiM D cy b z tx k) args s 0 0 (gA b 12 z)) (F0 m 33 ls [])) : ∀ (a1 : Int32) (a2 : Int32) (a3 : Int32) (S : sSt) (H : Heap) (locs : List Loc) (ls : Array Slot) , Bb_X12_overtaken_33 kk33 a1 a2 a3 S k → RelM D cy b z tx S s H → va_S (gA b 12 z) s.heap H locs → lv_has ls 6 [(0, .ref (b + adM 0 0)), (1, .int a1), (2, .int a2), (3, .int a3)] → W p l e rm_X12_overtaken s m args below meth c H locs 0 0 (MQ below (PiM D cy b z tx k) args s 0 0 (gA b 12 z)) (F0 m 33 ls []) := by
  intro a1 a2 a3 S H locs ls h hR hS hl
  have hx := C0.1
  have hb := C0.2.1
  unfold Bb_X12_overtaken_33 at h
  refine lv_iload_n hx hb dX12_overtaken_33 rfl (lv_at hl 3 rfl) ?_
  refine lv_bipush (v := 24) hx hb dX12_overtaken_34 (by decide) ?_
  refine lv_icmp_ge (tgt := 145) hx hb dX12_overtaken_36 (by decide) (fun c8 => ?_) (fun c8 => ?_)
  · have h := h.1 c8
    refine lv_iload_n hx hb dX12_overtaken_145 rfl (lv_at hl 2 rfl) ?_
    exact rtM_i C0 hr hlk hR hS h dX12_overtaken_146
  · have h := h.2 c8
    refine lv_iconst (v := 0) hx hb dX12_overtaken_39 (by decide) ?_
    refine lv_istore (lv' := [(4, .int 0), (0, .ref (b + adM 0 0)), (1, .int a1), (2, .int a2), (3, .int a3)]) hx hb dX12_overtaken_40 hl (by decide) rfl (fun ls hl => ?_)
    exact Bw_X12_overtaken_42 C0 hr hlk hT ih33 fuel a1 a2 a3 0 S _ _ _ h hR hS (lv_sub hl [1, 2, 3, 4, 0] rfl)
def B_X12_overtaken_33 (n9 : Nat) (a1 : Int32) (a2 : Int32) (a3 : Int32) (S : sSt) (k : Int32 → sSt → Prop) : Prop := (Nat.rec (motive := fun _ => Int32 → Int32 → Int32 → sSt → Prop) (fun _ _ _ _ => False) (fun _ r9 => fun a1 a2 a3 S => Bb_X12_overtaken_33 r9 a1 a2 a3 S k) n9 : Int32 → Int32 → Int32 → sSt → Prop) a1 a2 a3 S
theorem B_X12_overtaken_33_s (n9 : Nat) (a1 : Int32) (a2 : Int32) (a3 : Int32) (S : sSt) (k : Int32 → sSt → Prop) : B_X12_overtaken_33 (n9 + 1) a1 a2 a3 S k = Bb_X12_overtaken_33 (fun a1 a2 a3 S => B_X12_overtaken_33 n9 a1 a2 a3 S k) a1 a2 a3 S k := rfl
set_option maxHeartbeats 4000000 in
set_option maxRecDepth 100000 in
theorem Bw_X12_overtaken_33 {p : Program} {l : Launch} {e : Env} {s : State} {m : MethodId} {args : Array Value} {below : List Frame} {meth : Method} {c : Code} {D : va_G} {cy : Nat → ClassId} {b z : Nat} {tx : TX} (C0 : CallFix p m c cX12_overtaken 6 s args TB RX12) (hr : meth.sig.returnType = (some .int)) (hlk : meth.locks = false) (hT : TxR tx s) {k : Int32 → sSt → Prop} : ∀ (n9 : Nat), ∀ (a1 : Int32) (a2 : Int32) (a3 : Int32) (S : sSt) (H : Heap) (locs : List Loc) (ls : Array Slot) , B_X12_overtaken_33 n9 a1 a2 a3 S k → RelM D cy b z tx S s H → va_S (gA b 12 z) s.heap H locs → lv_has ls 6 [(0, .ref (b + adM 0 0)), (1, .int a1), (2, .int a2), (3, .int a3)] → W p l e rm_X12_overtaken s m args below meth c H locs 0 0 (MQ below (PiM D cy b z tx k) args s 0 0 (gA b 12 z)) (F0 m 33 ls []) := by
  intro n9
  induction n9 with
  | zero => intro a1 a2 a3 S H locs ls h; exact h.elim
  | succ n9 ih =>
    intro a1 a2 a3 S H locs ls h hR hS hl
    exact Bbw_X12_overtaken_33 C0 hr hlk hT ih a1 a2 a3 S H locs ls h hR hS hl
def B_X12_overtaken_20 (a1 : Int32) (t1 : Int32) (S : sSt) (k : Int32 → sSt → Prop) : Prop := F_X12_throwsIf t1 1 S (fun r5 S6 => ((r5 = 0 → B_X12_overtaken_33 fuel a1 0 0 S6 k) ∧ (¬ r5 = 0 → k 0 S6)))
set_option maxHeartbeats 4000000 in
set_option maxRecDepth 100000 in
theorem Bw_X12_overtaken_20 {p : Program} {l : Launch} {e : Env} {s : State} {m : MethodId} {args : Array Value} {below : List Frame} {meth : Method} {c : Code} {D : va_G} {cy : Nat → ClassId} {b z : Nat} {tx : TX} (C0 : CallFix p m c cX12_overtaken 6 s args TB RX12) (hr : meth.sig.returnType = (some .int)) (hlk : meth.locks = false) (hT : TxR tx s) {k : Int32 → sSt → Prop} : ∀ (a1 : Int32) (t1 : Int32) (S : sSt) (H : Heap) (locs : List Loc) (ls : Array Slot) , B_X12_overtaken_20 a1 t1 S k → RelM D cy b z tx S s H → va_S (gA b 12 z) s.heap H locs → lv_has ls 6 [(0, .ref (b + adM 0 0)), (1, .int a1)] → W p l e rm_X12_overtaken s m args below meth c H locs 0 0 (MQ below (PiM D cy b z tx k) args s 0 0 (gA b 12 z)) (F0 m 20 ls [.int t1, .ref (b + adM 0 0)]) := by
  intro a1 t1 S H locs ls h hR hS hl
  have hx := C0.1
  have hb := C0.2.1
  unfold B_X12_overtaken_20 at h
  refine lv_iconst (v := 1) hx hb dX12_overtaken_20 (by decide) ?_
  refine qM_Vi (As := [.int t1, .int 1]) (rest := []) C0 (c_X12_throwsIf l h) (cwV 2 C0.2.2.2.2 (tbV mM11_8_25 ⟨mM11_8_27, mpM11_3_13, mM11_1_11, mM11_8_28⟩) rfl rfl rfl (by decide +kernel) ⟨Nat.le_of_ble_eq_true rfl, Nat.le_of_ble_eq_true rfl⟩) (rcM_0 hR Nat.zero_lt_one) hR hT hS rfl hl.1 rfl (Nat.le_of_ble_eq_true rfl) dX12_overtaken_21 ⟨Nat.zero_le _, Nat.zero_le _⟩ (fun r5 S6 H locs h hR hS => ?_)
  refine lv_if_eq (tgt := 29) hx hb dX12_overtaken_24 (by decide) (fun c7 => ?_) (fun c7 => ?_)
  · have h := h.1 c7
    refine lv_iconst (v := 0) hx hb dX12_overtaken_29 (by decide) ?_
    refine lv_istore_n (lv' := [(2, .int 0), (0, .ref (b + adM 0 0)), (1, .int a1)]) hx hb dX12_overtaken_30 rfl hl (by decide) rfl (fun ls hl => ?_)
    refine lv_iconst (v := 0) hx hb dX12_overtaken_31 (by decide) ?_
    refine lv_istore_n (lv' := [(3, .int 0), (2, .int 0), (0, .ref (b + adM 0 0)), (1, .int a1)]) hx hb dX12_overtaken_32 rfl hl (by decide) rfl (fun ls hl => ?_)
    exact Bw_X12_overtaken_33 C0 hr hlk hT fuel a1 0 0 S6 _ _ _ h hR hS (lv_sub hl [2, 3, 1, 0] rfl)
  · have h := h.2 c7
    refine lv_iconst (v := 0) hx hb dX12_overtaken_27 (by decide) ?_
    exact rtM_i C0 hr hlk hR hS h dX12_overtaken_28
def F_X12_overtaken (a1 : Int32) (S : sSt) (k : Int32 → sSt → Prop) : Prop := ∀ S1, S1 = uI S 0 0 0 0 → F_X12_in a1 0 5 S1 (fun r2 S3 => ((¬ r2 = 0 → B_X12_overtaken_20 a1 0 S3 k) ∧ (r2 = 0 → B_X12_overtaken_20 a1 1 S3 k)))
set_option maxHeartbeats 4000000 in
set_option maxRecDepth 100000 in
theorem c_X12_overtaken (l : Launch) {D : va_G} {cy : Nat → ClassId} {b z : Nat} {tx : TX} {a1 : Int32} {S : sSt} {k : Int32 → sSt → Prop} (h : F_X12_overtaken a1 S k) : Met l yX12_overtaken (Cond.code yX12_overtaken cX12_overtaken 6 (some .int) :: TB) rm_X12_overtaken (va_Pc [.ref (b + adM 0 0), .int a1] (fun U => RelM D cy b z tx S U U.heap ∧ TxR tx U)) (PiM D cy b z tx k) 0 0 (gA b 12 z) := by
  refine Met.ofW (cc := cX12_overtaken) (maxL := 6) (ret := (some .int)) (by decide) rfl ?_
  intro p e s m args below meth c s₁ B hml hv
  obtain ⟨rfl, hR, hT⟩ := hv
  have C0 : CallFix p m c cX12_overtaken 6 s _ TB RX12 := ⟨B.exec, B.bytes, hml, findClass_of_methodNamed B.named, fun w hw => atoms_spec B.pre w (List.mem_cons_of_mem _ hw)⟩
  have hr := B.returns
  have hlk := B.notSynchronized
  have hx := C0.1
  have hb := C0.2.1
  have hS : va_S (gA b 12 z) s.heap s.heap [] := va_S.rf
  have hl := lv_entry ([.ref (b + adM 0 0), .int a1]) (n := 6) (Nat.le_of_ble_eq_true rfl)
  rw [lg_entry_eq]
  generalize (lg_sl ([.ref (b + adM 0 0), .int a1]) ++ List.replicate (6 - (lg_sl ([.ref (b + adM 0 0), .int a1])).length) Slot.unset).toArray = ls at hl ⊢
  have hl : lv_has ls 6 [(0, .ref (b + adM 0 0)), (1, .int a1)] := hl
  show W p l e rm_X12_overtaken s m _ below meth c s.heap [] 0 0 (MQ below (PiM D cy b z tx k) _ s 0 0 (gA b 12 z)) _
  unfold F_X12_overtaken at h
  refine lv_aload_n hx hb dX12_overtaken_0 rfl (lv_at hl 0 rfl) ?_
  refine lv_iconst (v := 0) hx hb dX12_overtaken_1 (by decide) ?_
  refine pM_0_0 C0 hR hS Nat.zero_lt_one tbs_wsX120 mM11_7_77 dX12_overtaken_2 (fun S1 eS1 H locs hR hS => ?_)
  have h := h S1 eS1
  refine lv_aload_n hx hb dX12_overtaken_5 rfl (lv_at hl 0 rfl) ?_
  refine lv_iload_n hx hb dX12_overtaken_6 rfl (lv_at hl 1 rfl) ?_
  refine lv_iconst (v := 0) hx hb dX12_overtaken_7 (by decide) ?_
  refine lv_iconst (v := 5) hx hb dX12_overtaken_8 (by decide) ?_
  refine qM_Si (As := [.int a1, .int 0, .int 5]) (rest := [.ref (b + adM 0 0)]) C0 (c_X12_in l h) (va_cwS 3 C0.2.2.2.2 (tbS mM11_8_37 ⟨mM11_8_38, mM11_1_11, mM11_8_39⟩) rfl rfl rfl (by decide +kernel) ⟨Nat.le_of_ble_eq_true rfl, Nat.le_of_ble_eq_true rfl⟩) hR hT hS rfl hl.1 rfl (Nat.le_of_ble_eq_true rfl) dX12_overtaken_9 ⟨Nat.zero_le _, Nat.zero_le _⟩ (fun r2 S3 H locs h hR hS => ?_)
  refine lv_if_ne (tgt := 19) hx hb dX12_overtaken_12 (by decide) (fun c4 => ?_) (fun c4 => ?_)
  · have h := h.1 c4
    refine lv_iconst (v := 0) hx hb dX12_overtaken_19 (by decide) ?_
    exact Bw_X12_overtaken_20 C0 hr hlk hT a1 0 S3 _ _ _ h hR hS (lv_sub hl [0, 1] rfl)
  · have h := h.2 c4
    refine lv_iconst (v := 1) hx hb dX12_overtaken_15 (by decide) ?_
    refine lv_goto (tgt := 20) hx hb dX12_overtaken_16 (by decide) ?_
    exact Bw_X12_overtaken_20 C0 hr hlk hT a1 1 S3 _ _ _ h hR hS (lv_sub hl [0, 1] rfl)

def rm_X12_log : Room := { frames := 1, cells := 0, slots := 0, locals := 22 }
def B_X12_log_20 (a1 : Int32) (a2 : Int32) (t1 : Int32) (S : sSt) (k : Int32 → sSt → Prop) : Prop := F_X12_throwsIf t1 1 S (fun r5 S6 => ((r5 = 0 → F_X12_in a1 0 ((S6.1 1 0 14) - 1) S6 (fun r8 S9 => ((r8 = 0 → k (-1) S9) ∧ (¬ r8 = 0 → F_X12_ofLog a1 a2 S9 (fun r11 S12 => k r11 S12))))) ∧ (¬ r5 = 0 → k 0 S6)))
set_option maxHeartbeats 4000000 in
set_option maxRecDepth 100000 in
theorem Bw_X12_log_20 {p : Program} {l : Launch} {e : Env} {s : State} {m : MethodId} {args : Array Value} {below : List Frame} {meth : Method} {c : Code} {D : va_G} {cy : Nat → ClassId} {b z : Nat} {tx : TX} (C0 : CallFix p m c cX12_log 3 s args TB RX12) (hr : meth.sig.returnType = (some .int)) (hlk : meth.locks = false) (hT : TxR tx s) {k : Int32 → sSt → Prop} : ∀ (a1 : Int32) (a2 : Int32) (t1 : Int32) (S : sSt) (H : Heap) (locs : List Loc) (ls : Array Slot) , B_X12_log_20 a1 a2 t1 S k → RelM D cy b z tx S s H → va_S (gA b 12 z) s.heap H locs → lv_has ls 3 [(0, .ref (b + adM 0 0)), (1, .int a1), (2, .int a2)] → W p l e rm_X12_log s m args below meth c H locs 0 0 (MQ below (PiM D cy b z tx k) args s 0 0 (gA b 12 z)) (F0 m 20 ls [.int t1, .ref (b + adM 0 0)]) := by
  intro a1 a2 t1 S H locs ls h hR hS hl
  have hx := C0.1
  have hb := C0.2.1
  unfold B_X12_log_20 at h
  refine lv_iconst (v := 1) hx hb dX12_log_20 (by decide) ?_
  refine qM_Vi (As := [.int t1, .int 1]) (rest := []) C0 (c_X12_throwsIf l h) (cwV 2 C0.2.2.2.2 (tbV mM11_8_25 ⟨mM11_8_27, mpM11_3_13, mM11_1_11, mM11_8_28⟩) rfl rfl rfl (by decide +kernel) ⟨Nat.le_of_ble_eq_true rfl, Nat.le_of_ble_eq_true rfl⟩) (rcM_0 hR Nat.zero_lt_one) hR hT hS rfl hl.1 rfl (Nat.le_of_ble_eq_true rfl) dX12_log_21 ⟨Nat.zero_le _, Nat.zero_le _⟩ (fun r5 S6 H locs h hR hS => ?_)
  refine lv_if_eq (tgt := 29) hx hb dX12_log_24 (by decide) (fun c7 => ?_) (fun c7 => ?_)
  · have h := h.1 c7
    refine lv_iload_n hx hb dX12_log_29 rfl (lv_at hl 1 rfl) ?_
    refine lv_iconst (v := 0) hx hb dX12_log_30 (by decide) ?_
    refine lv_aload_n hx hb dX12_log_31 rfl (lv_at hl 0 rfl) ?_
    refine gM_0_2 C0 hR Nat.zero_lt_one tbs_wsX120 mM11_7_79 dX12_log_32 ?_
    refine lv_bipush (v := 14) hx hb dX12_log_35 (by decide) ?_
    refine lM_1 C0 hR Nat.zero_lt_one (by decide) rfl dX12_log_37 ?_
    refine lv_iconst (v := 1) hx hb dX12_log_38 (by decide) ?_
    refine lv_isub hx hb dX12_log_39 ?_
    refine qM_Si (As := [.int a1, .int 0, .int ((S6.1 1 0 14) - 1)]) (rest := []) C0 (c_X12_in l h) (va_cwS 3 C0.2.2.2.2 (tbS mM11_8_37 ⟨mM11_8_38, mM11_1_11, mM11_8_39⟩) rfl rfl rfl (by decide +kernel) ⟨Nat.le_of_ble_eq_true rfl, Nat.le_of_ble_eq_true rfl⟩) hR hT hS rfl hl.1 rfl (Nat.le_of_ble_eq_true rfl) dX12_log_40 ⟨Nat.zero_le _, Nat.zero_le _⟩ (fun r8 S9 H locs h hR hS => ?_)
    refine lv_if_eq (tgt := 55) hx hb dX12_log_43 (by decide) (fun c10 => ?_) (fun c10 => ?_)
    · have h := h.1 c10
      refine lv_iconst (v := (-1)) hx hb dX12_log_55 (by decide) ?_
      exact rtM_i C0 hr hlk hR hS h dX12_log_56
    · have h := h.2 c10
      refine lv_aload_n hx hb dX12_log_46 rfl (lv_at hl 0 rfl) ?_
      refine lv_iload_n hx hb dX12_log_47 rfl (lv_at hl 1 rfl) ?_
      refine lv_iload_n hx hb dX12_log_48 rfl (lv_at hl 2 rfl) ?_
      refine qM_Vi (As := [.int a1, .int a2]) (rest := []) C0 (c_X12_ofLog l h) (cwV 2 C0.2.2.2.2 (tbV mM11_9_177 ⟨mM11_9_179, mpM11_7_11, mM11_1_11, mM11_9_180⟩) rfl rfl rfl (by decide +kernel) ⟨Nat.le_of_ble_eq_true rfl, Nat.le_of_ble_eq_true rfl⟩) (rcM_0 hR Nat.zero_lt_one) hR hT hS rfl hl.1 rfl (Nat.le_of_ble_eq_true rfl) dX12_log_49 ⟨Nat.zero_le _, Nat.zero_le _⟩ (fun r11 S12 H locs h hR hS => ?_)
      refine lv_goto (tgt := 56) hx hb dX12_log_52 (by decide) ?_
      exact rtM_i C0 hr hlk hR hS h dX12_log_56
  · have h := h.2 c7
    refine lv_iconst (v := 0) hx hb dX12_log_27 (by decide) ?_
    exact rtM_i C0 hr hlk hR hS h dX12_log_28
def F_X12_log (a1 : Int32) (a2 : Int32) (S : sSt) (k : Int32 → sSt → Prop) : Prop := ∀ S1, S1 = uI S 0 0 0 0 → F_X12_in a2 0 4 S1 (fun r2 S3 => ((¬ r2 = 0 → B_X12_log_20 a1 a2 0 S3 k) ∧ (r2 = 0 → B_X12_log_20 a1 a2 1 S3 k)))
set_option maxHeartbeats 4000000 in
set_option maxRecDepth 100000 in
theorem c_X12_log (l : Launch) {D : va_G} {cy : Nat → ClassId} {b z : Nat} {tx : TX} {a1 : Int32} {a2 : Int32} {S : sSt} {k : Int32 → sSt → Prop} (h : F_X12_log a1 a2 S k) : Met l yX12_log (Cond.code yX12_log cX12_log 3 (some .int) :: TB) rm_X12_log (va_Pc [.ref (b + adM 0 0), .int a1, .int a2] (fun U => RelM D cy b z tx S U U.heap ∧ TxR tx U)) (PiM D cy b z tx k) 0 0 (gA b 12 z) := by
  refine Met.ofW (cc := cX12_log) (maxL := 3) (ret := (some .int)) (by decide) rfl ?_
  intro p e s m args below meth c s₁ B hml hv
  obtain ⟨rfl, hR, hT⟩ := hv
  have C0 : CallFix p m c cX12_log 3 s _ TB RX12 := ⟨B.exec, B.bytes, hml, findClass_of_methodNamed B.named, fun w hw => atoms_spec B.pre w (List.mem_cons_of_mem _ hw)⟩
  have hr := B.returns
  have hlk := B.notSynchronized
  have hx := C0.1
  have hb := C0.2.1
  have hS : va_S (gA b 12 z) s.heap s.heap [] := va_S.rf
  have hl := lv_entry ([.ref (b + adM 0 0), .int a1, .int a2]) (n := 3) (Nat.le_of_ble_eq_true rfl)
  rw [lg_entry_eq]
  generalize (lg_sl ([.ref (b + adM 0 0), .int a1, .int a2]) ++ List.replicate (3 - (lg_sl ([.ref (b + adM 0 0), .int a1, .int a2])).length) Slot.unset).toArray = ls at hl ⊢
  have hl : lv_has ls 3 [(0, .ref (b + adM 0 0)), (1, .int a1), (2, .int a2)] := hl
  show W p l e rm_X12_log s m _ below meth c s.heap [] 0 0 (MQ below (PiM D cy b z tx k) _ s 0 0 (gA b 12 z)) _
  unfold F_X12_log at h
  refine lv_aload_n hx hb dX12_log_0 rfl (lv_at hl 0 rfl) ?_
  refine lv_iconst (v := 0) hx hb dX12_log_1 (by decide) ?_
  refine pM_0_0 C0 hR hS Nat.zero_lt_one tbs_wsX120 mM11_7_77 dX12_log_2 (fun S1 eS1 H locs hR hS => ?_)
  have h := h S1 eS1
  refine lv_aload_n hx hb dX12_log_5 rfl (lv_at hl 0 rfl) ?_
  refine lv_iload_n hx hb dX12_log_6 rfl (lv_at hl 2 rfl) ?_
  refine lv_iconst (v := 0) hx hb dX12_log_7 (by decide) ?_
  refine lv_iconst (v := 4) hx hb dX12_log_8 (by decide) ?_
  refine qM_Si (As := [.int a2, .int 0, .int 4]) (rest := [.ref (b + adM 0 0)]) C0 (c_X12_in l h) (va_cwS 3 C0.2.2.2.2 (tbS mM11_8_37 ⟨mM11_8_38, mM11_1_11, mM11_8_39⟩) rfl rfl rfl (by decide +kernel) ⟨Nat.le_of_ble_eq_true rfl, Nat.le_of_ble_eq_true rfl⟩) hR hT hS rfl hl.1 rfl (Nat.le_of_ble_eq_true rfl) dX12_log_9 ⟨Nat.zero_le _, Nat.zero_le _⟩ (fun r2 S3 H locs h hR hS => ?_)
  refine lv_if_ne (tgt := 19) hx hb dX12_log_12 (by decide) (fun c4 => ?_) (fun c4 => ?_)
  · have h := h.1 c4
    refine lv_iconst (v := 0) hx hb dX12_log_19 (by decide) ?_
    exact Bw_X12_log_20 C0 hr hlk hT a1 a2 0 S3 _ _ _ h hR hS (lv_sub hl [0, 1, 2] rfl)
  · have h := h.2 c4
    refine lv_iconst (v := 1) hx hb dX12_log_15 (by decide) ?_
    refine lv_goto (tgt := 20) hx hb dX12_log_16 (by decide) ?_
    exact Bw_X12_log_20 C0 hr hlk hT a1 a2 1 S3 _ _ _ h hR hS (lv_sub hl [0, 1, 2] rfl)

def rm_X12_alike : Room := { frames := 5, cells := 0, slots := 0, locals := 109 }
def Bb_X12_alike_69 (kk69 : Int32 → Int32 → Int32 → sSt → Prop) (a5 : Int32) (a6 : Int32) (a7 : Int32) (S : sSt) (k : Int32 → sSt → Prop) : Prop := ix (a5 + 7) 10421 (fun j15 => (((S.1 1 0 j15) ≤ a7 → k a7 S) ∧ (¬ (S.1 1 0 j15) ≤ a7 → ix (a6 + 7) 10421 (fun j17 => (((S.1 1 0 j17) ≤ a7 → k a7 S) ∧ (¬ (S.1 1 0 j17) ≤ a7 → ix ((a5 + 13) + a7) 10421 (fun j19 => ix ((a6 + 13) + a7) 10421 (fun j20 => ((¬ (S.1 1 0 j19) = (S.1 1 0 j20) → k a7 S) ∧ ((S.1 1 0 j19) = (S.1 1 0 j20) → ∀ x22 : Int32, x22 = a7 + 1 → kk69 a5 a6 x22 S))))))))))
set_option maxHeartbeats 4000000 in
set_option maxRecDepth 100000 in
theorem Bbw_X12_alike_69 {p : Program} {l : Launch} {e : Env} {s : State} {m : MethodId} {args : Array Value} {below : List Frame} {meth : Method} {c : Code} {D : va_G} {cy : Nat → ClassId} {b z : Nat} {tx : TX} (C0 : CallFix p m c cX12_alike 8 s args TB RX12) (hr : meth.sig.returnType = (some .int)) (hlk : meth.locks = false) (hT : TxR tx s) {k : Int32 → sSt → Prop} {kk69 : Int32 → Int32 → Int32 → sSt → Prop} (ih69 : ∀ (a5 : Int32) (a6 : Int32) (a7 : Int32) (S : sSt) (H : Heap) (locs : List Loc) (ls : Array Slot) , kk69 a5 a6 a7 S → RelM D cy b z tx S s H → va_S (gA b 12 z) s.heap H locs → lv_has ls 8 [(0, .ref (b + adM 0 0)), (5, .int a5), (6, .int a6), (7, .int a7)] → W p l e rm_X12_alike s m args below meth c H locs 0 0 (MQ below (PiM D cy b z tx k) args s 0 0 (gA b 12 z)) (F0 m 69 ls [])) : ∀ (a5 : Int32) (a6 : Int32) (a7 : Int32) (S : sSt) (H : Heap) (locs : List Loc) (ls : Array Slot) , Bb_X12_alike_69 kk69 a5 a6 a7 S k → RelM D cy b z tx S s H → va_S (gA b 12 z) s.heap H locs → lv_has ls 8 [(0, .ref (b + adM 0 0)), (5, .int a5), (6, .int a6), (7, .int a7)] → W p l e rm_X12_alike s m args below meth c H locs 0 0 (MQ below (PiM D cy b z tx k) args s 0 0 (gA b 12 z)) (F0 m 69 ls []) := by
  intro a5 a6 a7 S H locs ls h hR hS hl
  have hx := C0.1
  have hb := C0.2.1
  unfold Bb_X12_alike_69 at h
  refine lv_iload hx hb dX12_alike_69 (lv_at hl 3 rfl) ?_
  refine lv_aload_n hx hb dX12_alike_71 rfl (lv_at hl 0 rfl) ?_
  refine gM_0_2 C0 hR Nat.zero_lt_one tbs_wsX120 mM11_7_79 dX12_alike_72 ?_
  refine lv_iload hx hb dX12_alike_75 (lv_at hl 1 rfl) ?_
  refine lv_bipush (v := 7) hx hb dX12_alike_77 (by decide) ?_
  refine lv_iadd hx hb dX12_alike_79 ?_
  obtain ⟨j15, hj15, ej15, h⟩ := h
  refine lM_1 C0 hR Nat.zero_lt_one hj15 ej15 dX12_alike_80 ?_
  refine lv_icmp_ge (tgt := 134) hx hb dX12_alike_81 (by decide) (fun c16 => ?_) (fun c16 => ?_)
  · have h := h.1 c16
    refine lv_iload hx hb dX12_alike_134 (lv_at hl 3 rfl) ?_
    exact rtM_i C0 hr hlk hR hS h dX12_alike_136
  · have h := h.2 c16
    refine lv_iload hx hb dX12_alike_84 (lv_at hl 3 rfl) ?_
    refine lv_aload_n hx hb dX12_alike_86 rfl (lv_at hl 0 rfl) ?_
    refine gM_0_2 C0 hR Nat.zero_lt_one tbs_wsX120 mM11_7_79 dX12_alike_87 ?_
    refine lv_iload hx hb dX12_alike_90 (lv_at hl 2 rfl) ?_
    refine lv_bipush (v := 7) hx hb dX12_alike_92 (by decide) ?_
    refine lv_iadd hx hb dX12_alike_94 ?_
    obtain ⟨j17, hj17, ej17, h⟩ := h
    refine lM_1 C0 hR Nat.zero_lt_one hj17 ej17 dX12_alike_95 ?_
    refine lv_icmp_ge (tgt := 134) hx hb dX12_alike_96 (by decide) (fun c18 => ?_) (fun c18 => ?_)
    · have h := h.1 c18
      refine lv_iload hx hb dX12_alike_134 (lv_at hl 3 rfl) ?_
      exact rtM_i C0 hr hlk hR hS h dX12_alike_136
    · have h := h.2 c18
      refine lv_aload_n hx hb dX12_alike_99 rfl (lv_at hl 0 rfl) ?_
      refine gM_0_2 C0 hR Nat.zero_lt_one tbs_wsX120 mM11_7_79 dX12_alike_100 ?_
      refine lv_iload hx hb dX12_alike_103 (lv_at hl 1 rfl) ?_
      refine lv_bipush (v := 13) hx hb dX12_alike_105 (by decide) ?_
      refine lv_iadd hx hb dX12_alike_107 ?_
      refine lv_iload hx hb dX12_alike_108 (lv_at hl 3 rfl) ?_
      refine lv_iadd hx hb dX12_alike_110 ?_
      obtain ⟨j19, hj19, ej19, h⟩ := h
      refine lM_1 C0 hR Nat.zero_lt_one hj19 ej19 dX12_alike_111 ?_
      refine lv_aload_n hx hb dX12_alike_112 rfl (lv_at hl 0 rfl) ?_
      refine gM_0_2 C0 hR Nat.zero_lt_one tbs_wsX120 mM11_7_79 dX12_alike_113 ?_
      refine lv_iload hx hb dX12_alike_116 (lv_at hl 2 rfl) ?_
      refine lv_bipush (v := 13) hx hb dX12_alike_118 (by decide) ?_
      refine lv_iadd hx hb dX12_alike_120 ?_
      refine lv_iload hx hb dX12_alike_121 (lv_at hl 3 rfl) ?_
      refine lv_iadd hx hb dX12_alike_123 ?_
      obtain ⟨j20, hj20, ej20, h⟩ := h
      refine lM_1 C0 hR Nat.zero_lt_one hj20 ej20 dX12_alike_124 ?_
      refine lv_icmp_ne (tgt := 134) hx hb dX12_alike_125 (by decide) (fun c21 => ?_) (fun c21 => ?_)
      · have h := h.1 c21
        refine lv_iload hx hb dX12_alike_134 (lv_at hl 3 rfl) ?_
        exact rtM_i C0 hr hlk hR hS h dX12_alike_136
      · have h := h.2 c21
        obtain ⟨x22, ex22⟩ : ∃ x22 : Int32, x22 = a7 + 1 := ⟨_, rfl⟩
        have h := h x22 ex22
        refine w_iinc (v0 := 1) (lv' := [(7, .int x22), (0, .ref (b + adM 0 0)), (5, .int a5), (6, .int a6)]) C0 dX12_alike_128 hl (k := 3) rfl (by decide) (by decide) x22 ex22 rfl (fun ls hl => ?_)
        refine lv_goto (tgt := 69) hx hb dX12_alike_131 (by decide) ?_
        exact ih69 a5 a6 x22 S _ _ _  h hR hS (lv_sub hl [1, 2, 3, 0] rfl)
def B_X12_alike_69 (n9 : Nat) (a5 : Int32) (a6 : Int32) (a7 : Int32) (S : sSt) (k : Int32 → sSt → Prop) : Prop := (Nat.rec (motive := fun _ => Int32 → Int32 → Int32 → sSt → Prop) (fun _ _ _ _ => False) (fun _ r9 => fun a5 a6 a7 S => Bb_X12_alike_69 r9 a5 a6 a7 S k) n9 : Int32 → Int32 → Int32 → sSt → Prop) a5 a6 a7 S
theorem B_X12_alike_69_s (n9 : Nat) (a5 : Int32) (a6 : Int32) (a7 : Int32) (S : sSt) (k : Int32 → sSt → Prop) : B_X12_alike_69 (n9 + 1) a5 a6 a7 S k = Bb_X12_alike_69 (fun a5 a6 a7 S => B_X12_alike_69 n9 a5 a6 a7 S k) a5 a6 a7 S k := rfl
set_option maxHeartbeats 4000000 in
set_option maxRecDepth 100000 in
theorem Bw_X12_alike_69 {p : Program} {l : Launch} {e : Env} {s : State} {m : MethodId} {args : Array Value} {below : List Frame} {meth : Method} {c : Code} {D : va_G} {cy : Nat → ClassId} {b z : Nat} {tx : TX} (C0 : CallFix p m c cX12_alike 8 s args TB RX12) (hr : meth.sig.returnType = (some .int)) (hlk : meth.locks = false) (hT : TxR tx s) {k : Int32 → sSt → Prop} : ∀ (n9 : Nat), ∀ (a5 : Int32) (a6 : Int32) (a7 : Int32) (S : sSt) (H : Heap) (locs : List Loc) (ls : Array Slot) , B_X12_alike_69 n9 a5 a6 a7 S k → RelM D cy b z tx S s H → va_S (gA b 12 z) s.heap H locs → lv_has ls 8 [(0, .ref (b + adM 0 0)), (5, .int a5), (6, .int a6), (7, .int a7)] → W p l e rm_X12_alike s m args below meth c H locs 0 0 (MQ below (PiM D cy b z tx k) args s 0 0 (gA b 12 z)) (F0 m 69 ls []) := by
  intro n9
  induction n9 with
  | zero => intro a5 a6 a7 S H locs ls h; exact h.elim
  | succ n9 ih =>
    intro a5 a6 a7 S H locs ls h hR hS hl
    exact Bbw_X12_alike_69 C0 hr hlk hT ih a5 a6 a7 S H locs ls h hR hS hl
def B_X12_alike_42 (a3 : Int32) (a4 : Int32) (t1 : Int32) (S : sSt) (k : Int32 → sSt → Prop) : Prop := F_X12_throwsIf t1 2 S (fun r8 S9 => ((r8 = 0 → F_X12_jobAt a3 3 S9 (fun r11 S12 => F_X12_jobAt a4 3 S12 (fun r13 S14 => B_X12_alike_69 fuel r11 r13 0 S14 k))) ∧ (¬ r8 = 0 → k 0 S9)))
set_option maxHeartbeats 4000000 in
set_option maxRecDepth 100000 in
theorem Bw_X12_alike_42 {p : Program} {l : Launch} {e : Env} {s : State} {m : MethodId} {args : Array Value} {below : List Frame} {meth : Method} {c : Code} {D : va_G} {cy : Nat → ClassId} {b z : Nat} {tx : TX} (C0 : CallFix p m c cX12_alike 8 s args TB RX12) (hr : meth.sig.returnType = (some .int)) (hlk : meth.locks = false) (hT : TxR tx s) {k : Int32 → sSt → Prop} : ∀ (a3 : Int32) (a4 : Int32) (t1 : Int32) (S : sSt) (H : Heap) (locs : List Loc) (ls : Array Slot) , B_X12_alike_42 a3 a4 t1 S k → RelM D cy b z tx S s H → va_S (gA b 12 z) s.heap H locs → lv_has ls 8 [(0, .ref (b + adM 0 0)), (3, .int a3), (4, .int a4)] → W p l e rm_X12_alike s m args below meth c H locs 0 0 (MQ below (PiM D cy b z tx k) args s 0 0 (gA b 12 z)) (F0 m 42 ls [.int t1, .ref (b + adM 0 0)]) := by
  intro a3 a4 t1 S H locs ls h hR hS hl
  have hx := C0.1
  have hb := C0.2.1
  unfold B_X12_alike_42 at h
  refine lv_iconst (v := 2) hx hb dX12_alike_42 (by decide) ?_
  refine qM_Vi (As := [.int t1, .int 2]) (rest := []) C0 (c_X12_throwsIf l h) (cwV 2 C0.2.2.2.2 (tbV mM11_8_25 ⟨mM11_8_27, mpM11_3_13, mM11_1_11, mM11_8_28⟩) rfl rfl rfl (by decide +kernel) ⟨Nat.le_of_ble_eq_true rfl, Nat.le_of_ble_eq_true rfl⟩) (rcM_0 hR Nat.zero_lt_one) hR hT hS rfl hl.1 rfl (Nat.le_of_ble_eq_true rfl) dX12_alike_43 ⟨Nat.zero_le _, Nat.zero_le _⟩ (fun r8 S9 H locs h hR hS => ?_)
  refine lv_if_eq (tgt := 51) hx hb dX12_alike_46 (by decide) (fun c10 => ?_) (fun c10 => ?_)
  · have h := h.1 c10
    refine lv_iload_n hx hb dX12_alike_51 rfl (lv_at hl 1 rfl) ?_
    refine lv_iconst (v := 3) hx hb dX12_alike_52 (by decide) ?_
    refine qM_Si (As := [.int a3, .int 3]) (rest := []) C0 (c_X12_jobAt l h) (va_cwS 2 C0.2.2.2.2 (tbS mM11_7_74 ⟨mM11_7_75, mM11_1_11, mM11_7_76⟩) rfl rfl rfl (by decide +kernel) ⟨Nat.le_of_ble_eq_true rfl, Nat.le_of_ble_eq_true rfl⟩) hR hT hS rfl hl.1 rfl (Nat.le_of_ble_eq_true rfl) dX12_alike_53 ⟨Nat.zero_le _, Nat.zero_le _⟩ (fun r11 S12 H locs h hR hS => ?_)
    refine lv_istore (lv' := [(5, .int r11), (0, .ref (b + adM 0 0)), (3, .int a3), (4, .int a4)]) hx hb dX12_alike_56 hl (by decide) rfl (fun ls hl => ?_)
    refine lv_iload hx hb dX12_alike_58 (lv_at hl 3 rfl) ?_
    refine lv_iconst (v := 3) hx hb dX12_alike_60 (by decide) ?_
    refine qM_Si (As := [.int a4, .int 3]) (rest := []) C0 (c_X12_jobAt l h) (va_cwS 2 C0.2.2.2.2 (tbS mM11_7_74 ⟨mM11_7_75, mM11_1_11, mM11_7_76⟩) rfl rfl rfl (by decide +kernel) ⟨Nat.le_of_ble_eq_true rfl, Nat.le_of_ble_eq_true rfl⟩) hR hT hS rfl hl.1 rfl (Nat.le_of_ble_eq_true rfl) dX12_alike_61 ⟨Nat.zero_le _, Nat.zero_le _⟩ (fun r13 S14 H locs h hR hS => ?_)
    refine lv_istore (lv' := [(6, .int r13), (5, .int r11), (0, .ref (b + adM 0 0)), (3, .int a3), (4, .int a4)]) hx hb dX12_alike_64 hl (by decide) rfl (fun ls hl => ?_)
    refine lv_iconst (v := 0) hx hb dX12_alike_66 (by decide) ?_
    refine lv_istore (lv' := [(7, .int 0), (6, .int r13), (5, .int r11), (0, .ref (b + adM 0 0)), (3, .int a3), (4, .int a4)]) hx hb dX12_alike_67 hl (by decide) rfl (fun ls hl => ?_)
    exact Bw_X12_alike_69 C0 hr hlk hT fuel r11 r13 0 S14 _ _ _ h hR hS (lv_sub hl [3, 2, 1, 0] rfl)
  · have h := h.2 c10
    refine lv_iconst (v := 0) hx hb dX12_alike_49 (by decide) ?_
    exact rtM_i C0 hr hlk hR hS h dX12_alike_50
def B_X12_alike_22 (a3 : Int32) (t0 : Int32) (S : sSt) (k : Int32 → sSt → Prop) : Prop := ((t0 = (-1) → k 0 S) ∧ (¬ t0 = (-1) → ((¬ a3 = t0 → B_X12_alike_42 a3 t0 0 S k) ∧ (a3 = t0 → B_X12_alike_42 a3 t0 1 S k))))
set_option maxHeartbeats 4000000 in
set_option maxRecDepth 100000 in
theorem Bw_X12_alike_22 {p : Program} {l : Launch} {e : Env} {s : State} {m : MethodId} {args : Array Value} {below : List Frame} {meth : Method} {c : Code} {D : va_G} {cy : Nat → ClassId} {b z : Nat} {tx : TX} (C0 : CallFix p m c cX12_alike 8 s args TB RX12) (hr : meth.sig.returnType = (some .int)) (hlk : meth.locks = false) (hT : TxR tx s) {k : Int32 → sSt → Prop} : ∀ (a3 : Int32) (t0 : Int32) (S : sSt) (H : Heap) (locs : List Loc) (ls : Array Slot) , B_X12_alike_22 a3 t0 S k → RelM D cy b z tx S s H → va_S (gA b 12 z) s.heap H locs → lv_has ls 8 [(0, .ref (b + adM 0 0)), (3, .int a3)] → W p l e rm_X12_alike s m args below meth c H locs 0 0 (MQ below (PiM D cy b z tx k) args s 0 0 (gA b 12 z)) (F0 m 22 ls [.int t0]) := by
  intro a3 t0 S H locs ls h hR hS hl
  have hx := C0.1
  have hb := C0.2.1
  unfold B_X12_alike_22 at h
  refine lv_istore (lv' := [(4, .int t0), (0, .ref (b + adM 0 0)), (3, .int a3)]) hx hb dX12_alike_22 hl (by decide) rfl (fun ls hl => ?_)
  refine lv_iload hx hb dX12_alike_24 (lv_at hl 0 rfl) ?_
  refine lv_iconst (v := (-1)) hx hb dX12_alike_26 (by decide) ?_
  refine lv_icmp_eq (tgt := 49) hx hb dX12_alike_27 (by decide) (fun c6 => ?_) (fun c6 => ?_)
  · have h := h.1 c6
    refine lv_iconst (v := 0) hx hb dX12_alike_49 (by decide) ?_
    exact rtM_i C0 hr hlk hR hS h dX12_alike_50
  · have h := h.2 c6
    refine lv_aload_n hx hb dX12_alike_30 rfl (lv_at hl 1 rfl) ?_
    refine lv_iload_n hx hb dX12_alike_31 rfl (lv_at hl 2 rfl) ?_
    refine lv_iload hx hb dX12_alike_32 (lv_at hl 0 rfl) ?_
    refine lv_icmp_ne (tgt := 41) hx hb dX12_alike_34 (by decide) (fun c7 => ?_) (fun c7 => ?_)
    · have h := h.1 c7
      refine lv_iconst (v := 0) hx hb dX12_alike_41 (by decide) ?_
      exact Bw_X12_alike_42 C0 hr hlk hT a3 t0 0 S _ _ _ h hR hS (lv_sub hl [1, 2, 0] rfl)
    · have h := h.2 c7
      refine lv_iconst (v := 1) hx hb dX12_alike_37 (by decide) ?_
      refine lv_goto (tgt := 42) hx hb dX12_alike_38 (by decide) ?_
      exact Bw_X12_alike_42 C0 hr hlk hT a3 t0 1 S _ _ _ h hR hS (lv_sub hl [1, 2, 0] rfl)
def F_X12_alike (a1 : Int32) (a2 : Int32) (S : sSt) (k : Int32 → sSt → Prop) : Prop := F_X12_jobFor (-1) a1 S (fun r1 S2 => ((¬ r1 = (-1) → F_X12_jobFor (-1) a2 S2 (fun r4 S5 => B_X12_alike_22 r1 r4 S5 k)) ∧ (r1 = (-1) → B_X12_alike_22 r1 (-1) S2 k)))
set_option maxHeartbeats 4000000 in
set_option maxRecDepth 100000 in
theorem c_X12_alike (l : Launch) {D : va_G} {cy : Nat → ClassId} {b z : Nat} {tx : TX} {a1 : Int32} {a2 : Int32} {S : sSt} {k : Int32 → sSt → Prop} (h : F_X12_alike a1 a2 S k) : Met l yX12_alike (Cond.code yX12_alike cX12_alike 8 (some .int) :: TB) rm_X12_alike (va_Pc [.ref (b + adM 0 0), .int a1, .int a2] (fun U => RelM D cy b z tx S U U.heap ∧ TxR tx U)) (PiM D cy b z tx k) 0 0 (gA b 12 z) := by
  refine Met.ofW (cc := cX12_alike) (maxL := 8) (ret := (some .int)) (by decide) rfl ?_
  intro p e s m args below meth c s₁ B hml hv
  obtain ⟨rfl, hR, hT⟩ := hv
  have C0 : CallFix p m c cX12_alike 8 s _ TB RX12 := ⟨B.exec, B.bytes, hml, findClass_of_methodNamed B.named, fun w hw => atoms_spec B.pre w (List.mem_cons_of_mem _ hw)⟩
  have hr := B.returns
  have hlk := B.notSynchronized
  have hx := C0.1
  have hb := C0.2.1
  have hS : va_S (gA b 12 z) s.heap s.heap [] := va_S.rf
  have hl := lv_entry ([.ref (b + adM 0 0), .int a1, .int a2]) (n := 8) (Nat.le_of_ble_eq_true rfl)
  rw [lg_entry_eq]
  generalize (lg_sl ([.ref (b + adM 0 0), .int a1, .int a2]) ++ List.replicate (8 - (lg_sl ([.ref (b + adM 0 0), .int a1, .int a2])).length) Slot.unset).toArray = ls at hl ⊢
  have hl : lv_has ls 8 [(0, .ref (b + adM 0 0)), (1, .int a1), (2, .int a2)] := hl
  show W p l e rm_X12_alike s m _ below meth c s.heap [] 0 0 (MQ below (PiM D cy b z tx k) _ s 0 0 (gA b 12 z)) _
  unfold F_X12_alike at h
  refine lv_aload_n hx hb dX12_alike_0 rfl (lv_at hl 0 rfl) ?_
  refine lv_iconst (v := (-1)) hx hb dX12_alike_1 (by decide) ?_
  refine lv_iload_n hx hb dX12_alike_2 rfl (lv_at hl 1 rfl) ?_
  refine qM_Vi (As := [.int (-1), .int a1]) (rest := []) C0 (c_X12_jobFor l h) (cwV 2 C0.2.2.2.2 (tbV mM11_8_223 ⟨mM11_8_225, mpM11_6_2, mM11_1_11, mM11_8_226⟩) rfl rfl rfl (by decide +kernel) ⟨Nat.le_of_ble_eq_true rfl, Nat.le_of_ble_eq_true rfl⟩) (rcM_0 hR Nat.zero_lt_one) hR hT hS rfl hl.1 rfl (Nat.le_of_ble_eq_true rfl) dX12_alike_3 ⟨Nat.zero_le _, Nat.zero_le _⟩ (fun r1 S2 H locs h hR hS => ?_)
  refine lv_istore_n (lv' := [(3, .int r1), (0, .ref (b + adM 0 0)), (1, .int a1), (2, .int a2)]) hx hb dX12_alike_6 rfl hl (by decide) rfl (fun ls hl => ?_)
  refine lv_iload_n hx hb dX12_alike_7 rfl (lv_at hl 0 rfl) ?_
  refine lv_iconst (v := (-1)) hx hb dX12_alike_8 (by decide) ?_
  refine lv_icmp_ne (tgt := 16) hx hb dX12_alike_9 (by decide) (fun c3 => ?_) (fun c3 => ?_)
  · have h := h.1 c3
    refine lv_aload_n hx hb dX12_alike_16 rfl (lv_at hl 1 rfl) ?_
    refine lv_iconst (v := (-1)) hx hb dX12_alike_17 (by decide) ?_
    refine lv_iload_n hx hb dX12_alike_18 rfl (lv_at hl 3 rfl) ?_
    refine qM_Vi (As := [.int (-1), .int a2]) (rest := []) C0 (c_X12_jobFor l h) (cwV 2 C0.2.2.2.2 (tbV mM11_8_223 ⟨mM11_8_225, mpM11_6_2, mM11_1_11, mM11_8_226⟩) rfl rfl rfl (by decide +kernel) ⟨Nat.le_of_ble_eq_true rfl, Nat.le_of_ble_eq_true rfl⟩) (rcM_0 hR Nat.zero_lt_one) hR hT hS rfl hl.1 rfl (Nat.le_of_ble_eq_true rfl) dX12_alike_19 ⟨Nat.zero_le _, Nat.zero_le _⟩ (fun r4 S5 H locs h hR hS => ?_)
    exact Bw_X12_alike_22 C0 hr hlk hT r1 r4 S5 _ _ _ h hR hS (lv_sub hl [1, 0] rfl)
  · have h := h.2 c3
    refine lv_iconst (v := (-1)) hx hb dX12_alike_12 (by decide) ?_
    refine lv_goto (tgt := 22) hx hb dX12_alike_13 (by decide) ?_
    exact Bw_X12_alike_22 C0 hr hlk hT r1 (-1) S2 _ _ _ h hR hS (lv_sub hl [1, 0] rfl)

def rm_X12_root : Room := { frames := 3, cells := 0, slots := 0, locals := 63 }
def B_X12_root_114 (kk34 : Int32 → Int32 → Int32 → sSt → Prop) (a1 : Int32) (a3 : Int32) (t0 : Int32) (t1 : Int32) (S : sSt) (k : Int32 → sSt → Prop) : Prop := ∀ x14 : Int32, x14 = (t0 + t1) → ∀ x15 : Int32, x15 = a3 + 1 → kk34 a1 x14 x15 S
set_option maxHeartbeats 4000000 in
set_option maxRecDepth 100000 in
theorem Bw_X12_root_114 {p : Program} {l : Launch} {e : Env} {s : State} {m : MethodId} {args : Array Value} {below : List Frame} {meth : Method} {c : Code} {D : va_G} {cy : Nat → ClassId} {b z : Nat} {tx : TX} (C0 : CallFix p m c cX12_root 5 s args TB RX12) (hr : meth.sig.returnType = (some .int)) (hlk : meth.locks = false) (hT : TxR tx s) {k : Int32 → sSt → Prop} {kk34 : Int32 → Int32 → Int32 → sSt → Prop} (ih34 : ∀ (a1 : Int32) (a2 : Int32) (a3 : Int32) (S : sSt) (H : Heap) (locs : List Loc) (ls : Array Slot) , kk34 a1 a2 a3 S → RelM D cy b z tx S s H → va_S (gA b 12 z) s.heap H locs → lv_has ls 5 [(0, .ref (b + adM 0 0)), (1, .int a1), (2, .int a2), (3, .int a3)] → W p l e rm_X12_root s m args below meth c H locs 0 0 (MQ below (PiM D cy b z tx k) args s 0 0 (gA b 12 z)) (F0 m 34 ls [])) : ∀ (a1 : Int32) (a3 : Int32) (t0 : Int32) (t1 : Int32) (S : sSt) (H : Heap) (locs : List Loc) (ls : Array Slot) , B_X12_root_114 kk34 a1 a3 t0 t1 S k → RelM D cy b z tx S s H → va_S (gA b 12 z) s.heap H locs → lv_has ls 5 [(0, .ref (b + adM 0 0)), (1, .int a1), (3, .int a3)] → W p l e rm_X12_root s m args below meth c H locs 0 0 (MQ below (PiM D cy b z tx k) args s 0 0 (gA b 12 z)) (F0 m 114 ls [.int t1, .int t0]) := by
  intro a1 a3 t0 t1 S H locs ls h hR hS hl
  have hx := C0.1
  have hb := C0.2.1
  unfold B_X12_root_114 at h
  refine lv_iadd hx hb dX12_root_114 ?_
  refine lv_topi (fun x14 ex14 => ?_)
  have h := h x14 ex14
  refine lv_istore_n (lv' := [(2, .int x14), (0, .ref (b + adM 0 0)), (1, .int a1), (3, .int a3)]) hx hb dX12_root_115 rfl hl (by decide) rfl (fun ls hl => ?_)
  obtain ⟨x15, ex15⟩ : ∃ x15 : Int32, x15 = a3 + 1 := ⟨_, rfl⟩
  have h := h x15 ex15
  refine w_iinc (v0 := 1) (lv' := [(3, .int x15), (2, .int x14), (0, .ref (b + adM 0 0)), (1, .int a1)]) C0 dX12_root_116 hl (k := 3) rfl (by decide) (by decide) x15 ex15 rfl (fun ls hl => ?_)
  refine lv_goto (tgt := 34) hx hb dX12_root_119 (by decide) ?_
  exact ih34 a1 x14 x15 S _ _ _  h hR hS (lv_sub hl [2, 3, 1, 0] rfl)
def B_X12_root_113 (kk34 : Int32 → Int32 → Int32 → sSt → Prop) (a1 : Int32) (a3 : Int32) (t0 : Int32) (S : sSt) (k : Int32 → sSt → Prop) : Prop := B_X12_root_114 kk34 a1 a3 t0 0 S k
set_option maxHeartbeats 4000000 in
set_option maxRecDepth 100000 in
theorem Bw_X12_root_113 {p : Program} {l : Launch} {e : Env} {s : State} {m : MethodId} {args : Array Value} {below : List Frame} {meth : Method} {c : Code} {D : va_G} {cy : Nat → ClassId} {b z : Nat} {tx : TX} (C0 : CallFix p m c cX12_root 5 s args TB RX12) (hr : meth.sig.returnType = (some .int)) (hlk : meth.locks = false) (hT : TxR tx s) {k : Int32 → sSt → Prop} {kk34 : Int32 → Int32 → Int32 → sSt → Prop} (ih34 : ∀ (a1 : Int32) (a2 : Int32) (a3 : Int32) (S : sSt) (H : Heap) (locs : List Loc) (ls : Array Slot) , kk34 a1 a2 a3 S → RelM D cy b z tx S s H → va_S (gA b 12 z) s.heap H locs → lv_has ls 5 [(0, .ref (b + adM 0 0)), (1, .int a1), (2, .int a2), (3, .int a3)] → W p l e rm_X12_root s m args below meth c H locs 0 0 (MQ below (PiM D cy b z tx k) args s 0 0 (gA b 12 z)) (F0 m 34 ls [])) : ∀ (a1 : Int32) (a3 : Int32) (t0 : Int32) (S : sSt) (H : Heap) (locs : List Loc) (ls : Array Slot) , B_X12_root_113 kk34 a1 a3 t0 S k → RelM D cy b z tx S s H → va_S (gA b 12 z) s.heap H locs → lv_has ls 5 [(0, .ref (b + adM 0 0)), (1, .int a1), (3, .int a3)] → W p l e rm_X12_root s m args below meth c H locs 0 0 (MQ below (PiM D cy b z tx k) args s 0 0 (gA b 12 z)) (F0 m 113 ls [.int t0]) := by
  intro a1 a3 t0 S H locs ls h hR hS hl
  have hx := C0.1
  have hb := C0.2.1
  unfold B_X12_root_113 at h
  refine lv_iconst (v := 0) hx hb dX12_root_113 (by decide) ?_
  exact Bw_X12_root_114 C0 hr hlk hT ih34 a1 a3 t0 0 S _ _ _ h hR hS (lv_sub hl [0, 1, 2] rfl)
def Bb_X12_root_34 (kk34 : Int32 → Int32 → Int32 → sSt → Prop) (a1 : Int32) (a2 : Int32) (a3 : Int32) (S : sSt) (k : Int32 → sSt → Prop) : Prop := ((24 ≤ a3 → k a2 S) ∧ (¬ 24 ≤ a3 → F_X12_jobAt a3 3 S (fun r9 S10 => F_X12_isIn a3 S10 (fun r11 S12 => ((r11 = 0 → B_X12_root_113 kk34 a1 a3 a2 S12 k) ∧ (¬ r11 = 0 → ix (r9 + 3) 10421 (fun j16 => ((¬ (S12.1 1 0 j16) = 3 → B_X12_root_113 kk34 a1 a3 a2 S12 k) ∧ ((S12.1 1 0 j16) = 3 → ix (r9 + 7) 10421 (fun j18 => (((S12.1 1 0 j18) ≤ 0 → B_X12_root_113 kk34 a1 a3 a2 S12 k) ∧ (¬ (S12.1 1 0 j18) ≤ 0 → ix (((r9 + 13) + (S12.1 1 0 j18)) - 1) 10421 (fun j20 => ((¬ (S12.1 1 0 j20) = a1 → B_X12_root_113 kk34 a1 a3 a2 S12 k) ∧ ((S12.1 1 0 j20) = a1 → B_X12_root_114 kk34 a1 a3 a2 1 S12 k)))))))))))))))
set_option maxHeartbeats 4000000 in
set_option maxRecDepth 100000 in
theorem Bbw_X12_root_34 {p : Program} {l : Launch} {e : Env} {s : State} {m : MethodId} {args : Array Value} {below : List Frame} {meth : Method} {c : Code} {D : va_G} {cy : Nat → ClassId} {b z : Nat} {tx : TX} (C0 : CallFix p m c cX12_root 5 s args TB RX12) (hr : meth.sig.returnType = (some .int)) (hlk : meth.locks = false) (hT : TxR tx s) {k : Int32 → sSt → Prop} {kk34 : Int32 → Int32 → Int32 → sSt → Prop} (ih34 : ∀ (a1 : Int32) (a2 : Int32) (a3 : Int32) (S : sSt) (H : Heap) (locs : List Loc) (ls : Array Slot) , kk34 a1 a2 a3 S → RelM D cy b z tx S s H → va_S (gA b 12 z) s.heap H locs → lv_has ls 5 [(0, .ref (b + adM 0 0)), (1, .int a1), (2, .int a2), (3, .int a3)] → W p l e rm_X12_root s m args below meth c H locs 0 0 (MQ below (PiM D cy b z tx k) args s 0 0 (gA b 12 z)) (F0 m 34 ls [])) : ∀ (a1 : Int32) (a2 : Int32) (a3 : Int32) (S : sSt) (H : Heap) (locs : List Loc) (ls : Array Slot) , Bb_X12_root_34 kk34 a1 a2 a3 S k → RelM D cy b z tx S s H → va_S (gA b 12 z) s.heap H locs → lv_has ls 5 [(0, .ref (b + adM 0 0)), (1, .int a1), (2, .int a2), (3, .int a3)] → W p l e rm_X12_root s m args below meth c H locs 0 0 (MQ below (PiM D cy b z tx k) args s 0 0 (gA b 12 z)) (F0 m 34 ls []) := by
  intro a1 a2 a3 S H locs ls h hR hS hl
  have hx := C0.1
  have hb := C0.2.1
  unfold Bb_X12_root_34 at h
  refine lv_iload_n hx hb dX12_root_34 rfl (lv_at hl 3 rfl) ?_
  refine lv_bipush (v := 24) hx hb dX12_root_35 (by decide) ?_
  refine lv_icmp_ge (tgt := 122) hx hb dX12_root_37 (by decide) (fun c8 => ?_) (fun c8 => ?_)
  · have h := h.1 c8
    refine lv_iload_n hx hb dX12_root_122 rfl (lv_at hl 2 rfl) ?_
    exact rtM_i C0 hr hlk hR hS h dX12_root_123
  · have h := h.2 c8
    refine lv_iload_n hx hb dX12_root_40 rfl (lv_at hl 3 rfl) ?_
    refine lv_iconst (v := 3) hx hb dX12_root_41 (by decide) ?_
    refine qM_Si (As := [.int a3, .int 3]) (rest := []) C0 (c_X12_jobAt l h) (va_cwS 2 C0.2.2.2.2 (tbS mM11_7_74 ⟨mM11_7_75, mM11_1_11, mM11_7_76⟩) rfl rfl rfl (by decide +kernel) ⟨Nat.le_of_ble_eq_true rfl, Nat.le_of_ble_eq_true rfl⟩) hR hT hS rfl hl.1 rfl (Nat.le_of_ble_eq_true rfl) dX12_root_42 ⟨Nat.zero_le _, Nat.zero_le _⟩ (fun r9 S10 H locs h hR hS => ?_)
    refine lv_istore (lv' := [(4, .int r9), (0, .ref (b + adM 0 0)), (1, .int a1), (2, .int a2), (3, .int a3)]) hx hb dX12_root_45 hl (by decide) rfl (fun ls hl => ?_)
    refine lv_iload_n hx hb dX12_root_47 rfl (lv_at hl 3 rfl) ?_
    refine lv_aload_n hx hb dX12_root_48 rfl (lv_at hl 1 rfl) ?_
    refine lv_iload_n hx hb dX12_root_49 rfl (lv_at hl 4 rfl) ?_
    refine qM_Vi (As := [.int a3]) (rest := [.int a2]) C0 (c_X12_isIn l h) (cwV 1 C0.2.2.2.2 (tbV mM11_8_122 ⟨mM11_8_124, mpM11_4_13, mM11_1_11, mM11_8_125⟩) rfl rfl rfl (by decide +kernel) ⟨Nat.le_of_ble_eq_true rfl, Nat.le_of_ble_eq_true rfl⟩) (rcM_0 hR Nat.zero_lt_one) hR hT hS rfl hl.1 rfl (Nat.le_of_ble_eq_true rfl) dX12_root_50 ⟨Nat.zero_le _, Nat.zero_le _⟩ (fun r11 S12 H locs h hR hS => ?_)
    refine lv_if_eq (tgt := 113) hx hb dX12_root_53 (by decide) (fun c13 => ?_) (fun c13 => ?_)
    · have h := h.1 c13
      exact Bw_X12_root_113 C0 hr hlk hT ih34 a1 a3 a2 S12 _ _ _ h hR hS (lv_sub hl [1, 2, 4] rfl)
    · have h := h.2 c13
      refine lv_aload_n hx hb dX12_root_56 rfl (lv_at hl 1 rfl) ?_
      refine gM_0_2 C0 hR Nat.zero_lt_one tbs_wsX120 mM11_7_79 dX12_root_57 ?_
      refine lv_iload hx hb dX12_root_60 (lv_at hl 0 rfl) ?_
      refine lv_iconst (v := 3) hx hb dX12_root_62 (by decide) ?_
      refine lv_iadd hx hb dX12_root_63 ?_
      obtain ⟨j16, hj16, ej16, h⟩ := h
      refine lM_1 C0 hR Nat.zero_lt_one hj16 ej16 dX12_root_64 ?_
      refine lv_iconst (v := 3) hx hb dX12_root_65 (by decide) ?_
      refine lv_icmp_ne (tgt := 113) hx hb dX12_root_66 (by decide) (fun c17 => ?_) (fun c17 => ?_)
      · have h := h.1 c17
        exact Bw_X12_root_113 C0 hr hlk hT ih34 a1 a3 a2 S12 _ _ _ h hR hS (lv_sub hl [1, 2, 4] rfl)
      · have h := h.2 c17
        refine lv_aload_n hx hb dX12_root_69 rfl (lv_at hl 1 rfl) ?_
        refine gM_0_2 C0 hR Nat.zero_lt_one tbs_wsX120 mM11_7_79 dX12_root_70 ?_
        refine lv_iload hx hb dX12_root_73 (lv_at hl 0 rfl) ?_
        refine lv_bipush (v := 7) hx hb dX12_root_75 (by decide) ?_
        refine lv_iadd hx hb dX12_root_77 ?_
        obtain ⟨j18, hj18, ej18, h⟩ := h
        refine lM_1 C0 hR Nat.zero_lt_one hj18 ej18 dX12_root_78 ?_
        refine lv_if_le (tgt := 113) hx hb dX12_root_79 (by decide) (fun c19 => ?_) (fun c19 => ?_)
        · have h := h.1 c19
          exact Bw_X12_root_113 C0 hr hlk hT ih34 a1 a3 a2 S12 _ _ _ h hR hS (lv_sub hl [1, 2, 4] rfl)
        · have h := h.2 c19
          refine lv_aload_n hx hb dX12_root_82 rfl (lv_at hl 1 rfl) ?_
          refine gM_0_2 C0 hR Nat.zero_lt_one tbs_wsX120 mM11_7_79 dX12_root_83 ?_
          refine lv_iload hx hb dX12_root_86 (lv_at hl 0 rfl) ?_
          refine lv_bipush (v := 13) hx hb dX12_root_88 (by decide) ?_
          refine lv_iadd hx hb dX12_root_90 ?_
          refine lv_aload_n hx hb dX12_root_91 rfl (lv_at hl 1 rfl) ?_
          refine gM_0_2 C0 hR Nat.zero_lt_one tbs_wsX120 mM11_7_79 dX12_root_92 ?_
          refine lv_iload hx hb dX12_root_95 (lv_at hl 0 rfl) ?_
          refine lv_bipush (v := 7) hx hb dX12_root_97 (by decide) ?_
          refine lv_iadd hx hb dX12_root_99 ?_
          refine lM_1 C0 hR Nat.zero_lt_one hj18 ej18 dX12_root_100 ?_
          refine lv_iadd hx hb dX12_root_101 ?_
          refine lv_iconst (v := 1) hx hb dX12_root_102 (by decide) ?_
          refine lv_isub hx hb dX12_root_103 ?_
          obtain ⟨j20, hj20, ej20, h⟩ := h
          refine lM_1 C0 hR Nat.zero_lt_one hj20 ej20 dX12_root_104 ?_
          refine lv_iload_n hx hb dX12_root_105 rfl (lv_at hl 2 rfl) ?_
          refine lv_icmp_ne (tgt := 113) hx hb dX12_root_106 (by decide) (fun c21 => ?_) (fun c21 => ?_)
          · have h := h.1 c21
            exact Bw_X12_root_113 C0 hr hlk hT ih34 a1 a3 a2 S12 _ _ _ h hR hS (lv_sub hl [1, 2, 4] rfl)
          · have h := h.2 c21
            refine lv_iconst (v := 1) hx hb dX12_root_109 (by decide) ?_
            refine lv_goto (tgt := 114) hx hb dX12_root_110 (by decide) ?_
            exact Bw_X12_root_114 C0 hr hlk hT ih34 a1 a3 a2 1 S12 _ _ _ h hR hS (lv_sub hl [1, 2, 4] rfl)
def B_X12_root_34 (n9 : Nat) (a1 : Int32) (a2 : Int32) (a3 : Int32) (S : sSt) (k : Int32 → sSt → Prop) : Prop := (Nat.rec (motive := fun _ => Int32 → Int32 → Int32 → sSt → Prop) (fun _ _ _ _ => False) (fun _ r9 => fun a1 a2 a3 S => Bb_X12_root_34 r9 a1 a2 a3 S k) n9 : Int32 → Int32 → Int32 → sSt → Prop) a1 a2 a3 S
theorem B_X12_root_34_s (n9 : Nat) (a1 : Int32) (a2 : Int32) (a3 : Int32) (S : sSt) (k : Int32 → sSt → Prop) : B_X12_root_34 (n9 + 1) a1 a2 a3 S k = Bb_X12_root_34 (fun a1 a2 a3 S => B_X12_root_34 n9 a1 a2 a3 S k) a1 a2 a3 S k := rfl
set_option maxHeartbeats 4000000 in
set_option maxRecDepth 100000 in
theorem Bw_X12_root_34 {p : Program} {l : Launch} {e : Env} {s : State} {m : MethodId} {args : Array Value} {below : List Frame} {meth : Method} {c : Code} {D : va_G} {cy : Nat → ClassId} {b z : Nat} {tx : TX} (C0 : CallFix p m c cX12_root 5 s args TB RX12) (hr : meth.sig.returnType = (some .int)) (hlk : meth.locks = false) (hT : TxR tx s) {k : Int32 → sSt → Prop} : ∀ (n9 : Nat), ∀ (a1 : Int32) (a2 : Int32) (a3 : Int32) (S : sSt) (H : Heap) (locs : List Loc) (ls : Array Slot) , B_X12_root_34 n9 a1 a2 a3 S k → RelM D cy b z tx S s H → va_S (gA b 12 z) s.heap H locs → lv_has ls 5 [(0, .ref (b + adM 0 0)), (1, .int a1), (2, .int a2), (3, .int a3)] → W p l e rm_X12_root s m args below meth c H locs 0 0 (MQ below (PiM D cy b z tx k) args s 0 0 (gA b 12 z)) (F0 m 34 ls []) := by
  intro n9
  induction n9 with
  | zero => intro a1 a2 a3 S H locs ls h; exact h.elim
  | succ n9 ih =>
    intro a1 a2 a3 S H locs ls h hR hS hl
    exact Bbw_X12_root_34 C0 hr hlk hT ih a1 a2 a3 S H locs ls h hR hS hl
def B_X12_root_21 (a1 : Int32) (t1 : Int32) (S : sSt) (k : Int32 → sSt → Prop) : Prop := F_X12_throwsIf t1 1 S (fun r5 S6 => ((r5 = 0 → B_X12_root_34 fuel a1 0 0 S6 k) ∧ (¬ r5 = 0 → k 0 S6)))
set_option maxHeartbeats 4000000 in
set_option maxRecDepth 100000 in
theorem Bw_X12_root_21 {p : Program} {l : Launch} {e : Env} {s : State} {m : MethodId} {args : Array Value} {below : List Frame} {meth : Method} {c : Code} {D : va_G} {cy : Nat → ClassId} {b z : Nat} {tx : TX} (C0 : CallFix p m c cX12_root 5 s args TB RX12) (hr : meth.sig.returnType = (some .int)) (hlk : meth.locks = false) (hT : TxR tx s) {k : Int32 → sSt → Prop} : ∀ (a1 : Int32) (t1 : Int32) (S : sSt) (H : Heap) (locs : List Loc) (ls : Array Slot) , B_X12_root_21 a1 t1 S k → RelM D cy b z tx S s H → va_S (gA b 12 z) s.heap H locs → lv_has ls 5 [(0, .ref (b + adM 0 0)), (1, .int a1)] → W p l e rm_X12_root s m args below meth c H locs 0 0 (MQ below (PiM D cy b z tx k) args s 0 0 (gA b 12 z)) (F0 m 21 ls [.int t1, .ref (b + adM 0 0)]) := by
  intro a1 t1 S H locs ls h hR hS hl
  have hx := C0.1
  have hb := C0.2.1
  unfold B_X12_root_21 at h
  refine lv_iconst (v := 1) hx hb dX12_root_21 (by decide) ?_
  refine qM_Vi (As := [.int t1, .int 1]) (rest := []) C0 (c_X12_throwsIf l h) (cwV 2 C0.2.2.2.2 (tbV mM11_8_25 ⟨mM11_8_27, mpM11_3_13, mM11_1_11, mM11_8_28⟩) rfl rfl rfl (by decide +kernel) ⟨Nat.le_of_ble_eq_true rfl, Nat.le_of_ble_eq_true rfl⟩) (rcM_0 hR Nat.zero_lt_one) hR hT hS rfl hl.1 rfl (Nat.le_of_ble_eq_true rfl) dX12_root_22 ⟨Nat.zero_le _, Nat.zero_le _⟩ (fun r5 S6 H locs h hR hS => ?_)
  refine lv_if_eq (tgt := 30) hx hb dX12_root_25 (by decide) (fun c7 => ?_) (fun c7 => ?_)
  · have h := h.1 c7
    refine lv_iconst (v := 0) hx hb dX12_root_30 (by decide) ?_
    refine lv_istore_n (lv' := [(2, .int 0), (0, .ref (b + adM 0 0)), (1, .int a1)]) hx hb dX12_root_31 rfl hl (by decide) rfl (fun ls hl => ?_)
    refine lv_iconst (v := 0) hx hb dX12_root_32 (by decide) ?_
    refine lv_istore_n (lv' := [(3, .int 0), (2, .int 0), (0, .ref (b + adM 0 0)), (1, .int a1)]) hx hb dX12_root_33 rfl hl (by decide) rfl (fun ls hl => ?_)
    exact Bw_X12_root_34 C0 hr hlk hT fuel a1 0 0 S6 _ _ _ h hR hS (lv_sub hl [2, 3, 1, 0] rfl)
  · have h := h.2 c7
    refine lv_iconst (v := 0) hx hb dX12_root_28 (by decide) ?_
    exact rtM_i C0 hr hlk hR hS h dX12_root_29
def F_X12_root (a1 : Int32) (S : sSt) (k : Int32 → sSt → Prop) : Prop := ∀ S1, S1 = uI S 0 0 0 0 → F_X12_in a1 0 6 S1 (fun r2 S3 => ((¬ r2 = 0 → B_X12_root_21 a1 0 S3 k) ∧ (r2 = 0 → B_X12_root_21 a1 1 S3 k)))
set_option maxHeartbeats 4000000 in
set_option maxRecDepth 100000 in
theorem c_X12_root (l : Launch) {D : va_G} {cy : Nat → ClassId} {b z : Nat} {tx : TX} {a1 : Int32} {S : sSt} {k : Int32 → sSt → Prop} (h : F_X12_root a1 S k) : Met l yX12_root (Cond.code yX12_root cX12_root 5 (some .int) :: TB) rm_X12_root (va_Pc [.ref (b + adM 0 0), .int a1] (fun U => RelM D cy b z tx S U U.heap ∧ TxR tx U)) (PiM D cy b z tx k) 0 0 (gA b 12 z) := by
  refine Met.ofW (cc := cX12_root) (maxL := 5) (ret := (some .int)) (by decide) rfl ?_
  intro p e s m args below meth c s₁ B hml hv
  obtain ⟨rfl, hR, hT⟩ := hv
  have C0 : CallFix p m c cX12_root 5 s _ TB RX12 := ⟨B.exec, B.bytes, hml, findClass_of_methodNamed B.named, fun w hw => atoms_spec B.pre w (List.mem_cons_of_mem _ hw)⟩
  have hr := B.returns
  have hlk := B.notSynchronized
  have hx := C0.1
  have hb := C0.2.1
  have hS : va_S (gA b 12 z) s.heap s.heap [] := va_S.rf
  have hl := lv_entry ([.ref (b + adM 0 0), .int a1]) (n := 5) (Nat.le_of_ble_eq_true rfl)
  rw [lg_entry_eq]
  generalize (lg_sl ([.ref (b + adM 0 0), .int a1]) ++ List.replicate (5 - (lg_sl ([.ref (b + adM 0 0), .int a1])).length) Slot.unset).toArray = ls at hl ⊢
  have hl : lv_has ls 5 [(0, .ref (b + adM 0 0)), (1, .int a1)] := hl
  show W p l e rm_X12_root s m _ below meth c s.heap [] 0 0 (MQ below (PiM D cy b z tx k) _ s 0 0 (gA b 12 z)) _
  unfold F_X12_root at h
  refine lv_aload_n hx hb dX12_root_0 rfl (lv_at hl 0 rfl) ?_
  refine lv_iconst (v := 0) hx hb dX12_root_1 (by decide) ?_
  refine pM_0_0 C0 hR hS Nat.zero_lt_one tbs_wsX120 mM11_7_77 dX12_root_2 (fun S1 eS1 H locs hR hS => ?_)
  have h := h S1 eS1
  refine lv_aload_n hx hb dX12_root_5 rfl (lv_at hl 0 rfl) ?_
  refine lv_iload_n hx hb dX12_root_6 rfl (lv_at hl 1 rfl) ?_
  refine lv_iconst (v := 0) hx hb dX12_root_7 (by decide) ?_
  refine lv_bipush (v := 6) hx hb dX12_root_8 (by decide) ?_
  refine qM_Si (As := [.int a1, .int 0, .int 6]) (rest := [.ref (b + adM 0 0)]) C0 (c_X12_in l h) (va_cwS 3 C0.2.2.2.2 (tbS mM11_8_37 ⟨mM11_8_38, mM11_1_11, mM11_8_39⟩) rfl rfl rfl (by decide +kernel) ⟨Nat.le_of_ble_eq_true rfl, Nat.le_of_ble_eq_true rfl⟩) hR hT hS rfl hl.1 rfl (Nat.le_of_ble_eq_true rfl) dX12_root_10 ⟨Nat.zero_le _, Nat.zero_le _⟩ (fun r2 S3 H locs h hR hS => ?_)
  refine lv_if_ne (tgt := 20) hx hb dX12_root_13 (by decide) (fun c4 => ?_) (fun c4 => ?_)
  · have h := h.1 c4
    refine lv_iconst (v := 0) hx hb dX12_root_20 (by decide) ?_
    exact Bw_X12_root_21 C0 hr hlk hT a1 0 S3 _ _ _ h hR hS (lv_sub hl [0, 1] rfl)
  · have h := h.2 c4
    refine lv_iconst (v := 1) hx hb dX12_root_16 (by decide) ?_
    refine lv_goto (tgt := 21) hx hb dX12_root_17 (by decide) ?_
    exact Bw_X12_root_21 C0 hr hlk hT a1 1 S3 _ _ _ h hR hS (lv_sub hl [0, 1] rfl)

def rm_X12_isOfKind : Room := { frames := 3, cells := 0, slots := 0, locals := 63 }
def F_X12_isOfKind (a1 : Int32) (a2 : Int32) (S : sSt) (k : Int32 → sSt → Prop) : Prop := ((¬ a2 = 4 → F_X12_isIn a1 S (fun r2 S3 => ((¬ r2 = 0 → F_X12_jobAt a1 3 S3 (fun r5 S6 => ((¬ a2 = 5 → ((¬ a2 = 6 → ix (r5 + 3) 10421 (fun j9 => ((¬ (S6.1 1 0 j9) = a2 → k 0 S6) ∧ ((S6.1 1 0 j9) = a2 → k 1 S6)))) ∧ (a2 = 6 → ix (r5 + 3) 10421 (fun j11 => ((¬ (S6.1 1 0 j11) = 1 → k 0 S6) ∧ ((S6.1 1 0 j11) = 1 → ix (r5 + 10) 10421 (fun j13 => (((S6.1 1 0 3) ≤ (S6.1 1 0 j13) → k 0 S6) ∧ (¬ (S6.1 1 0 3) ≤ (S6.1 1 0 j13) → k 1 S6))))))))) ∧ (a2 = 5 → ix (r5 + 3) 10421 (fun j15 => ((¬ (S6.1 1 0 j15) = 0 → k 0 S6) ∧ ((S6.1 1 0 j15) = 0 → ix (r5 + 5) 10421 (fun j17 => (((S6.1 1 0 3) < (S6.1 1 0 j17) → k 0 S6) ∧ (¬ (S6.1 1 0 3) < (S6.1 1 0 j17) → k 1 S6)))))))))) ∧ (r2 = 0 → k 0 S3)))) ∧ (a2 = 4 → F_X12_lockerOf a1 S (fun r19 S20 => ((r19 = (-1) → k 0 S20) ∧ (¬ r19 = (-1) → k 1 S20)))))
set_option maxHeartbeats 4000000 in
set_option maxRecDepth 100000 in
theorem c_X12_isOfKind (l : Launch) {D : va_G} {cy : Nat → ClassId} {b z : Nat} {tx : TX} {a1 : Int32} {a2 : Int32} {S : sSt} {k : Int32 → sSt → Prop} (h : F_X12_isOfKind a1 a2 S k) : Met l yX12_isOfKind (Cond.code yX12_isOfKind cX12_isOfKind 4 (some .boolean) :: TB) rm_X12_isOfKind (va_Pc [.ref (b + adM 0 0), .int a1, .int a2] (fun U => RelM D cy b z tx S U U.heap ∧ TxR tx U)) (PiM D cy b z tx k) 0 0 (gA b 12 z) := by
  refine Met.ofW (cc := cX12_isOfKind) (maxL := 4) (ret := (some .boolean)) (by decide) rfl ?_
  intro p e s m args below meth c s₁ B hml hv
  obtain ⟨rfl, hR, hT⟩ := hv
  have C0 : CallFix p m c cX12_isOfKind 4 s _ TB RX12 := ⟨B.exec, B.bytes, hml, findClass_of_methodNamed B.named, fun w hw => atoms_spec B.pre w (List.mem_cons_of_mem _ hw)⟩
  have hr := B.returns
  have hlk := B.notSynchronized
  have hx := C0.1
  have hb := C0.2.1
  have hS : va_S (gA b 12 z) s.heap s.heap [] := va_S.rf
  have hl := lv_entry ([.ref (b + adM 0 0), .int a1, .int a2]) (n := 4) (Nat.le_of_ble_eq_true rfl)
  rw [lg_entry_eq]
  generalize (lg_sl ([.ref (b + adM 0 0), .int a1, .int a2]) ++ List.replicate (4 - (lg_sl ([.ref (b + adM 0 0), .int a1, .int a2])).length) Slot.unset).toArray = ls at hl ⊢
  have hl : lv_has ls 4 [(0, .ref (b + adM 0 0)), (1, .int a1), (2, .int a2)] := hl
  show W p l e rm_X12_isOfKind s m _ below meth c s.heap [] 0 0 (MQ below (PiM D cy b z tx k) _ s 0 0 (gA b 12 z)) _
  unfold F_X12_isOfKind at h
  refine lv_iload_n hx hb dX12_isOfKind_0 rfl (lv_at hl 2 rfl) ?_
  refine lv_iconst (v := 4) hx hb dX12_isOfKind_1 (by decide) ?_
  refine lv_icmp_ne (tgt := 20) hx hb dX12_isOfKind_2 (by decide) (fun c1 => ?_) (fun c1 => ?_)
  · have h := h.1 c1
    refine lv_aload_n hx hb dX12_isOfKind_20 rfl (lv_at hl 0 rfl) ?_
    refine lv_iload_n hx hb dX12_isOfKind_21 rfl (lv_at hl 1 rfl) ?_
    refine qM_Vi (As := [.int a1]) (rest := []) C0 (c_X12_isIn l h) (cwV 1 C0.2.2.2.2 (tbV mM11_8_122 ⟨mM11_8_124, mpM11_4_13, mM11_1_11, mM11_8_125⟩) rfl rfl rfl (by decide +kernel) ⟨Nat.le_of_ble_eq_true rfl, Nat.le_of_ble_eq_true rfl⟩) (rcM_0 hR Nat.zero_lt_one) hR hT hS rfl hl.1 rfl (Nat.le_of_ble_eq_true rfl) dX12_isOfKind_22 ⟨Nat.zero_le _, Nat.zero_le _⟩ (fun r2 S3 H locs h hR hS => ?_)
    refine lv_if_ne (tgt := 30) hx hb dX12_isOfKind_25 (by decide) (fun c4 => ?_) (fun c4 => ?_)
    · have h := h.1 c4
      refine lv_iload_n hx hb dX12_isOfKind_30 rfl (lv_at hl 1 rfl) ?_
      refine lv_iconst (v := 3) hx hb dX12_isOfKind_31 (by decide) ?_
      refine qM_Si (As := [.int a1, .int 3]) (rest := []) C0 (c_X12_jobAt l h) (va_cwS 2 C0.2.2.2.2 (tbS mM11_7_74 ⟨mM11_7_75, mM11_1_11, mM11_7_76⟩) rfl rfl rfl (by decide +kernel) ⟨Nat.le_of_ble_eq_true rfl, Nat.le_of_ble_eq_true rfl⟩) hR hT hS rfl hl.1 rfl (Nat.le_of_ble_eq_true rfl) dX12_isOfKind_32 ⟨Nat.zero_le _, Nat.zero_le _⟩ (fun r5 S6 H locs h hR hS => ?_)
      refine lv_istore_n (lv' := [(3, .int r5), (0, .ref (b + adM 0 0)), (1, .int a1), (2, .int a2)]) hx hb dX12_isOfKind_35 rfl hl (by decide) rfl (fun ls hl => ?_)
      refine lv_iload_n hx hb dX12_isOfKind_36 rfl (lv_at hl 3 rfl) ?_
      refine lv_iconst (v := 5) hx hb dX12_isOfKind_37 (by decide) ?_
      refine lv_icmp_ne (tgt := 75) hx hb dX12_isOfKind_38 (by decide) (fun c7 => ?_) (fun c7 => ?_)
      · have h := h.1 c7
        refine lv_iload_n hx hb dX12_isOfKind_75 rfl (lv_at hl 3 rfl) ?_
        refine lv_bipush (v := 6) hx hb dX12_isOfKind_76 (by decide) ?_
        refine lv_icmp_ne (tgt := 117) hx hb dX12_isOfKind_78 (by decide) (fun c8 => ?_) (fun c8 => ?_)
        · have h := h.1 c8
          refine lv_aload_n hx hb dX12_isOfKind_117 rfl (lv_at hl 1 rfl) ?_
          refine gM_0_2 C0 hR Nat.zero_lt_one tbs_wsX120 mM11_7_79 dX12_isOfKind_118 ?_
          refine lv_iload_n hx hb dX12_isOfKind_121 rfl (lv_at hl 0 rfl) ?_
          refine lv_iconst (v := 3) hx hb dX12_isOfKind_122 (by decide) ?_
          refine lv_iadd hx hb dX12_isOfKind_123 ?_
          obtain ⟨j9, hj9, ej9, h⟩ := h
          refine lM_1 C0 hR Nat.zero_lt_one hj9 ej9 dX12_isOfKind_124 ?_
          refine lv_iload_n hx hb dX12_isOfKind_125 rfl (lv_at hl 3 rfl) ?_
          refine lv_icmp_ne (tgt := 133) hx hb dX12_isOfKind_126 (by decide) (fun c10 => ?_) (fun c10 => ?_)
          · have h := h.1 c10
            refine lv_iconst (v := 0) hx hb dX12_isOfKind_133 (by decide) ?_
            exact rtM_z C0 hr hlk hR hS (by decide) h dX12_isOfKind_134
          · have h := h.2 c10
            refine lv_iconst (v := 1) hx hb dX12_isOfKind_129 (by decide) ?_
            refine lv_goto (tgt := 134) hx hb dX12_isOfKind_130 (by decide) ?_
            exact rtM_z C0 hr hlk hR hS (by decide) h dX12_isOfKind_134
        · have h := h.2 c8
          refine lv_aload_n hx hb dX12_isOfKind_81 rfl (lv_at hl 1 rfl) ?_
          refine gM_0_2 C0 hR Nat.zero_lt_one tbs_wsX120 mM11_7_79 dX12_isOfKind_82 ?_
          refine lv_iload_n hx hb dX12_isOfKind_85 rfl (lv_at hl 0 rfl) ?_
          refine lv_iconst (v := 3) hx hb dX12_isOfKind_86 (by decide) ?_
          refine lv_iadd hx hb dX12_isOfKind_87 ?_
          obtain ⟨j11, hj11, ej11, h⟩ := h
          refine lM_1 C0 hR Nat.zero_lt_one hj11 ej11 dX12_isOfKind_88 ?_
          refine lv_iconst (v := 1) hx hb dX12_isOfKind_89 (by decide) ?_
          refine lv_icmp_ne (tgt := 115) hx hb dX12_isOfKind_90 (by decide) (fun c12 => ?_) (fun c12 => ?_)
          · have h := h.1 c12
            refine lv_iconst (v := 0) hx hb dX12_isOfKind_115 (by decide) ?_
            exact rtM_z C0 hr hlk hR hS (by decide) h dX12_isOfKind_116
          · have h := h.2 c12
            refine lv_aload_n hx hb dX12_isOfKind_93 rfl (lv_at hl 1 rfl) ?_
            refine gM_0_2 C0 hR Nat.zero_lt_one tbs_wsX120 mM11_7_79 dX12_isOfKind_94 ?_
            refine lv_iload_n hx hb dX12_isOfKind_97 rfl (lv_at hl 0 rfl) ?_
            refine lv_bipush (v := 10) hx hb dX12_isOfKind_98 (by decide) ?_
            refine lv_iadd hx hb dX12_isOfKind_100 ?_
            obtain ⟨j13, hj13, ej13, h⟩ := h
            refine lM_1 C0 hR Nat.zero_lt_one hj13 ej13 dX12_isOfKind_101 ?_
            refine lv_aload_n hx hb dX12_isOfKind_102 rfl (lv_at hl 1 rfl) ?_
            refine gM_0_2 C0 hR Nat.zero_lt_one tbs_wsX120 mM11_7_79 dX12_isOfKind_103 ?_
            refine lv_iconst (v := 3) hx hb dX12_isOfKind_106 (by decide) ?_
            refine lM_1 C0 hR Nat.zero_lt_one (by decide) rfl dX12_isOfKind_107 ?_
            refine lv_icmp_ge (tgt := 115) hx hb dX12_isOfKind_108 (by decide) (fun c14 => ?_) (fun c14 => ?_)
            · have h := h.1 c14
              refine lv_iconst (v := 0) hx hb dX12_isOfKind_115 (by decide) ?_
              exact rtM_z C0 hr hlk hR hS (by decide) h dX12_isOfKind_116
            · have h := h.2 c14
              refine lv_iconst (v := 1) hx hb dX12_isOfKind_111 (by decide) ?_
              refine lv_goto (tgt := 116) hx hb dX12_isOfKind_112 (by decide) ?_
              exact rtM_z C0 hr hlk hR hS (by decide) h dX12_isOfKind_116
      · have h := h.2 c7
        refine lv_aload_n hx hb dX12_isOfKind_41 rfl (lv_at hl 1 rfl) ?_
        refine gM_0_2 C0 hR Nat.zero_lt_one tbs_wsX120 mM11_7_79 dX12_isOfKind_42 ?_
        refine lv_iload_n hx hb dX12_isOfKind_45 rfl (lv_at hl 0 rfl) ?_
        refine lv_iconst (v := 3) hx hb dX12_isOfKind_46 (by decide) ?_
        refine lv_iadd hx hb dX12_isOfKind_47 ?_
        obtain ⟨j15, hj15, ej15, h⟩ := h
        refine lM_1 C0 hR Nat.zero_lt_one hj15 ej15 dX12_isOfKind_48 ?_
        refine lv_if_ne (tgt := 73) hx hb dX12_isOfKind_49 (by decide) (fun c16 => ?_) (fun c16 => ?_)
        · have h := h.1 c16
          refine lv_iconst (v := 0) hx hb dX12_isOfKind_73 (by decide) ?_
          exact rtM_z C0 hr hlk hR hS (by decide) h dX12_isOfKind_74
        · have h := h.2 c16
          refine lv_aload_n hx hb dX12_isOfKind_52 rfl (lv_at hl 1 rfl) ?_
          refine gM_0_2 C0 hR Nat.zero_lt_one tbs_wsX120 mM11_7_79 dX12_isOfKind_53 ?_
          refine lv_iload_n hx hb dX12_isOfKind_56 rfl (lv_at hl 0 rfl) ?_
          refine lv_iconst (v := 5) hx hb dX12_isOfKind_57 (by decide) ?_
          refine lv_iadd hx hb dX12_isOfKind_58 ?_
          obtain ⟨j17, hj17, ej17, h⟩ := h
          refine lM_1 C0 hR Nat.zero_lt_one hj17 ej17 dX12_isOfKind_59 ?_
          refine lv_aload_n hx hb dX12_isOfKind_60 rfl (lv_at hl 1 rfl) ?_
          refine gM_0_2 C0 hR Nat.zero_lt_one tbs_wsX120 mM11_7_79 dX12_isOfKind_61 ?_
          refine lv_iconst (v := 3) hx hb dX12_isOfKind_64 (by decide) ?_
          refine lM_1 C0 hR Nat.zero_lt_one (by decide) rfl dX12_isOfKind_65 ?_
          refine lv_icmp_gt (tgt := 73) hx hb dX12_isOfKind_66 (by decide) (fun c18 => ?_) (fun c18 => ?_)
          · have h := h.1 c18
            refine lv_iconst (v := 0) hx hb dX12_isOfKind_73 (by decide) ?_
            exact rtM_z C0 hr hlk hR hS (by decide) h dX12_isOfKind_74
          · have h := h.2 c18
            refine lv_iconst (v := 1) hx hb dX12_isOfKind_69 (by decide) ?_
            refine lv_goto (tgt := 74) hx hb dX12_isOfKind_70 (by decide) ?_
            exact rtM_z C0 hr hlk hR hS (by decide) h dX12_isOfKind_74
    · have h := h.2 c4
      refine lv_iconst (v := 0) hx hb dX12_isOfKind_28 (by decide) ?_
      exact rtM_z C0 hr hlk hR hS (by decide) h dX12_isOfKind_29
  · have h := h.2 c1
    refine lv_aload_n hx hb dX12_isOfKind_5 rfl (lv_at hl 0 rfl) ?_
    refine lv_iload_n hx hb dX12_isOfKind_6 rfl (lv_at hl 1 rfl) ?_
    refine qM_Vi (As := [.int a1]) (rest := []) C0 (c_X12_lockerOf l h) (cwV 1 C0.2.2.2.2 (tbV mM11_8_106 ⟨mM11_8_108, mpM11_4_10, mM11_1_11, mM11_8_109⟩) rfl rfl rfl (by decide +kernel) ⟨Nat.le_of_ble_eq_true rfl, Nat.le_of_ble_eq_true rfl⟩) (rcM_0 hR Nat.zero_lt_one) hR hT hS rfl hl.1 rfl (Nat.le_of_ble_eq_true rfl) dX12_isOfKind_7 ⟨Nat.zero_le _, Nat.zero_le _⟩ (fun r19 S20 H locs h hR hS => ?_)
    refine lv_iconst (v := (-1)) hx hb dX12_isOfKind_10 (by decide) ?_
    refine lv_icmp_eq (tgt := 18) hx hb dX12_isOfKind_11 (by decide) (fun c21 => ?_) (fun c21 => ?_)
    · have h := h.1 c21
      refine lv_iconst (v := 0) hx hb dX12_isOfKind_18 (by decide) ?_
      exact rtM_z C0 hr hlk hR hS (by decide) h dX12_isOfKind_19
    · have h := h.2 c21
      refine lv_iconst (v := 1) hx hb dX12_isOfKind_14 (by decide) ?_
      refine lv_goto (tgt := 19) hx hb dX12_isOfKind_15 (by decide) ?_
      exact rtM_z C0 hr hlk hR hS (by decide) h dX12_isOfKind_19

def rm_X12_find : Room := { frames := 4, cells := 0, slots := 0, locals := 86 }
def B_X12_find_76 (kk39 : Int32 → Int32 → Int32 → sSt → Prop) (a1 : Int32) (a3 : Int32) (a4 : Int32) (S : sSt) (k : Int32 → sSt → Prop) : Prop := F_X12_numberOf a4 S (fun r17 S18 => F_X12_behindNumber r17 S18 (fun r19 S20 => kk39 a1 a3 r19 S20))
set_option maxHeartbeats 4000000 in
set_option maxRecDepth 100000 in
theorem Bw_X12_find_76 {p : Program} {l : Launch} {e : Env} {s : State} {m : MethodId} {args : Array Value} {below : List Frame} {meth : Method} {c : Code} {D : va_G} {cy : Nat → ClassId} {b z : Nat} {tx : TX} (C0 : CallFix p m c cX12_find 5 s args TB RX12) (hr : meth.sig.returnType = (some .int)) (hlk : meth.locks = false) (hT : TxR tx s) {k : Int32 → sSt → Prop} {kk39 : Int32 → Int32 → Int32 → sSt → Prop} (ih39 : ∀ (a1 : Int32) (a3 : Int32) (a4 : Int32) (S : sSt) (H : Heap) (locs : List Loc) (ls : Array Slot) , kk39 a1 a3 a4 S → RelM D cy b z tx S s H → va_S (gA b 12 z) s.heap H locs → lv_has ls 5 [(0, .ref (b + adM 0 0)), (1, .int a1), (3, .int a3), (4, .int a4)] → W p l e rm_X12_find s m args below meth c H locs 0 0 (MQ below (PiM D cy b z tx k) args s 0 0 (gA b 12 z)) (F0 m 39 ls [])) : ∀ (a1 : Int32) (a3 : Int32) (a4 : Int32) (S : sSt) (H : Heap) (locs : List Loc) (ls : Array Slot) , B_X12_find_76 kk39 a1 a3 a4 S k → RelM D cy b z tx S s H → va_S (gA b 12 z) s.heap H locs → lv_has ls 5 [(0, .ref (b + adM 0 0)), (1, .int a1), (3, .int a3), (4, .int a4)] → W p l e rm_X12_find s m args below meth c H locs 0 0 (MQ below (PiM D cy b z tx k) args s 0 0 (gA b 12 z)) (F0 m 76 ls []) := by
  intro a1 a3 a4 S H locs ls h hR hS hl
  have hx := C0.1
  have hb := C0.2.1
  unfold B_X12_find_76 at h
  refine lv_aload_n hx hb dX12_find_76 rfl (lv_at hl 0 rfl) ?_
  refine lv_aload_n hx hb dX12_find_77 rfl (lv_at hl 0 rfl) ?_
  refine lv_iload hx hb dX12_find_78 (lv_at hl 3 rfl) ?_
  refine qM_Vi (As := [.int a4]) (rest := [.ref (b + adM 0 0)]) C0 (c_X12_numberOf l h) (cwV 1 C0.2.2.2.2 (tbV mM11_7_202 ⟨mM11_7_204, mpM11_3_3, mM11_1_11, mM11_7_205⟩) rfl rfl rfl (by decide +kernel) ⟨Nat.le_of_ble_eq_true rfl, Nat.le_of_ble_eq_true rfl⟩) (rcM_0 hR Nat.zero_lt_one) hR hT hS rfl hl.1 rfl (Nat.le_of_ble_eq_true rfl) dX12_find_80 ⟨Nat.zero_le _, Nat.zero_le _⟩ (fun r17 S18 H locs h hR hS => ?_)
  refine qM_Vi (As := [.int r17]) (rest := []) C0 (c_X12_behindNumber l h) (cwV 1 C0.2.2.2.2 (tbV mM11_8_134 ⟨mM11_8_136, mpM11_4_15, mM11_1_11, mM11_8_137⟩) rfl rfl rfl (by decide +kernel) ⟨Nat.le_of_ble_eq_true rfl, Nat.le_of_ble_eq_true rfl⟩) (rcM_0 hR Nat.zero_lt_one) hR hT hS rfl hl.1 rfl (Nat.le_of_ble_eq_true rfl) dX12_find_83 ⟨Nat.zero_le _, Nat.zero_le _⟩ (fun r19 S20 H locs h hR hS => ?_)
  refine lv_istore (lv' := [(4, .int r19), (0, .ref (b + adM 0 0)), (1, .int a1), (3, .int a3)]) hx hb dX12_find_86 hl (by decide) rfl (fun ls hl => ?_)
  refine lv_goto (tgt := 39) hx hb dX12_find_88 (by decide) ?_
  exact ih39 a1 a3 r19 S20 _ _ _  h hR hS (lv_sub hl [1, 2, 3, 0] rfl)
def Bb_X12_find_39 (kk39 : Int32 → Int32 → Int32 → sSt → Prop) (a1 : Int32) (a3 : Int32) (a4 : Int32) (S : sSt) (k : Int32 → sSt → Prop) : Prop := ((a4 = (-1) → k (-1) S) ∧ (¬ a4 = (-1) → ((a3 < 0 → k (-1) S) ∧ (¬ a3 < 0 → F_X12_isOfKind a4 a1 S (fun r12 S13 => ((¬ r12 = 0 → ((¬ a3 = 0 → ∀ x16 : Int32, x16 = a3 + (-1) → B_X12_find_76 kk39 a1 x16 a4 S13 k) ∧ (a3 = 0 → F_X12_numberOf a4 S13 (fun r21 S22 => k r21 S22)))) ∧ (r12 = 0 → B_X12_find_76 kk39 a1 a3 a4 S13 k)))))))
set_option maxHeartbeats 4000000 in
set_option maxRecDepth 100000 in
theorem Bbw_X12_find_39 {p : Program} {l : Launch} {e : Env} {s : State} {m : MethodId} {args : Array Value} {below : List Frame} {meth : Method} {c : Code} {D : va_G} {cy : Nat → ClassId} {b z : Nat} {tx : TX} (C0 : CallFix p m c cX12_find 5 s args TB RX12) (hr : meth.sig.returnType = (some .int)) (hlk : meth.locks = false) (hT : TxR tx s) {k : Int32 → sSt → Prop} {kk39 : Int32 → Int32 → Int32 → sSt → Prop} (ih39 : ∀ (a1 : Int32) (a3 : Int32) (a4 : Int32) (S : sSt) (H : Heap) (locs : List Loc) (ls : Array Slot) , kk39 a1 a3 a4 S → RelM D cy b z tx S s H → va_S (gA b 12 z) s.heap H locs → lv_has ls 5 [(0, .ref (b + adM 0 0)), (1, .int a1), (3, .int a3), (4, .int a4)] → W p l e rm_X12_find s m args below meth c H locs 0 0 (MQ below (PiM D cy b z tx k) args s 0 0 (gA b 12 z)) (F0 m 39 ls [])) : ∀ (a1 : Int32) (a3 : Int32) (a4 : Int32) (S : sSt) (H : Heap) (locs : List Loc) (ls : Array Slot) , Bb_X12_find_39 kk39 a1 a3 a4 S k → RelM D cy b z tx S s H → va_S (gA b 12 z) s.heap H locs → lv_has ls 5 [(0, .ref (b + adM 0 0)), (1, .int a1), (3, .int a3), (4, .int a4)] → W p l e rm_X12_find s m args below meth c H locs 0 0 (MQ below (PiM D cy b z tx k) args s 0 0 (gA b 12 z)) (F0 m 39 ls []) := by
  intro a1 a3 a4 S H locs ls h hR hS hl
  have hx := C0.1
  have hb := C0.2.1
  unfold Bb_X12_find_39 at h
  refine lv_iload hx hb dX12_find_39 (lv_at hl 3 rfl) ?_
  refine lv_iconst (v := (-1)) hx hb dX12_find_41 (by decide) ?_
  refine lv_icmp_eq (tgt := 91) hx hb dX12_find_42 (by decide) (fun c10 => ?_) (fun c10 => ?_)
  · have h := h.1 c10
    refine lv_iconst (v := (-1)) hx hb dX12_find_91 (by decide) ?_
    exact rtM_i C0 hr hlk hR hS h dX12_find_92
  · have h := h.2 c10
    refine lv_iload_n hx hb dX12_find_45 rfl (lv_at hl 2 rfl) ?_
    refine lv_if_lt (tgt := 91) hx hb dX12_find_46 (by decide) (fun c11 => ?_) (fun c11 => ?_)
    · have h := h.1 c11
      refine lv_iconst (v := (-1)) hx hb dX12_find_91 (by decide) ?_
      exact rtM_i C0 hr hlk hR hS h dX12_find_92
    · have h := h.2 c11
      refine lv_aload_n hx hb dX12_find_49 rfl (lv_at hl 0 rfl) ?_
      refine lv_iload hx hb dX12_find_50 (lv_at hl 3 rfl) ?_
      refine lv_iload_n hx hb dX12_find_52 rfl (lv_at hl 1 rfl) ?_
      refine qM_Vi (As := [.int a4, .int a1]) (rest := []) C0 (c_X12_isOfKind l h) (cwV 2 C0.2.2.2.2 (tbV mM11_9_213 ⟨mM11_9_215, mpM11_7_14, mM11_1_11, mM11_9_216⟩) rfl rfl rfl (by decide +kernel) ⟨Nat.le_of_ble_eq_true rfl, Nat.le_of_ble_eq_true rfl⟩) (rcM_0 hR Nat.zero_lt_one) hR hT hS rfl hl.1 rfl (Nat.le_of_ble_eq_true rfl) dX12_find_53 ⟨Nat.zero_le _, Nat.zero_le _⟩ (fun r12 S13 H locs h hR hS => ?_)
      refine lv_if_ne (tgt := 62) hx hb dX12_find_56 (by decide) (fun c14 => ?_) (fun c14 => ?_)
      · have h := h.1 c14
        refine lv_iload_n hx hb dX12_find_62 rfl (lv_at hl 2 rfl) ?_
        refine lv_if_ne (tgt := 73) hx hb dX12_find_63 (by decide) (fun c15 => ?_) (fun c15 => ?_)
        · have h := h.1 c15
          obtain ⟨x16, ex16⟩ : ∃ x16 : Int32, x16 = a3 + (-1) := ⟨_, rfl⟩
          have h := h x16 ex16
          refine w_iinc (v0 := (-1)) (lv' := [(3, .int x16), (0, .ref (b + adM 0 0)), (1, .int a1), (4, .int a4)]) C0 dX12_find_73 hl (k := 2) rfl (by decide) (by decide) x16 ex16 rfl (fun ls hl => ?_)
          exact Bw_X12_find_76 C0 hr hlk hT ih39 a1 x16 a4 S13 _ _ _ h hR hS (lv_sub hl [1, 2, 0, 3] rfl)
        · have h := h.2 c15
          refine lv_aload_n hx hb dX12_find_66 rfl (lv_at hl 0 rfl) ?_
          refine lv_iload hx hb dX12_find_67 (lv_at hl 3 rfl) ?_
          refine qM_Vi (As := [.int a4]) (rest := []) C0 (c_X12_numberOf l h) (cwV 1 C0.2.2.2.2 (tbV mM11_7_202 ⟨mM11_7_204, mpM11_3_3, mM11_1_11, mM11_7_205⟩) rfl rfl rfl (by decide +kernel) ⟨Nat.le_of_ble_eq_true rfl, Nat.le_of_ble_eq_true rfl⟩) (rcM_0 hR Nat.zero_lt_one) hR hT hS rfl hl.1 rfl (Nat.le_of_ble_eq_true rfl) dX12_find_69 ⟨Nat.zero_le _, Nat.zero_le _⟩ (fun r21 S22 H locs h hR hS => ?_)
          exact rtM_i C0 hr hlk hR hS h dX12_find_72
      · have h := h.2 c14
        refine lv_goto (tgt := 76) hx hb dX12_find_59 (by decide) ?_
        exact Bw_X12_find_76 C0 hr hlk hT ih39 a1 a3 a4 S13 _ _ _ h hR hS (lv_sub hl [0, 1, 2, 3] rfl)
def B_X12_find_39 (n9 : Nat) (a1 : Int32) (a3 : Int32) (a4 : Int32) (S : sSt) (k : Int32 → sSt → Prop) : Prop := (Nat.rec (motive := fun _ => Int32 → Int32 → Int32 → sSt → Prop) (fun _ _ _ _ => False) (fun _ r9 => fun a1 a3 a4 S => Bb_X12_find_39 r9 a1 a3 a4 S k) n9 : Int32 → Int32 → Int32 → sSt → Prop) a1 a3 a4 S
theorem B_X12_find_39_s (n9 : Nat) (a1 : Int32) (a3 : Int32) (a4 : Int32) (S : sSt) (k : Int32 → sSt → Prop) : B_X12_find_39 (n9 + 1) a1 a3 a4 S k = Bb_X12_find_39 (fun a1 a3 a4 S => B_X12_find_39 n9 a1 a3 a4 S k) a1 a3 a4 S k := rfl
set_option maxHeartbeats 4000000 in
set_option maxRecDepth 100000 in
theorem Bw_X12_find_39 {p : Program} {l : Launch} {e : Env} {s : State} {m : MethodId} {args : Array Value} {below : List Frame} {meth : Method} {c : Code} {D : va_G} {cy : Nat → ClassId} {b z : Nat} {tx : TX} (C0 : CallFix p m c cX12_find 5 s args TB RX12) (hr : meth.sig.returnType = (some .int)) (hlk : meth.locks = false) (hT : TxR tx s) {k : Int32 → sSt → Prop} : ∀ (n9 : Nat), ∀ (a1 : Int32) (a3 : Int32) (a4 : Int32) (S : sSt) (H : Heap) (locs : List Loc) (ls : Array Slot) , B_X12_find_39 n9 a1 a3 a4 S k → RelM D cy b z tx S s H → va_S (gA b 12 z) s.heap H locs → lv_has ls 5 [(0, .ref (b + adM 0 0)), (1, .int a1), (3, .int a3), (4, .int a4)] → W p l e rm_X12_find s m args below meth c H locs 0 0 (MQ below (PiM D cy b z tx k) args s 0 0 (gA b 12 z)) (F0 m 39 ls []) := by
  intro n9
  induction n9 with
  | zero => intro a1 a3 a4 S H locs ls h; exact h.elim
  | succ n9 ih =>
    intro a1 a3 a4 S H locs ls h hR hS hl
    exact Bbw_X12_find_39 C0 hr hlk hT ih a1 a3 a4 S H locs ls h hR hS hl
def B_X12_find_21 (a1 : Int32) (a2 : Int32) (t1 : Int32) (S : sSt) (k : Int32 → sSt → Prop) : Prop := F_X12_throwsIf t1 1 S (fun r5 S6 => ((r5 = 0 → F_X12_behindNumber (-1) S6 (fun r8 S9 => B_X12_find_39 fuel a1 a2 r8 S9 k)) ∧ (¬ r5 = 0 → k 0 S6)))
set_option maxHeartbeats 4000000 in
set_option maxRecDepth 100000 in
theorem Bw_X12_find_21 {p : Program} {l : Launch} {e : Env} {s : State} {m : MethodId} {args : Array Value} {below : List Frame} {meth : Method} {c : Code} {D : va_G} {cy : Nat → ClassId} {b z : Nat} {tx : TX} (C0 : CallFix p m c cX12_find 5 s args TB RX12) (hr : meth.sig.returnType = (some .int)) (hlk : meth.locks = false) (hT : TxR tx s) {k : Int32 → sSt → Prop} : ∀ (a1 : Int32) (a2 : Int32) (t1 : Int32) (S : sSt) (H : Heap) (locs : List Loc) (ls : Array Slot) , B_X12_find_21 a1 a2 t1 S k → RelM D cy b z tx S s H → va_S (gA b 12 z) s.heap H locs → lv_has ls 5 [(0, .ref (b + adM 0 0)), (1, .int a1), (2, .int a2)] → W p l e rm_X12_find s m args below meth c H locs 0 0 (MQ below (PiM D cy b z tx k) args s 0 0 (gA b 12 z)) (F0 m 21 ls [.int t1, .ref (b + adM 0 0)]) := by
  intro a1 a2 t1 S H locs ls h hR hS hl
  have hx := C0.1
  have hb := C0.2.1
  unfold B_X12_find_21 at h
  refine lv_iconst (v := 1) hx hb dX12_find_21 (by decide) ?_
  refine qM_Vi (As := [.int t1, .int 1]) (rest := []) C0 (c_X12_throwsIf l h) (cwV 2 C0.2.2.2.2 (tbV mM11_8_25 ⟨mM11_8_27, mpM11_3_13, mM11_1_11, mM11_8_28⟩) rfl rfl rfl (by decide +kernel) ⟨Nat.le_of_ble_eq_true rfl, Nat.le_of_ble_eq_true rfl⟩) (rcM_0 hR Nat.zero_lt_one) hR hT hS rfl hl.1 rfl (Nat.le_of_ble_eq_true rfl) dX12_find_22 ⟨Nat.zero_le _, Nat.zero_le _⟩ (fun r5 S6 H locs h hR hS => ?_)
  refine lv_if_eq (tgt := 30) hx hb dX12_find_25 (by decide) (fun c7 => ?_) (fun c7 => ?_)
  · have h := h.1 c7
    refine lv_iload_n hx hb dX12_find_30 rfl (lv_at hl 2 rfl) ?_
    refine lv_istore_n (lv' := [(3, .int a2), (0, .ref (b + adM 0 0)), (1, .int a1), (2, .int a2)]) hx hb dX12_find_31 rfl hl (by decide) rfl (fun ls hl => ?_)
    refine lv_aload_n hx hb dX12_find_32 rfl (lv_at hl 1 rfl) ?_
    refine lv_iconst (v := (-1)) hx hb dX12_find_33 (by decide) ?_
    refine qM_Vi (As := [.int (-1)]) (rest := []) C0 (c_X12_behindNumber l h) (cwV 1 C0.2.2.2.2 (tbV mM11_8_134 ⟨mM11_8_136, mpM11_4_15, mM11_1_11, mM11_8_137⟩) rfl rfl rfl (by decide +kernel) ⟨Nat.le_of_ble_eq_true rfl, Nat.le_of_ble_eq_true rfl⟩) (rcM_0 hR Nat.zero_lt_one) hR hT hS rfl hl.1 rfl (Nat.le_of_ble_eq_true rfl) dX12_find_34 ⟨Nat.zero_le _, Nat.zero_le _⟩ (fun r8 S9 H locs h hR hS => ?_)
    refine lv_istore (lv' := [(4, .int r8), (3, .int a2), (0, .ref (b + adM 0 0)), (1, .int a1), (2, .int a2)]) hx hb dX12_find_37 hl (by decide) rfl (fun ls hl => ?_)
    exact Bw_X12_find_39 C0 hr hlk hT fuel a1 a2 r8 S9 _ _ _ h hR hS (lv_sub hl [2, 3, 1, 0] rfl)
  · have h := h.2 c7
    refine lv_iconst (v := 0) hx hb dX12_find_28 (by decide) ?_
    exact rtM_i C0 hr hlk hR hS h dX12_find_29
def F_X12_find (a1 : Int32) (a2 : Int32) (S : sSt) (k : Int32 → sSt → Prop) : Prop := ∀ S1, S1 = uI S 0 0 0 0 → F_X12_in a1 0 6 S1 (fun r2 S3 => ((¬ r2 = 0 → B_X12_find_21 a1 a2 0 S3 k) ∧ (r2 = 0 → B_X12_find_21 a1 a2 1 S3 k)))
set_option maxHeartbeats 4000000 in
set_option maxRecDepth 100000 in
theorem c_X12_find (l : Launch) {D : va_G} {cy : Nat → ClassId} {b z : Nat} {tx : TX} {a1 : Int32} {a2 : Int32} {S : sSt} {k : Int32 → sSt → Prop} (h : F_X12_find a1 a2 S k) : Met l yX12_find (Cond.code yX12_find cX12_find 5 (some .int) :: TB) rm_X12_find (va_Pc [.ref (b + adM 0 0), .int a1, .int a2] (fun U => RelM D cy b z tx S U U.heap ∧ TxR tx U)) (PiM D cy b z tx k) 0 0 (gA b 12 z) := by
  refine Met.ofW (cc := cX12_find) (maxL := 5) (ret := (some .int)) (by decide) rfl ?_
  intro p e s m args below meth c s₁ B hml hv
  obtain ⟨rfl, hR, hT⟩ := hv
  have C0 : CallFix p m c cX12_find 5 s _ TB RX12 := ⟨B.exec, B.bytes, hml, findClass_of_methodNamed B.named, fun w hw => atoms_spec B.pre w (List.mem_cons_of_mem _ hw)⟩
  have hr := B.returns
  have hlk := B.notSynchronized
  have hx := C0.1
  have hb := C0.2.1
  have hS : va_S (gA b 12 z) s.heap s.heap [] := va_S.rf
  have hl := lv_entry ([.ref (b + adM 0 0), .int a1, .int a2]) (n := 5) (Nat.le_of_ble_eq_true rfl)
  rw [lg_entry_eq]
  generalize (lg_sl ([.ref (b + adM 0 0), .int a1, .int a2]) ++ List.replicate (5 - (lg_sl ([.ref (b + adM 0 0), .int a1, .int a2])).length) Slot.unset).toArray = ls at hl ⊢
  have hl : lv_has ls 5 [(0, .ref (b + adM 0 0)), (1, .int a1), (2, .int a2)] := hl
  show W p l e rm_X12_find s m _ below meth c s.heap [] 0 0 (MQ below (PiM D cy b z tx k) _ s 0 0 (gA b 12 z)) _
  unfold F_X12_find at h
  refine lv_aload_n hx hb dX12_find_0 rfl (lv_at hl 0 rfl) ?_
  refine lv_iconst (v := 0) hx hb dX12_find_1 (by decide) ?_
  refine pM_0_0 C0 hR hS Nat.zero_lt_one tbs_wsX120 mM11_7_77 dX12_find_2 (fun S1 eS1 H locs hR hS => ?_)
  have h := h S1 eS1
  refine lv_aload_n hx hb dX12_find_5 rfl (lv_at hl 0 rfl) ?_
  refine lv_iload_n hx hb dX12_find_6 rfl (lv_at hl 1 rfl) ?_
  refine lv_iconst (v := 0) hx hb dX12_find_7 (by decide) ?_
  refine lv_bipush (v := 6) hx hb dX12_find_8 (by decide) ?_
  refine qM_Si (As := [.int a1, .int 0, .int 6]) (rest := [.ref (b + adM 0 0)]) C0 (c_X12_in l h) (va_cwS 3 C0.2.2.2.2 (tbS mM11_8_37 ⟨mM11_8_38, mM11_1_11, mM11_8_39⟩) rfl rfl rfl (by decide +kernel) ⟨Nat.le_of_ble_eq_true rfl, Nat.le_of_ble_eq_true rfl⟩) hR hT hS rfl hl.1 rfl (Nat.le_of_ble_eq_true rfl) dX12_find_10 ⟨Nat.zero_le _, Nat.zero_le _⟩ (fun r2 S3 H locs h hR hS => ?_)
  refine lv_if_ne (tgt := 20) hx hb dX12_find_13 (by decide) (fun c4 => ?_) (fun c4 => ?_)
  · have h := h.1 c4
    refine lv_iconst (v := 0) hx hb dX12_find_20 (by decide) ?_
    exact Bw_X12_find_21 C0 hr hlk hT a1 a2 0 S3 _ _ _ h hR hS (lv_sub hl [0, 1, 2] rfl)
  · have h := h.2 c4
    refine lv_iconst (v := 1) hx hb dX12_find_16 (by decide) ?_
    refine lv_goto (tgt := 21) hx hb dX12_find_17 (by decide) ?_
    exact Bw_X12_find_21 C0 hr hlk hT a1 a2 1 S3 _ _ _ h hR hS (lv_sub hl [0, 1, 2] rfl)

def rm_X12_count : Room := { frames := 3, cells := 0, slots := 0, locals := 64 }
def B_X12_count_118 (kk98 : Int32 → Int32 → sSt → Prop) (a3 : Int32) (t0 : Int32) (t1 : Int32) (S : sSt) (k : Int32 → sSt → Prop) : Prop := ∀ x7 : Int32, x7 = (t0 + t1) → ∀ x8 : Int32, x8 = a3 + 1 → kk98 x7 x8 S
set_option maxHeartbeats 4000000 in
set_option maxRecDepth 100000 in
theorem Bw_X12_count_118 {p : Program} {l : Launch} {e : Env} {s : State} {m : MethodId} {args : Array Value} {below : List Frame} {meth : Method} {c : Code} {D : va_G} {cy : Nat → ClassId} {b z : Nat} {tx : TX} (C0 : CallFix p m c cX12_count 4 s args TB RX12) (hr : meth.sig.returnType = (some .int)) (hlk : meth.locks = false) (hT : TxR tx s) {k : Int32 → sSt → Prop} {kk98 : Int32 → Int32 → sSt → Prop} (ih98 : ∀ (a2 : Int32) (a3 : Int32) (S : sSt) (H : Heap) (locs : List Loc) (ls : Array Slot) , kk98 a2 a3 S → RelM D cy b z tx S s H → va_S (gA b 12 z) s.heap H locs → lv_has ls 4 [(0, .ref (b + adM 0 0)), (2, .int a2), (3, .int a3)] → W p l e rm_X12_count s m args below meth c H locs 0 0 (MQ below (PiM D cy b z tx k) args s 0 0 (gA b 12 z)) (F0 m 98 ls [])) : ∀ (a3 : Int32) (t0 : Int32) (t1 : Int32) (S : sSt) (H : Heap) (locs : List Loc) (ls : Array Slot) , B_X12_count_118 kk98 a3 t0 t1 S k → RelM D cy b z tx S s H → va_S (gA b 12 z) s.heap H locs → lv_has ls 4 [(0, .ref (b + adM 0 0)), (3, .int a3)] → W p l e rm_X12_count s m args below meth c H locs 0 0 (MQ below (PiM D cy b z tx k) args s 0 0 (gA b 12 z)) (F0 m 118 ls [.int t1, .int t0]) := by
  intro a3 t0 t1 S H locs ls h hR hS hl
  have hx := C0.1
  have hb := C0.2.1
  unfold B_X12_count_118 at h
  refine lv_iadd hx hb dX12_count_118 ?_
  refine lv_topi (fun x7 ex7 => ?_)
  have h := h x7 ex7
  refine lv_istore_n (lv' := [(2, .int x7), (0, .ref (b + adM 0 0)), (3, .int a3)]) hx hb dX12_count_119 rfl hl (by decide) rfl (fun ls hl => ?_)
  obtain ⟨x8, ex8⟩ : ∃ x8 : Int32, x8 = a3 + 1 := ⟨_, rfl⟩
  have h := h x8 ex8
  refine w_iinc (v0 := 1) (lv' := [(3, .int x8), (2, .int x7), (0, .ref (b + adM 0 0))]) C0 dX12_count_120 hl (k := 2) rfl (by decide) (by decide) x8 ex8 rfl (fun ls hl => ?_)
  refine lv_goto (tgt := 98) hx hb dX12_count_123 (by decide) ?_
  exact ih98 x7 x8 S _ _ _  h hR hS (lv_sub hl [2, 1, 0] rfl)
def Bb_X12_count_98 (kk98 : Int32 → Int32 → sSt → Prop) (a2 : Int32) (a3 : Int32) (S : sSt) (k : Int32 → sSt → Prop) : Prop := ((24 ≤ a3 → k a2 S) ∧ (¬ 24 ≤ a3 → F_X12_isIn a3 S (fun r4 S5 => ((r4 = 0 → B_X12_count_118 kk98 a3 a2 0 S5 k) ∧ (¬ r4 = 0 → B_X12_count_118 kk98 a3 a2 1 S5 k)))))
set_option maxHeartbeats 4000000 in
set_option maxRecDepth 100000 in
theorem Bbw_X12_count_98 {p : Program} {l : Launch} {e : Env} {s : State} {m : MethodId} {args : Array Value} {below : List Frame} {meth : Method} {c : Code} {D : va_G} {cy : Nat → ClassId} {b z : Nat} {tx : TX} (C0 : CallFix p m c cX12_count 4 s args TB RX12) (hr : meth.sig.returnType = (some .int)) (hlk : meth.locks = false) (hT : TxR tx s) {k : Int32 → sSt → Prop} {kk98 : Int32 → Int32 → sSt → Prop} (ih98 : ∀ (a2 : Int32) (a3 : Int32) (S : sSt) (H : Heap) (locs : List Loc) (ls : Array Slot) , kk98 a2 a3 S → RelM D cy b z tx S s H → va_S (gA b 12 z) s.heap H locs → lv_has ls 4 [(0, .ref (b + adM 0 0)), (2, .int a2), (3, .int a3)] → W p l e rm_X12_count s m args below meth c H locs 0 0 (MQ below (PiM D cy b z tx k) args s 0 0 (gA b 12 z)) (F0 m 98 ls [])) : ∀ (a2 : Int32) (a3 : Int32) (S : sSt) (H : Heap) (locs : List Loc) (ls : Array Slot) , Bb_X12_count_98 kk98 a2 a3 S k → RelM D cy b z tx S s H → va_S (gA b 12 z) s.heap H locs → lv_has ls 4 [(0, .ref (b + adM 0 0)), (2, .int a2), (3, .int a3)] → W p l e rm_X12_count s m args below meth c H locs 0 0 (MQ below (PiM D cy b z tx k) args s 0 0 (gA b 12 z)) (F0 m 98 ls []) := by
  intro a2 a3 S H locs ls h hR hS hl
  have hx := C0.1
  have hb := C0.2.1
  unfold Bb_X12_count_98 at h
  refine lv_iload_n hx hb dX12_count_98 rfl (lv_at hl 2 rfl) ?_
  refine lv_bipush (v := 24) hx hb dX12_count_99 (by decide) ?_
  refine lv_icmp_ge (tgt := 126) hx hb dX12_count_101 (by decide) (fun c3 => ?_) (fun c3 => ?_)
  · have h := h.1 c3
    refine lv_iload_n hx hb dX12_count_126 rfl (lv_at hl 1 rfl) ?_
    exact rtM_i C0 hr hlk hR hS h dX12_count_127
  · have h := h.2 c3
    refine lv_iload_n hx hb dX12_count_104 rfl (lv_at hl 1 rfl) ?_
    refine lv_aload_n hx hb dX12_count_105 rfl (lv_at hl 0 rfl) ?_
    refine lv_iload_n hx hb dX12_count_106 rfl (lv_at hl 2 rfl) ?_
    refine qM_Vi (As := [.int a3]) (rest := [.int a2]) C0 (c_X12_isIn l h) (cwV 1 C0.2.2.2.2 (tbV mM11_8_122 ⟨mM11_8_124, mpM11_4_13, mM11_1_11, mM11_8_125⟩) rfl rfl rfl (by decide +kernel) ⟨Nat.le_of_ble_eq_true rfl, Nat.le_of_ble_eq_true rfl⟩) (rcM_0 hR Nat.zero_lt_one) hR hT hS rfl hl.1 rfl (Nat.le_of_ble_eq_true rfl) dX12_count_107 ⟨Nat.zero_le _, Nat.zero_le _⟩ (fun r4 S5 H locs h hR hS => ?_)
    refine lv_if_eq (tgt := 117) hx hb dX12_count_110 (by decide) (fun c6 => ?_) (fun c6 => ?_)
    · have h := h.1 c6
      refine lv_iconst (v := 0) hx hb dX12_count_117 (by decide) ?_
      exact Bw_X12_count_118 C0 hr hlk hT ih98 a3 a2 0 S5 _ _ _ h hR hS (lv_sub hl [0, 2] rfl)
    · have h := h.2 c6
      refine lv_iconst (v := 1) hx hb dX12_count_113 (by decide) ?_
      refine lv_goto (tgt := 118) hx hb dX12_count_114 (by decide) ?_
      exact Bw_X12_count_118 C0 hr hlk hT ih98 a3 a2 1 S5 _ _ _ h hR hS (lv_sub hl [0, 2] rfl)
def B_X12_count_98 (n9 : Nat) (a2 : Int32) (a3 : Int32) (S : sSt) (k : Int32 → sSt → Prop) : Prop := (Nat.rec (motive := fun _ => Int32 → Int32 → sSt → Prop) (fun _ _ _ => False) (fun _ r9 => fun a2 a3 S => Bb_X12_count_98 r9 a2 a3 S k) n9 : Int32 → Int32 → sSt → Prop) a2 a3 S
theorem B_X12_count_98_s (n9 : Nat) (a2 : Int32) (a3 : Int32) (S : sSt) (k : Int32 → sSt → Prop) : B_X12_count_98 (n9 + 1) a2 a3 S k = Bb_X12_count_98 (fun a2 a3 S => B_X12_count_98 n9 a2 a3 S k) a2 a3 S k := rfl
set_option maxHeartbeats 4000000 in
set_option maxRecDepth 100000 in
theorem Bw_X12_count_98 {p : Program} {l : Launch} {e : Env} {s : State} {m : MethodId} {args : Array Value} {below : List Frame} {meth : Method} {c : Code} {D : va_G} {cy : Nat → ClassId} {b z : Nat} {tx : TX} (C0 : CallFix p m c cX12_count 4 s args TB RX12) (hr : meth.sig.returnType = (some .int)) (hlk : meth.locks = false) (hT : TxR tx s) {k : Int32 → sSt → Prop} : ∀ (n9 : Nat), ∀ (a2 : Int32) (a3 : Int32) (S : sSt) (H : Heap) (locs : List Loc) (ls : Array Slot) , B_X12_count_98 n9 a2 a3 S k → RelM D cy b z tx S s H → va_S (gA b 12 z) s.heap H locs → lv_has ls 4 [(0, .ref (b + adM 0 0)), (2, .int a2), (3, .int a3)] → W p l e rm_X12_count s m args below meth c H locs 0 0 (MQ below (PiM D cy b z tx k) args s 0 0 (gA b 12 z)) (F0 m 98 ls []) := by
  intro n9
  induction n9 with
  | zero => intro a2 a3 S H locs ls h; exact h.elim
  | succ n9 ih =>
    intro a2 a3 S H locs ls h hR hS hl
    exact Bbw_X12_count_98 C0 hr hlk hT ih a2 a3 S H locs ls h hR hS hl
def B_X12_count_186 (kk156 : Int32 → Int32 → sSt → Prop) (a3 : Int32) (t0 : Int32) (t1 : Int32) (S : sSt) (k : Int32 → sSt → Prop) : Prop := ∀ x74 : Int32, x74 = (t0 + t1) → ∀ x75 : Int32, x75 = a3 + 1 → kk156 x74 x75 S
set_option maxHeartbeats 4000000 in
set_option maxRecDepth 100000 in
theorem Bw_X12_count_186 {p : Program} {l : Launch} {e : Env} {s : State} {m : MethodId} {args : Array Value} {below : List Frame} {meth : Method} {c : Code} {D : va_G} {cy : Nat → ClassId} {b z : Nat} {tx : TX} (C0 : CallFix p m c cX12_count 4 s args TB RX12) (hr : meth.sig.returnType = (some .int)) (hlk : meth.locks = false) (hT : TxR tx s) {k : Int32 → sSt → Prop} {kk156 : Int32 → Int32 → sSt → Prop} (ih156 : ∀ (a2 : Int32) (a3 : Int32) (S : sSt) (H : Heap) (locs : List Loc) (ls : Array Slot) , kk156 a2 a3 S → RelM D cy b z tx S s H → va_S (gA b 12 z) s.heap H locs → lv_has ls 4 [(0, .ref (b + adM 0 0)), (2, .int a2), (3, .int a3)] → W p l e rm_X12_count s m args below meth c H locs 0 0 (MQ below (PiM D cy b z tx k) args s 0 0 (gA b 12 z)) (F0 m 156 ls [])) : ∀ (a3 : Int32) (t0 : Int32) (t1 : Int32) (S : sSt) (H : Heap) (locs : List Loc) (ls : Array Slot) , B_X12_count_186 kk156 a3 t0 t1 S k → RelM D cy b z tx S s H → va_S (gA b 12 z) s.heap H locs → lv_has ls 4 [(0, .ref (b + adM 0 0)), (3, .int a3)] → W p l e rm_X12_count s m args below meth c H locs 0 0 (MQ below (PiM D cy b z tx k) args s 0 0 (gA b 12 z)) (F0 m 186 ls [.int t1, .int t0]) := by
  intro a3 t0 t1 S H locs ls h hR hS hl
  have hx := C0.1
  have hb := C0.2.1
  unfold B_X12_count_186 at h
  refine lv_iadd hx hb dX12_count_186 ?_
  refine lv_topi (fun x74 ex74 => ?_)
  have h := h x74 ex74
  refine lv_istore_n (lv' := [(2, .int x74), (0, .ref (b + adM 0 0)), (3, .int a3)]) hx hb dX12_count_187 rfl hl (by decide) rfl (fun ls hl => ?_)
  obtain ⟨x75, ex75⟩ : ∃ x75 : Int32, x75 = a3 + 1 := ⟨_, rfl⟩
  have h := h x75 ex75
  refine w_iinc (v0 := 1) (lv' := [(3, .int x75), (2, .int x74), (0, .ref (b + adM 0 0))]) C0 dX12_count_188 hl (k := 2) rfl (by decide) (by decide) x75 ex75 rfl (fun ls hl => ?_)
  refine lv_goto (tgt := 156) hx hb dX12_count_191 (by decide) ?_
  exact ih156 x74 x75 S _ _ _  h hR hS (lv_sub hl [2, 1, 0] rfl)
def B_X12_count_185 (kk156 : Int32 → Int32 → sSt → Prop) (a3 : Int32) (t0 : Int32) (S : sSt) (k : Int32 → sSt → Prop) : Prop := B_X12_count_186 kk156 a3 t0 0 S k
set_option maxHeartbeats 4000000 in
set_option maxRecDepth 100000 in
theorem Bw_X12_count_185 {p : Program} {l : Launch} {e : Env} {s : State} {m : MethodId} {args : Array Value} {below : List Frame} {meth : Method} {c : Code} {D : va_G} {cy : Nat → ClassId} {b z : Nat} {tx : TX} (C0 : CallFix p m c cX12_count 4 s args TB RX12) (hr : meth.sig.returnType = (some .int)) (hlk : meth.locks = false) (hT : TxR tx s) {k : Int32 → sSt → Prop} {kk156 : Int32 → Int32 → sSt → Prop} (ih156 : ∀ (a2 : Int32) (a3 : Int32) (S : sSt) (H : Heap) (locs : List Loc) (ls : Array Slot) , kk156 a2 a3 S → RelM D cy b z tx S s H → va_S (gA b 12 z) s.heap H locs → lv_has ls 4 [(0, .ref (b + adM 0 0)), (2, .int a2), (3, .int a3)] → W p l e rm_X12_count s m args below meth c H locs 0 0 (MQ below (PiM D cy b z tx k) args s 0 0 (gA b 12 z)) (F0 m 156 ls [])) : ∀ (a3 : Int32) (t0 : Int32) (S : sSt) (H : Heap) (locs : List Loc) (ls : Array Slot) , B_X12_count_185 kk156 a3 t0 S k → RelM D cy b z tx S s H → va_S (gA b 12 z) s.heap H locs → lv_has ls 4 [(0, .ref (b + adM 0 0)), (3, .int a3)] → W p l e rm_X12_count s m args below meth c H locs 0 0 (MQ below (PiM D cy b z tx k) args s 0 0 (gA b 12 z)) (F0 m 185 ls [.int t0]) := by
  intro a3 t0 S H locs ls h hR hS hl
  have hx := C0.1
  have hb := C0.2.1
  unfold B_X12_count_185 at h
  refine lv_iconst (v := 0) hx hb dX12_count_185 (by decide) ?_
  exact Bw_X12_count_186 C0 hr hlk hT ih156 a3 t0 0 S _ _ _ h hR hS (lv_sub hl [0, 1] rfl)
def Bb_X12_count_156 (kk156 : Int32 → Int32 → sSt → Prop) (a2 : Int32) (a3 : Int32) (S : sSt) (k : Int32 → sSt → Prop) : Prop := ((24 ≤ a3 → k a2 S) ∧ (¬ 24 ≤ a3 → F_X12_numberOf a3 S (fun r71 S72 => ((r71 = (-1) → B_X12_count_185 kk156 a3 a2 S72 k) ∧ (¬ r71 = (-1) → F_X12_lockerOf a3 S72 (fun r76 S77 => ((r76 = (-1) → B_X12_count_185 kk156 a3 a2 S77 k) ∧ (¬ r76 = (-1) → B_X12_count_186 kk156 a3 a2 1 S77 k))))))))
set_option maxHeartbeats 4000000 in
set_option maxRecDepth 100000 in
theorem Bbw_X12_count_156 {p : Program} {l : Launch} {e : Env} {s : State} {m : MethodId} {args : Array Value} {below : List Frame} {meth : Method} {c : Code} {D : va_G} {cy : Nat → ClassId} {b z : Nat} {tx : TX} (C0 : CallFix p m c cX12_count 4 s args TB RX12) (hr : meth.sig.returnType = (some .int)) (hlk : meth.locks = false) (hT : TxR tx s) {k : Int32 → sSt → Prop} {kk156 : Int32 → Int32 → sSt → Prop} (ih156 : ∀ (a2 : Int32) (a3 : Int32) (S : sSt) (H : Heap) (locs : List Loc) (ls : Array Slot) , kk156 a2 a3 S → RelM D cy b z tx S s H → va_S (gA b 12 z) s.heap H locs → lv_has ls 4 [(0, .ref (b + adM 0 0)), (2, .int a2), (3, .int a3)] → W p l e rm_X12_count s m args below meth c H locs 0 0 (MQ below (PiM D cy b z tx k) args s 0 0 (gA b 12 z)) (F0 m 156 ls [])) : ∀ (a2 : Int32) (a3 : Int32) (S : sSt) (H : Heap) (locs : List Loc) (ls : Array Slot) , Bb_X12_count_156 kk156 a2 a3 S k → RelM D cy b z tx S s H → va_S (gA b 12 z) s.heap H locs → lv_has ls 4 [(0, .ref (b + adM 0 0)), (2, .int a2), (3, .int a3)] → W p l e rm_X12_count s m args below meth c H locs 0 0 (MQ below (PiM D cy b z tx k) args s 0 0 (gA b 12 z)) (F0 m 156 ls []) := by
  intro a2 a3 S H locs ls h hR hS hl
  have hx := C0.1
  have hb := C0.2.1
  unfold Bb_X12_count_156 at h
  refine lv_iload_n hx hb dX12_count_156 rfl (lv_at hl 2 rfl) ?_
  refine lv_bipush (v := 24) hx hb dX12_count_157 (by decide) ?_
  refine lv_icmp_ge (tgt := 194) hx hb dX12_count_159 (by decide) (fun c70 => ?_) (fun c70 => ?_)
  · have h := h.1 c70
    refine lv_iload_n hx hb dX12_count_194 rfl (lv_at hl 1 rfl) ?_
    exact rtM_i C0 hr hlk hR hS h dX12_count_195
  · have h := h.2 c70
    refine lv_iload_n hx hb dX12_count_162 rfl (lv_at hl 1 rfl) ?_
    refine lv_aload_n hx hb dX12_count_163 rfl (lv_at hl 0 rfl) ?_
    refine lv_iload_n hx hb dX12_count_164 rfl (lv_at hl 2 rfl) ?_
    refine qM_Vi (As := [.int a3]) (rest := [.int a2]) C0 (c_X12_numberOf l h) (cwV 1 C0.2.2.2.2 (tbV mM11_7_202 ⟨mM11_7_204, mpM11_3_3, mM11_1_11, mM11_7_205⟩) rfl rfl rfl (by decide +kernel) ⟨Nat.le_of_ble_eq_true rfl, Nat.le_of_ble_eq_true rfl⟩) (rcM_0 hR Nat.zero_lt_one) hR hT hS rfl hl.1 rfl (Nat.le_of_ble_eq_true rfl) dX12_count_165 ⟨Nat.zero_le _, Nat.zero_le _⟩ (fun r71 S72 H locs h hR hS => ?_)
    refine lv_iconst (v := (-1)) hx hb dX12_count_168 (by decide) ?_
    refine lv_icmp_eq (tgt := 185) hx hb dX12_count_169 (by decide) (fun c73 => ?_) (fun c73 => ?_)
    · have h := h.1 c73
      exact Bw_X12_count_185 C0 hr hlk hT ih156 a3 a2 S72 _ _ _ h hR hS (lv_sub hl [0, 2] rfl)
    · have h := h.2 c73
      refine lv_aload_n hx hb dX12_count_172 rfl (lv_at hl 0 rfl) ?_
      refine lv_iload_n hx hb dX12_count_173 rfl (lv_at hl 2 rfl) ?_
      refine qM_Vi (As := [.int a3]) (rest := [.int a2]) C0 (c_X12_lockerOf l h) (cwV 1 C0.2.2.2.2 (tbV mM11_8_106 ⟨mM11_8_108, mpM11_4_10, mM11_1_11, mM11_8_109⟩) rfl rfl rfl (by decide +kernel) ⟨Nat.le_of_ble_eq_true rfl, Nat.le_of_ble_eq_true rfl⟩) (rcM_0 hR Nat.zero_lt_one) hR hT hS rfl hl.1 rfl (Nat.le_of_ble_eq_true rfl) dX12_count_174 ⟨Nat.zero_le _, Nat.zero_le _⟩ (fun r76 S77 H locs h hR hS => ?_)
      refine lv_iconst (v := (-1)) hx hb dX12_count_177 (by decide) ?_
      refine lv_icmp_eq (tgt := 185) hx hb dX12_count_178 (by decide) (fun c78 => ?_) (fun c78 => ?_)
      · have h := h.1 c78
        exact Bw_X12_count_185 C0 hr hlk hT ih156 a3 a2 S77 _ _ _ h hR hS (lv_sub hl [0, 2] rfl)
      · have h := h.2 c78
        refine lv_iconst (v := 1) hx hb dX12_count_181 (by decide) ?_
        refine lv_goto (tgt := 186) hx hb dX12_count_182 (by decide) ?_
        exact Bw_X12_count_186 C0 hr hlk hT ih156 a3 a2 1 S77 _ _ _ h hR hS (lv_sub hl [0, 2] rfl)
def B_X12_count_156 (n9 : Nat) (a2 : Int32) (a3 : Int32) (S : sSt) (k : Int32 → sSt → Prop) : Prop := (Nat.rec (motive := fun _ => Int32 → Int32 → sSt → Prop) (fun _ _ _ => False) (fun _ r9 => fun a2 a3 S => Bb_X12_count_156 r9 a2 a3 S k) n9 : Int32 → Int32 → sSt → Prop) a2 a3 S
theorem B_X12_count_156_s (n9 : Nat) (a2 : Int32) (a3 : Int32) (S : sSt) (k : Int32 → sSt → Prop) : B_X12_count_156 (n9 + 1) a2 a3 S k = Bb_X12_count_156 (fun a2 a3 S => B_X12_count_156 n9 a2 a3 S k) a2 a3 S k := rfl
set_option maxHeartbeats 4000000 in
set_option maxRecDepth 100000 in
theorem Bw_X12_count_156 {p : Program} {l : Launch} {e : Env} {s : State} {m : MethodId} {args : Array Value} {below : List Frame} {meth : Method} {c : Code} {D : va_G} {cy : Nat → ClassId} {b z : Nat} {tx : TX} (C0 : CallFix p m c cX12_count 4 s args TB RX12) (hr : meth.sig.returnType = (some .int)) (hlk : meth.locks = false) (hT : TxR tx s) {k : Int32 → sSt → Prop} : ∀ (n9 : Nat), ∀ (a2 : Int32) (a3 : Int32) (S : sSt) (H : Heap) (locs : List Loc) (ls : Array Slot) , B_X12_count_156 n9 a2 a3 S k → RelM D cy b z tx S s H → va_S (gA b 12 z) s.heap H locs → lv_has ls 4 [(0, .ref (b + adM 0 0)), (2, .int a2), (3, .int a3)] → W p l e rm_X12_count s m args below meth c H locs 0 0 (MQ below (PiM D cy b z tx k) args s 0 0 (gA b 12 z)) (F0 m 156 ls []) := by
  intro n9
  induction n9 with
  | zero => intro a2 a3 S H locs ls h; exact h.elim
  | succ n9 ih =>
    intro a2 a3 S H locs ls h hR hS hl
    exact Bbw_X12_count_156 C0 hr hlk hT ih a2 a3 S H locs ls h hR hS hl
def F_X12_count (a1 : Int32) (S : sSt) (k : Int32 → sSt → Prop) : Prop := ∀ S1, S1 = uI S 0 0 0 0 → ((a1 = 0 → B_X12_count_98 fuel 0 0 S1 k) ∧ (¬ a1 = 0 → ((a1 = 1 → k (S1.1 1 0 0) S1) ∧ (¬ a1 = 1 → ((a1 = 2 → k (S1.1 1 0 1) S1) ∧ (¬ a1 = 2 → ((a1 = 3 → k (S1.1 1 0 2) S1) ∧ (¬ a1 = 3 → ((a1 = 4 → F_X12_in a1 4 9 S1 (fun r13 S14 => ((r13 = 0 → F_X12_in a1 12 16 S14 (fun r16 S17 => ((r16 = 0 → k (-1) S17) ∧ (¬ r16 = 0 → ix ((9 + a1) - 12) 10421 (fun j19 => k (S17.1 1 0 j19) S17))))) ∧ (¬ r13 = 0 → ix ((3 + a1) - 4) 10421 (fun j20 => k (S14.1 1 0 j20) S14))))) ∧ (¬ a1 = 4 → ((a1 = 5 → F_X12_in a1 4 9 S1 (fun r22 S23 => ((r22 = 0 → F_X12_in a1 12 16 S23 (fun r25 S26 => ((r25 = 0 → k (-1) S26) ∧ (¬ r25 = 0 → ix ((9 + a1) - 12) 10421 (fun j28 => k (S26.1 1 0 j28) S26))))) ∧ (¬ r22 = 0 → ix ((3 + a1) - 4) 10421 (fun j29 => k (S23.1 1 0 j29) S23))))) ∧ (¬ a1 = 5 → ((a1 = 6 → F_X12_in a1 4 9 S1 (fun r31 S32 => ((r31 = 0 → F_X12_in a1 12 16 S32 (fun r34 S35 => ((r34 = 0 → k (-1) S35) ∧ (¬ r34 = 0 → ix ((9 + a1) - 12) 10421 (fun j37 => k (S35.1 1 0 j37) S35))))) ∧ (¬ r31 = 0 → ix ((3 + a1) - 4) 10421 (fun j38 => k (S32.1 1 0 j38) S32))))) ∧ (¬ a1 = 6 → ((a1 = 7 → F_X12_in a1 4 9 S1 (fun r40 S41 => ((r40 = 0 → F_X12_in a1 12 16 S41 (fun r43 S44 => ((r43 = 0 → k (-1) S44) ∧ (¬ r43 = 0 → ix ((9 + a1) - 12) 10421 (fun j46 => k (S44.1 1 0 j46) S44))))) ∧ (¬ r40 = 0 → ix ((3 + a1) - 4) 10421 (fun j47 => k (S41.1 1 0 j47) S41))))) ∧ (¬ a1 = 7 → ((a1 = 8 → F_X12_in a1 4 9 S1 (fun r49 S50 => ((r49 = 0 → F_X12_in a1 12 16 S50 (fun r52 S53 => ((r52 = 0 → k (-1) S53) ∧ (¬ r52 = 0 → ix ((9 + a1) - 12) 10421 (fun j55 => k (S53.1 1 0 j55) S53))))) ∧ (¬ r49 = 0 → ix ((3 + a1) - 4) 10421 (fun j56 => k (S50.1 1 0 j56) S50))))) ∧ (¬ a1 = 8 → ((a1 = 9 → F_X12_in a1 4 9 S1 (fun r58 S59 => ((r58 = 0 → F_X12_in a1 12 16 S59 (fun r61 S62 => ((r61 = 0 → k (-1) S62) ∧ (¬ r61 = 0 → ix ((9 + a1) - 12) 10421 (fun j64 => k (S62.1 1 0 j64) S62))))) ∧ (¬ r58 = 0 → ix ((3 + a1) - 4) 10421 (fun j65 => k (S59.1 1 0 j65) S59))))) ∧ (¬ a1 = 9 → ((a1 = 10 → F_X12_opened S1 (fun r67 S68 => k r67 S68)) ∧ (¬ a1 = 10 → ((a1 = 11 → B_X12_count_156 fuel 0 0 S1 k) ∧ (¬ a1 = 11 → ((a1 = 12 → F_X12_in a1 4 9 S1 (fun r80 S81 => ((r80 = 0 → F_X12_in a1 12 16 S81 (fun r83 S84 => ((r83 = 0 → k (-1) S84) ∧ (¬ r83 = 0 → ix ((9 + a1) - 12) 10421 (fun j86 => k (S84.1 1 0 j86) S84))))) ∧ (¬ r80 = 0 → ix ((3 + a1) - 4) 10421 (fun j87 => k (S81.1 1 0 j87) S81))))) ∧ (¬ a1 = 12 → ((a1 = 13 → F_X12_in a1 4 9 S1 (fun r89 S90 => ((r89 = 0 → F_X12_in a1 12 16 S90 (fun r92 S93 => ((r92 = 0 → k (-1) S93) ∧ (¬ r92 = 0 → ix ((9 + a1) - 12) 10421 (fun j95 => k (S93.1 1 0 j95) S93))))) ∧ (¬ r89 = 0 → ix ((3 + a1) - 4) 10421 (fun j96 => k (S90.1 1 0 j96) S90))))) ∧ (¬ a1 = 13 → ((a1 = 14 → F_X12_in a1 4 9 S1 (fun r98 S99 => ((r98 = 0 → F_X12_in a1 12 16 S99 (fun r101 S102 => ((r101 = 0 → k (-1) S102) ∧ (¬ r101 = 0 → ix ((9 + a1) - 12) 10421 (fun j104 => k (S102.1 1 0 j104) S102))))) ∧ (¬ r98 = 0 → ix ((3 + a1) - 4) 10421 (fun j105 => k (S99.1 1 0 j105) S99))))) ∧ (¬ a1 = 14 → ((a1 = 15 → F_X12_in a1 4 9 S1 (fun r107 S108 => ((r107 = 0 → F_X12_in a1 12 16 S108 (fun r110 S111 => ((r110 = 0 → k (-1) S111) ∧ (¬ r110 = 0 → ix ((9 + a1) - 12) 10421 (fun j113 => k (S111.1 1 0 j113) S111))))) ∧ (¬ r107 = 0 → ix ((3 + a1) - 4) 10421 (fun j114 => k (S108.1 1 0 j114) S108))))) ∧ (¬ a1 = 15 → ((a1 = 16 → F_X12_in a1 4 9 S1 (fun r116 S117 => ((r116 = 0 → F_X12_in a1 12 16 S117 (fun r119 S120 => ((r119 = 0 → k (-1) S120) ∧ (¬ r119 = 0 → ix ((9 + a1) - 12) 10421 (fun j122 => k (S120.1 1 0 j122) S120))))) ∧ (¬ r116 = 0 → ix ((3 + a1) - 4) 10421 (fun j123 => k (S117.1 1 0 j123) S117))))) ∧ (¬ a1 = 16 → ((a1 = 17 → k (S1.1 1 0 14) S1) ∧ (¬ a1 = 17 → F_X12_in a1 4 9 S1 (fun r125 S126 => ((r125 = 0 → F_X12_in a1 12 16 S126 (fun r128 S129 => ((r128 = 0 → k (-1) S129) ∧ (¬ r128 = 0 → ix ((9 + a1) - 12) 10421 (fun j131 => k (S129.1 1 0 j131) S129))))) ∧ (¬ r125 = 0 → ix ((3 + a1) - 4) 10421 (fun j132 => k (S126.1 1 0 j132) S126))))))))))))))))))))))))))))))))))))))))
set_option maxHeartbeats 4000000 in
set_option maxRecDepth 100000 in
theorem c_X12_count (l : Launch) {D : va_G} {cy : Nat → ClassId} {b z : Nat} {tx : TX} {a1 : Int32} {S : sSt} {k : Int32 → sSt → Prop} (h : F_X12_count a1 S k) : Met l yX12_count (Cond.code yX12_count cX12_count 4 (some .int) :: TB) rm_X12_count (va_Pc [.ref (b + adM 0 0), .int a1] (fun U => RelM D cy b z tx S U U.heap ∧ TxR tx U)) (PiM D cy b z tx k) 0 0 (gA b 12 z) := by
  refine Met.ofW (cc := cX12_count) (maxL := 4) (ret := (some .int)) (by decide) rfl ?_
  intro p e s m args below meth c s₁ B hml hv
  obtain ⟨rfl, hR, hT⟩ := hv
  have C0 : CallFix p m c cX12_count 4 s _ TB RX12 := ⟨B.exec, B.bytes, hml, findClass_of_methodNamed B.named, fun w hw => atoms_spec B.pre w (List.mem_cons_of_mem _ hw)⟩
  have hr := B.returns
  have hlk := B.notSynchronized
  have hx := C0.1
  have hb := C0.2.1
  have hS : va_S (gA b 12 z) s.heap s.heap [] := va_S.rf
  have hl := lv_entry ([.ref (b + adM 0 0), .int a1]) (n := 4) (Nat.le_of_ble_eq_true rfl)
  rw [lg_entry_eq]
  generalize (lg_sl ([.ref (b + adM 0 0), .int a1]) ++ List.replicate (4 - (lg_sl ([.ref (b + adM 0 0), .int a1])).length) Slot.unset).toArray = ls at hl ⊢
  have hl : lv_has ls 4 [(0, .ref (b + adM 0 0)), (1, .int a1)] := hl
  show W p l e rm_X12_count s m _ below meth c s.heap [] 0 0 (MQ below (PiM D cy b z tx k) _ s 0 0 (gA b 12 z)) _
  unfold F_X12_count at h
  refine lv_aload_n hx hb dX12_count_0 rfl (lv_at hl 0 rfl) ?_
  refine lv_iconst (v := 0) hx hb dX12_count_1 (by decide) ?_
  refine pM_0_0 C0 hR hS Nat.zero_lt_one tbs_wsX120 mM11_7_77 dX12_count_2 (fun S1 eS1 H locs hR hS => ?_)
  have h := h S1 eS1
  refine lv_iconst (v := 0) hx hb dX12_count_5 (by decide) ?_
  refine lv_istore_n (lv' := [(2, .int 0), (0, .ref (b + adM 0 0)), (1, .int a1)]) hx hb dX12_count_6 rfl hl (by decide) rfl (fun ls hl => ?_)
  refine lv_iload_n hx hb dX12_count_7 rfl (lv_at hl 2 rfl) ?_
  by_cases c2 : a1 = 0
  · have h := h.1 c2
    refine lv_tableIn (tgt := 96) hx hb dX12_count_8 (by rw [c2]; decide) (by rw [c2]; decide) (by rw [c2]; rfl) (by decide) ?_
    refine lv_iconst (v := 0) hx hb dX12_count_96 (by decide) ?_
    refine lv_istore_n (lv' := [(3, .int 0), (2, .int 0), (0, .ref (b + adM 0 0)), (1, .int a1)]) hx hb dX12_count_97 rfl hl (by decide) rfl (fun ls hl => ?_)
    exact Bw_X12_count_98 C0 hr hlk hT fuel 0 0 S1 _ _ _ h hR hS (lv_sub hl [2, 1, 0] rfl)
  have h := h.2 c2
  by_cases c9 : a1 = 1
  · have h := h.1 c9
    refine lv_tableIn (tgt := 128) hx hb dX12_count_8 (by rw [c9]; decide) (by rw [c9]; decide) (by rw [c9]; rfl) (by decide) ?_
    refine lv_aload_n hx hb dX12_count_128 rfl (lv_at hl 1 rfl) ?_
    refine gM_0_2 C0 hR Nat.zero_lt_one tbs_wsX120 mM11_7_79 dX12_count_129 ?_
    refine lv_iconst (v := 0) hx hb dX12_count_132 (by decide) ?_
    refine lM_1 C0 hR Nat.zero_lt_one (by decide) rfl dX12_count_133 ?_
    exact rtM_i C0 hr hlk hR hS h dX12_count_134
  have h := h.2 c9
  by_cases c10 : a1 = 2
  · have h := h.1 c10
    refine lv_tableIn (tgt := 135) hx hb dX12_count_8 (by rw [c10]; decide) (by rw [c10]; decide) (by rw [c10]; rfl) (by decide) ?_
    refine lv_aload_n hx hb dX12_count_135 rfl (lv_at hl 1 rfl) ?_
    refine gM_0_2 C0 hR Nat.zero_lt_one tbs_wsX120 mM11_7_79 dX12_count_136 ?_
    refine lv_iconst (v := 1) hx hb dX12_count_139 (by decide) ?_
    refine lM_1 C0 hR Nat.zero_lt_one (by decide) rfl dX12_count_140 ?_
    exact rtM_i C0 hr hlk hR hS h dX12_count_141
  have h := h.2 c10
  by_cases c11 : a1 = 3
  · have h := h.1 c11
    refine lv_tableIn (tgt := 142) hx hb dX12_count_8 (by rw [c11]; decide) (by rw [c11]; decide) (by rw [c11]; rfl) (by decide) ?_
    refine lv_aload_n hx hb dX12_count_142 rfl (lv_at hl 1 rfl) ?_
    refine gM_0_2 C0 hR Nat.zero_lt_one tbs_wsX120 mM11_7_79 dX12_count_143 ?_
    refine lv_iconst (v := 2) hx hb dX12_count_146 (by decide) ?_
    refine lM_1 C0 hR Nat.zero_lt_one (by decide) rfl dX12_count_147 ?_
    exact rtM_i C0 hr hlk hR hS h dX12_count_148
  have h := h.2 c11
  by_cases c12 : a1 = 4
  · have h := h.1 c12
    refine lv_tableIn (tgt := 204) hx hb dX12_count_8 (by rw [c12]; decide) (by rw [c12]; decide) (by rw [c12]; rfl) (by decide) ?_
    refine lv_iload_n hx hb dX12_count_204 rfl (lv_at hl 2 rfl) ?_
    refine lv_iconst (v := 4) hx hb dX12_count_205 (by decide) ?_
    refine lv_bipush (v := 9) hx hb dX12_count_206 (by decide) ?_
    refine qM_Si (As := [.int a1, .int 4, .int 9]) (rest := []) C0 (c_X12_in l h) (va_cwS 3 C0.2.2.2.2 (tbS mM11_8_37 ⟨mM11_8_38, mM11_1_11, mM11_8_39⟩) rfl rfl rfl (by decide +kernel) ⟨Nat.le_of_ble_eq_true rfl, Nat.le_of_ble_eq_true rfl⟩) hR hT hS rfl hl.1 rfl (Nat.le_of_ble_eq_true rfl) dX12_count_208 ⟨Nat.zero_le _, Nat.zero_le _⟩ (fun r13 S14 H locs h hR hS => ?_)
    refine lv_if_eq (tgt := 227) hx hb dX12_count_211 (by decide) (fun c15 => ?_) (fun c15 => ?_)
    · have h := h.1 c15
      refine lv_iload_n hx hb dX12_count_227 rfl (lv_at hl 2 rfl) ?_
      refine lv_bipush (v := 12) hx hb dX12_count_228 (by decide) ?_
      refine lv_bipush (v := 16) hx hb dX12_count_230 (by decide) ?_
      refine qM_Si (As := [.int a1, .int 12, .int 16]) (rest := []) C0 (c_X12_in l h) (va_cwS 3 C0.2.2.2.2 (tbS mM11_8_37 ⟨mM11_8_38, mM11_1_11, mM11_8_39⟩) rfl rfl rfl (by decide +kernel) ⟨Nat.le_of_ble_eq_true rfl, Nat.le_of_ble_eq_true rfl⟩) hR hT hS rfl hl.1 rfl (Nat.le_of_ble_eq_true rfl) dX12_count_232 ⟨Nat.zero_le _, Nat.zero_le _⟩ (fun r16 S17 H locs h hR hS => ?_)
      refine lv_if_eq (tgt := 253) hx hb dX12_count_235 (by decide) (fun c18 => ?_) (fun c18 => ?_)
      · have h := h.1 c18
        refine lv_iconst (v := (-1)) hx hb dX12_count_253 (by decide) ?_
        exact rtM_i C0 hr hlk hR hS h dX12_count_254
      · have h := h.2 c18
        refine lv_aload_n hx hb dX12_count_238 rfl (lv_at hl 1 rfl) ?_
        refine gM_0_2 C0 hR Nat.zero_lt_one tbs_wsX120 mM11_7_79 dX12_count_239 ?_
        refine lv_bipush (v := 9) hx hb dX12_count_242 (by decide) ?_
        refine lv_iload_n hx hb dX12_count_244 rfl (lv_at hl 2 rfl) ?_
        refine lv_iadd hx hb dX12_count_245 ?_
        refine lv_bipush (v := 12) hx hb dX12_count_246 (by decide) ?_
        refine lv_isub hx hb dX12_count_248 ?_
        obtain ⟨j19, hj19, ej19, h⟩ := h
        refine lM_1 C0 hR Nat.zero_lt_one hj19 ej19 dX12_count_249 ?_
        refine lv_goto (tgt := 254) hx hb dX12_count_250 (by decide) ?_
        exact rtM_i C0 hr hlk hR hS h dX12_count_254
    · have h := h.2 c15
      refine lv_aload_n hx hb dX12_count_214 rfl (lv_at hl 1 rfl) ?_
      refine gM_0_2 C0 hR Nat.zero_lt_one tbs_wsX120 mM11_7_79 dX12_count_215 ?_
      refine lv_iconst (v := 3) hx hb dX12_count_218 (by decide) ?_
      refine lv_iload_n hx hb dX12_count_219 rfl (lv_at hl 2 rfl) ?_
      refine lv_iadd hx hb dX12_count_220 ?_
      refine lv_iconst (v := 4) hx hb dX12_count_221 (by decide) ?_
      refine lv_isub hx hb dX12_count_222 ?_
      obtain ⟨j20, hj20, ej20, h⟩ := h
      refine lM_1 C0 hR Nat.zero_lt_one hj20 ej20 dX12_count_223 ?_
      refine lv_goto (tgt := 254) hx hb dX12_count_224 (by decide) ?_
      exact rtM_i C0 hr hlk hR hS h dX12_count_254
  have h := h.2 c12
  by_cases c21 : a1 = 5
  · have h := h.1 c21
    refine lv_tableIn (tgt := 204) hx hb dX12_count_8 (by rw [c21]; decide) (by rw [c21]; decide) (by rw [c21]; rfl) (by decide) ?_
    refine lv_iload_n hx hb dX12_count_204 rfl (lv_at hl 2 rfl) ?_
    refine lv_iconst (v := 4) hx hb dX12_count_205 (by decide) ?_
    refine lv_bipush (v := 9) hx hb dX12_count_206 (by decide) ?_
    refine qM_Si (As := [.int a1, .int 4, .int 9]) (rest := []) C0 (c_X12_in l h) (va_cwS 3 C0.2.2.2.2 (tbS mM11_8_37 ⟨mM11_8_38, mM11_1_11, mM11_8_39⟩) rfl rfl rfl (by decide +kernel) ⟨Nat.le_of_ble_eq_true rfl, Nat.le_of_ble_eq_true rfl⟩) hR hT hS rfl hl.1 rfl (Nat.le_of_ble_eq_true rfl) dX12_count_208 ⟨Nat.zero_le _, Nat.zero_le _⟩ (fun r22 S23 H locs h hR hS => ?_)
    refine lv_if_eq (tgt := 227) hx hb dX12_count_211 (by decide) (fun c24 => ?_) (fun c24 => ?_)
    · have h := h.1 c24
      refine lv_iload_n hx hb dX12_count_227 rfl (lv_at hl 2 rfl) ?_
      refine lv_bipush (v := 12) hx hb dX12_count_228 (by decide) ?_
      refine lv_bipush (v := 16) hx hb dX12_count_230 (by decide) ?_
      refine qM_Si (As := [.int a1, .int 12, .int 16]) (rest := []) C0 (c_X12_in l h) (va_cwS 3 C0.2.2.2.2 (tbS mM11_8_37 ⟨mM11_8_38, mM11_1_11, mM11_8_39⟩) rfl rfl rfl (by decide +kernel) ⟨Nat.le_of_ble_eq_true rfl, Nat.le_of_ble_eq_true rfl⟩) hR hT hS rfl hl.1 rfl (Nat.le_of_ble_eq_true rfl) dX12_count_232 ⟨Nat.zero_le _, Nat.zero_le _⟩ (fun r25 S26 H locs h hR hS => ?_)
      refine lv_if_eq (tgt := 253) hx hb dX12_count_235 (by decide) (fun c27 => ?_) (fun c27 => ?_)
      · have h := h.1 c27
        refine lv_iconst (v := (-1)) hx hb dX12_count_253 (by decide) ?_
        exact rtM_i C0 hr hlk hR hS h dX12_count_254
      · have h := h.2 c27
        refine lv_aload_n hx hb dX12_count_238 rfl (lv_at hl 1 rfl) ?_
        refine gM_0_2 C0 hR Nat.zero_lt_one tbs_wsX120 mM11_7_79 dX12_count_239 ?_
        refine lv_bipush (v := 9) hx hb dX12_count_242 (by decide) ?_
        refine lv_iload_n hx hb dX12_count_244 rfl (lv_at hl 2 rfl) ?_
        refine lv_iadd hx hb dX12_count_245 ?_
        refine lv_bipush (v := 12) hx hb dX12_count_246 (by decide) ?_
        refine lv_isub hx hb dX12_count_248 ?_
        obtain ⟨j28, hj28, ej28, h⟩ := h
        refine lM_1 C0 hR Nat.zero_lt_one hj28 ej28 dX12_count_249 ?_
        refine lv_goto (tgt := 254) hx hb dX12_count_250 (by decide) ?_
        exact rtM_i C0 hr hlk hR hS h dX12_count_254
    · have h := h.2 c24
      refine lv_aload_n hx hb dX12_count_214 rfl (lv_at hl 1 rfl) ?_
      refine gM_0_2 C0 hR Nat.zero_lt_one tbs_wsX120 mM11_7_79 dX12_count_215 ?_
      refine lv_iconst (v := 3) hx hb dX12_count_218 (by decide) ?_
      refine lv_iload_n hx hb dX12_count_219 rfl (lv_at hl 2 rfl) ?_
      refine lv_iadd hx hb dX12_count_220 ?_
      refine lv_iconst (v := 4) hx hb dX12_count_221 (by decide) ?_
      refine lv_isub hx hb dX12_count_222 ?_
      obtain ⟨j29, hj29, ej29, h⟩ := h
      refine lM_1 C0 hR Nat.zero_lt_one hj29 ej29 dX12_count_223 ?_
      refine lv_goto (tgt := 254) hx hb dX12_count_224 (by decide) ?_
      exact rtM_i C0 hr hlk hR hS h dX12_count_254
  have h := h.2 c21
  by_cases c30 : a1 = 6
  · have h := h.1 c30
    refine lv_tableIn (tgt := 204) hx hb dX12_count_8 (by rw [c30]; decide) (by rw [c30]; decide) (by rw [c30]; rfl) (by decide) ?_
    refine lv_iload_n hx hb dX12_count_204 rfl (lv_at hl 2 rfl) ?_
    refine lv_iconst (v := 4) hx hb dX12_count_205 (by decide) ?_
    refine lv_bipush (v := 9) hx hb dX12_count_206 (by decide) ?_
    refine qM_Si (As := [.int a1, .int 4, .int 9]) (rest := []) C0 (c_X12_in l h) (va_cwS 3 C0.2.2.2.2 (tbS mM11_8_37 ⟨mM11_8_38, mM11_1_11, mM11_8_39⟩) rfl rfl rfl (by decide +kernel) ⟨Nat.le_of_ble_eq_true rfl, Nat.le_of_ble_eq_true rfl⟩) hR hT hS rfl hl.1 rfl (Nat.le_of_ble_eq_true rfl) dX12_count_208 ⟨Nat.zero_le _, Nat.zero_le _⟩ (fun r31 S32 H locs h hR hS => ?_)
    refine lv_if_eq (tgt := 227) hx hb dX12_count_211 (by decide) (fun c33 => ?_) (fun c33 => ?_)
    · have h := h.1 c33
      refine lv_iload_n hx hb dX12_count_227 rfl (lv_at hl 2 rfl) ?_
      refine lv_bipush (v := 12) hx hb dX12_count_228 (by decide) ?_
      refine lv_bipush (v := 16) hx hb dX12_count_230 (by decide) ?_
      refine qM_Si (As := [.int a1, .int 12, .int 16]) (rest := []) C0 (c_X12_in l h) (va_cwS 3 C0.2.2.2.2 (tbS mM11_8_37 ⟨mM11_8_38, mM11_1_11, mM11_8_39⟩) rfl rfl rfl (by decide +kernel) ⟨Nat.le_of_ble_eq_true rfl, Nat.le_of_ble_eq_true rfl⟩) hR hT hS rfl hl.1 rfl (Nat.le_of_ble_eq_true rfl) dX12_count_232 ⟨Nat.zero_le _, Nat.zero_le _⟩ (fun r34 S35 H locs h hR hS => ?_)
      refine lv_if_eq (tgt := 253) hx hb dX12_count_235 (by decide) (fun c36 => ?_) (fun c36 => ?_)
      · have h := h.1 c36
        refine lv_iconst (v := (-1)) hx hb dX12_count_253 (by decide) ?_
        exact rtM_i C0 hr hlk hR hS h dX12_count_254
      · have h := h.2 c36
        refine lv_aload_n hx hb dX12_count_238 rfl (lv_at hl 1 rfl) ?_
        refine gM_0_2 C0 hR Nat.zero_lt_one tbs_wsX120 mM11_7_79 dX12_count_239 ?_
        refine lv_bipush (v := 9) hx hb dX12_count_242 (by decide) ?_
        refine lv_iload_n hx hb dX12_count_244 rfl (lv_at hl 2 rfl) ?_
        refine lv_iadd hx hb dX12_count_245 ?_
        refine lv_bipush (v := 12) hx hb dX12_count_246 (by decide) ?_
        refine lv_isub hx hb dX12_count_248 ?_
        obtain ⟨j37, hj37, ej37, h⟩ := h
        refine lM_1 C0 hR Nat.zero_lt_one hj37 ej37 dX12_count_249 ?_
        refine lv_goto (tgt := 254) hx hb dX12_count_250 (by decide) ?_
        exact rtM_i C0 hr hlk hR hS h dX12_count_254
    · have h := h.2 c33
      refine lv_aload_n hx hb dX12_count_214 rfl (lv_at hl 1 rfl) ?_
      refine gM_0_2 C0 hR Nat.zero_lt_one tbs_wsX120 mM11_7_79 dX12_count_215 ?_
      refine lv_iconst (v := 3) hx hb dX12_count_218 (by decide) ?_
      refine lv_iload_n hx hb dX12_count_219 rfl (lv_at hl 2 rfl) ?_
      refine lv_iadd hx hb dX12_count_220 ?_
      refine lv_iconst (v := 4) hx hb dX12_count_221 (by decide) ?_
      refine lv_isub hx hb dX12_count_222 ?_
      obtain ⟨j38, hj38, ej38, h⟩ := h
      refine lM_1 C0 hR Nat.zero_lt_one hj38 ej38 dX12_count_223 ?_
      refine lv_goto (tgt := 254) hx hb dX12_count_224 (by decide) ?_
      exact rtM_i C0 hr hlk hR hS h dX12_count_254
  have h := h.2 c30
  by_cases c39 : a1 = 7
  · have h := h.1 c39
    refine lv_tableIn (tgt := 204) hx hb dX12_count_8 (by rw [c39]; decide) (by rw [c39]; decide) (by rw [c39]; rfl) (by decide) ?_
    refine lv_iload_n hx hb dX12_count_204 rfl (lv_at hl 2 rfl) ?_
    refine lv_iconst (v := 4) hx hb dX12_count_205 (by decide) ?_
    refine lv_bipush (v := 9) hx hb dX12_count_206 (by decide) ?_
    refine qM_Si (As := [.int a1, .int 4, .int 9]) (rest := []) C0 (c_X12_in l h) (va_cwS 3 C0.2.2.2.2 (tbS mM11_8_37 ⟨mM11_8_38, mM11_1_11, mM11_8_39⟩) rfl rfl rfl (by decide +kernel) ⟨Nat.le_of_ble_eq_true rfl, Nat.le_of_ble_eq_true rfl⟩) hR hT hS rfl hl.1 rfl (Nat.le_of_ble_eq_true rfl) dX12_count_208 ⟨Nat.zero_le _, Nat.zero_le _⟩ (fun r40 S41 H locs h hR hS => ?_)
    refine lv_if_eq (tgt := 227) hx hb dX12_count_211 (by decide) (fun c42 => ?_) (fun c42 => ?_)
    · have h := h.1 c42
      refine lv_iload_n hx hb dX12_count_227 rfl (lv_at hl 2 rfl) ?_
      refine lv_bipush (v := 12) hx hb dX12_count_228 (by decide) ?_
      refine lv_bipush (v := 16) hx hb dX12_count_230 (by decide) ?_
      refine qM_Si (As := [.int a1, .int 12, .int 16]) (rest := []) C0 (c_X12_in l h) (va_cwS 3 C0.2.2.2.2 (tbS mM11_8_37 ⟨mM11_8_38, mM11_1_11, mM11_8_39⟩) rfl rfl rfl (by decide +kernel) ⟨Nat.le_of_ble_eq_true rfl, Nat.le_of_ble_eq_true rfl⟩) hR hT hS rfl hl.1 rfl (Nat.le_of_ble_eq_true rfl) dX12_count_232 ⟨Nat.zero_le _, Nat.zero_le _⟩ (fun r43 S44 H locs h hR hS => ?_)
      refine lv_if_eq (tgt := 253) hx hb dX12_count_235 (by decide) (fun c45 => ?_) (fun c45 => ?_)
      · have h := h.1 c45
        refine lv_iconst (v := (-1)) hx hb dX12_count_253 (by decide) ?_
        exact rtM_i C0 hr hlk hR hS h dX12_count_254
      · have h := h.2 c45
        refine lv_aload_n hx hb dX12_count_238 rfl (lv_at hl 1 rfl) ?_
        refine gM_0_2 C0 hR Nat.zero_lt_one tbs_wsX120 mM11_7_79 dX12_count_239 ?_
        refine lv_bipush (v := 9) hx hb dX12_count_242 (by decide) ?_
        refine lv_iload_n hx hb dX12_count_244 rfl (lv_at hl 2 rfl) ?_
        refine lv_iadd hx hb dX12_count_245 ?_
        refine lv_bipush (v := 12) hx hb dX12_count_246 (by decide) ?_
        refine lv_isub hx hb dX12_count_248 ?_
        obtain ⟨j46, hj46, ej46, h⟩ := h
        refine lM_1 C0 hR Nat.zero_lt_one hj46 ej46 dX12_count_249 ?_
        refine lv_goto (tgt := 254) hx hb dX12_count_250 (by decide) ?_
        exact rtM_i C0 hr hlk hR hS h dX12_count_254
    · have h := h.2 c42
      refine lv_aload_n hx hb dX12_count_214 rfl (lv_at hl 1 rfl) ?_
      refine gM_0_2 C0 hR Nat.zero_lt_one tbs_wsX120 mM11_7_79 dX12_count_215 ?_
      refine lv_iconst (v := 3) hx hb dX12_count_218 (by decide) ?_
      refine lv_iload_n hx hb dX12_count_219 rfl (lv_at hl 2 rfl) ?_
      refine lv_iadd hx hb dX12_count_220 ?_
      refine lv_iconst (v := 4) hx hb dX12_count_221 (by decide) ?_
      refine lv_isub hx hb dX12_count_222 ?_
      obtain ⟨j47, hj47, ej47, h⟩ := h
      refine lM_1 C0 hR Nat.zero_lt_one hj47 ej47 dX12_count_223 ?_
      refine lv_goto (tgt := 254) hx hb dX12_count_224 (by decide) ?_
      exact rtM_i C0 hr hlk hR hS h dX12_count_254
  have h := h.2 c39
  by_cases c48 : a1 = 8
  · have h := h.1 c48
    refine lv_tableIn (tgt := 204) hx hb dX12_count_8 (by rw [c48]; decide) (by rw [c48]; decide) (by rw [c48]; rfl) (by decide) ?_
    refine lv_iload_n hx hb dX12_count_204 rfl (lv_at hl 2 rfl) ?_
    refine lv_iconst (v := 4) hx hb dX12_count_205 (by decide) ?_
    refine lv_bipush (v := 9) hx hb dX12_count_206 (by decide) ?_
    refine qM_Si (As := [.int a1, .int 4, .int 9]) (rest := []) C0 (c_X12_in l h) (va_cwS 3 C0.2.2.2.2 (tbS mM11_8_37 ⟨mM11_8_38, mM11_1_11, mM11_8_39⟩) rfl rfl rfl (by decide +kernel) ⟨Nat.le_of_ble_eq_true rfl, Nat.le_of_ble_eq_true rfl⟩) hR hT hS rfl hl.1 rfl (Nat.le_of_ble_eq_true rfl) dX12_count_208 ⟨Nat.zero_le _, Nat.zero_le _⟩ (fun r49 S50 H locs h hR hS => ?_)
    refine lv_if_eq (tgt := 227) hx hb dX12_count_211 (by decide) (fun c51 => ?_) (fun c51 => ?_)
    · have h := h.1 c51
      refine lv_iload_n hx hb dX12_count_227 rfl (lv_at hl 2 rfl) ?_
      refine lv_bipush (v := 12) hx hb dX12_count_228 (by decide) ?_
      refine lv_bipush (v := 16) hx hb dX12_count_230 (by decide) ?_
      refine qM_Si (As := [.int a1, .int 12, .int 16]) (rest := []) C0 (c_X12_in l h) (va_cwS 3 C0.2.2.2.2 (tbS mM11_8_37 ⟨mM11_8_38, mM11_1_11, mM11_8_39⟩) rfl rfl rfl (by decide +kernel) ⟨Nat.le_of_ble_eq_true rfl, Nat.le_of_ble_eq_true rfl⟩) hR hT hS rfl hl.1 rfl (Nat.le_of_ble_eq_true rfl) dX12_count_232 ⟨Nat.zero_le _, Nat.zero_le _⟩ (fun r52 S53 H locs h hR hS => ?_)
      refine lv_if_eq (tgt := 253) hx hb dX12_count_235 (by decide) (fun c54 => ?_) (fun c54 => ?_)
      · have h := h.1 c54
        refine lv_iconst (v := (-1)) hx hb dX12_count_253 (by decide) ?_
        exact rtM_i C0 hr hlk hR hS h dX12_count_254
      · have h := h.2 c54
        refine lv_aload_n hx hb dX12_count_238 rfl (lv_at hl 1 rfl) ?_
        refine gM_0_2 C0 hR Nat.zero_lt_one tbs_wsX120 mM11_7_79 dX12_count_239 ?_
        refine lv_bipush (v := 9) hx hb dX12_count_242 (by decide) ?_
        refine lv_iload_n hx hb dX12_count_244 rfl (lv_at hl 2 rfl) ?_
        refine lv_iadd hx hb dX12_count_245 ?_
        refine lv_bipush (v := 12) hx hb dX12_count_246 (by decide) ?_
        refine lv_isub hx hb dX12_count_248 ?_
        obtain ⟨j55, hj55, ej55, h⟩ := h
        refine lM_1 C0 hR Nat.zero_lt_one hj55 ej55 dX12_count_249 ?_
        refine lv_goto (tgt := 254) hx hb dX12_count_250 (by decide) ?_
        exact rtM_i C0 hr hlk hR hS h dX12_count_254
    · have h := h.2 c51
      refine lv_aload_n hx hb dX12_count_214 rfl (lv_at hl 1 rfl) ?_
      refine gM_0_2 C0 hR Nat.zero_lt_one tbs_wsX120 mM11_7_79 dX12_count_215 ?_
      refine lv_iconst (v := 3) hx hb dX12_count_218 (by decide) ?_
      refine lv_iload_n hx hb dX12_count_219 rfl (lv_at hl 2 rfl) ?_
      refine lv_iadd hx hb dX12_count_220 ?_
      refine lv_iconst (v := 4) hx hb dX12_count_221 (by decide) ?_
      refine lv_isub hx hb dX12_count_222 ?_
      obtain ⟨j56, hj56, ej56, h⟩ := h
      refine lM_1 C0 hR Nat.zero_lt_one hj56 ej56 dX12_count_223 ?_
      refine lv_goto (tgt := 254) hx hb dX12_count_224 (by decide) ?_
      exact rtM_i C0 hr hlk hR hS h dX12_count_254
  have h := h.2 c48
  by_cases c57 : a1 = 9
  · have h := h.1 c57
    refine lv_tableIn (tgt := 204) hx hb dX12_count_8 (by rw [c57]; decide) (by rw [c57]; decide) (by rw [c57]; rfl) (by decide) ?_
    refine lv_iload_n hx hb dX12_count_204 rfl (lv_at hl 2 rfl) ?_
    refine lv_iconst (v := 4) hx hb dX12_count_205 (by decide) ?_
    refine lv_bipush (v := 9) hx hb dX12_count_206 (by decide) ?_
    refine qM_Si (As := [.int a1, .int 4, .int 9]) (rest := []) C0 (c_X12_in l h) (va_cwS 3 C0.2.2.2.2 (tbS mM11_8_37 ⟨mM11_8_38, mM11_1_11, mM11_8_39⟩) rfl rfl rfl (by decide +kernel) ⟨Nat.le_of_ble_eq_true rfl, Nat.le_of_ble_eq_true rfl⟩) hR hT hS rfl hl.1 rfl (Nat.le_of_ble_eq_true rfl) dX12_count_208 ⟨Nat.zero_le _, Nat.zero_le _⟩ (fun r58 S59 H locs h hR hS => ?_)
    refine lv_if_eq (tgt := 227) hx hb dX12_count_211 (by decide) (fun c60 => ?_) (fun c60 => ?_)
    · have h := h.1 c60
      refine lv_iload_n hx hb dX12_count_227 rfl (lv_at hl 2 rfl) ?_
      refine lv_bipush (v := 12) hx hb dX12_count_228 (by decide) ?_
      refine lv_bipush (v := 16) hx hb dX12_count_230 (by decide) ?_
      refine qM_Si (As := [.int a1, .int 12, .int 16]) (rest := []) C0 (c_X12_in l h) (va_cwS 3 C0.2.2.2.2 (tbS mM11_8_37 ⟨mM11_8_38, mM11_1_11, mM11_8_39⟩) rfl rfl rfl (by decide +kernel) ⟨Nat.le_of_ble_eq_true rfl, Nat.le_of_ble_eq_true rfl⟩) hR hT hS rfl hl.1 rfl (Nat.le_of_ble_eq_true rfl) dX12_count_232 ⟨Nat.zero_le _, Nat.zero_le _⟩ (fun r61 S62 H locs h hR hS => ?_)
      refine lv_if_eq (tgt := 253) hx hb dX12_count_235 (by decide) (fun c63 => ?_) (fun c63 => ?_)
      · have h := h.1 c63
        refine lv_iconst (v := (-1)) hx hb dX12_count_253 (by decide) ?_
        exact rtM_i C0 hr hlk hR hS h dX12_count_254
      · have h := h.2 c63
        refine lv_aload_n hx hb dX12_count_238 rfl (lv_at hl 1 rfl) ?_
        refine gM_0_2 C0 hR Nat.zero_lt_one tbs_wsX120 mM11_7_79 dX12_count_239 ?_
        refine lv_bipush (v := 9) hx hb dX12_count_242 (by decide) ?_
        refine lv_iload_n hx hb dX12_count_244 rfl (lv_at hl 2 rfl) ?_
        refine lv_iadd hx hb dX12_count_245 ?_
        refine lv_bipush (v := 12) hx hb dX12_count_246 (by decide) ?_
        refine lv_isub hx hb dX12_count_248 ?_
        obtain ⟨j64, hj64, ej64, h⟩ := h
        refine lM_1 C0 hR Nat.zero_lt_one hj64 ej64 dX12_count_249 ?_
        refine lv_goto (tgt := 254) hx hb dX12_count_250 (by decide) ?_
        exact rtM_i C0 hr hlk hR hS h dX12_count_254
    · have h := h.2 c60
      refine lv_aload_n hx hb dX12_count_214 rfl (lv_at hl 1 rfl) ?_
      refine gM_0_2 C0 hR Nat.zero_lt_one tbs_wsX120 mM11_7_79 dX12_count_215 ?_
      refine lv_iconst (v := 3) hx hb dX12_count_218 (by decide) ?_
      refine lv_iload_n hx hb dX12_count_219 rfl (lv_at hl 2 rfl) ?_
      refine lv_iadd hx hb dX12_count_220 ?_
      refine lv_iconst (v := 4) hx hb dX12_count_221 (by decide) ?_
      refine lv_isub hx hb dX12_count_222 ?_
      obtain ⟨j65, hj65, ej65, h⟩ := h
      refine lM_1 C0 hR Nat.zero_lt_one hj65 ej65 dX12_count_223 ?_
      refine lv_goto (tgt := 254) hx hb dX12_count_224 (by decide) ?_
      exact rtM_i C0 hr hlk hR hS h dX12_count_254
  have h := h.2 c57
  by_cases c66 : a1 = 10
  · have h := h.1 c66
    refine lv_tableIn (tgt := 149) hx hb dX12_count_8 (by rw [c66]; decide) (by rw [c66]; decide) (by rw [c66]; rfl) (by decide) ?_
    refine lv_aload_n hx hb dX12_count_149 rfl (lv_at hl 1 rfl) ?_
    refine qM_Vi (As := []) (rest := []) C0 (c_X12_opened l h) (cwV 0 C0.2.2.2.2 (tbV mM11_8_95 ⟨mM11_8_97, mpM11_4_9, mM11_1_11, mM11_8_98⟩) rfl rfl rfl (by decide +kernel) ⟨Nat.le_of_ble_eq_true rfl, Nat.le_of_ble_eq_true rfl⟩) (rcM_0 hR Nat.zero_lt_one) hR hT hS rfl hl.1 rfl (Nat.le_of_ble_eq_true rfl) dX12_count_150 ⟨Nat.zero_le _, Nat.zero_le _⟩ (fun r67 S68 H locs h hR hS => ?_)
    exact rtM_i C0 hr hlk hR hS h dX12_count_153
  have h := h.2 c66
  by_cases c69 : a1 = 11
  · have h := h.1 c69
    refine lv_tableIn (tgt := 154) hx hb dX12_count_8 (by rw [c69]; decide) (by rw [c69]; decide) (by rw [c69]; rfl) (by decide) ?_
    refine lv_iconst (v := 0) hx hb dX12_count_154 (by decide) ?_
    refine lv_istore_n (lv' := [(3, .int 0), (2, .int 0), (0, .ref (b + adM 0 0)), (1, .int a1)]) hx hb dX12_count_155 rfl hl (by decide) rfl (fun ls hl => ?_)
    exact Bw_X12_count_156 C0 hr hlk hT fuel 0 0 S1 _ _ _ h hR hS (lv_sub hl [2, 1, 0] rfl)
  have h := h.2 c69
  by_cases c79 : a1 = 12
  · have h := h.1 c79
    refine lv_tableIn (tgt := 204) hx hb dX12_count_8 (by rw [c79]; decide) (by rw [c79]; decide) (by rw [c79]; rfl) (by decide) ?_
    refine lv_iload_n hx hb dX12_count_204 rfl (lv_at hl 2 rfl) ?_
    refine lv_iconst (v := 4) hx hb dX12_count_205 (by decide) ?_
    refine lv_bipush (v := 9) hx hb dX12_count_206 (by decide) ?_
    refine qM_Si (As := [.int a1, .int 4, .int 9]) (rest := []) C0 (c_X12_in l h) (va_cwS 3 C0.2.2.2.2 (tbS mM11_8_37 ⟨mM11_8_38, mM11_1_11, mM11_8_39⟩) rfl rfl rfl (by decide +kernel) ⟨Nat.le_of_ble_eq_true rfl, Nat.le_of_ble_eq_true rfl⟩) hR hT hS rfl hl.1 rfl (Nat.le_of_ble_eq_true rfl) dX12_count_208 ⟨Nat.zero_le _, Nat.zero_le _⟩ (fun r80 S81 H locs h hR hS => ?_)
    refine lv_if_eq (tgt := 227) hx hb dX12_count_211 (by decide) (fun c82 => ?_) (fun c82 => ?_)
    · have h := h.1 c82
      refine lv_iload_n hx hb dX12_count_227 rfl (lv_at hl 2 rfl) ?_
      refine lv_bipush (v := 12) hx hb dX12_count_228 (by decide) ?_
      refine lv_bipush (v := 16) hx hb dX12_count_230 (by decide) ?_
      refine qM_Si (As := [.int a1, .int 12, .int 16]) (rest := []) C0 (c_X12_in l h) (va_cwS 3 C0.2.2.2.2 (tbS mM11_8_37 ⟨mM11_8_38, mM11_1_11, mM11_8_39⟩) rfl rfl rfl (by decide +kernel) ⟨Nat.le_of_ble_eq_true rfl, Nat.le_of_ble_eq_true rfl⟩) hR hT hS rfl hl.1 rfl (Nat.le_of_ble_eq_true rfl) dX12_count_232 ⟨Nat.zero_le _, Nat.zero_le _⟩ (fun r83 S84 H locs h hR hS => ?_)
      refine lv_if_eq (tgt := 253) hx hb dX12_count_235 (by decide) (fun c85 => ?_) (fun c85 => ?_)
      · have h := h.1 c85
        refine lv_iconst (v := (-1)) hx hb dX12_count_253 (by decide) ?_
        exact rtM_i C0 hr hlk hR hS h dX12_count_254
      · have h := h.2 c85
        refine lv_aload_n hx hb dX12_count_238 rfl (lv_at hl 1 rfl) ?_
        refine gM_0_2 C0 hR Nat.zero_lt_one tbs_wsX120 mM11_7_79 dX12_count_239 ?_
        refine lv_bipush (v := 9) hx hb dX12_count_242 (by decide) ?_
        refine lv_iload_n hx hb dX12_count_244 rfl (lv_at hl 2 rfl) ?_
        refine lv_iadd hx hb dX12_count_245 ?_
        refine lv_bipush (v := 12) hx hb dX12_count_246 (by decide) ?_
        refine lv_isub hx hb dX12_count_248 ?_
        obtain ⟨j86, hj86, ej86, h⟩ := h
        refine lM_1 C0 hR Nat.zero_lt_one hj86 ej86 dX12_count_249 ?_
        refine lv_goto (tgt := 254) hx hb dX12_count_250 (by decide) ?_
        exact rtM_i C0 hr hlk hR hS h dX12_count_254
    · have h := h.2 c82
      refine lv_aload_n hx hb dX12_count_214 rfl (lv_at hl 1 rfl) ?_
      refine gM_0_2 C0 hR Nat.zero_lt_one tbs_wsX120 mM11_7_79 dX12_count_215 ?_
      refine lv_iconst (v := 3) hx hb dX12_count_218 (by decide) ?_
      refine lv_iload_n hx hb dX12_count_219 rfl (lv_at hl 2 rfl) ?_
      refine lv_iadd hx hb dX12_count_220 ?_
      refine lv_iconst (v := 4) hx hb dX12_count_221 (by decide) ?_
      refine lv_isub hx hb dX12_count_222 ?_
      obtain ⟨j87, hj87, ej87, h⟩ := h
      refine lM_1 C0 hR Nat.zero_lt_one hj87 ej87 dX12_count_223 ?_
      refine lv_goto (tgt := 254) hx hb dX12_count_224 (by decide) ?_
      exact rtM_i C0 hr hlk hR hS h dX12_count_254
  have h := h.2 c79
  by_cases c88 : a1 = 13
  · have h := h.1 c88
    refine lv_tableIn (tgt := 204) hx hb dX12_count_8 (by rw [c88]; decide) (by rw [c88]; decide) (by rw [c88]; rfl) (by decide) ?_
    refine lv_iload_n hx hb dX12_count_204 rfl (lv_at hl 2 rfl) ?_
    refine lv_iconst (v := 4) hx hb dX12_count_205 (by decide) ?_
    refine lv_bipush (v := 9) hx hb dX12_count_206 (by decide) ?_
    refine qM_Si (As := [.int a1, .int 4, .int 9]) (rest := []) C0 (c_X12_in l h) (va_cwS 3 C0.2.2.2.2 (tbS mM11_8_37 ⟨mM11_8_38, mM11_1_11, mM11_8_39⟩) rfl rfl rfl (by decide +kernel) ⟨Nat.le_of_ble_eq_true rfl, Nat.le_of_ble_eq_true rfl⟩) hR hT hS rfl hl.1 rfl (Nat.le_of_ble_eq_true rfl) dX12_count_208 ⟨Nat.zero_le _, Nat.zero_le _⟩ (fun r89 S90 H locs h hR hS => ?_)
    refine lv_if_eq (tgt := 227) hx hb dX12_count_211 (by decide) (fun c91 => ?_) (fun c91 => ?_)
    · have h := h.1 c91
      refine lv_iload_n hx hb dX12_count_227 rfl (lv_at hl 2 rfl) ?_
      refine lv_bipush (v := 12) hx hb dX12_count_228 (by decide) ?_
      refine lv_bipush (v := 16) hx hb dX12_count_230 (by decide) ?_
      refine qM_Si (As := [.int a1, .int 12, .int 16]) (rest := []) C0 (c_X12_in l h) (va_cwS 3 C0.2.2.2.2 (tbS mM11_8_37 ⟨mM11_8_38, mM11_1_11, mM11_8_39⟩) rfl rfl rfl (by decide +kernel) ⟨Nat.le_of_ble_eq_true rfl, Nat.le_of_ble_eq_true rfl⟩) hR hT hS rfl hl.1 rfl (Nat.le_of_ble_eq_true rfl) dX12_count_232 ⟨Nat.zero_le _, Nat.zero_le _⟩ (fun r92 S93 H locs h hR hS => ?_)
      refine lv_if_eq (tgt := 253) hx hb dX12_count_235 (by decide) (fun c94 => ?_) (fun c94 => ?_)
      · have h := h.1 c94
        refine lv_iconst (v := (-1)) hx hb dX12_count_253 (by decide) ?_
        exact rtM_i C0 hr hlk hR hS h dX12_count_254
      · have h := h.2 c94
        refine lv_aload_n hx hb dX12_count_238 rfl (lv_at hl 1 rfl) ?_
        refine gM_0_2 C0 hR Nat.zero_lt_one tbs_wsX120 mM11_7_79 dX12_count_239 ?_
        refine lv_bipush (v := 9) hx hb dX12_count_242 (by decide) ?_
        refine lv_iload_n hx hb dX12_count_244 rfl (lv_at hl 2 rfl) ?_
        refine lv_iadd hx hb dX12_count_245 ?_
        refine lv_bipush (v := 12) hx hb dX12_count_246 (by decide) ?_
        refine lv_isub hx hb dX12_count_248 ?_
        obtain ⟨j95, hj95, ej95, h⟩ := h
        refine lM_1 C0 hR Nat.zero_lt_one hj95 ej95 dX12_count_249 ?_
        refine lv_goto (tgt := 254) hx hb dX12_count_250 (by decide) ?_
        exact rtM_i C0 hr hlk hR hS h dX12_count_254
    · have h := h.2 c91
      refine lv_aload_n hx hb dX12_count_214 rfl (lv_at hl 1 rfl) ?_
      refine gM_0_2 C0 hR Nat.zero_lt_one tbs_wsX120 mM11_7_79 dX12_count_215 ?_
      refine lv_iconst (v := 3) hx hb dX12_count_218 (by decide) ?_
      refine lv_iload_n hx hb dX12_count_219 rfl (lv_at hl 2 rfl) ?_
      refine lv_iadd hx hb dX12_count_220 ?_
      refine lv_iconst (v := 4) hx hb dX12_count_221 (by decide) ?_
      refine lv_isub hx hb dX12_count_222 ?_
      obtain ⟨j96, hj96, ej96, h⟩ := h
      refine lM_1 C0 hR Nat.zero_lt_one hj96 ej96 dX12_count_223 ?_
      refine lv_goto (tgt := 254) hx hb dX12_count_224 (by decide) ?_
      exact rtM_i C0 hr hlk hR hS h dX12_count_254
  have h := h.2 c88
  by_cases c97 : a1 = 14
  · have h := h.1 c97
    refine lv_tableIn (tgt := 204) hx hb dX12_count_8 (by rw [c97]; decide) (by rw [c97]; decide) (by rw [c97]; rfl) (by decide) ?_
    refine lv_iload_n hx hb dX12_count_204 rfl (lv_at hl 2 rfl) ?_
    refine lv_iconst (v := 4) hx hb dX12_count_205 (by decide) ?_
    refine lv_bipush (v := 9) hx hb dX12_count_206 (by decide) ?_
    refine qM_Si (As := [.int a1, .int 4, .int 9]) (rest := []) C0 (c_X12_in l h) (va_cwS 3 C0.2.2.2.2 (tbS mM11_8_37 ⟨mM11_8_38, mM11_1_11, mM11_8_39⟩) rfl rfl rfl (by decide +kernel) ⟨Nat.le_of_ble_eq_true rfl, Nat.le_of_ble_eq_true rfl⟩) hR hT hS rfl hl.1 rfl (Nat.le_of_ble_eq_true rfl) dX12_count_208 ⟨Nat.zero_le _, Nat.zero_le _⟩ (fun r98 S99 H locs h hR hS => ?_)
    refine lv_if_eq (tgt := 227) hx hb dX12_count_211 (by decide) (fun c100 => ?_) (fun c100 => ?_)
    · have h := h.1 c100
      refine lv_iload_n hx hb dX12_count_227 rfl (lv_at hl 2 rfl) ?_
      refine lv_bipush (v := 12) hx hb dX12_count_228 (by decide) ?_
      refine lv_bipush (v := 16) hx hb dX12_count_230 (by decide) ?_
      refine qM_Si (As := [.int a1, .int 12, .int 16]) (rest := []) C0 (c_X12_in l h) (va_cwS 3 C0.2.2.2.2 (tbS mM11_8_37 ⟨mM11_8_38, mM11_1_11, mM11_8_39⟩) rfl rfl rfl (by decide +kernel) ⟨Nat.le_of_ble_eq_true rfl, Nat.le_of_ble_eq_true rfl⟩) hR hT hS rfl hl.1 rfl (Nat.le_of_ble_eq_true rfl) dX12_count_232 ⟨Nat.zero_le _, Nat.zero_le _⟩ (fun r101 S102 H locs h hR hS => ?_)
      refine lv_if_eq (tgt := 253) hx hb dX12_count_235 (by decide) (fun c103 => ?_) (fun c103 => ?_)
      · have h := h.1 c103
        refine lv_iconst (v := (-1)) hx hb dX12_count_253 (by decide) ?_
        exact rtM_i C0 hr hlk hR hS h dX12_count_254
      · have h := h.2 c103
        refine lv_aload_n hx hb dX12_count_238 rfl (lv_at hl 1 rfl) ?_
        refine gM_0_2 C0 hR Nat.zero_lt_one tbs_wsX120 mM11_7_79 dX12_count_239 ?_
        refine lv_bipush (v := 9) hx hb dX12_count_242 (by decide) ?_
        refine lv_iload_n hx hb dX12_count_244 rfl (lv_at hl 2 rfl) ?_
        refine lv_iadd hx hb dX12_count_245 ?_
        refine lv_bipush (v := 12) hx hb dX12_count_246 (by decide) ?_
        refine lv_isub hx hb dX12_count_248 ?_
        obtain ⟨j104, hj104, ej104, h⟩ := h
        refine lM_1 C0 hR Nat.zero_lt_one hj104 ej104 dX12_count_249 ?_
        refine lv_goto (tgt := 254) hx hb dX12_count_250 (by decide) ?_
        exact rtM_i C0 hr hlk hR hS h dX12_count_254
    · have h := h.2 c100
      refine lv_aload_n hx hb dX12_count_214 rfl (lv_at hl 1 rfl) ?_
      refine gM_0_2 C0 hR Nat.zero_lt_one tbs_wsX120 mM11_7_79 dX12_count_215 ?_
      refine lv_iconst (v := 3) hx hb dX12_count_218 (by decide) ?_
      refine lv_iload_n hx hb dX12_count_219 rfl (lv_at hl 2 rfl) ?_
      refine lv_iadd hx hb dX12_count_220 ?_
      refine lv_iconst (v := 4) hx hb dX12_count_221 (by decide) ?_
      refine lv_isub hx hb dX12_count_222 ?_
      obtain ⟨j105, hj105, ej105, h⟩ := h
      refine lM_1 C0 hR Nat.zero_lt_one hj105 ej105 dX12_count_223 ?_
      refine lv_goto (tgt := 254) hx hb dX12_count_224 (by decide) ?_
      exact rtM_i C0 hr hlk hR hS h dX12_count_254
  have h := h.2 c97
  by_cases c106 : a1 = 15
  · have h := h.1 c106
    refine lv_tableIn (tgt := 204) hx hb dX12_count_8 (by rw [c106]; decide) (by rw [c106]; decide) (by rw [c106]; rfl) (by decide) ?_
    refine lv_iload_n hx hb dX12_count_204 rfl (lv_at hl 2 rfl) ?_
    refine lv_iconst (v := 4) hx hb dX12_count_205 (by decide) ?_
    refine lv_bipush (v := 9) hx hb dX12_count_206 (by decide) ?_
    refine qM_Si (As := [.int a1, .int 4, .int 9]) (rest := []) C0 (c_X12_in l h) (va_cwS 3 C0.2.2.2.2 (tbS mM11_8_37 ⟨mM11_8_38, mM11_1_11, mM11_8_39⟩) rfl rfl rfl (by decide +kernel) ⟨Nat.le_of_ble_eq_true rfl, Nat.le_of_ble_eq_true rfl⟩) hR hT hS rfl hl.1 rfl (Nat.le_of_ble_eq_true rfl) dX12_count_208 ⟨Nat.zero_le _, Nat.zero_le _⟩ (fun r107 S108 H locs h hR hS => ?_)
    refine lv_if_eq (tgt := 227) hx hb dX12_count_211 (by decide) (fun c109 => ?_) (fun c109 => ?_)
    · have h := h.1 c109
      refine lv_iload_n hx hb dX12_count_227 rfl (lv_at hl 2 rfl) ?_
      refine lv_bipush (v := 12) hx hb dX12_count_228 (by decide) ?_
      refine lv_bipush (v := 16) hx hb dX12_count_230 (by decide) ?_
      refine qM_Si (As := [.int a1, .int 12, .int 16]) (rest := []) C0 (c_X12_in l h) (va_cwS 3 C0.2.2.2.2 (tbS mM11_8_37 ⟨mM11_8_38, mM11_1_11, mM11_8_39⟩) rfl rfl rfl (by decide +kernel) ⟨Nat.le_of_ble_eq_true rfl, Nat.le_of_ble_eq_true rfl⟩) hR hT hS rfl hl.1 rfl (Nat.le_of_ble_eq_true rfl) dX12_count_232 ⟨Nat.zero_le _, Nat.zero_le _⟩ (fun r110 S111 H locs h hR hS => ?_)
      refine lv_if_eq (tgt := 253) hx hb dX12_count_235 (by decide) (fun c112 => ?_) (fun c112 => ?_)
      · have h := h.1 c112
        refine lv_iconst (v := (-1)) hx hb dX12_count_253 (by decide) ?_
        exact rtM_i C0 hr hlk hR hS h dX12_count_254
      · have h := h.2 c112
        refine lv_aload_n hx hb dX12_count_238 rfl (lv_at hl 1 rfl) ?_
        refine gM_0_2 C0 hR Nat.zero_lt_one tbs_wsX120 mM11_7_79 dX12_count_239 ?_
        refine lv_bipush (v := 9) hx hb dX12_count_242 (by decide) ?_
        refine lv_iload_n hx hb dX12_count_244 rfl (lv_at hl 2 rfl) ?_
        refine lv_iadd hx hb dX12_count_245 ?_
        refine lv_bipush (v := 12) hx hb dX12_count_246 (by decide) ?_
        refine lv_isub hx hb dX12_count_248 ?_
        obtain ⟨j113, hj113, ej113, h⟩ := h
        refine lM_1 C0 hR Nat.zero_lt_one hj113 ej113 dX12_count_249 ?_
        refine lv_goto (tgt := 254) hx hb dX12_count_250 (by decide) ?_
        exact rtM_i C0 hr hlk hR hS h dX12_count_254
    · have h := h.2 c109
      refine lv_aload_n hx hb dX12_count_214 rfl (lv_at hl 1 rfl) ?_
      refine gM_0_2 C0 hR Nat.zero_lt_one tbs_wsX120 mM11_7_79 dX12_count_215 ?_
      refine lv_iconst (v := 3) hx hb dX12_count_218 (by decide) ?_
      refine lv_iload_n hx hb dX12_count_219 rfl (lv_at hl 2 rfl) ?_
      refine lv_iadd hx hb dX12_count_220 ?_
      refine lv_iconst (v := 4) hx hb dX12_count_221 (by decide) ?_
      refine lv_isub hx hb dX12_count_222 ?_
      obtain ⟨j114, hj114, ej114, h⟩ := h
      refine lM_1 C0 hR Nat.zero_lt_one hj114 ej114 dX12_count_223 ?_
      refine lv_goto (tgt := 254) hx hb dX12_count_224 (by decide) ?_
      exact rtM_i C0 hr hlk hR hS h dX12_count_254
  have h := h.2 c106
  by_cases c115 : a1 = 16
  · have h := h.1 c115
    refine lv_tableIn (tgt := 204) hx hb dX12_count_8 (by rw [c115]; decide) (by rw [c115]; decide) (by rw [c115]; rfl) (by decide) ?_
    refine lv_iload_n hx hb dX12_count_204 rfl (lv_at hl 2 rfl) ?_
    refine lv_iconst (v := 4) hx hb dX12_count_205 (by decide) ?_
    refine lv_bipush (v := 9) hx hb dX12_count_206 (by decide) ?_
    refine qM_Si (As := [.int a1, .int 4, .int 9]) (rest := []) C0 (c_X12_in l h) (va_cwS 3 C0.2.2.2.2 (tbS mM11_8_37 ⟨mM11_8_38, mM11_1_11, mM11_8_39⟩) rfl rfl rfl (by decide +kernel) ⟨Nat.le_of_ble_eq_true rfl, Nat.le_of_ble_eq_true rfl⟩) hR hT hS rfl hl.1 rfl (Nat.le_of_ble_eq_true rfl) dX12_count_208 ⟨Nat.zero_le _, Nat.zero_le _⟩ (fun r116 S117 H locs h hR hS => ?_)
    refine lv_if_eq (tgt := 227) hx hb dX12_count_211 (by decide) (fun c118 => ?_) (fun c118 => ?_)
    · have h := h.1 c118
      refine lv_iload_n hx hb dX12_count_227 rfl (lv_at hl 2 rfl) ?_
      refine lv_bipush (v := 12) hx hb dX12_count_228 (by decide) ?_
      refine lv_bipush (v := 16) hx hb dX12_count_230 (by decide) ?_
      refine qM_Si (As := [.int a1, .int 12, .int 16]) (rest := []) C0 (c_X12_in l h) (va_cwS 3 C0.2.2.2.2 (tbS mM11_8_37 ⟨mM11_8_38, mM11_1_11, mM11_8_39⟩) rfl rfl rfl (by decide +kernel) ⟨Nat.le_of_ble_eq_true rfl, Nat.le_of_ble_eq_true rfl⟩) hR hT hS rfl hl.1 rfl (Nat.le_of_ble_eq_true rfl) dX12_count_232 ⟨Nat.zero_le _, Nat.zero_le _⟩ (fun r119 S120 H locs h hR hS => ?_)
      refine lv_if_eq (tgt := 253) hx hb dX12_count_235 (by decide) (fun c121 => ?_) (fun c121 => ?_)
      · have h := h.1 c121
        refine lv_iconst (v := (-1)) hx hb dX12_count_253 (by decide) ?_
        exact rtM_i C0 hr hlk hR hS h dX12_count_254
      · have h := h.2 c121
        refine lv_aload_n hx hb dX12_count_238 rfl (lv_at hl 1 rfl) ?_
        refine gM_0_2 C0 hR Nat.zero_lt_one tbs_wsX120 mM11_7_79 dX12_count_239 ?_
        refine lv_bipush (v := 9) hx hb dX12_count_242 (by decide) ?_
        refine lv_iload_n hx hb dX12_count_244 rfl (lv_at hl 2 rfl) ?_
        refine lv_iadd hx hb dX12_count_245 ?_
        refine lv_bipush (v := 12) hx hb dX12_count_246 (by decide) ?_
        refine lv_isub hx hb dX12_count_248 ?_
        obtain ⟨j122, hj122, ej122, h⟩ := h
        refine lM_1 C0 hR Nat.zero_lt_one hj122 ej122 dX12_count_249 ?_
        refine lv_goto (tgt := 254) hx hb dX12_count_250 (by decide) ?_
        exact rtM_i C0 hr hlk hR hS h dX12_count_254
    · have h := h.2 c118
      refine lv_aload_n hx hb dX12_count_214 rfl (lv_at hl 1 rfl) ?_
      refine gM_0_2 C0 hR Nat.zero_lt_one tbs_wsX120 mM11_7_79 dX12_count_215 ?_
      refine lv_iconst (v := 3) hx hb dX12_count_218 (by decide) ?_
      refine lv_iload_n hx hb dX12_count_219 rfl (lv_at hl 2 rfl) ?_
      refine lv_iadd hx hb dX12_count_220 ?_
      refine lv_iconst (v := 4) hx hb dX12_count_221 (by decide) ?_
      refine lv_isub hx hb dX12_count_222 ?_
      obtain ⟨j123, hj123, ej123, h⟩ := h
      refine lM_1 C0 hR Nat.zero_lt_one hj123 ej123 dX12_count_223 ?_
      refine lv_goto (tgt := 254) hx hb dX12_count_224 (by decide) ?_
      exact rtM_i C0 hr hlk hR hS h dX12_count_254
  have h := h.2 c115
  by_cases c124 : a1 = 17
  · have h := h.1 c124
    refine lv_tableIn (tgt := 196) hx hb dX12_count_8 (by rw [c124]; decide) (by rw [c124]; decide) (by rw [c124]; rfl) (by decide) ?_
    refine lv_aload_n hx hb dX12_count_196 rfl (lv_at hl 1 rfl) ?_
    refine gM_0_2 C0 hR Nat.zero_lt_one tbs_wsX120 mM11_7_79 dX12_count_197 ?_
    refine lv_bipush (v := 14) hx hb dX12_count_200 (by decide) ?_
    refine lM_1 C0 hR Nat.zero_lt_one (by decide) rfl dX12_count_202 ?_
    exact rtM_i C0 hr hlk hR hS h dX12_count_203
  have h := h.2 c124
  refine lv_tableOut (tgt := 204) hx hb dX12_count_8 (by have a9 := fun j : Int32 => (Int32.toInt_inj (x := a1) (y := j)).mp; have b9 : ∀ j : Int32, a1 ≠ j → (a1 : Int32).toInt ≠ j.toInt := fun j n9 q9 => n9 (a9 j q9); have c2_ := b9 _ c2; have c9_ := b9 _ c9; have c10_ := b9 _ c10; have c11_ := b9 _ c11; have c12_ := b9 _ c12; have c21_ := b9 _ c21; have c30_ := b9 _ c30; have c39_ := b9 _ c39; have c48_ := b9 _ c48; have c57_ := b9 _ c57; have c66_ := b9 _ c66; have c69_ := b9 _ c69; have c79_ := b9 _ c79; have c88_ := b9 _ c88; have c97_ := b9 _ c97; have c106_ := b9 _ c106; have c115_ := b9 _ c115; have c124_ := b9 _ c124; simp at c2_ c9_ c10_ c11_ c12_ c21_ c30_ c39_ c48_ c57_ c66_ c69_ c79_ c88_ c97_ c106_ c115_ c124_; omega) (by decide) ?_
  refine lv_iload_n hx hb dX12_count_204 rfl (lv_at hl 2 rfl) ?_
  refine lv_iconst (v := 4) hx hb dX12_count_205 (by decide) ?_
  refine lv_bipush (v := 9) hx hb dX12_count_206 (by decide) ?_
  refine qM_Si (As := [.int a1, .int 4, .int 9]) (rest := []) C0 (c_X12_in l h) (va_cwS 3 C0.2.2.2.2 (tbS mM11_8_37 ⟨mM11_8_38, mM11_1_11, mM11_8_39⟩) rfl rfl rfl (by decide +kernel) ⟨Nat.le_of_ble_eq_true rfl, Nat.le_of_ble_eq_true rfl⟩) hR hT hS rfl hl.1 rfl (Nat.le_of_ble_eq_true rfl) dX12_count_208 ⟨Nat.zero_le _, Nat.zero_le _⟩ (fun r125 S126 H locs h hR hS => ?_)
  refine lv_if_eq (tgt := 227) hx hb dX12_count_211 (by decide) (fun c127 => ?_) (fun c127 => ?_)
  · have h := h.1 c127
    refine lv_iload_n hx hb dX12_count_227 rfl (lv_at hl 2 rfl) ?_
    refine lv_bipush (v := 12) hx hb dX12_count_228 (by decide) ?_
    refine lv_bipush (v := 16) hx hb dX12_count_230 (by decide) ?_
    refine qM_Si (As := [.int a1, .int 12, .int 16]) (rest := []) C0 (c_X12_in l h) (va_cwS 3 C0.2.2.2.2 (tbS mM11_8_37 ⟨mM11_8_38, mM11_1_11, mM11_8_39⟩) rfl rfl rfl (by decide +kernel) ⟨Nat.le_of_ble_eq_true rfl, Nat.le_of_ble_eq_true rfl⟩) hR hT hS rfl hl.1 rfl (Nat.le_of_ble_eq_true rfl) dX12_count_232 ⟨Nat.zero_le _, Nat.zero_le _⟩ (fun r128 S129 H locs h hR hS => ?_)
    refine lv_if_eq (tgt := 253) hx hb dX12_count_235 (by decide) (fun c130 => ?_) (fun c130 => ?_)
    · have h := h.1 c130
      refine lv_iconst (v := (-1)) hx hb dX12_count_253 (by decide) ?_
      exact rtM_i C0 hr hlk hR hS h dX12_count_254
    · have h := h.2 c130
      refine lv_aload_n hx hb dX12_count_238 rfl (lv_at hl 1 rfl) ?_
      refine gM_0_2 C0 hR Nat.zero_lt_one tbs_wsX120 mM11_7_79 dX12_count_239 ?_
      refine lv_bipush (v := 9) hx hb dX12_count_242 (by decide) ?_
      refine lv_iload_n hx hb dX12_count_244 rfl (lv_at hl 2 rfl) ?_
      refine lv_iadd hx hb dX12_count_245 ?_
      refine lv_bipush (v := 12) hx hb dX12_count_246 (by decide) ?_
      refine lv_isub hx hb dX12_count_248 ?_
      obtain ⟨j131, hj131, ej131, h⟩ := h
      refine lM_1 C0 hR Nat.zero_lt_one hj131 ej131 dX12_count_249 ?_
      refine lv_goto (tgt := 254) hx hb dX12_count_250 (by decide) ?_
      exact rtM_i C0 hr hlk hR hS h dX12_count_254
  · have h := h.2 c127
    refine lv_aload_n hx hb dX12_count_214 rfl (lv_at hl 1 rfl) ?_
    refine gM_0_2 C0 hR Nat.zero_lt_one tbs_wsX120 mM11_7_79 dX12_count_215 ?_
    refine lv_iconst (v := 3) hx hb dX12_count_218 (by decide) ?_
    refine lv_iload_n hx hb dX12_count_219 rfl (lv_at hl 2 rfl) ?_
    refine lv_iadd hx hb dX12_count_220 ?_
    refine lv_iconst (v := 4) hx hb dX12_count_221 (by decide) ?_
    refine lv_isub hx hb dX12_count_222 ?_
    obtain ⟨j132, hj132, ej132, h⟩ := h
    refine lM_1 C0 hR Nat.zero_lt_one hj132 ej132 dX12_count_223 ?_
    refine lv_goto (tgt := 254) hx hb dX12_count_224 (by decide) ?_
    exact rtM_i C0 hr hlk hR hS h dX12_count_254
