theorem mM5_7_79 : Cond.fieldLink RX12 13 "ClaimTableModel" "world" "[I" ∈ TB := tbT_7 _ (List.mem_of_getElem? (i := 79) rfl) rfl
theorem mM5_8_183 : Cond.methodLink RX12 289 yX12_anyVersion ∈ TB := tbT_8 _ (List.mem_of_getElem? (i := 183) rfl) rfl
theorem mM5_8_186 : Cond.code yX12_anyVersion cX12_anyVersion 2 (some .int) ∈ TB := tbT_8 _ (List.mem_of_getElem? (i := 186) rfl) rfl
theorem mM5_8_185 : Cond.instanceMethod yX12_anyVersion ∈ TB := tbT_8 _ (List.mem_of_getElem? (i := 185) rfl) rfl
theorem mpM5_5_9 : Cond.selects RX12 yX12_anyVersion yX12_anyVersion ∈ TB := tbP_5 (yX12_anyVersion, 19) (List.mem_of_getElem? (i := 9) rfl)
theorem mM5_1_11 : Cond.initialized RX12 ∈ TB := tbT_1 _ (List.mem_of_getElem? (i := 11) rfl) rfl
theorem mM5_8_187 : Cond.methodLink RX12 292 yX12_isOf ∈ TB := tbT_8 _ (List.mem_of_getElem? (i := 187) rfl) rfl
theorem mM5_8_190 : Cond.code yX12_isOf cX12_isOf 3 (some .boolean) ∈ TB := tbT_8 _ (List.mem_of_getElem? (i := 190) rfl) rfl
theorem mM5_8_189 : Cond.instanceMethod yX12_isOf ∈ TB := tbT_8 _ (List.mem_of_getElem? (i := 189) rfl) rfl
theorem mpM5_5_10 : Cond.selects RX12 yX12_isOf yX12_isOf ∈ TB := tbP_5 (yX12_isOf, 19) (List.mem_of_getElem? (i := 10) rfl)
theorem mM5_8_175 : Cond.methodLink RX12 301 yX12_isOthers ∈ TB := tbT_8 _ (List.mem_of_getElem? (i := 175) rfl) rfl
theorem mM5_8_178 : Cond.code yX12_isOthers cX12_isOthers 3 (some .boolean) ∈ TB := tbT_8 _ (List.mem_of_getElem? (i := 178) rfl) rfl
theorem mM5_8_177 : Cond.instanceMethod yX12_isOthers ∈ TB := tbT_8 _ (List.mem_of_getElem? (i := 177) rfl) rfl
theorem mpM5_5_7 : Cond.selects RX12 yX12_isOthers yX12_isOthers ∈ TB := tbP_5 (yX12_isOthers, 19) (List.mem_of_getElem? (i := 7) rfl)
theorem mM5_8_167 : Cond.methodLink RX12 295 yX12_seen ∈ TB := tbT_8 _ (List.mem_of_getElem? (i := 167) rfl) rfl
theorem mM5_8_170 : Cond.code yX12_seen cX12_seen 3 (some .int) ∈ TB := tbT_8 _ (List.mem_of_getElem? (i := 170) rfl) rfl
theorem mM5_8_169 : Cond.instanceMethod yX12_seen ∈ TB := tbT_8 _ (List.mem_of_getElem? (i := 169) rfl) rfl
theorem mpM5_5_5 : Cond.selects RX12 yX12_seen yX12_seen ∈ TB := tbP_5 (yX12_seen, 19) (List.mem_of_getElem? (i := 5) rfl)
theorem mM5_8_171 : Cond.methodLink RX12 298 yX12_isState ∈ TB := tbT_8 _ (List.mem_of_getElem? (i := 171) rfl) rfl
theorem mM5_8_174 : Cond.code yX12_isState cX12_isState 3 (some .boolean) ∈ TB := tbT_8 _ (List.mem_of_getElem? (i := 174) rfl) rfl
theorem mM5_8_173 : Cond.instanceMethod yX12_isState ∈ TB := tbT_8 _ (List.mem_of_getElem? (i := 173) rfl) rfl
theorem mpM5_5_6 : Cond.selects RX12 yX12_isState yX12_isState ∈ TB := tbP_5 (yX12_isState, 19) (List.mem_of_getElem? (i := 6) rfl)
theorem mM5_8_179 : Cond.methodLink RX12 304 yX12_hasLesser ∈ TB := tbT_8 _ (List.mem_of_getElem? (i := 179) rfl) rfl
theorem mM5_8_182 : Cond.code yX12_hasLesser cX12_hasLesser 6 (some .boolean) ∈ TB := tbT_8 _ (List.mem_of_getElem? (i := 182) rfl) rfl
theorem mM5_8_181 : Cond.instanceMethod yX12_hasLesser ∈ TB := tbT_8 _ (List.mem_of_getElem? (i := 181) rfl) rfl
theorem mpM5_5_8 : Cond.selects RX12 yX12_hasLesser yX12_hasLesser ∈ TB := tbP_5 (yX12_hasLesser, 19) (List.mem_of_getElem? (i := 8) rfl)
theorem mM5_8_191 : Cond.methodLink RX12 307 yX12_isFull ∈ TB := tbT_8 _ (List.mem_of_getElem? (i := 191) rfl) rfl
theorem mM5_8_194 : Cond.code yX12_isFull cX12_isFull 6 (some .boolean) ∈ TB := tbT_8 _ (List.mem_of_getElem? (i := 194) rfl) rfl
theorem mM5_8_193 : Cond.instanceMethod yX12_isFull ∈ TB := tbT_8 _ (List.mem_of_getElem? (i := 193) rfl) rfl
theorem mpM5_5_11 : Cond.selects RX12 yX12_isFull yX12_isFull ∈ TB := tbP_5 (yX12_isFull, 19) (List.mem_of_getElem? (i := 11) rfl)
theorem mM5_7_202 : Cond.methodLink RX12 59 yX12_numberOf ∈ TB := tbT_7 _ (List.mem_of_getElem? (i := 202) rfl) rfl
theorem mM5_7_205 : Cond.code yX12_numberOf cX12_numberOf 2 (some .int) ∈ TB := tbT_7 _ (List.mem_of_getElem? (i := 205) rfl) rfl
theorem mM5_7_204 : Cond.instanceMethod yX12_numberOf ∈ TB := tbT_7 _ (List.mem_of_getElem? (i := 204) rfl) rfl
theorem mpM5_3_3 : Cond.selects RX12 yX12_numberOf yX12_numberOf ∈ TB := tbP_3 (yX12_numberOf, 19) (List.mem_of_getElem? (i := 3) rfl)
theorem mM5_7_233 : Cond.methodLink RX12 63 yX12_sessionAt ∈ TB := tbT_7 _ (List.mem_of_getElem? (i := 233) rfl) rfl
theorem mM5_7_235 : Cond.code yX12_sessionAt cX12_sessionAt 2 (some .int) ∈ TB := tbT_7 _ (List.mem_of_getElem? (i := 235) rfl) rfl
theorem mM5_7_234 : Cond.static yX12_sessionAt ∈ TB := tbT_7 _ (List.mem_of_getElem? (i := 234) rfl) rfl
theorem mM5_8_199 : Cond.methodLink RX12 310 yX12_columnOf ∈ TB := tbT_8 _ (List.mem_of_getElem? (i := 199) rfl) rfl
theorem mM5_8_202 : Cond.code yX12_columnOf cX12_columnOf 5 (some .int) ∈ TB := tbT_8 _ (List.mem_of_getElem? (i := 202) rfl) rfl
theorem mM5_8_201 : Cond.instanceMethod yX12_columnOf ∈ TB := tbT_8 _ (List.mem_of_getElem? (i := 201) rfl) rfl
theorem mpM5_5_13 : Cond.selects RX12 yX12_columnOf yX12_columnOf ∈ TB := tbP_5 (yX12_columnOf, 19) (List.mem_of_getElem? (i := 13) rfl)
theorem mM5_8_163 : Cond.methodLink RX12 313 yX12_mayBeClaimed ∈ TB := tbT_8 _ (List.mem_of_getElem? (i := 163) rfl) rfl
theorem mM5_8_166 : Cond.code yX12_mayBeClaimed cX12_mayBeClaimed 4 (some .boolean) ∈ TB := tbT_8 _ (List.mem_of_getElem? (i := 166) rfl) rfl
theorem mM5_8_165 : Cond.instanceMethod yX12_mayBeClaimed ∈ TB := tbT_8 _ (List.mem_of_getElem? (i := 165) rfl) rfl
theorem mpM5_5_4 : Cond.selects RX12 yX12_mayBeClaimed yX12_mayBeClaimed ∈ TB := tbP_5 (yX12_mayBeClaimed, 19) (List.mem_of_getElem? (i := 4) rfl)
theorem mM5_8_195 : Cond.methodLink RX12 316 yX12_isAsAsked ∈ TB := tbT_8 _ (List.mem_of_getElem? (i := 195) rfl) rfl
theorem mM5_8_198 : Cond.code yX12_isAsAsked cX12_isAsAsked 9 (some .boolean) ∈ TB := tbT_8 _ (List.mem_of_getElem? (i := 198) rfl) rfl
theorem mM5_8_197 : Cond.instanceMethod yX12_isAsAsked ∈ TB := tbT_8 _ (List.mem_of_getElem? (i := 197) rfl) rfl
theorem mpM5_5_12 : Cond.selects RX12 yX12_isAsAsked yX12_isAsAsked ∈ TB := tbP_5 (yX12_isAsAsked, 19) (List.mem_of_getElem? (i := 12) rfl)
theorem mM5_8_203 : Cond.methodLink RX12 319 yX12_isAhead ∈ TB := tbT_8 _ (List.mem_of_getElem? (i := 203) rfl) rfl
theorem mM5_8_206 : Cond.code yX12_isAhead cX12_isAhead 8 (some .boolean) ∈ TB := tbT_8 _ (List.mem_of_getElem? (i := 206) rfl) rfl
theorem mM5_8_205 : Cond.instanceMethod yX12_isAhead ∈ TB := tbT_8 _ (List.mem_of_getElem? (i := 205) rfl) rfl
theorem mpM5_5_14 : Cond.selects RX12 yX12_isAhead yX12_isAhead ∈ TB := tbP_5 (yX12_isAhead, 19) (List.mem_of_getElem? (i := 14) rfl)
theorem mM5_8_159 : Cond.methodLink RX12 322 yX12_firstFor ∈ TB := tbT_8 _ (List.mem_of_getElem? (i := 159) rfl) rfl
theorem mM5_8_162 : Cond.code yX12_firstFor cX12_firstFor 4 (some .int) ∈ TB := tbT_8 _ (List.mem_of_getElem? (i := 162) rfl) rfl
theorem mM5_8_161 : Cond.instanceMethod yX12_firstFor ∈ TB := tbT_8 _ (List.mem_of_getElem? (i := 161) rfl) rfl
theorem mpM5_5_3 : Cond.selects RX12 yX12_firstFor yX12_firstFor ∈ TB := tbP_5 (yX12_firstFor, 19) (List.mem_of_getElem? (i := 3) rfl)
theorem mM5_8_207 : Cond.methodLink RX12 325 yX12_locks ∈ TB := tbT_8 _ (List.mem_of_getElem? (i := 207) rfl) rfl
theorem mM5_8_210 : Cond.code yX12_locks cX12_locks 3 (some .int) ∈ TB := tbT_8 _ (List.mem_of_getElem? (i := 210) rfl) rfl
theorem mM5_8_209 : Cond.instanceMethod yX12_locks ∈ TB := tbT_8 _ (List.mem_of_getElem? (i := 209) rfl) rfl
theorem mpM5_5_15 : Cond.selects RX12 yX12_locks yX12_locks ∈ TB := tbP_5 (yX12_locks, 19) (List.mem_of_getElem? (i := 15) rfl)
theorem mM5_7_92 : Cond.fieldLink RX12 39 "ClaimTableModel" "claimed" "[I" ∈ TB := tbT_7 _ (List.mem_of_getElem? (i := 92) rfl) rfl
theorem mM5_7_77 : Cond.fieldLink RX12 3 "ClaimTableModel" "thrown" "I" ∈ TB := tbT_7 _ (List.mem_of_getElem? (i := 77) rfl) rfl
theorem mM5_8_33 : Cond.methodLink RX12 245 yX12_noSession ∈ TB := tbT_8 _ (List.mem_of_getElem? (i := 33) rfl) rfl
theorem mM5_8_36 : Cond.code yX12_noSession cX12_noSession 2 (some .boolean) ∈ TB := tbT_8 _ (List.mem_of_getElem? (i := 36) rfl) rfl
theorem mM5_8_35 : Cond.instanceMethod yX12_noSession ∈ TB := tbT_8 _ (List.mem_of_getElem? (i := 35) rfl) rfl
theorem mpM5_3_14 : Cond.selects RX12 yX12_noSession yX12_noSession ∈ TB := tbP_3 (yX12_noSession, 19) (List.mem_of_getElem? (i := 14) rfl)
theorem mM5_8_25 : Cond.methodLink RX12 199 yX12_throwsIf ∈ TB := tbT_8 _ (List.mem_of_getElem? (i := 25) rfl) rfl
theorem mM5_8_28 : Cond.code yX12_throwsIf cX12_throwsIf 3 (some .boolean) ∈ TB := tbT_8 _ (List.mem_of_getElem? (i := 28) rfl) rfl
theorem mM5_8_27 : Cond.instanceMethod yX12_throwsIf ∈ TB := tbT_8 _ (List.mem_of_getElem? (i := 27) rfl) rfl
theorem mpM5_3_13 : Cond.selects RX12 yX12_throwsIf yX12_throwsIf ∈ TB := tbP_3 (yX12_throwsIf, 19) (List.mem_of_getElem? (i := 13) rfl)
theorem mM5_8_155 : Cond.methodLink RX12 328 yX12_claims ∈ TB := tbT_8 _ (List.mem_of_getElem? (i := 155) rfl) rfl
theorem mM5_8_158 : Cond.code yX12_claims cX12_claims 6 (some .int) ∈ TB := tbT_8 _ (List.mem_of_getElem? (i := 158) rfl) rfl
theorem mM5_8_157 : Cond.instanceMethod yX12_claims ∈ TB := tbT_8 _ (List.mem_of_getElem? (i := 157) rfl) rfl
theorem mpM5_5_2 : Cond.selects RX12 yX12_claims yX12_claims ∈ TB := tbP_5 (yX12_claims, 19) (List.mem_of_getElem? (i := 2) rfl)
theorem mM5_8_211 : Cond.methodLink RX12 331 yX12_isDone ∈ TB := tbT_8 _ (List.mem_of_getElem? (i := 211) rfl) rfl
theorem mM5_8_214 : Cond.code yX12_isDone cX12_isDone 2 none ∈ TB := tbT_8 _ (List.mem_of_getElem? (i := 214) rfl) rfl
theorem mM5_8_213 : Cond.instanceMethod yX12_isDone ∈ TB := tbT_8 _ (List.mem_of_getElem? (i := 213) rfl) rfl
theorem mpM5_6_0 : Cond.selects RX12 yX12_isDone yX12_isDone ∈ TB := tbP_6 (yX12_isDone, 19) (List.mem_of_getElem? (i := 0) rfl)
def rm_X12_isFull : Room := { frames := 5, cells := 0, slots := 0, locals := 106 }
def B_X12_isFull_68 (kk19 : Int32 → Int32 → Int32 → Int32 → sSt → Prop) (a2 : Int32) (a3 : Int32) (a5 : Int32) (t0 : Int32) (t1 : Int32) (S : sSt) (k : Int32 → sSt → Prop) : Prop := ∀ x11 : Int32, x11 = (t0 + t1) → ∀ x12 : Int32, x12 = a5 + 1 → kk19 a2 a3 x11 x12 S
set_option maxHeartbeats 4000000 in
set_option maxRecDepth 100000 in
theorem Bw_X12_isFull_68 {p : Program} {l : Launch} {e : Env} {s : State} {m : MethodId} {args : Array Value} {below : List Frame} {meth : Method} {c : Code} {D : va_G} {cy : Nat → ClassId} {b z : Nat} {tx : TX} (C0 : CallFix p m c cX12_isFull 6 s args TB RX12) (hr : meth.sig.returnType = (some .boolean)) (hlk : meth.locks = false) (hT : TxR tx s) {k : Int32 → sSt → Prop} {kk19 : Int32 → Int32 → Int32 → Int32 → sSt → Prop} (ih19 : ∀ (a2 : Int32) (a3 : Int32) (a4 : Int32) (a5 : Int32) (S : sSt) (H : Heap) (locs : List Loc) (ls : Array Slot) , kk19 a2 a3 a4 a5 S → RelM D cy b z tx S s H → va_S (gA b 12 z) s.heap H locs → lv_has ls 6 [(0, .ref (b + adM 0 0)), (2, .int a2), (3, .int a3), (4, .int a4), (5, .int a5)] → W p l e rm_X12_isFull s m args below meth c H locs 0 0 (MQ below (PiM D cy b z tx k) args s 0 0 (gA b 12 z)) (F0 m 19 ls [])) : ∀ (a2 : Int32) (a3 : Int32) (a5 : Int32) (t0 : Int32) (t1 : Int32) (S : sSt) (H : Heap) (locs : List Loc) (ls : Array Slot) , B_X12_isFull_68 kk19 a2 a3 a5 t0 t1 S k → RelM D cy b z tx S s H → va_S (gA b 12 z) s.heap H locs → lv_has ls 6 [(0, .ref (b + adM 0 0)), (2, .int a2), (3, .int a3), (5, .int a5)] → W p l e rm_X12_isFull s m args below meth c H locs 0 0 (MQ below (PiM D cy b z tx k) args s 0 0 (gA b 12 z)) (F0 m 68 ls [.int t1, .int t0]) := by
  intro a2 a3 a5 t0 t1 S H locs ls h hR hS hl
  have hx := C0.1
  have hb := C0.2.1
  unfold B_X12_isFull_68 at h
  refine lv_iadd hx hb dX12_isFull_68 ?_
  refine lv_topi (fun x11 ex11 => ?_)
  have h := h x11 ex11
  refine lv_istore (lv' := [(4, .int x11), (0, .ref (b + adM 0 0)), (2, .int a2), (3, .int a3), (5, .int a5)]) hx hb dX12_isFull_69 hl (by decide) rfl (fun ls hl => ?_)
  obtain ⟨x12, ex12⟩ : ∃ x12 : Int32, x12 = a5 + 1 := ⟨_, rfl⟩
  have h := h x12 ex12
  refine w_iinc (v0 := 1) (lv' := [(5, .int x12), (4, .int x11), (0, .ref (b + adM 0 0)), (2, .int a2), (3, .int a3)]) C0 dX12_isFull_71 hl (k := 4) rfl (by decide) (by decide) x12 ex12 rfl (fun ls hl => ?_)
  refine lv_goto (tgt := 19) hx hb dX12_isFull_74 (by decide) ?_
  exact ih19 a2 a3 x11 x12 S _ _ _  h hR hS (lv_sub hl [2, 3, 4, 1, 0] rfl)
def B_X12_isFull_67 (kk19 : Int32 → Int32 → Int32 → Int32 → sSt → Prop) (a2 : Int32) (a3 : Int32) (a5 : Int32) (t0 : Int32) (S : sSt) (k : Int32 → sSt → Prop) : Prop := B_X12_isFull_68 kk19 a2 a3 a5 t0 0 S k
set_option maxHeartbeats 4000000 in
set_option maxRecDepth 100000 in
theorem Bw_X12_isFull_67 {p : Program} {l : Launch} {e : Env} {s : State} {m : MethodId} {args : Array Value} {below : List Frame} {meth : Method} {c : Code} {D : va_G} {cy : Nat → ClassId} {b z : Nat} {tx : TX} (C0 : CallFix p m c cX12_isFull 6 s args TB RX12) (hr : meth.sig.returnType = (some .boolean)) (hlk : meth.locks = false) (hT : TxR tx s) {k : Int32 → sSt → Prop} {kk19 : Int32 → Int32 → Int32 → Int32 → sSt → Prop} (ih19 : ∀ (a2 : Int32) (a3 : Int32) (a4 : Int32) (a5 : Int32) (S : sSt) (H : Heap) (locs : List Loc) (ls : Array Slot) , kk19 a2 a3 a4 a5 S → RelM D cy b z tx S s H → va_S (gA b 12 z) s.heap H locs → lv_has ls 6 [(0, .ref (b + adM 0 0)), (2, .int a2), (3, .int a3), (4, .int a4), (5, .int a5)] → W p l e rm_X12_isFull s m args below meth c H locs 0 0 (MQ below (PiM D cy b z tx k) args s 0 0 (gA b 12 z)) (F0 m 19 ls [])) : ∀ (a2 : Int32) (a3 : Int32) (a5 : Int32) (t0 : Int32) (S : sSt) (H : Heap) (locs : List Loc) (ls : Array Slot) , B_X12_isFull_67 kk19 a2 a3 a5 t0 S k → RelM D cy b z tx S s H → va_S (gA b 12 z) s.heap H locs → lv_has ls 6 [(0, .ref (b + adM 0 0)), (2, .int a2), (3, .int a3), (5, .int a5)] → W p l e rm_X12_isFull s m args below meth c H locs 0 0 (MQ below (PiM D cy b z tx k) args s 0 0 (gA b 12 z)) (F0 m 67 ls [.int t0]) := by
  intro a2 a3 a5 t0 S H locs ls h hR hS hl
  have hx := C0.1
  have hb := C0.2.1
  unfold B_X12_isFull_67 at h
  refine lv_iconst (v := 0) hx hb dX12_isFull_67 (by decide) ?_
  exact Bw_X12_isFull_68 C0 hr hlk hT ih19 a2 a3 a5 t0 0 S _ _ _ h hR hS (lv_sub hl [0, 1, 2, 3] rfl)
def B_X12_isFull_63 (kk19 : Int32 → Int32 → Int32 → Int32 → sSt → Prop) (a2 : Int32) (a3 : Int32) (a5 : Int32) (t0 : Int32) (S : sSt) (k : Int32 → sSt → Prop) : Prop := B_X12_isFull_68 kk19 a2 a3 a5 t0 1 S k
set_option maxHeartbeats 4000000 in
set_option maxRecDepth 100000 in
theorem Bw_X12_isFull_63 {p : Program} {l : Launch} {e : Env} {s : State} {m : MethodId} {args : Array Value} {below : List Frame} {meth : Method} {c : Code} {D : va_G} {cy : Nat → ClassId} {b z : Nat} {tx : TX} (C0 : CallFix p m c cX12_isFull 6 s args TB RX12) (hr : meth.sig.returnType = (some .boolean)) (hlk : meth.locks = false) (hT : TxR tx s) {k : Int32 → sSt → Prop} {kk19 : Int32 → Int32 → Int32 → Int32 → sSt → Prop} (ih19 : ∀ (a2 : Int32) (a3 : Int32) (a4 : Int32) (a5 : Int32) (S : sSt) (H : Heap) (locs : List Loc) (ls : Array Slot) , kk19 a2 a3 a4 a5 S → RelM D cy b z tx S s H → va_S (gA b 12 z) s.heap H locs → lv_has ls 6 [(0, .ref (b + adM 0 0)), (2, .int a2), (3, .int a3), (4, .int a4), (5, .int a5)] → W p l e rm_X12_isFull s m args below meth c H locs 0 0 (MQ below (PiM D cy b z tx k) args s 0 0 (gA b 12 z)) (F0 m 19 ls [])) : ∀ (a2 : Int32) (a3 : Int32) (a5 : Int32) (t0 : Int32) (S : sSt) (H : Heap) (locs : List Loc) (ls : Array Slot) , B_X12_isFull_63 kk19 a2 a3 a5 t0 S k → RelM D cy b z tx S s H → va_S (gA b 12 z) s.heap H locs → lv_has ls 6 [(0, .ref (b + adM 0 0)), (2, .int a2), (3, .int a3), (5, .int a5)] → W p l e rm_X12_isFull s m args below meth c H locs 0 0 (MQ below (PiM D cy b z tx k) args s 0 0 (gA b 12 z)) (F0 m 63 ls [.int t0]) := by
  intro a2 a3 a5 t0 S H locs ls h hR hS hl
  have hx := C0.1
  have hb := C0.2.1
  unfold B_X12_isFull_63 at h
  refine lv_iconst (v := 1) hx hb dX12_isFull_63 (by decide) ?_
  refine lv_goto (tgt := 68) hx hb dX12_isFull_64 (by decide) ?_
  exact Bw_X12_isFull_68 C0 hr hlk hT ih19 a2 a3 a5 t0 1 S _ _ _ h hR hS (lv_sub hl [0, 1, 2, 3] rfl)
def Bb_X12_isFull_19 (kk19 : Int32 → Int32 → Int32 → Int32 → sSt → Prop) (a2 : Int32) (a3 : Int32) (a4 : Int32) (a5 : Int32) (S : sSt) (k : Int32 → sSt → Prop) : Prop := ((24 ≤ a5 → ix (15 + a3) 10421 (fun j6 => ((a4 < (S.1 1 0 j6) → k 0 S) ∧ (¬ a4 < (S.1 1 0 j6) → k 1 S)))) ∧ (¬ 24 ≤ a5 → F_X12_isOf a5 a3 S (fun r8 S9 => ((r8 = 0 → B_X12_isFull_67 kk19 a2 a3 a5 a4 S9 k) ∧ (¬ r8 = 0 → F_X12_isOthers a5 a2 S9 (fun r13 S14 => ((¬ r13 = 0 → B_X12_isFull_63 kk19 a2 a3 a5 a4 S14 k) ∧ (r13 = 0 → F_X12_seen a5 a2 S14 (fun r16 S17 => F_X12_isState r16 1 S17 (fun r18 S19 => ((r18 = 0 → B_X12_isFull_67 kk19 a2 a3 a5 a4 S19 k) ∧ (¬ r18 = 0 → B_X12_isFull_63 kk19 a2 a3 a5 a4 S19 k))))))))))))
set_option maxHeartbeats 4000000 in
set_option maxRecDepth 100000 in
theorem Bbw_X12_isFull_19 {p : Program} {l : Launch} {e : Env} {s : State} {m : MethodId} {args : Array Value} {below : List Frame} {meth : Method} {c : Code} {D : va_G} {cy : Nat → ClassId} {b z : Nat} {tx : TX} (C0 : CallFix p m c cX12_isFull 6 s args TB RX12) (hr : meth.sig.returnType = (some .boolean)) (hlk : meth.locks = false) (hT : TxR tx s) {k : Int32 → sSt → Prop} {kk19 : Int32 → Int32 → Int32 → Int32 → sSt → Prop} (ih19 : ∀ (a2 : Int32) (a3 : Int32) (a4 : Int32) (a5 : Int32) (S : sSt) (H : Heap) (locs : List Loc) (ls : Array Slot) , kk19 a2 a3 a4 a5 S → RelM D cy b z tx S s H → va_S (gA b 12 z) s.heap H locs → lv_has ls 6 [(0, .ref (b + adM 0 0)), (2, .int a2), (3, .int a3), (4, .int a4), (5, .int a5)] → W p l e rm_X12_isFull s m args below meth c H locs 0 0 (MQ below (PiM D cy b z tx k) args s 0 0 (gA b 12 z)) (F0 m 19 ls [])) : ∀ (a2 : Int32) (a3 : Int32) (a4 : Int32) (a5 : Int32) (S : sSt) (H : Heap) (locs : List Loc) (ls : Array Slot) , Bb_X12_isFull_19 kk19 a2 a3 a4 a5 S k → RelM D cy b z tx S s H → va_S (gA b 12 z) s.heap H locs → lv_has ls 6 [(0, .ref (b + adM 0 0)), (2, .int a2), (3, .int a3), (4, .int a4), (5, .int a5)] → W p l e rm_X12_isFull s m args below meth c H locs 0 0 (MQ below (PiM D cy b z tx k) args s 0 0 (gA b 12 z)) (F0 m 19 ls []) := by
  intro a2 a3 a4 a5 S H locs ls h hR hS hl
  have hx := C0.1
  have hb := C0.2.1
  unfold Bb_X12_isFull_19 at h
  refine lv_iload hx hb dX12_isFull_19 (lv_at hl 4 rfl) ?_
  refine lv_bipush (v := 24) hx hb dX12_isFull_21 (by decide) ?_
  refine lv_icmp_ge (tgt := 77) hx hb dX12_isFull_23 (by decide) (fun c5 => ?_) (fun c5 => ?_)
  · have h := h.1 c5
    refine lv_iload hx hb dX12_isFull_77 (lv_at hl 3 rfl) ?_
    refine lv_aload_n hx hb dX12_isFull_79 rfl (lv_at hl 0 rfl) ?_
    refine gM_0_2 C0 hR Nat.zero_lt_one tbs_wsX120 mM5_7_79 dX12_isFull_80 ?_
    refine lv_bipush (v := 15) hx hb dX12_isFull_83 (by decide) ?_
    refine lv_iload_n hx hb dX12_isFull_85 rfl (lv_at hl 2 rfl) ?_
    refine lv_iadd hx hb dX12_isFull_86 ?_
    obtain ⟨j6, hj6, ej6, h⟩ := h
    refine lM_1 C0 hR Nat.zero_lt_one hj6 ej6 dX12_isFull_87 ?_
    refine lv_icmp_lt (tgt := 95) hx hb dX12_isFull_88 (by decide) (fun c7 => ?_) (fun c7 => ?_)
    · have h := h.1 c7
      refine lv_iconst (v := 0) hx hb dX12_isFull_95 (by decide) ?_
      exact rtM_z C0 hr hlk hR hS (by decide) h dX12_isFull_96
    · have h := h.2 c7
      refine lv_iconst (v := 1) hx hb dX12_isFull_91 (by decide) ?_
      refine lv_goto (tgt := 96) hx hb dX12_isFull_92 (by decide) ?_
      exact rtM_z C0 hr hlk hR hS (by decide) h dX12_isFull_96
  · have h := h.2 c5
    refine lv_iload hx hb dX12_isFull_26 (lv_at hl 3 rfl) ?_
    refine lv_aload_n hx hb dX12_isFull_28 rfl (lv_at hl 0 rfl) ?_
    refine lv_iload hx hb dX12_isFull_29 (lv_at hl 4 rfl) ?_
    refine lv_iload_n hx hb dX12_isFull_31 rfl (lv_at hl 2 rfl) ?_
    refine qM_Vi (As := [.int a5, .int a3]) (rest := [.int a4]) C0 (c_X12_isOf l h) (cwV 2 C0.2.2.2.2 (tbV mM5_8_187 ⟨mM5_8_189, mpM5_5_10, mM5_1_11, mM5_8_190⟩) rfl rfl rfl (by decide +kernel) ⟨Nat.le_of_ble_eq_true rfl, Nat.le_of_ble_eq_true rfl⟩) (rcM_0 hR Nat.zero_lt_one) hR hT hS rfl hl.1 rfl (Nat.le_of_ble_eq_true rfl) dX12_isFull_32 ⟨Nat.zero_le _, Nat.zero_le _⟩ (fun r8 S9 H locs h hR hS => ?_)
    refine lv_if_eq (tgt := 67) hx hb dX12_isFull_35 (by decide) (fun c10 => ?_) (fun c10 => ?_)
    · have h := h.1 c10
      exact Bw_X12_isFull_67 C0 hr hlk hT ih19 a2 a3 a5 a4 S9 _ _ _ h hR hS (lv_sub hl [0, 1, 2, 4] rfl)
    · have h := h.2 c10
      refine lv_aload_n hx hb dX12_isFull_38 rfl (lv_at hl 0 rfl) ?_
      refine lv_iload hx hb dX12_isFull_39 (lv_at hl 4 rfl) ?_
      refine lv_iload_n hx hb dX12_isFull_41 rfl (lv_at hl 1 rfl) ?_
      refine qM_Vi (As := [.int a5, .int a2]) (rest := [.int a4]) C0 (c_X12_isOthers l h) (cwV 2 C0.2.2.2.2 (tbV mM5_8_175 ⟨mM5_8_177, mpM5_5_7, mM5_1_11, mM5_8_178⟩) rfl rfl rfl (by decide +kernel) ⟨Nat.le_of_ble_eq_true rfl, Nat.le_of_ble_eq_true rfl⟩) (rcM_0 hR Nat.zero_lt_one) hR hT hS rfl hl.1 rfl (Nat.le_of_ble_eq_true rfl) dX12_isFull_42 ⟨Nat.zero_le _, Nat.zero_le _⟩ (fun r13 S14 H locs h hR hS => ?_)
      refine lv_if_ne (tgt := 63) hx hb dX12_isFull_45 (by decide) (fun c15 => ?_) (fun c15 => ?_)
      · have h := h.1 c15
        exact Bw_X12_isFull_63 C0 hr hlk hT ih19 a2 a3 a5 a4 S14 _ _ _ h hR hS (lv_sub hl [0, 1, 2, 4] rfl)
      · have h := h.2 c15
        refine lv_aload_n hx hb dX12_isFull_48 rfl (lv_at hl 0 rfl) ?_
        refine lv_aload_n hx hb dX12_isFull_49 rfl (lv_at hl 0 rfl) ?_
        refine lv_iload hx hb dX12_isFull_50 (lv_at hl 4 rfl) ?_
        refine lv_iload_n hx hb dX12_isFull_52 rfl (lv_at hl 1 rfl) ?_
        refine qM_Vi (As := [.int a5, .int a2]) (rest := [.ref (b + adM 0 0), .int a4]) C0 (c_X12_seen l h) (cwV 2 C0.2.2.2.2 (tbV mM5_8_167 ⟨mM5_8_169, mpM5_5_5, mM5_1_11, mM5_8_170⟩) rfl rfl rfl (by decide +kernel) ⟨Nat.le_of_ble_eq_true rfl, Nat.le_of_ble_eq_true rfl⟩) (rcM_0 hR Nat.zero_lt_one) hR hT hS rfl hl.1 rfl (Nat.le_of_ble_eq_true rfl) dX12_isFull_53 ⟨Nat.zero_le _, Nat.zero_le _⟩ (fun r16 S17 H locs h hR hS => ?_)
        refine lv_iconst (v := 1) hx hb dX12_isFull_56 (by decide) ?_
        refine qM_Vi (As := [.int r16, .int 1]) (rest := [.int a4]) C0 (c_X12_isState l h) (cwV 2 C0.2.2.2.2 (tbV mM5_8_171 ⟨mM5_8_173, mpM5_5_6, mM5_1_11, mM5_8_174⟩) rfl rfl rfl (by decide +kernel) ⟨Nat.le_of_ble_eq_true rfl, Nat.le_of_ble_eq_true rfl⟩) (rcM_0 hR Nat.zero_lt_one) hR hT hS rfl hl.1 rfl (Nat.le_of_ble_eq_true rfl) dX12_isFull_57 ⟨Nat.zero_le _, Nat.zero_le _⟩ (fun r18 S19 H locs h hR hS => ?_)
        refine lv_if_eq (tgt := 67) hx hb dX12_isFull_60 (by decide) (fun c20 => ?_) (fun c20 => ?_)
        · have h := h.1 c20
          exact Bw_X12_isFull_67 C0 hr hlk hT ih19 a2 a3 a5 a4 S19 _ _ _ h hR hS (lv_sub hl [0, 1, 2, 4] rfl)
        · have h := h.2 c20
          exact Bw_X12_isFull_63 C0 hr hlk hT ih19 a2 a3 a5 a4 S19 _ _ _ h hR hS (lv_sub hl [0, 1, 2, 4] rfl)
def B_X12_isFull_19 (n9 : Nat) (a2 : Int32) (a3 : Int32) (a4 : Int32) (a5 : Int32) (S : sSt) (k : Int32 → sSt → Prop) : Prop := (Nat.rec (motive := fun _ => Int32 → Int32 → Int32 → Int32 → sSt → Prop) (fun _ _ _ _ _ => False) (fun _ r9 => fun a2 a3 a4 a5 S => Bb_X12_isFull_19 r9 a2 a3 a4 a5 S k) n9 : Int32 → Int32 → Int32 → Int32 → sSt → Prop) a2 a3 a4 a5 S
theorem B_X12_isFull_19_s (n9 : Nat) (a2 : Int32) (a3 : Int32) (a4 : Int32) (a5 : Int32) (S : sSt) (k : Int32 → sSt → Prop) : B_X12_isFull_19 (n9 + 1) a2 a3 a4 a5 S k = Bb_X12_isFull_19 (fun a2 a3 a4 a5 S => B_X12_isFull_19 n9 a2 a3 a4 a5 S k) a2 a3 a4 a5 S k := rfl
set_option maxHeartbeats 4000000 in
set_option maxRecDepth 100000 in
theorem Bw_X12_isFull_19 {p : Program} {l : Launch} {e : Env} {s : State} {m : MethodId} {args : Array Value} {below : List Frame} {meth : Method} {c : Code} {D : va_G} {cy : Nat → ClassId} {b z : Nat} {tx : TX} (C0 : CallFix p m c cX12_isFull 6 s args TB RX12) (hr : meth.sig.returnType = (some .boolean)) (hlk : meth.locks = false) (hT : TxR tx s) {k : Int32 → sSt → Prop} : ∀ (n9 : Nat), ∀ (a2 : Int32) (a3 : Int32) (a4 : Int32) (a5 : Int32) (S : sSt) (H : Heap) (locs : List Loc) (ls : Array Slot) , B_X12_isFull_19 n9 a2 a3 a4 a5 S k → RelM D cy b z tx S s H → va_S (gA b 12 z) s.heap H locs → lv_has ls 6 [(0, .ref (b + adM 0 0)), (2, .int a2), (3, .int a3), (4, .int a4), (5, .int a5)] → W p l e rm_X12_isFull s m args below meth c H locs 0 0 (MQ below (PiM D cy b z tx k) args s 0 0 (gA b 12 z)) (F0 m 19 ls []) := by
  intro n9
  induction n9 with
  | zero => intro a2 a3 a4 a5 S H locs ls h; exact h.elim
  | succ n9 ih =>
    intro a2 a3 a4 a5 S H locs ls h hR hS hl
    exact Bbw_X12_isFull_19 C0 hr hlk hT ih a2 a3 a4 a5 S H locs ls h hR hS hl
def F_X12_isFull (a1 : Int32) (a2 : Int32) (S : sSt) (k : Int32 → sSt → Prop) : Prop := F_X12_anyVersion a1 S (fun r1 S2 => ix (r1 + 0) 10421 (fun j3 => ∀ x4 : Int32, x4 = (S2.1 1 0 j3) → B_X12_isFull_19 fuel a2 x4 0 0 S2 k))
set_option maxHeartbeats 4000000 in
set_option maxRecDepth 100000 in
theorem c_X12_isFull (l : Launch) {D : va_G} {cy : Nat → ClassId} {b z : Nat} {tx : TX} {a1 : Int32} {a2 : Int32} {S : sSt} {k : Int32 → sSt → Prop} (h : F_X12_isFull a1 a2 S k) : Met l yX12_isFull (Cond.code yX12_isFull cX12_isFull 6 (some .boolean) :: TB) rm_X12_isFull (va_Pc [.ref (b + adM 0 0), .int a1, .int a2] (fun U => RelM D cy b z tx S U U.heap ∧ TxR tx U)) (PiM D cy b z tx k) 0 0 (gA b 12 z) := by
  refine Met.ofW (cc := cX12_isFull) (maxL := 6) (ret := (some .boolean)) (by decide) rfl ?_
  intro p e s m args below meth c s₁ B hml hv
  obtain ⟨rfl, hR, hT⟩ := hv
  have C0 : CallFix p m c cX12_isFull 6 s _ TB RX12 := ⟨B.exec, B.bytes, hml, findClass_of_methodNamed B.named, fun w hw => atoms_spec B.pre w (List.mem_cons_of_mem _ hw)⟩
  have hr := B.returns
  have hlk := B.notSynchronized
  have hx := C0.1
  have hb := C0.2.1
  have hS : va_S (gA b 12 z) s.heap s.heap [] := va_S.rf
  have hl := lv_entry ([.ref (b + adM 0 0), .int a1, .int a2]) (n := 6) (Nat.le_of_ble_eq_true rfl)
  rw [lg_entry_eq]
  generalize (lg_sl ([.ref (b + adM 0 0), .int a1, .int a2]) ++ List.replicate (6 - (lg_sl ([.ref (b + adM 0 0), .int a1, .int a2])).length) Slot.unset).toArray = ls at hl ⊢
  have hl : lv_has ls 6 [(0, .ref (b + adM 0 0)), (1, .int a1), (2, .int a2)] := hl
  show W p l e rm_X12_isFull s m _ below meth c s.heap [] 0 0 (MQ below (PiM D cy b z tx k) _ s 0 0 (gA b 12 z)) _
  unfold F_X12_isFull at h
  refine lv_aload_n hx hb dX12_isFull_0 rfl (lv_at hl 0 rfl) ?_
  refine gM_0_2 C0 hR Nat.zero_lt_one tbs_wsX120 mM5_7_79 dX12_isFull_1 ?_
  refine lv_aload_n hx hb dX12_isFull_4 rfl (lv_at hl 0 rfl) ?_
  refine lv_iload_n hx hb dX12_isFull_5 rfl (lv_at hl 1 rfl) ?_
  refine qM_Vi (As := [.int a1]) (rest := [.ref (b + adM 1 0)]) C0 (c_X12_anyVersion l h) (cwV 1 C0.2.2.2.2 (tbV mM5_8_183 ⟨mM5_8_185, mpM5_5_9, mM5_1_11, mM5_8_186⟩) rfl rfl rfl (by decide +kernel) ⟨Nat.le_of_ble_eq_true rfl, Nat.le_of_ble_eq_true rfl⟩) (rcM_0 hR Nat.zero_lt_one) hR hT hS rfl hl.1 rfl (Nat.le_of_ble_eq_true rfl) dX12_isFull_6 ⟨Nat.zero_le _, Nat.zero_le _⟩ (fun r1 S2 H locs h hR hS => ?_)
  refine lv_iconst (v := 0) hx hb dX12_isFull_9 (by decide) ?_
  refine lv_iadd hx hb dX12_isFull_10 ?_
  obtain ⟨j3, hj3, ej3, h⟩ := h
  refine lM_1 C0 hR Nat.zero_lt_one hj3 ej3 dX12_isFull_11 ?_
  refine lv_topi (fun x4 ex4 => ?_)
  have h := h x4 ex4
  refine lv_istore_n (lv' := [(3, .int x4), (0, .ref (b + adM 0 0)), (1, .int a1), (2, .int a2)]) hx hb dX12_isFull_12 rfl hl (by decide) rfl (fun ls hl => ?_)
  refine lv_iconst (v := 0) hx hb dX12_isFull_13 (by decide) ?_
  refine lv_istore (lv' := [(4, .int 0), (3, .int x4), (0, .ref (b + adM 0 0)), (1, .int a1), (2, .int a2)]) hx hb dX12_isFull_14 hl (by decide) rfl (fun ls hl => ?_)
  refine lv_iconst (v := 0) hx hb dX12_isFull_16 (by decide) ?_
  refine lv_istore (lv' := [(5, .int 0), (4, .int 0), (3, .int x4), (0, .ref (b + adM 0 0)), (1, .int a1), (2, .int a2)]) hx hb dX12_isFull_17 hl (by decide) rfl (fun ls hl => ?_)
  exact Bw_X12_isFull_19 C0 hr hlk hT fuel a2 x4 0 0 S2 _ _ _ h hR hS (lv_sub hl [3, 5, 2, 1, 0] rfl)

def rm_X12_mayBeClaimed : Room := { frames := 6, cells := 0, slots := 0, locals := 131 }
def F_X12_mayBeClaimed (a1 : Int32) (a2 : Int32) (S : sSt) (k : Int32 → sSt → Prop) : Prop := F_X12_seen a1 a2 S (fun r1 S2 => F_X12_isState r1 0 S2 (fun r3 S4 => ((r3 = 0 → k 0 S4) ∧ (¬ r3 = 0 → F_X12_isOthers a1 a2 S4 (fun r6 S7 => ((¬ r6 = 0 → k 0 S7) ∧ (r6 = 0 → ix (r1 + 5) 10421 (fun j9 => (((S7.1 1 0 3) < (S7.1 1 0 j9) → k 0 S7) ∧ (¬ (S7.1 1 0 3) < (S7.1 1 0 j9) → F_X12_hasLesser a1 a2 S7 (fun r11 S12 => ((¬ r11 = 0 → k 0 S12) ∧ (r11 = 0 → F_X12_isFull a1 a2 S12 (fun r14 S15 => ((¬ r14 = 0 → k 0 S15) ∧ (r14 = 0 → k 1 S15))))))))))))))))
set_option maxHeartbeats 4000000 in
set_option maxRecDepth 100000 in
theorem c_X12_mayBeClaimed (l : Launch) {D : va_G} {cy : Nat → ClassId} {b z : Nat} {tx : TX} {a1 : Int32} {a2 : Int32} {S : sSt} {k : Int32 → sSt → Prop} (h : F_X12_mayBeClaimed a1 a2 S k) : Met l yX12_mayBeClaimed (Cond.code yX12_mayBeClaimed cX12_mayBeClaimed 4 (some .boolean) :: TB) rm_X12_mayBeClaimed (va_Pc [.ref (b + adM 0 0), .int a1, .int a2] (fun U => RelM D cy b z tx S U U.heap ∧ TxR tx U)) (PiM D cy b z tx k) 0 0 (gA b 12 z) := by
  refine Met.ofW (cc := cX12_mayBeClaimed) (maxL := 4) (ret := (some .boolean)) (by decide) rfl ?_
  intro p e s m args below meth c s₁ B hml hv
  obtain ⟨rfl, hR, hT⟩ := hv
  have C0 : CallFix p m c cX12_mayBeClaimed 4 s _ TB RX12 := ⟨B.exec, B.bytes, hml, findClass_of_methodNamed B.named, fun w hw => atoms_spec B.pre w (List.mem_cons_of_mem _ hw)⟩
  have hr := B.returns
  have hlk := B.notSynchronized
  have hx := C0.1
  have hb := C0.2.1
  have hS : va_S (gA b 12 z) s.heap s.heap [] := va_S.rf
  have hl := lv_entry ([.ref (b + adM 0 0), .int a1, .int a2]) (n := 4) (Nat.le_of_ble_eq_true rfl)
  rw [lg_entry_eq]
  generalize (lg_sl ([.ref (b + adM 0 0), .int a1, .int a2]) ++ List.replicate (4 - (lg_sl ([.ref (b + adM 0 0), .int a1, .int a2])).length) Slot.unset).toArray = ls at hl ⊢
  have hl : lv_has ls 4 [(0, .ref (b + adM 0 0)), (1, .int a1), (2, .int a2)] := hl
  show W p l e rm_X12_mayBeClaimed s m _ below meth c s.heap [] 0 0 (MQ below (PiM D cy b z tx k) _ s 0 0 (gA b 12 z)) _
  unfold F_X12_mayBeClaimed at h
  refine lv_aload_n hx hb dX12_mayBeClaimed_0 rfl (lv_at hl 0 rfl) ?_
  refine lv_iload_n hx hb dX12_mayBeClaimed_1 rfl (lv_at hl 1 rfl) ?_
  refine lv_iload_n hx hb dX12_mayBeClaimed_2 rfl (lv_at hl 2 rfl) ?_
  refine qM_Vi (As := [.int a1, .int a2]) (rest := []) C0 (c_X12_seen l h) (cwV 2 C0.2.2.2.2 (tbV mM5_8_167 ⟨mM5_8_169, mpM5_5_5, mM5_1_11, mM5_8_170⟩) rfl rfl rfl (by decide +kernel) ⟨Nat.le_of_ble_eq_true rfl, Nat.le_of_ble_eq_true rfl⟩) (rcM_0 hR Nat.zero_lt_one) hR hT hS rfl hl.1 rfl (Nat.le_of_ble_eq_true rfl) dX12_mayBeClaimed_3 ⟨Nat.zero_le _, Nat.zero_le _⟩ (fun r1 S2 H locs h hR hS => ?_)
  refine lv_istore_n (lv' := [(3, .int r1), (0, .ref (b + adM 0 0)), (1, .int a1), (2, .int a2)]) hx hb dX12_mayBeClaimed_6 rfl hl (by decide) rfl (fun ls hl => ?_)
  refine lv_aload_n hx hb dX12_mayBeClaimed_7 rfl (lv_at hl 1 rfl) ?_
  refine lv_iload_n hx hb dX12_mayBeClaimed_8 rfl (lv_at hl 0 rfl) ?_
  refine lv_iconst (v := 0) hx hb dX12_mayBeClaimed_9 (by decide) ?_
  refine qM_Vi (As := [.int r1, .int 0]) (rest := []) C0 (c_X12_isState l h) (cwV 2 C0.2.2.2.2 (tbV mM5_8_171 ⟨mM5_8_173, mpM5_5_6, mM5_1_11, mM5_8_174⟩) rfl rfl rfl (by decide +kernel) ⟨Nat.le_of_ble_eq_true rfl, Nat.le_of_ble_eq_true rfl⟩) (rcM_0 hR Nat.zero_lt_one) hR hT hS rfl hl.1 rfl (Nat.le_of_ble_eq_true rfl) dX12_mayBeClaimed_10 ⟨Nat.zero_le _, Nat.zero_le _⟩ (fun r3 S4 H locs h hR hS => ?_)
  refine lv_if_eq (tgt := 64) hx hb dX12_mayBeClaimed_13 (by decide) (fun c5 => ?_) (fun c5 => ?_)
  · have h := h.1 c5
    refine lv_iconst (v := 0) hx hb dX12_mayBeClaimed_64 (by decide) ?_
    exact rtM_z C0 hr hlk hR hS (by decide) h dX12_mayBeClaimed_65
  · have h := h.2 c5
    refine lv_aload_n hx hb dX12_mayBeClaimed_16 rfl (lv_at hl 1 rfl) ?_
    refine lv_iload_n hx hb dX12_mayBeClaimed_17 rfl (lv_at hl 2 rfl) ?_
    refine lv_iload_n hx hb dX12_mayBeClaimed_18 rfl (lv_at hl 3 rfl) ?_
    refine qM_Vi (As := [.int a1, .int a2]) (rest := []) C0 (c_X12_isOthers l h) (cwV 2 C0.2.2.2.2 (tbV mM5_8_175 ⟨mM5_8_177, mpM5_5_7, mM5_1_11, mM5_8_178⟩) rfl rfl rfl (by decide +kernel) ⟨Nat.le_of_ble_eq_true rfl, Nat.le_of_ble_eq_true rfl⟩) (rcM_0 hR Nat.zero_lt_one) hR hT hS rfl hl.1 rfl (Nat.le_of_ble_eq_true rfl) dX12_mayBeClaimed_19 ⟨Nat.zero_le _, Nat.zero_le _⟩ (fun r6 S7 H locs h hR hS => ?_)
    refine lv_if_ne (tgt := 64) hx hb dX12_mayBeClaimed_22 (by decide) (fun c8 => ?_) (fun c8 => ?_)
    · have h := h.1 c8
      refine lv_iconst (v := 0) hx hb dX12_mayBeClaimed_64 (by decide) ?_
      exact rtM_z C0 hr hlk hR hS (by decide) h dX12_mayBeClaimed_65
    · have h := h.2 c8
      refine lv_aload_n hx hb dX12_mayBeClaimed_25 rfl (lv_at hl 1 rfl) ?_
      refine gM_0_2 C0 hR Nat.zero_lt_one tbs_wsX120 mM5_7_79 dX12_mayBeClaimed_26 ?_
      refine lv_iload_n hx hb dX12_mayBeClaimed_29 rfl (lv_at hl 0 rfl) ?_
      refine lv_iconst (v := 5) hx hb dX12_mayBeClaimed_30 (by decide) ?_
      refine lv_iadd hx hb dX12_mayBeClaimed_31 ?_
      obtain ⟨j9, hj9, ej9, h⟩ := h
      refine lM_1 C0 hR Nat.zero_lt_one hj9 ej9 dX12_mayBeClaimed_32 ?_
      refine lv_aload_n hx hb dX12_mayBeClaimed_33 rfl (lv_at hl 1 rfl) ?_
      refine gM_0_2 C0 hR Nat.zero_lt_one tbs_wsX120 mM5_7_79 dX12_mayBeClaimed_34 ?_
      refine lv_iconst (v := 3) hx hb dX12_mayBeClaimed_37 (by decide) ?_
      refine lM_1 C0 hR Nat.zero_lt_one (by decide) rfl dX12_mayBeClaimed_38 ?_
      refine lv_icmp_gt (tgt := 64) hx hb dX12_mayBeClaimed_39 (by decide) (fun c10 => ?_) (fun c10 => ?_)
      · have h := h.1 c10
        refine lv_iconst (v := 0) hx hb dX12_mayBeClaimed_64 (by decide) ?_
        exact rtM_z C0 hr hlk hR hS (by decide) h dX12_mayBeClaimed_65
      · have h := h.2 c10
        refine lv_aload_n hx hb dX12_mayBeClaimed_42 rfl (lv_at hl 1 rfl) ?_
        refine lv_iload_n hx hb dX12_mayBeClaimed_43 rfl (lv_at hl 2 rfl) ?_
        refine lv_iload_n hx hb dX12_mayBeClaimed_44 rfl (lv_at hl 3 rfl) ?_
        refine qM_Vi (As := [.int a1, .int a2]) (rest := []) C0 (c_X12_hasLesser l h) (cwV 2 C0.2.2.2.2 (tbV mM5_8_179 ⟨mM5_8_181, mpM5_5_8, mM5_1_11, mM5_8_182⟩) rfl rfl rfl (by decide +kernel) ⟨Nat.le_of_ble_eq_true rfl, Nat.le_of_ble_eq_true rfl⟩) (rcM_0 hR Nat.zero_lt_one) hR hT hS rfl hl.1 rfl (Nat.le_of_ble_eq_true rfl) dX12_mayBeClaimed_45 ⟨Nat.zero_le _, Nat.zero_le _⟩ (fun r11 S12 H locs h hR hS => ?_)
        refine lv_if_ne (tgt := 64) hx hb dX12_mayBeClaimed_48 (by decide) (fun c13 => ?_) (fun c13 => ?_)
        · have h := h.1 c13
          refine lv_iconst (v := 0) hx hb dX12_mayBeClaimed_64 (by decide) ?_
          exact rtM_z C0 hr hlk hR hS (by decide) h dX12_mayBeClaimed_65
        · have h := h.2 c13
          refine lv_aload_n hx hb dX12_mayBeClaimed_51 rfl (lv_at hl 1 rfl) ?_
          refine lv_iload_n hx hb dX12_mayBeClaimed_52 rfl (lv_at hl 2 rfl) ?_
          refine lv_iload_n hx hb dX12_mayBeClaimed_53 rfl (lv_at hl 3 rfl) ?_
          refine qM_Vi (As := [.int a1, .int a2]) (rest := []) C0 (c_X12_isFull l h) (cwV 2 C0.2.2.2.2 (tbV mM5_8_191 ⟨mM5_8_193, mpM5_5_11, mM5_1_11, mM5_8_194⟩) rfl rfl rfl (by decide +kernel) ⟨Nat.le_of_ble_eq_true rfl, Nat.le_of_ble_eq_true rfl⟩) (rcM_0 hR Nat.zero_lt_one) hR hT hS rfl hl.1 rfl (Nat.le_of_ble_eq_true rfl) dX12_mayBeClaimed_54 ⟨Nat.zero_le _, Nat.zero_le _⟩ (fun r14 S15 H locs h hR hS => ?_)
          refine lv_if_ne (tgt := 64) hx hb dX12_mayBeClaimed_57 (by decide) (fun c16 => ?_) (fun c16 => ?_)
          · have h := h.1 c16
            refine lv_iconst (v := 0) hx hb dX12_mayBeClaimed_64 (by decide) ?_
            exact rtM_z C0 hr hlk hR hS (by decide) h dX12_mayBeClaimed_65
          · have h := h.2 c16
            refine lv_iconst (v := 1) hx hb dX12_mayBeClaimed_60 (by decide) ?_
            refine lv_goto (tgt := 65) hx hb dX12_mayBeClaimed_61 (by decide) ?_
            exact rtM_z C0 hr hlk hR hS (by decide) h dX12_mayBeClaimed_65

def rm_X12_columnOf : Room := { frames := 4, cells := 0, slots := 0, locals := 85 }
def F_X12_columnOf (a1 : Int32) (a2 : Int32) (a3 : Int32) (S : sSt) (k : Int32 → sSt → Prop) : Prop := F_X12_seen a1 a2 S (fun r1 S2 => ((a3 = 0 → F_X12_numberOf a1 S2 (fun r4 S5 => k r4 S5)) ∧ (¬ a3 = 0 → ((a3 = 1 → ix (r1 + 0) 10421 (fun j7 => k (S2.1 1 0 j7) S2)) ∧ (¬ a3 = 1 → ((a3 = 2 → ix (r1 + 1) 10421 (fun j9 => k (S2.1 1 0 j9) S2)) ∧ (¬ a3 = 2 → ((a3 = 3 → ix (r1 + 2) 10421 (fun j11 => k (S2.1 1 0 j11) S2)) ∧ (¬ a3 = 3 → ((a3 = 4 → ix (r1 + 6) 10421 (fun j13 => k (S2.1 1 0 j13) S2)) ∧ (¬ a3 = 4 → ((a3 = 5 → ix (r1 + 4) 10421 (fun j15 => k ((S2.1 1 0 3) - (S2.1 1 0 j15)) S2)) ∧ (¬ a3 = 5 → ((a3 = 6 → ix (r1 + 5) 10421 (fun j17 => k ((S2.1 1 0 3) - (S2.1 1 0 j17)) S2)) ∧ (¬ a3 = 6 → ix (r1 + 0) 10421 (fun j18 => F_X12_sessionAt a2 1 S2 (fun r19 S20 => ix r19 10421 (fun j21 => k (((((S2.1 1 0 j18) + 6) - 1) - (S20.1 1 0 j21)) - ((((S2.1 1 0 j18) + 6) - 1) - (S20.1 1 0 j21)) / 6 * 6) S20))))))))))))))))))
set_option maxHeartbeats 4000000 in
set_option maxRecDepth 100000 in
theorem c_X12_columnOf (l : Launch) {D : va_G} {cy : Nat → ClassId} {b z : Nat} {tx : TX} {a1 : Int32} {a2 : Int32} {a3 : Int32} {S : sSt} {k : Int32 → sSt → Prop} (h : F_X12_columnOf a1 a2 a3 S k) : Met l yX12_columnOf (Cond.code yX12_columnOf cX12_columnOf 5 (some .int) :: TB) rm_X12_columnOf (va_Pc [.ref (b + adM 0 0), .int a1, .int a2, .int a3] (fun U => RelM D cy b z tx S U U.heap ∧ TxR tx U)) (PiM D cy b z tx k) 0 0 (gA b 12 z) := by
  refine Met.ofW (cc := cX12_columnOf) (maxL := 5) (ret := (some .int)) (by decide) rfl ?_
  intro p e s m args below meth c s₁ B hml hv
  obtain ⟨rfl, hR, hT⟩ := hv
  have C0 : CallFix p m c cX12_columnOf 5 s _ TB RX12 := ⟨B.exec, B.bytes, hml, findClass_of_methodNamed B.named, fun w hw => atoms_spec B.pre w (List.mem_cons_of_mem _ hw)⟩
  have hr := B.returns
  have hlk := B.notSynchronized
  have hx := C0.1
  have hb := C0.2.1
  have hS : va_S (gA b 12 z) s.heap s.heap [] := va_S.rf
  have hl := lv_entry ([.ref (b + adM 0 0), .int a1, .int a2, .int a3]) (n := 5) (Nat.le_of_ble_eq_true rfl)
  rw [lg_entry_eq]
  generalize (lg_sl ([.ref (b + adM 0 0), .int a1, .int a2, .int a3]) ++ List.replicate (5 - (lg_sl ([.ref (b + adM 0 0), .int a1, .int a2, .int a3])).length) Slot.unset).toArray = ls at hl ⊢
  have hl : lv_has ls 5 [(0, .ref (b + adM 0 0)), (1, .int a1), (2, .int a2), (3, .int a3)] := hl
  show W p l e rm_X12_columnOf s m _ below meth c s.heap [] 0 0 (MQ below (PiM D cy b z tx k) _ s 0 0 (gA b 12 z)) _
  unfold F_X12_columnOf at h
  refine lv_aload_n hx hb dX12_columnOf_0 rfl (lv_at hl 0 rfl) ?_
  refine lv_iload_n hx hb dX12_columnOf_1 rfl (lv_at hl 1 rfl) ?_
  refine lv_iload_n hx hb dX12_columnOf_2 rfl (lv_at hl 2 rfl) ?_
  refine qM_Vi (As := [.int a1, .int a2]) (rest := []) C0 (c_X12_seen l h) (cwV 2 C0.2.2.2.2 (tbV mM5_8_167 ⟨mM5_8_169, mpM5_5_5, mM5_1_11, mM5_8_170⟩) rfl rfl rfl (by decide +kernel) ⟨Nat.le_of_ble_eq_true rfl, Nat.le_of_ble_eq_true rfl⟩) (rcM_0 hR Nat.zero_lt_one) hR hT hS rfl hl.1 rfl (Nat.le_of_ble_eq_true rfl) dX12_columnOf_3 ⟨Nat.zero_le _, Nat.zero_le _⟩ (fun r1 S2 H locs h hR hS => ?_)
  refine lv_istore (lv' := [(4, .int r1), (0, .ref (b + adM 0 0)), (1, .int a1), (2, .int a2), (3, .int a3)]) hx hb dX12_columnOf_6 hl (by decide) rfl (fun ls hl => ?_)
  refine lv_iload_n hx hb dX12_columnOf_8 rfl (lv_at hl 4 rfl) ?_
  by_cases c3 : a3 = 0
  · have h := h.1 c3
    refine lv_tableIn (tgt := 52) hx hb dX12_columnOf_9 (by rw [c3]; decide) (by rw [c3]; decide) (by rw [c3]; rfl) (by decide) ?_
    refine lv_aload_n hx hb dX12_columnOf_52 rfl (lv_at hl 1 rfl) ?_
    refine lv_iload_n hx hb dX12_columnOf_53 rfl (lv_at hl 2 rfl) ?_
    refine qM_Vi (As := [.int a1]) (rest := []) C0 (c_X12_numberOf l h) (cwV 1 C0.2.2.2.2 (tbV mM5_7_202 ⟨mM5_7_204, mpM5_3_3, mM5_1_11, mM5_7_205⟩) rfl rfl rfl (by decide +kernel) ⟨Nat.le_of_ble_eq_true rfl, Nat.le_of_ble_eq_true rfl⟩) (rcM_0 hR Nat.zero_lt_one) hR hT hS rfl hl.1 rfl (Nat.le_of_ble_eq_true rfl) dX12_columnOf_54 ⟨Nat.zero_le _, Nat.zero_le _⟩ (fun r4 S5 H locs h hR hS => ?_)
    exact rtM_i C0 hr hlk hR hS h dX12_columnOf_57
  have h := h.2 c3
  by_cases c6 : a3 = 1
  · have h := h.1 c6
    refine lv_tableIn (tgt := 58) hx hb dX12_columnOf_9 (by rw [c6]; decide) (by rw [c6]; decide) (by rw [c6]; rfl) (by decide) ?_
    refine lv_aload_n hx hb dX12_columnOf_58 rfl (lv_at hl 1 rfl) ?_
    refine gM_0_2 C0 hR Nat.zero_lt_one tbs_wsX120 mM5_7_79 dX12_columnOf_59 ?_
    refine lv_iload hx hb dX12_columnOf_62 (lv_at hl 0 rfl) ?_
    refine lv_iconst (v := 0) hx hb dX12_columnOf_64 (by decide) ?_
    refine lv_iadd hx hb dX12_columnOf_65 ?_
    obtain ⟨j7, hj7, ej7, h⟩ := h
    refine lM_1 C0 hR Nat.zero_lt_one hj7 ej7 dX12_columnOf_66 ?_
    exact rtM_i C0 hr hlk hR hS h dX12_columnOf_67
  have h := h.2 c6
  by_cases c8 : a3 = 2
  · have h := h.1 c8
    refine lv_tableIn (tgt := 68) hx hb dX12_columnOf_9 (by rw [c8]; decide) (by rw [c8]; decide) (by rw [c8]; rfl) (by decide) ?_
    refine lv_aload_n hx hb dX12_columnOf_68 rfl (lv_at hl 1 rfl) ?_
    refine gM_0_2 C0 hR Nat.zero_lt_one tbs_wsX120 mM5_7_79 dX12_columnOf_69 ?_
    refine lv_iload hx hb dX12_columnOf_72 (lv_at hl 0 rfl) ?_
    refine lv_iconst (v := 1) hx hb dX12_columnOf_74 (by decide) ?_
    refine lv_iadd hx hb dX12_columnOf_75 ?_
    obtain ⟨j9, hj9, ej9, h⟩ := h
    refine lM_1 C0 hR Nat.zero_lt_one hj9 ej9 dX12_columnOf_76 ?_
    exact rtM_i C0 hr hlk hR hS h dX12_columnOf_77
  have h := h.2 c8
  by_cases c10 : a3 = 3
  · have h := h.1 c10
    refine lv_tableIn (tgt := 78) hx hb dX12_columnOf_9 (by rw [c10]; decide) (by rw [c10]; decide) (by rw [c10]; rfl) (by decide) ?_
    refine lv_aload_n hx hb dX12_columnOf_78 rfl (lv_at hl 1 rfl) ?_
    refine gM_0_2 C0 hR Nat.zero_lt_one tbs_wsX120 mM5_7_79 dX12_columnOf_79 ?_
    refine lv_iload hx hb dX12_columnOf_82 (lv_at hl 0 rfl) ?_
    refine lv_iconst (v := 2) hx hb dX12_columnOf_84 (by decide) ?_
    refine lv_iadd hx hb dX12_columnOf_85 ?_
    obtain ⟨j11, hj11, ej11, h⟩ := h
    refine lM_1 C0 hR Nat.zero_lt_one hj11 ej11 dX12_columnOf_86 ?_
    exact rtM_i C0 hr hlk hR hS h dX12_columnOf_87
  have h := h.2 c10
  by_cases c12 : a3 = 4
  · have h := h.1 c12
    refine lv_tableIn (tgt := 88) hx hb dX12_columnOf_9 (by rw [c12]; decide) (by rw [c12]; decide) (by rw [c12]; rfl) (by decide) ?_
    refine lv_aload_n hx hb dX12_columnOf_88 rfl (lv_at hl 1 rfl) ?_
    refine gM_0_2 C0 hR Nat.zero_lt_one tbs_wsX120 mM5_7_79 dX12_columnOf_89 ?_
    refine lv_iload hx hb dX12_columnOf_92 (lv_at hl 0 rfl) ?_
    refine lv_bipush (v := 6) hx hb dX12_columnOf_94 (by decide) ?_
    refine lv_iadd hx hb dX12_columnOf_96 ?_
    obtain ⟨j13, hj13, ej13, h⟩ := h
    refine lM_1 C0 hR Nat.zero_lt_one hj13 ej13 dX12_columnOf_97 ?_
    exact rtM_i C0 hr hlk hR hS h dX12_columnOf_98
  have h := h.2 c12
  by_cases c14 : a3 = 5
  · have h := h.1 c14
    refine lv_tableIn (tgt := 99) hx hb dX12_columnOf_9 (by rw [c14]; decide) (by rw [c14]; decide) (by rw [c14]; rfl) (by decide) ?_
    refine lv_aload_n hx hb dX12_columnOf_99 rfl (lv_at hl 1 rfl) ?_
    refine gM_0_2 C0 hR Nat.zero_lt_one tbs_wsX120 mM5_7_79 dX12_columnOf_100 ?_
    refine lv_iconst (v := 3) hx hb dX12_columnOf_103 (by decide) ?_
    refine lM_1 C0 hR Nat.zero_lt_one (by decide) rfl dX12_columnOf_104 ?_
    refine lv_aload_n hx hb dX12_columnOf_105 rfl (lv_at hl 1 rfl) ?_
    refine gM_0_2 C0 hR Nat.zero_lt_one tbs_wsX120 mM5_7_79 dX12_columnOf_106 ?_
    refine lv_iload hx hb dX12_columnOf_109 (lv_at hl 0 rfl) ?_
    refine lv_iconst (v := 4) hx hb dX12_columnOf_111 (by decide) ?_
    refine lv_iadd hx hb dX12_columnOf_112 ?_
    obtain ⟨j15, hj15, ej15, h⟩ := h
    refine lM_1 C0 hR Nat.zero_lt_one hj15 ej15 dX12_columnOf_113 ?_
    refine lv_isub hx hb dX12_columnOf_114 ?_
    exact rtM_i C0 hr hlk hR hS h dX12_columnOf_115
  have h := h.2 c14
  by_cases c16 : a3 = 6
  · have h := h.1 c16
    refine lv_tableIn (tgt := 116) hx hb dX12_columnOf_9 (by rw [c16]; decide) (by rw [c16]; decide) (by rw [c16]; rfl) (by decide) ?_
    refine lv_aload_n hx hb dX12_columnOf_116 rfl (lv_at hl 1 rfl) ?_
    refine gM_0_2 C0 hR Nat.zero_lt_one tbs_wsX120 mM5_7_79 dX12_columnOf_117 ?_
    refine lv_iconst (v := 3) hx hb dX12_columnOf_120 (by decide) ?_
    refine lM_1 C0 hR Nat.zero_lt_one (by decide) rfl dX12_columnOf_121 ?_
    refine lv_aload_n hx hb dX12_columnOf_122 rfl (lv_at hl 1 rfl) ?_
    refine gM_0_2 C0 hR Nat.zero_lt_one tbs_wsX120 mM5_7_79 dX12_columnOf_123 ?_
    refine lv_iload hx hb dX12_columnOf_126 (lv_at hl 0 rfl) ?_
    refine lv_iconst (v := 5) hx hb dX12_columnOf_128 (by decide) ?_
    refine lv_iadd hx hb dX12_columnOf_129 ?_
    obtain ⟨j17, hj17, ej17, h⟩ := h
    refine lM_1 C0 hR Nat.zero_lt_one hj17 ej17 dX12_columnOf_130 ?_
    refine lv_isub hx hb dX12_columnOf_131 ?_
    exact rtM_i C0 hr hlk hR hS h dX12_columnOf_132
  have h := h.2 c16
  refine lv_tableOut (tgt := 133) hx hb dX12_columnOf_9 (by have a9 := fun j : Int32 => (Int32.toInt_inj (x := a3) (y := j)).mp; have b9 : ∀ j : Int32, a3 ≠ j → (a3 : Int32).toInt ≠ j.toInt := fun j n9 q9 => n9 (a9 j q9); have c3_ := b9 _ c3; have c6_ := b9 _ c6; have c8_ := b9 _ c8; have c10_ := b9 _ c10; have c12_ := b9 _ c12; have c14_ := b9 _ c14; have c16_ := b9 _ c16; simp at c3_ c6_ c8_ c10_ c12_ c14_ c16_; omega) (by decide) ?_
  refine lv_aload_n hx hb dX12_columnOf_133 rfl (lv_at hl 1 rfl) ?_
  refine gM_0_2 C0 hR Nat.zero_lt_one tbs_wsX120 mM5_7_79 dX12_columnOf_134 ?_
  refine lv_iload hx hb dX12_columnOf_137 (lv_at hl 0 rfl) ?_
  refine lv_iconst (v := 0) hx hb dX12_columnOf_139 (by decide) ?_
  refine lv_iadd hx hb dX12_columnOf_140 ?_
  obtain ⟨j18, hj18, ej18, h⟩ := h
  refine lM_1 C0 hR Nat.zero_lt_one hj18 ej18 dX12_columnOf_141 ?_
  refine lv_bipush (v := 6) hx hb dX12_columnOf_142 (by decide) ?_
  refine lv_iadd hx hb dX12_columnOf_144 ?_
  refine lv_iconst (v := 1) hx hb dX12_columnOf_145 (by decide) ?_
  refine lv_isub hx hb dX12_columnOf_146 ?_
  refine lv_aload_n hx hb dX12_columnOf_147 rfl (lv_at hl 1 rfl) ?_
  refine gM_0_2 C0 hR Nat.zero_lt_one tbs_wsX120 mM5_7_79 dX12_columnOf_148 ?_
  refine lv_iload_n hx hb dX12_columnOf_151 rfl (lv_at hl 3 rfl) ?_
  refine lv_iconst (v := 1) hx hb dX12_columnOf_152 (by decide) ?_
  refine qM_Si (As := [.int a2, .int 1]) (rest := [.ref (b + adM 1 0), .int (((S2.1 1 0 j18) + 6) - 1)]) C0 (c_X12_sessionAt l h) (va_cwS 2 C0.2.2.2.2 (tbS mM5_7_233 ⟨mM5_7_234, mM5_1_11, mM5_7_235⟩) rfl rfl rfl (by decide +kernel) ⟨Nat.le_of_ble_eq_true rfl, Nat.le_of_ble_eq_true rfl⟩) hR hT hS rfl hl.1 rfl (Nat.le_of_ble_eq_true rfl) dX12_columnOf_153 ⟨Nat.zero_le _, Nat.zero_le _⟩ (fun r19 S20 H locs h hR hS => ?_)
  obtain ⟨j21, hj21, ej21, h⟩ := h
  refine lM_1 C0 hR Nat.zero_lt_one hj21 ej21 dX12_columnOf_156 ?_
  refine lv_isub hx hb dX12_columnOf_157 ?_
  refine lv_bipush (v := 6) hx hb dX12_columnOf_158 (by decide) ?_
  refine lv_irem hx hb dX12_columnOf_160 (by decide) ?_
  exact rtM_i C0 hr hlk hR hS h dX12_columnOf_161

def rm_X12_isAsAsked : Room := { frames := 5, cells := 0, slots := 0, locals := 109 }
def B_X12_isAsAsked_148 (kk5 : Int32 → Int32 → Int32 → Int32 → sSt → Prop) (a1 : Int32) (a2 : Int32) (a4 : Int32) (t0 : Int32) (S : sSt) (k : Int32 → sSt → Prop) : Prop := ∀ x19 : Int32, x19 = a4 + 1 → kk5 a1 a2 t0 x19 S
set_option maxHeartbeats 4000000 in
set_option maxRecDepth 100000 in
theorem Bw_X12_isAsAsked_148 {p : Program} {l : Launch} {e : Env} {s : State} {m : MethodId} {args : Array Value} {below : List Frame} {meth : Method} {c : Code} {D : va_G} {cy : Nat → ClassId} {b z : Nat} {tx : TX} (C0 : CallFix p m c cX12_isAsAsked 9 s args TB RX12) (hr : meth.sig.returnType = (some .boolean)) (hlk : meth.locks = false) (hT : TxR tx s) {k : Int32 → sSt → Prop} {kk5 : Int32 → Int32 → Int32 → Int32 → sSt → Prop} (ih5 : ∀ (a1 : Int32) (a2 : Int32) (a3 : Int32) (a4 : Int32) (S : sSt) (H : Heap) (locs : List Loc) (ls : Array Slot) , kk5 a1 a2 a3 a4 S → RelM D cy b z tx S s H → va_S (gA b 12 z) s.heap H locs → lv_has ls 9 [(0, .ref (b + adM 0 0)), (1, .int a1), (2, .int a2), (3, .int a3), (4, .int a4)] → W p l e rm_X12_isAsAsked s m args below meth c H locs 0 0 (MQ below (PiM D cy b z tx k) args s 0 0 (gA b 12 z)) (F0 m 5 ls [])) : ∀ (a1 : Int32) (a2 : Int32) (a4 : Int32) (t0 : Int32) (S : sSt) (H : Heap) (locs : List Loc) (ls : Array Slot) , B_X12_isAsAsked_148 kk5 a1 a2 a4 t0 S k → RelM D cy b z tx S s H → va_S (gA b 12 z) s.heap H locs → lv_has ls 9 [(0, .ref (b + adM 0 0)), (1, .int a1), (2, .int a2), (4, .int a4)] → W p l e rm_X12_isAsAsked s m args below meth c H locs 0 0 (MQ below (PiM D cy b z tx k) args s 0 0 (gA b 12 z)) (F0 m 148 ls [.int t0]) := by
  intro a1 a2 a4 t0 S H locs ls h hR hS hl
  have hx := C0.1
  have hb := C0.2.1
  unfold B_X12_isAsAsked_148 at h
  refine lv_istore_n (lv' := [(3, .int t0), (0, .ref (b + adM 0 0)), (1, .int a1), (2, .int a2), (4, .int a4)]) hx hb dX12_isAsAsked_148 rfl hl (by decide) rfl (fun ls hl => ?_)
  obtain ⟨x19, ex19⟩ : ∃ x19 : Int32, x19 = a4 + 1 := ⟨_, rfl⟩
  have h := h x19 ex19
  refine w_iinc (v0 := 1) (lv' := [(4, .int x19), (3, .int t0), (0, .ref (b + adM 0 0)), (1, .int a1), (2, .int a2)]) C0 dX12_isAsAsked_149 hl (k := 4) rfl (by decide) (by decide) x19 ex19 rfl (fun ls hl => ?_)
  refine lv_goto (tgt := 5) hx hb dX12_isAsAsked_152 (by decide) ?_
  exact ih5 a1 a2 t0 x19 S _ _ _  h hR hS (lv_sub hl [2, 3, 4, 1, 0] rfl)
def Bb_X12_isAsAsked_5 (kk5 : Int32 → Int32 → Int32 → Int32 → sSt → Prop) (a1 : Int32) (a2 : Int32) (a3 : Int32) (a4 : Int32) (S : sSt) (k : Int32 → sSt → Prop) : Prop := F_X12_sessionAt a2 5 S (fun r1 S2 => ix r1 10421 (fun j3 => (((S2.1 1 0 j3) ≤ a4 → bz a3 (k a3 S2)) ∧ (¬ (S2.1 1 0 j3) ≤ a4 → ((a3 = 0 → bz a3 (k a3 S2)) ∧ (¬ a3 = 0 → F_X12_sessionAt a2 (6 + (3 * a4)) S2 (fun r6 S7 => ix r6 10421 (fun j8 => F_X12_columnOf a1 a2 (S7.1 1 0 j8) S7 (fun r9 S10 => ix (r6 + 2) 10421 (fun j11 => ∀ x12 : Int32, x12 = (S10.1 1 0 j11) → ix (r6 + 1) 10421 (fun j13 => ∀ x14 : Int32, x14 = (S10.1 1 0 j13) → ((¬ x14 = 0 → ((¬ x14 = 1 → ((¬ x14 = 2 → ((r9 ≤ x12 → B_X12_isAsAsked_148 kk5 a1 a2 a4 0 S10 k) ∧ (¬ r9 ≤ x12 → B_X12_isAsAsked_148 kk5 a1 a2 a4 1 S10 k))) ∧ (x14 = 2 → ((x12 ≤ r9 → B_X12_isAsAsked_148 kk5 a1 a2 a4 0 S10 k) ∧ (¬ x12 ≤ r9 → B_X12_isAsAsked_148 kk5 a1 a2 a4 1 S10 k))))) ∧ (x14 = 1 → ((r9 = x12 → B_X12_isAsAsked_148 kk5 a1 a2 a4 0 S10 k) ∧ (¬ r9 = x12 → B_X12_isAsAsked_148 kk5 a1 a2 a4 1 S10 k))))) ∧ (x14 = 0 → ((¬ r9 = x12 → B_X12_isAsAsked_148 kk5 a1 a2 a4 0 S10 k) ∧ (r9 = x12 → B_X12_isAsAsked_148 kk5 a1 a2 a4 1 S10 k)))))))))))))))
set_option maxHeartbeats 4000000 in
set_option maxRecDepth 100000 in
theorem Bbw_X12_isAsAsked_5 {p : Program} {l : Launch} {e : Env} {s : State} {m : MethodId} {args : Array Value} {below : List Frame} {meth : Method} {c : Code} {D : va_G} {cy : Nat → ClassId} {b z : Nat} {tx : TX} (C0 : CallFix p m c cX12_isAsAsked 9 s args TB RX12) (hr : meth.sig.returnType = (some .boolean)) (hlk : meth.locks = false) (hT : TxR tx s) {k : Int32 → sSt → Prop} {kk5 : Int32 → Int32 → Int32 → Int32 → sSt → Prop} (ih5 : ∀ (a1 : Int32) (a2 : Int32) (a3 : Int32) (a4 : Int32) (S : sSt) (H : Heap) (locs : List Loc) (ls : Array Slot) , kk5 a1 a2 a3 a4 S → RelM D cy b z tx S s H → va_S (gA b 12 z) s.heap H locs → lv_has ls 9 [(0, .ref (b + adM 0 0)), (1, .int a1), (2, .int a2), (3, .int a3), (4, .int a4)] → W p l e rm_X12_isAsAsked s m args below meth c H locs 0 0 (MQ below (PiM D cy b z tx k) args s 0 0 (gA b 12 z)) (F0 m 5 ls [])) : ∀ (a1 : Int32) (a2 : Int32) (a3 : Int32) (a4 : Int32) (S : sSt) (H : Heap) (locs : List Loc) (ls : Array Slot) , Bb_X12_isAsAsked_5 kk5 a1 a2 a3 a4 S k → RelM D cy b z tx S s H → va_S (gA b 12 z) s.heap H locs → lv_has ls 9 [(0, .ref (b + adM 0 0)), (1, .int a1), (2, .int a2), (3, .int a3), (4, .int a4)] → W p l e rm_X12_isAsAsked s m args below meth c H locs 0 0 (MQ below (PiM D cy b z tx k) args s 0 0 (gA b 12 z)) (F0 m 5 ls []) := by
  intro a1 a2 a3 a4 S H locs ls h hR hS hl
  have hx := C0.1
  have hb := C0.2.1
  unfold Bb_X12_isAsAsked_5 at h
  refine lv_iload hx hb dX12_isAsAsked_5 (lv_at hl 4 rfl) ?_
  refine lv_aload_n hx hb dX12_isAsAsked_7 rfl (lv_at hl 0 rfl) ?_
  refine gM_0_2 C0 hR Nat.zero_lt_one tbs_wsX120 mM5_7_79 dX12_isAsAsked_8 ?_
  refine lv_iload_n hx hb dX12_isAsAsked_11 rfl (lv_at hl 2 rfl) ?_
  refine lv_iconst (v := 5) hx hb dX12_isAsAsked_12 (by decide) ?_
  refine qM_Si (As := [.int a2, .int 5]) (rest := [.ref (b + adM 1 0), .int a4]) C0 (c_X12_sessionAt l h) (va_cwS 2 C0.2.2.2.2 (tbS mM5_7_233 ⟨mM5_7_234, mM5_1_11, mM5_7_235⟩) rfl rfl rfl (by decide +kernel) ⟨Nat.le_of_ble_eq_true rfl, Nat.le_of_ble_eq_true rfl⟩) hR hT hS rfl hl.1 rfl (Nat.le_of_ble_eq_true rfl) dX12_isAsAsked_13 ⟨Nat.zero_le _, Nat.zero_le _⟩ (fun r1 S2 H locs h hR hS => ?_)
  obtain ⟨j3, hj3, ej3, h⟩ := h
  refine lM_1 C0 hR Nat.zero_lt_one hj3 ej3 dX12_isAsAsked_16 ?_
  refine lv_icmp_ge (tgt := 155) hx hb dX12_isAsAsked_17 (by decide) (fun c4 => ?_) (fun c4 => ?_)
  · have h := h.1 c4
    refine lv_iload_n hx hb dX12_isAsAsked_155 rfl (lv_at hl 3 rfl) ?_
    exact rtM_z C0 hr hlk hR hS h.1 h.2 dX12_isAsAsked_156
  · have h := h.2 c4
    refine lv_iload_n hx hb dX12_isAsAsked_20 rfl (lv_at hl 3 rfl) ?_
    refine lv_if_eq (tgt := 155) hx hb dX12_isAsAsked_21 (by decide) (fun c5 => ?_) (fun c5 => ?_)
    · have h := h.1 c5
      refine lv_iload_n hx hb dX12_isAsAsked_155 rfl (lv_at hl 3 rfl) ?_
      exact rtM_z C0 hr hlk hR hS h.1 h.2 dX12_isAsAsked_156
    · have h := h.2 c5
      refine lv_iload_n hx hb dX12_isAsAsked_24 rfl (lv_at hl 2 rfl) ?_
      refine lv_bipush (v := 6) hx hb dX12_isAsAsked_25 (by decide) ?_
      refine lv_iconst (v := 3) hx hb dX12_isAsAsked_27 (by decide) ?_
      refine lv_iload hx hb dX12_isAsAsked_28 (lv_at hl 4 rfl) ?_
      refine lv_imul hx hb dX12_isAsAsked_30 ?_
      refine lv_iadd hx hb dX12_isAsAsked_31 ?_
      refine qM_Si (As := [.int a2, .int (6 + (3 * a4))]) (rest := []) C0 (c_X12_sessionAt l h) (va_cwS 2 C0.2.2.2.2 (tbS mM5_7_233 ⟨mM5_7_234, mM5_1_11, mM5_7_235⟩) rfl rfl rfl (by decide +kernel) ⟨Nat.le_of_ble_eq_true rfl, Nat.le_of_ble_eq_true rfl⟩) hR hT hS rfl hl.1 rfl (Nat.le_of_ble_eq_true rfl) dX12_isAsAsked_32 ⟨Nat.zero_le _, Nat.zero_le _⟩ (fun r6 S7 H locs h hR hS => ?_)
      refine lv_istore (lv' := [(5, .int r6), (0, .ref (b + adM 0 0)), (1, .int a1), (2, .int a2), (3, .int a3), (4, .int a4)]) hx hb dX12_isAsAsked_35 hl (by decide) rfl (fun ls hl => ?_)
      refine lv_aload_n hx hb dX12_isAsAsked_37 rfl (lv_at hl 1 rfl) ?_
      refine lv_iload_n hx hb dX12_isAsAsked_38 rfl (lv_at hl 2 rfl) ?_
      refine lv_iload_n hx hb dX12_isAsAsked_39 rfl (lv_at hl 3 rfl) ?_
      refine lv_aload_n hx hb dX12_isAsAsked_40 rfl (lv_at hl 1 rfl) ?_
      refine gM_0_2 C0 hR Nat.zero_lt_one tbs_wsX120 mM5_7_79 dX12_isAsAsked_41 ?_
      refine lv_iload hx hb dX12_isAsAsked_44 (lv_at hl 0 rfl) ?_
      obtain ⟨j8, hj8, ej8, h⟩ := h
      refine lM_1 C0 hR Nat.zero_lt_one hj8 ej8 dX12_isAsAsked_46 ?_
      refine qM_Vi (As := [.int a1, .int a2, .int (S7.1 1 0 j8)]) (rest := []) C0 (c_X12_columnOf l h) (cwV 3 C0.2.2.2.2 (tbV mM5_8_199 ⟨mM5_8_201, mpM5_5_13, mM5_1_11, mM5_8_202⟩) rfl rfl rfl (by decide +kernel) ⟨Nat.le_of_ble_eq_true rfl, Nat.le_of_ble_eq_true rfl⟩) (rcM_0 hR Nat.zero_lt_one) hR hT hS rfl hl.1 rfl (Nat.le_of_ble_eq_true rfl) dX12_isAsAsked_47 ⟨Nat.zero_le _, Nat.zero_le _⟩ (fun r9 S10 H locs h hR hS => ?_)
      refine lv_istore (lv' := [(6, .int r9), (5, .int r6), (0, .ref (b + adM 0 0)), (1, .int a1), (2, .int a2), (3, .int a3), (4, .int a4)]) hx hb dX12_isAsAsked_50 hl (by decide) rfl (fun ls hl => ?_)
      refine lv_aload_n hx hb dX12_isAsAsked_52 rfl (lv_at hl 2 rfl) ?_
      refine gM_0_2 C0 hR Nat.zero_lt_one tbs_wsX120 mM5_7_79 dX12_isAsAsked_53 ?_
      refine lv_iload hx hb dX12_isAsAsked_56 (lv_at hl 1 rfl) ?_
      refine lv_iconst (v := 2) hx hb dX12_isAsAsked_58 (by decide) ?_
      refine lv_iadd hx hb dX12_isAsAsked_59 ?_
      obtain ⟨j11, hj11, ej11, h⟩ := h
      refine lM_1 C0 hR Nat.zero_lt_one hj11 ej11 dX12_isAsAsked_60 ?_
      refine lv_topi (fun x12 ex12 => ?_)
      have h := h x12 ex12
      refine lv_istore (lv' := [(7, .int x12), (6, .int r9), (5, .int r6), (0, .ref (b + adM 0 0)), (1, .int a1), (2, .int a2), (3, .int a3), (4, .int a4)]) hx hb dX12_isAsAsked_61 hl (by decide) rfl (fun ls hl => ?_)
      refine lv_aload_n hx hb dX12_isAsAsked_63 rfl (lv_at hl 3 rfl) ?_
      refine gM_0_2 C0 hR Nat.zero_lt_one tbs_wsX120 mM5_7_79 dX12_isAsAsked_64 ?_
      refine lv_iload hx hb dX12_isAsAsked_67 (lv_at hl 2 rfl) ?_
      refine lv_iconst (v := 1) hx hb dX12_isAsAsked_69 (by decide) ?_
      refine lv_iadd hx hb dX12_isAsAsked_70 ?_
      obtain ⟨j13, hj13, ej13, h⟩ := h
      refine lM_1 C0 hR Nat.zero_lt_one hj13 ej13 dX12_isAsAsked_71 ?_
      refine lv_topi (fun x14 ex14 => ?_)
      have h := h x14 ex14
      refine lv_istore (lv' := [(8, .int x14), (7, .int x12), (6, .int r9), (5, .int r6), (0, .ref (b + adM 0 0)), (1, .int a1), (2, .int a2), (3, .int a3), (4, .int a4)]) hx hb dX12_isAsAsked_72 hl (by decide) rfl (fun ls hl => ?_)
      refine lv_iload hx hb dX12_isAsAsked_74 (lv_at hl 0 rfl) ?_
      refine lv_if_ne (tgt := 94) hx hb dX12_isAsAsked_76 (by decide) (fun c15 => ?_) (fun c15 => ?_)
      · have h := h.1 c15
        refine lv_iload hx hb dX12_isAsAsked_94 (lv_at hl 0 rfl) ?_
        refine lv_iconst (v := 1) hx hb dX12_isAsAsked_96 (by decide) ?_
        refine lv_icmp_ne (tgt := 115) hx hb dX12_isAsAsked_97 (by decide) (fun c16 => ?_) (fun c16 => ?_)
        · have h := h.1 c16
          refine lv_iload hx hb dX12_isAsAsked_115 (lv_at hl 0 rfl) ?_
          refine lv_iconst (v := 2) hx hb dX12_isAsAsked_117 (by decide) ?_
          refine lv_icmp_ne (tgt := 136) hx hb dX12_isAsAsked_118 (by decide) (fun c17 => ?_) (fun c17 => ?_)
          · have h := h.1 c17
            refine lv_iload hx hb dX12_isAsAsked_136 (lv_at hl 2 rfl) ?_
            refine lv_iload hx hb dX12_isAsAsked_138 (lv_at hl 1 rfl) ?_
            refine lv_icmp_le (tgt := 147) hx hb dX12_isAsAsked_140 (by decide) (fun c18 => ?_) (fun c18 => ?_)
            · have h := h.1 c18
              refine lv_iconst (v := 0) hx hb dX12_isAsAsked_147 (by decide) ?_
              exact Bw_X12_isAsAsked_148 C0 hr hlk hT ih5 a1 a2 a4 0 S10 _ _ _ h hR hS (lv_sub hl [4, 5, 6, 8] rfl)
            · have h := h.2 c18
              refine lv_iconst (v := 1) hx hb dX12_isAsAsked_143 (by decide) ?_
              refine lv_goto (tgt := 148) hx hb dX12_isAsAsked_144 (by decide) ?_
              exact Bw_X12_isAsAsked_148 C0 hr hlk hT ih5 a1 a2 a4 1 S10 _ _ _ h hR hS (lv_sub hl [4, 5, 6, 8] rfl)
          · have h := h.2 c17
            refine lv_iload hx hb dX12_isAsAsked_121 (lv_at hl 2 rfl) ?_
            refine lv_iload hx hb dX12_isAsAsked_123 (lv_at hl 1 rfl) ?_
            refine lv_icmp_ge (tgt := 132) hx hb dX12_isAsAsked_125 (by decide) (fun c20 => ?_) (fun c20 => ?_)
            · have h := h.1 c20
              refine lv_iconst (v := 0) hx hb dX12_isAsAsked_132 (by decide) ?_
              refine lv_goto (tgt := 148) hx hb dX12_isAsAsked_133 (by decide) ?_
              exact Bw_X12_isAsAsked_148 C0 hr hlk hT ih5 a1 a2 a4 0 S10 _ _ _ h hR hS (lv_sub hl [4, 5, 6, 8] rfl)
            · have h := h.2 c20
              refine lv_iconst (v := 1) hx hb dX12_isAsAsked_128 (by decide) ?_
              refine lv_goto (tgt := 148) hx hb dX12_isAsAsked_129 (by decide) ?_
              exact Bw_X12_isAsAsked_148 C0 hr hlk hT ih5 a1 a2 a4 1 S10 _ _ _ h hR hS (lv_sub hl [4, 5, 6, 8] rfl)
        · have h := h.2 c16
          refine lv_iload hx hb dX12_isAsAsked_100 (lv_at hl 2 rfl) ?_
          refine lv_iload hx hb dX12_isAsAsked_102 (lv_at hl 1 rfl) ?_
          refine lv_icmp_eq (tgt := 111) hx hb dX12_isAsAsked_104 (by decide) (fun c21 => ?_) (fun c21 => ?_)
          · have h := h.1 c21
            refine lv_iconst (v := 0) hx hb dX12_isAsAsked_111 (by decide) ?_
            refine lv_goto (tgt := 148) hx hb dX12_isAsAsked_112 (by decide) ?_
            exact Bw_X12_isAsAsked_148 C0 hr hlk hT ih5 a1 a2 a4 0 S10 _ _ _ h hR hS (lv_sub hl [4, 5, 6, 8] rfl)
          · have h := h.2 c21
            refine lv_iconst (v := 1) hx hb dX12_isAsAsked_107 (by decide) ?_
            refine lv_goto (tgt := 148) hx hb dX12_isAsAsked_108 (by decide) ?_
            exact Bw_X12_isAsAsked_148 C0 hr hlk hT ih5 a1 a2 a4 1 S10 _ _ _ h hR hS (lv_sub hl [4, 5, 6, 8] rfl)
      · have h := h.2 c15
        refine lv_iload hx hb dX12_isAsAsked_79 (lv_at hl 2 rfl) ?_
        refine lv_iload hx hb dX12_isAsAsked_81 (lv_at hl 1 rfl) ?_
        refine lv_icmp_ne (tgt := 90) hx hb dX12_isAsAsked_83 (by decide) (fun c22 => ?_) (fun c22 => ?_)
        · have h := h.1 c22
          refine lv_iconst (v := 0) hx hb dX12_isAsAsked_90 (by decide) ?_
          refine lv_goto (tgt := 148) hx hb dX12_isAsAsked_91 (by decide) ?_
          exact Bw_X12_isAsAsked_148 C0 hr hlk hT ih5 a1 a2 a4 0 S10 _ _ _ h hR hS (lv_sub hl [4, 5, 6, 8] rfl)
        · have h := h.2 c22
          refine lv_iconst (v := 1) hx hb dX12_isAsAsked_86 (by decide) ?_
          refine lv_goto (tgt := 148) hx hb dX12_isAsAsked_87 (by decide) ?_
          exact Bw_X12_isAsAsked_148 C0 hr hlk hT ih5 a1 a2 a4 1 S10 _ _ _ h hR hS (lv_sub hl [4, 5, 6, 8] rfl)
def B_X12_isAsAsked_5 (n9 : Nat) (a1 : Int32) (a2 : Int32) (a3 : Int32) (a4 : Int32) (S : sSt) (k : Int32 → sSt → Prop) : Prop := (Nat.rec (motive := fun _ => Int32 → Int32 → Int32 → Int32 → sSt → Prop) (fun _ _ _ _ _ => False) (fun _ r9 => fun a1 a2 a3 a4 S => Bb_X12_isAsAsked_5 r9 a1 a2 a3 a4 S k) n9 : Int32 → Int32 → Int32 → Int32 → sSt → Prop) a1 a2 a3 a4 S
theorem B_X12_isAsAsked_5_s (n9 : Nat) (a1 : Int32) (a2 : Int32) (a3 : Int32) (a4 : Int32) (S : sSt) (k : Int32 → sSt → Prop) : B_X12_isAsAsked_5 (n9 + 1) a1 a2 a3 a4 S k = Bb_X12_isAsAsked_5 (fun a1 a2 a3 a4 S => B_X12_isAsAsked_5 n9 a1 a2 a3 a4 S k) a1 a2 a3 a4 S k := rfl
set_option maxHeartbeats 4000000 in
set_option maxRecDepth 100000 in
theorem Bw_X12_isAsAsked_5 {p : Program} {l : Launch} {e : Env} {s : State} {m : MethodId} {args : Array Value} {below : List Frame} {meth : Method} {c : Code} {D : va_G} {cy : Nat → ClassId} {b z : Nat} {tx : TX} (C0 : CallFix p m c cX12_isAsAsked 9 s args TB RX12) (hr : meth.sig.returnType = (some .boolean)) (hlk : meth.locks = false) (hT : TxR tx s) {k : Int32 → sSt → Prop} : ∀ (n9 : Nat), ∀ (a1 : Int32) (a2 : Int32) (a3 : Int32) (a4 : Int32) (S : sSt) (H : Heap) (locs : List Loc) (ls : Array Slot) , B_X12_isAsAsked_5 n9 a1 a2 a3 a4 S k → RelM D cy b z tx S s H → va_S (gA b 12 z) s.heap H locs → lv_has ls 9 [(0, .ref (b + adM 0 0)), (1, .int a1), (2, .int a2), (3, .int a3), (4, .int a4)] → W p l e rm_X12_isAsAsked s m args below meth c H locs 0 0 (MQ below (PiM D cy b z tx k) args s 0 0 (gA b 12 z)) (F0 m 5 ls []) := by
  intro n9
  induction n9 with
  | zero => intro a1 a2 a3 a4 S H locs ls h; exact h.elim
  | succ n9 ih =>
    intro a1 a2 a3 a4 S H locs ls h hR hS hl
    exact Bbw_X12_isAsAsked_5 C0 hr hlk hT ih a1 a2 a3 a4 S H locs ls h hR hS hl
def F_X12_isAsAsked (a1 : Int32) (a2 : Int32) (S : sSt) (k : Int32 → sSt → Prop) : Prop := B_X12_isAsAsked_5 fuel a1 a2 1 0 S k
set_option maxHeartbeats 4000000 in
set_option maxRecDepth 100000 in
theorem c_X12_isAsAsked (l : Launch) {D : va_G} {cy : Nat → ClassId} {b z : Nat} {tx : TX} {a1 : Int32} {a2 : Int32} {S : sSt} {k : Int32 → sSt → Prop} (h : F_X12_isAsAsked a1 a2 S k) : Met l yX12_isAsAsked (Cond.code yX12_isAsAsked cX12_isAsAsked 9 (some .boolean) :: TB) rm_X12_isAsAsked (va_Pc [.ref (b + adM 0 0), .int a1, .int a2] (fun U => RelM D cy b z tx S U U.heap ∧ TxR tx U)) (PiM D cy b z tx k) 0 0 (gA b 12 z) := by
  refine Met.ofW (cc := cX12_isAsAsked) (maxL := 9) (ret := (some .boolean)) (by decide) rfl ?_
  intro p e s m args below meth c s₁ B hml hv
  obtain ⟨rfl, hR, hT⟩ := hv
  have C0 : CallFix p m c cX12_isAsAsked 9 s _ TB RX12 := ⟨B.exec, B.bytes, hml, findClass_of_methodNamed B.named, fun w hw => atoms_spec B.pre w (List.mem_cons_of_mem _ hw)⟩
  have hr := B.returns
  have hlk := B.notSynchronized
  have hx := C0.1
  have hb := C0.2.1
  have hS : va_S (gA b 12 z) s.heap s.heap [] := va_S.rf
  have hl := lv_entry ([.ref (b + adM 0 0), .int a1, .int a2]) (n := 9) (Nat.le_of_ble_eq_true rfl)
  rw [lg_entry_eq]
  generalize (lg_sl ([.ref (b + adM 0 0), .int a1, .int a2]) ++ List.replicate (9 - (lg_sl ([.ref (b + adM 0 0), .int a1, .int a2])).length) Slot.unset).toArray = ls at hl ⊢
  have hl : lv_has ls 9 [(0, .ref (b + adM 0 0)), (1, .int a1), (2, .int a2)] := hl
  show W p l e rm_X12_isAsAsked s m _ below meth c s.heap [] 0 0 (MQ below (PiM D cy b z tx k) _ s 0 0 (gA b 12 z)) _
  unfold F_X12_isAsAsked at h
  refine lv_iconst (v := 1) hx hb dX12_isAsAsked_0 (by decide) ?_
  refine lv_istore_n (lv' := [(3, .int 1), (0, .ref (b + adM 0 0)), (1, .int a1), (2, .int a2)]) hx hb dX12_isAsAsked_1 rfl hl (by decide) rfl (fun ls hl => ?_)
  refine lv_iconst (v := 0) hx hb dX12_isAsAsked_2 (by decide) ?_
  refine lv_istore (lv' := [(4, .int 0), (3, .int 1), (0, .ref (b + adM 0 0)), (1, .int a1), (2, .int a2)]) hx hb dX12_isAsAsked_3 hl (by decide) rfl (fun ls hl => ?_)
  exact Bw_X12_isAsAsked_5 C0 hr hlk hT fuel a1 a2 1 0 S _ _ _ h hR hS (lv_sub hl [2, 3, 4, 1, 0] rfl)

def rm_X12_isAhead : Room := { frames := 5, cells := 0, slots := 0, locals := 109 }
def B_X12_isAhead_98 (t0 : Int32) (t1 : Int32) (S : sSt) (k : Int32 → sSt → Prop) : Prop := ((¬ t0 = t1 → k 0 S) ∧ (t0 = t1 → k 1 S))
set_option maxHeartbeats 4000000 in
set_option maxRecDepth 100000 in
theorem Bw_X12_isAhead_98 {p : Program} {l : Launch} {e : Env} {s : State} {m : MethodId} {args : Array Value} {below : List Frame} {meth : Method} {c : Code} {D : va_G} {cy : Nat → ClassId} {b z : Nat} {tx : TX} (C0 : CallFix p m c cX12_isAhead 8 s args TB RX12) (hr : meth.sig.returnType = (some .boolean)) (hlk : meth.locks = false) (hT : TxR tx s) {k : Int32 → sSt → Prop} : ∀ (t0 : Int32) (t1 : Int32) (S : sSt) (H : Heap) (locs : List Loc) (ls : Array Slot) , B_X12_isAhead_98 t0 t1 S k → RelM D cy b z tx S s H → va_S (gA b 12 z) s.heap H locs → lv_has ls 8 [] → W p l e rm_X12_isAhead s m args below meth c H locs 0 0 (MQ below (PiM D cy b z tx k) args s 0 0 (gA b 12 z)) (F0 m 98 ls [.int t1, .int t0]) := by
  intro t0 t1 S H locs ls h hR hS hl
  have hx := C0.1
  have hb := C0.2.1
  unfold B_X12_isAhead_98 at h
  refine lv_icmp_ne (tgt := 105) hx hb dX12_isAhead_98 (by decide) (fun c22 => ?_) (fun c22 => ?_)
  · have h := h.1 c22
    refine lv_iconst (v := 0) hx hb dX12_isAhead_105 (by decide) ?_
    exact rtM_z C0 hr hlk hR hS (by decide) h dX12_isAhead_106
  · have h := h.2 c22
    refine lv_iconst (v := 1) hx hb dX12_isAhead_101 (by decide) ?_
    refine lv_goto (tgt := 106) hx hb dX12_isAhead_102 (by decide) ?_
    exact rtM_z C0 hr hlk hR hS (by decide) h dX12_isAhead_106
def B_X12_isAhead_81 (a5 : Int32) (t0 : Int32) (S : sSt) (k : Int32 → sSt → Prop) : Prop := ix (a5 + 1) 10421 (fun j20 => ((¬ (S.1 1 0 j20) = 0 → B_X12_isAhead_98 t0 0 S k) ∧ ((S.1 1 0 j20) = 0 → B_X12_isAhead_98 t0 1 S k)))
set_option maxHeartbeats 4000000 in
set_option maxRecDepth 100000 in
theorem Bw_X12_isAhead_81 {p : Program} {l : Launch} {e : Env} {s : State} {m : MethodId} {args : Array Value} {below : List Frame} {meth : Method} {c : Code} {D : va_G} {cy : Nat → ClassId} {b z : Nat} {tx : TX} (C0 : CallFix p m c cX12_isAhead 8 s args TB RX12) (hr : meth.sig.returnType = (some .boolean)) (hlk : meth.locks = false) (hT : TxR tx s) {k : Int32 → sSt → Prop} : ∀ (a5 : Int32) (t0 : Int32) (S : sSt) (H : Heap) (locs : List Loc) (ls : Array Slot) , B_X12_isAhead_81 a5 t0 S k → RelM D cy b z tx S s H → va_S (gA b 12 z) s.heap H locs → lv_has ls 8 [(0, .ref (b + adM 0 0)), (5, .int a5)] → W p l e rm_X12_isAhead s m args below meth c H locs 0 0 (MQ below (PiM D cy b z tx k) args s 0 0 (gA b 12 z)) (F0 m 81 ls [.int t0]) := by
  intro a5 t0 S H locs ls h hR hS hl
  have hx := C0.1
  have hb := C0.2.1
  unfold B_X12_isAhead_81 at h
  refine lv_aload_n hx hb dX12_isAhead_81 rfl (lv_at hl 0 rfl) ?_
  refine gM_0_2 C0 hR Nat.zero_lt_one tbs_wsX120 mM5_7_79 dX12_isAhead_82 ?_
  refine lv_iload hx hb dX12_isAhead_85 (lv_at hl 1 rfl) ?_
  refine lv_iconst (v := 1) hx hb dX12_isAhead_87 (by decide) ?_
  refine lv_iadd hx hb dX12_isAhead_88 ?_
  obtain ⟨j20, hj20, ej20, h⟩ := h
  refine lM_1 C0 hR Nat.zero_lt_one hj20 ej20 dX12_isAhead_89 ?_
  refine lv_if_ne (tgt := 97) hx hb dX12_isAhead_90 (by decide) (fun c21 => ?_) (fun c21 => ?_)
  · have h := h.1 c21
    refine lv_iconst (v := 0) hx hb dX12_isAhead_97 (by decide) ?_
    exact Bw_X12_isAhead_98 C0 hr hlk hT t0 0 S _ _ _ h hR hS (lv_sub hl [] rfl)
  · have h := h.2 c21
    refine lv_iconst (v := 1) hx hb dX12_isAhead_93 (by decide) ?_
    refine lv_goto (tgt := 98) hx hb dX12_isAhead_94 (by decide) ?_
    exact Bw_X12_isAhead_98 C0 hr hlk hT t0 1 S _ _ _ h hR hS (lv_sub hl [] rfl)
def Bb_X12_isAhead_3 (kk3 : Int32 → Int32 → Int32 → Int32 → sSt → Prop) (a1 : Int32) (a2 : Int32) (a3 : Int32) (a4 : Int32) (S : sSt) (k : Int32 → sSt → Prop) : Prop := F_X12_sessionAt a3 18 S (fun r1 S2 => ix r1 10421 (fun j3 => (((S2.1 1 0 j3) ≤ a4 → F_X12_numberOf a1 S2 (fun r5 S6 => F_X12_numberOf a2 S6 (fun r7 S8 => ((r7 ≤ r5 → k 0 S8) ∧ (¬ r7 ≤ r5 → k 1 S8))))) ∧ (¬ (S2.1 1 0 j3) ≤ a4 → F_X12_sessionAt a3 (19 + (2 * a4)) S2 (fun r10 S11 => ix r10 10421 (fun j12 => F_X12_columnOf a1 a3 (S11.1 1 0 j12) S11 (fun r13 S14 => F_X12_columnOf a2 a3 (S14.1 1 0 j12) S14 (fun r15 S16 => ((r13 = r15 → ∀ x18 : Int32, x18 = a4 + 1 → kk3 a1 a2 a3 x18 S16) ∧ (¬ r13 = r15 → ((r15 ≤ r13 → B_X12_isAhead_81 r10 0 S16 k) ∧ (¬ r15 ≤ r13 → B_X12_isAhead_81 r10 1 S16 k))))))))))))
set_option maxHeartbeats 4000000 in
set_option maxRecDepth 100000 in
theorem Bbw_X12_isAhead_3 {p : Program} {l : Launch} {e : Env} {s : State} {m : MethodId} {args : Array Value} {below : List Frame} {meth : Method} {c : Code} {D : va_G} {cy : Nat → ClassId} {b z : Nat} {tx : TX} (C0 : CallFix p m c cX12_isAhead 8 s args TB RX12) (hr : meth.sig.returnType = (some .boolean)) (hlk : meth.locks = false) (hT : TxR tx s) {k : Int32 → sSt → Prop} {kk3 : Int32 → Int32 → Int32 → Int32 → sSt → Prop} (ih3 : ∀ (a1 : Int32) (a2 : Int32) (a3 : Int32) (a4 : Int32) (S : sSt) (H : Heap) (locs : List Loc) (ls : Array Slot) , kk3 a1 a2 a3 a4 S → RelM D cy b z tx S s H → va_S (gA b 12 z) s.heap H locs → lv_has ls 8 [(0, .ref (b + adM 0 0)), (1, .int a1), (2, .int a2), (3, .int a3), (4, .int a4)] → W p l e rm_X12_isAhead s m args below meth c H locs 0 0 (MQ below (PiM D cy b z tx k) args s 0 0 (gA b 12 z)) (F0 m 3 ls [])) : ∀ (a1 : Int32) (a2 : Int32) (a3 : Int32) (a4 : Int32) (S : sSt) (H : Heap) (locs : List Loc) (ls : Array Slot) , Bb_X12_isAhead_3 kk3 a1 a2 a3 a4 S k → RelM D cy b z tx S s H → va_S (gA b 12 z) s.heap H locs → lv_has ls 8 [(0, .ref (b + adM 0 0)), (1, .int a1), (2, .int a2), (3, .int a3), (4, .int a4)] → W p l e rm_X12_isAhead s m args below meth c H locs 0 0 (MQ below (PiM D cy b z tx k) args s 0 0 (gA b 12 z)) (F0 m 3 ls []) := by
  intro a1 a2 a3 a4 S H locs ls h hR hS hl
  have hx := C0.1
  have hb := C0.2.1
  unfold Bb_X12_isAhead_3 at h
  refine lv_iload hx hb dX12_isAhead_3 (lv_at hl 4 rfl) ?_
  refine lv_aload_n hx hb dX12_isAhead_5 rfl (lv_at hl 0 rfl) ?_
  refine gM_0_2 C0 hR Nat.zero_lt_one tbs_wsX120 mM5_7_79 dX12_isAhead_6 ?_
  refine lv_iload_n hx hb dX12_isAhead_9 rfl (lv_at hl 3 rfl) ?_
  refine lv_bipush (v := 18) hx hb dX12_isAhead_10 (by decide) ?_
  refine qM_Si (As := [.int a3, .int 18]) (rest := [.ref (b + adM 1 0), .int a4]) C0 (c_X12_sessionAt l h) (va_cwS 2 C0.2.2.2.2 (tbS mM5_7_233 ⟨mM5_7_234, mM5_1_11, mM5_7_235⟩) rfl rfl rfl (by decide +kernel) ⟨Nat.le_of_ble_eq_true rfl, Nat.le_of_ble_eq_true rfl⟩) hR hT hS rfl hl.1 rfl (Nat.le_of_ble_eq_true rfl) dX12_isAhead_12 ⟨Nat.zero_le _, Nat.zero_le _⟩ (fun r1 S2 H locs h hR hS => ?_)
  obtain ⟨j3, hj3, ej3, h⟩ := h
  refine lM_1 C0 hR Nat.zero_lt_one hj3 ej3 dX12_isAhead_15 ?_
  refine lv_icmp_ge (tgt := 113) hx hb dX12_isAhead_16 (by decide) (fun c4 => ?_) (fun c4 => ?_)
  · have h := h.1 c4
    refine lv_aload_n hx hb dX12_isAhead_113 rfl (lv_at hl 0 rfl) ?_
    refine lv_iload_n hx hb dX12_isAhead_114 rfl (lv_at hl 1 rfl) ?_
    refine qM_Vi (As := [.int a1]) (rest := []) C0 (c_X12_numberOf l h) (cwV 1 C0.2.2.2.2 (tbV mM5_7_202 ⟨mM5_7_204, mpM5_3_3, mM5_1_11, mM5_7_205⟩) rfl rfl rfl (by decide +kernel) ⟨Nat.le_of_ble_eq_true rfl, Nat.le_of_ble_eq_true rfl⟩) (rcM_0 hR Nat.zero_lt_one) hR hT hS rfl hl.1 rfl (Nat.le_of_ble_eq_true rfl) dX12_isAhead_115 ⟨Nat.zero_le _, Nat.zero_le _⟩ (fun r5 S6 H locs h hR hS => ?_)
    refine lv_aload_n hx hb dX12_isAhead_118 rfl (lv_at hl 0 rfl) ?_
    refine lv_iload_n hx hb dX12_isAhead_119 rfl (lv_at hl 2 rfl) ?_
    refine qM_Vi (As := [.int a2]) (rest := [.int r5]) C0 (c_X12_numberOf l h) (cwV 1 C0.2.2.2.2 (tbV mM5_7_202 ⟨mM5_7_204, mpM5_3_3, mM5_1_11, mM5_7_205⟩) rfl rfl rfl (by decide +kernel) ⟨Nat.le_of_ble_eq_true rfl, Nat.le_of_ble_eq_true rfl⟩) (rcM_0 hR Nat.zero_lt_one) hR hT hS rfl hl.1 rfl (Nat.le_of_ble_eq_true rfl) dX12_isAhead_120 ⟨Nat.zero_le _, Nat.zero_le _⟩ (fun r7 S8 H locs h hR hS => ?_)
    refine lv_icmp_ge (tgt := 130) hx hb dX12_isAhead_123 (by decide) (fun c9 => ?_) (fun c9 => ?_)
    · have h := h.1 c9
      refine lv_iconst (v := 0) hx hb dX12_isAhead_130 (by decide) ?_
      exact rtM_z C0 hr hlk hR hS (by decide) h dX12_isAhead_131
    · have h := h.2 c9
      refine lv_iconst (v := 1) hx hb dX12_isAhead_126 (by decide) ?_
      refine lv_goto (tgt := 131) hx hb dX12_isAhead_127 (by decide) ?_
      exact rtM_z C0 hr hlk hR hS (by decide) h dX12_isAhead_131
  · have h := h.2 c4
    refine lv_iload_n hx hb dX12_isAhead_19 rfl (lv_at hl 3 rfl) ?_
    refine lv_bipush (v := 19) hx hb dX12_isAhead_20 (by decide) ?_
    refine lv_iconst (v := 2) hx hb dX12_isAhead_22 (by decide) ?_
    refine lv_iload hx hb dX12_isAhead_23 (lv_at hl 4 rfl) ?_
    refine lv_imul hx hb dX12_isAhead_25 ?_
    refine lv_iadd hx hb dX12_isAhead_26 ?_
    refine qM_Si (As := [.int a3, .int (19 + (2 * a4))]) (rest := []) C0 (c_X12_sessionAt l h) (va_cwS 2 C0.2.2.2.2 (tbS mM5_7_233 ⟨mM5_7_234, mM5_1_11, mM5_7_235⟩) rfl rfl rfl (by decide +kernel) ⟨Nat.le_of_ble_eq_true rfl, Nat.le_of_ble_eq_true rfl⟩) hR hT hS rfl hl.1 rfl (Nat.le_of_ble_eq_true rfl) dX12_isAhead_27 ⟨Nat.zero_le _, Nat.zero_le _⟩ (fun r10 S11 H locs h hR hS => ?_)
    refine lv_istore (lv' := [(5, .int r10), (0, .ref (b + adM 0 0)), (1, .int a1), (2, .int a2), (3, .int a3), (4, .int a4)]) hx hb dX12_isAhead_30 hl (by decide) rfl (fun ls hl => ?_)
    refine lv_aload_n hx hb dX12_isAhead_32 rfl (lv_at hl 1 rfl) ?_
    refine lv_iload_n hx hb dX12_isAhead_33 rfl (lv_at hl 2 rfl) ?_
    refine lv_iload_n hx hb dX12_isAhead_34 rfl (lv_at hl 4 rfl) ?_
    refine lv_aload_n hx hb dX12_isAhead_35 rfl (lv_at hl 1 rfl) ?_
    refine gM_0_2 C0 hR Nat.zero_lt_one tbs_wsX120 mM5_7_79 dX12_isAhead_36 ?_
    refine lv_iload hx hb dX12_isAhead_39 (lv_at hl 0 rfl) ?_
    obtain ⟨j12, hj12, ej12, h⟩ := h
    refine lM_1 C0 hR Nat.zero_lt_one hj12 ej12 dX12_isAhead_41 ?_
    refine qM_Vi (As := [.int a1, .int a3, .int (S11.1 1 0 j12)]) (rest := []) C0 (c_X12_columnOf l h) (cwV 3 C0.2.2.2.2 (tbV mM5_8_199 ⟨mM5_8_201, mpM5_5_13, mM5_1_11, mM5_8_202⟩) rfl rfl rfl (by decide +kernel) ⟨Nat.le_of_ble_eq_true rfl, Nat.le_of_ble_eq_true rfl⟩) (rcM_0 hR Nat.zero_lt_one) hR hT hS rfl hl.1 rfl (Nat.le_of_ble_eq_true rfl) dX12_isAhead_42 ⟨Nat.zero_le _, Nat.zero_le _⟩ (fun r13 S14 H locs h hR hS => ?_)
    refine lv_istore (lv' := [(6, .int r13), (5, .int r10), (0, .ref (b + adM 0 0)), (1, .int a1), (2, .int a2), (3, .int a3), (4, .int a4)]) hx hb dX12_isAhead_45 hl (by decide) rfl (fun ls hl => ?_)
    refine lv_aload_n hx hb dX12_isAhead_47 rfl (lv_at hl 2 rfl) ?_
    refine lv_iload_n hx hb dX12_isAhead_48 rfl (lv_at hl 4 rfl) ?_
    refine lv_iload_n hx hb dX12_isAhead_49 rfl (lv_at hl 5 rfl) ?_
    refine lv_aload_n hx hb dX12_isAhead_50 rfl (lv_at hl 2 rfl) ?_
    refine gM_0_2 C0 hR Nat.zero_lt_one tbs_wsX120 mM5_7_79 dX12_isAhead_51 ?_
    refine lv_iload hx hb dX12_isAhead_54 (lv_at hl 1 rfl) ?_
    refine lM_1 C0 hR Nat.zero_lt_one hj12 ej12 dX12_isAhead_56 ?_
    refine qM_Vi (As := [.int a2, .int a3, .int (S14.1 1 0 j12)]) (rest := []) C0 (c_X12_columnOf l h) (cwV 3 C0.2.2.2.2 (tbV mM5_8_199 ⟨mM5_8_201, mpM5_5_13, mM5_1_11, mM5_8_202⟩) rfl rfl rfl (by decide +kernel) ⟨Nat.le_of_ble_eq_true rfl, Nat.le_of_ble_eq_true rfl⟩) (rcM_0 hR Nat.zero_lt_one) hR hT hS rfl hl.1 rfl (Nat.le_of_ble_eq_true rfl) dX12_isAhead_57 ⟨Nat.zero_le _, Nat.zero_le _⟩ (fun r15 S16 H locs h hR hS => ?_)
    refine lv_istore (lv' := [(7, .int r15), (6, .int r13), (5, .int r10), (0, .ref (b + adM 0 0)), (1, .int a1), (2, .int a2), (3, .int a3), (4, .int a4)]) hx hb dX12_isAhead_60 hl (by decide) rfl (fun ls hl => ?_)
    refine lv_iload hx hb dX12_isAhead_62 (lv_at hl 1 rfl) ?_
    refine lv_iload hx hb dX12_isAhead_64 (lv_at hl 0 rfl) ?_
    refine lv_icmp_eq (tgt := 107) hx hb dX12_isAhead_66 (by decide) (fun c17 => ?_) (fun c17 => ?_)
    · have h := h.1 c17
      obtain ⟨x18, ex18⟩ : ∃ x18 : Int32, x18 = a4 + 1 := ⟨_, rfl⟩
      have h := h x18 ex18
      refine w_iinc (v0 := 1) (lv' := [(4, .int x18), (7, .int r15), (6, .int r13), (5, .int r10), (0, .ref (b + adM 0 0)), (1, .int a1), (2, .int a2), (3, .int a3)]) C0 dX12_isAhead_107 hl (k := 7) rfl (by decide) (by decide) x18 ex18 rfl (fun ls hl => ?_)
      refine lv_goto (tgt := 3) hx hb dX12_isAhead_110 (by decide) ?_
      exact ih3 a1 a2 a3 x18 S16 _ _ _  h hR hS (lv_sub hl [4, 5, 6, 7, 0] rfl)
    · have h := h.2 c17
      refine lv_iload hx hb dX12_isAhead_69 (lv_at hl 1 rfl) ?_
      refine lv_iload hx hb dX12_isAhead_71 (lv_at hl 0 rfl) ?_
      refine lv_icmp_ge (tgt := 80) hx hb dX12_isAhead_73 (by decide) (fun c19 => ?_) (fun c19 => ?_)
      · have h := h.1 c19
        refine lv_iconst (v := 0) hx hb dX12_isAhead_80 (by decide) ?_
        exact Bw_X12_isAhead_81 C0 hr hlk hT r10 0 S16 _ _ _ h hR hS (lv_sub hl [3, 2] rfl)
      · have h := h.2 c19
        refine lv_iconst (v := 1) hx hb dX12_isAhead_76 (by decide) ?_
        refine lv_goto (tgt := 81) hx hb dX12_isAhead_77 (by decide) ?_
        exact Bw_X12_isAhead_81 C0 hr hlk hT r10 1 S16 _ _ _ h hR hS (lv_sub hl [3, 2] rfl)
def B_X12_isAhead_3 (n9 : Nat) (a1 : Int32) (a2 : Int32) (a3 : Int32) (a4 : Int32) (S : sSt) (k : Int32 → sSt → Prop) : Prop := (Nat.rec (motive := fun _ => Int32 → Int32 → Int32 → Int32 → sSt → Prop) (fun _ _ _ _ _ => False) (fun _ r9 => fun a1 a2 a3 a4 S => Bb_X12_isAhead_3 r9 a1 a2 a3 a4 S k) n9 : Int32 → Int32 → Int32 → Int32 → sSt → Prop) a1 a2 a3 a4 S
theorem B_X12_isAhead_3_s (n9 : Nat) (a1 : Int32) (a2 : Int32) (a3 : Int32) (a4 : Int32) (S : sSt) (k : Int32 → sSt → Prop) : B_X12_isAhead_3 (n9 + 1) a1 a2 a3 a4 S k = Bb_X12_isAhead_3 (fun a1 a2 a3 a4 S => B_X12_isAhead_3 n9 a1 a2 a3 a4 S k) a1 a2 a3 a4 S k := rfl
set_option maxHeartbeats 4000000 in
set_option maxRecDepth 100000 in
theorem Bw_X12_isAhead_3 {p : Program} {l : Launch} {e : Env} {s : State} {m : MethodId} {args : Array Value} {below : List Frame} {meth : Method} {c : Code} {D : va_G} {cy : Nat → ClassId} {b z : Nat} {tx : TX} (C0 : CallFix p m c cX12_isAhead 8 s args TB RX12) (hr : meth.sig.returnType = (some .boolean)) (hlk : meth.locks = false) (hT : TxR tx s) {k : Int32 → sSt → Prop} : ∀ (n9 : Nat), ∀ (a1 : Int32) (a2 : Int32) (a3 : Int32) (a4 : Int32) (S : sSt) (H : Heap) (locs : List Loc) (ls : Array Slot) , B_X12_isAhead_3 n9 a1 a2 a3 a4 S k → RelM D cy b z tx S s H → va_S (gA b 12 z) s.heap H locs → lv_has ls 8 [(0, .ref (b + adM 0 0)), (1, .int a1), (2, .int a2), (3, .int a3), (4, .int a4)] → W p l e rm_X12_isAhead s m args below meth c H locs 0 0 (MQ below (PiM D cy b z tx k) args s 0 0 (gA b 12 z)) (F0 m 3 ls []) := by
  intro n9
  induction n9 with
  | zero => intro a1 a2 a3 a4 S H locs ls h; exact h.elim
  | succ n9 ih =>
    intro a1 a2 a3 a4 S H locs ls h hR hS hl
    exact Bbw_X12_isAhead_3 C0 hr hlk hT ih a1 a2 a3 a4 S H locs ls h hR hS hl
def F_X12_isAhead (a1 : Int32) (a2 : Int32) (a3 : Int32) (S : sSt) (k : Int32 → sSt → Prop) : Prop := B_X12_isAhead_3 fuel a1 a2 a3 0 S k
set_option maxHeartbeats 4000000 in
set_option maxRecDepth 100000 in
theorem c_X12_isAhead (l : Launch) {D : va_G} {cy : Nat → ClassId} {b z : Nat} {tx : TX} {a1 : Int32} {a2 : Int32} {a3 : Int32} {S : sSt} {k : Int32 → sSt → Prop} (h : F_X12_isAhead a1 a2 a3 S k) : Met l yX12_isAhead (Cond.code yX12_isAhead cX12_isAhead 8 (some .boolean) :: TB) rm_X12_isAhead (va_Pc [.ref (b + adM 0 0), .int a1, .int a2, .int a3] (fun U => RelM D cy b z tx S U U.heap ∧ TxR tx U)) (PiM D cy b z tx k) 0 0 (gA b 12 z) := by
  refine Met.ofW (cc := cX12_isAhead) (maxL := 8) (ret := (some .boolean)) (by decide) rfl ?_
  intro p e s m args below meth c s₁ B hml hv
  obtain ⟨rfl, hR, hT⟩ := hv
  have C0 : CallFix p m c cX12_isAhead 8 s _ TB RX12 := ⟨B.exec, B.bytes, hml, findClass_of_methodNamed B.named, fun w hw => atoms_spec B.pre w (List.mem_cons_of_mem _ hw)⟩
  have hr := B.returns
  have hlk := B.notSynchronized
  have hx := C0.1
  have hb := C0.2.1
  have hS : va_S (gA b 12 z) s.heap s.heap [] := va_S.rf
  have hl := lv_entry ([.ref (b + adM 0 0), .int a1, .int a2, .int a3]) (n := 8) (Nat.le_of_ble_eq_true rfl)
  rw [lg_entry_eq]
  generalize (lg_sl ([.ref (b + adM 0 0), .int a1, .int a2, .int a3]) ++ List.replicate (8 - (lg_sl ([.ref (b + adM 0 0), .int a1, .int a2, .int a3])).length) Slot.unset).toArray = ls at hl ⊢
  have hl : lv_has ls 8 [(0, .ref (b + adM 0 0)), (1, .int a1), (2, .int a2), (3, .int a3)] := hl
  show W p l e rm_X12_isAhead s m _ below meth c s.heap [] 0 0 (MQ below (PiM D cy b z tx k) _ s 0 0 (gA b 12 z)) _
  unfold F_X12_isAhead at h
  refine lv_iconst (v := 0) hx hb dX12_isAhead_0 (by decide) ?_
  refine lv_istore (lv' := [(4, .int 0), (0, .ref (b + adM 0 0)), (1, .int a1), (2, .int a2), (3, .int a3)]) hx hb dX12_isAhead_1 hl (by decide) rfl (fun ls hl => ?_)
  exact Bw_X12_isAhead_3 C0 hr hlk hT fuel a1 a2 a3 0 S _ _ _ h hR hS (lv_sub hl [1, 2, 3, 4, 0] rfl)

def rm_X12_firstFor : Room := { frames := 7, cells := 0, slots := 0, locals := 154 }
def B_X12_firstFor_45 (kk4 : Int32 → Int32 → Int32 → sSt → Prop) (a1 : Int32) (a2 : Int32) (a3 : Int32) (S : sSt) (k : Int32 → sSt → Prop) : Prop := ∀ x5 : Int32, x5 = a3 + 1 → kk4 a1 a2 x5 S
set_option maxHeartbeats 4000000 in
set_option maxRecDepth 100000 in
theorem Bw_X12_firstFor_45 {p : Program} {l : Launch} {e : Env} {s : State} {m : MethodId} {args : Array Value} {below : List Frame} {meth : Method} {c : Code} {D : va_G} {cy : Nat → ClassId} {b z : Nat} {tx : TX} (C0 : CallFix p m c cX12_firstFor 4 s args TB RX12) (hr : meth.sig.returnType = (some .int)) (hlk : meth.locks = false) (hT : TxR tx s) {k : Int32 → sSt → Prop} {kk4 : Int32 → Int32 → Int32 → sSt → Prop} (ih4 : ∀ (a1 : Int32) (a2 : Int32) (a3 : Int32) (S : sSt) (H : Heap) (locs : List Loc) (ls : Array Slot) , kk4 a1 a2 a3 S → RelM D cy b z tx S s H → va_S (gA b 12 z) s.heap H locs → lv_has ls 4 [(0, .ref (b + adM 0 0)), (1, .int a1), (2, .int a2), (3, .int a3)] → W p l e rm_X12_firstFor s m args below meth c H locs 0 0 (MQ below (PiM D cy b z tx k) args s 0 0 (gA b 12 z)) (F0 m 4 ls [])) : ∀ (a1 : Int32) (a2 : Int32) (a3 : Int32) (S : sSt) (H : Heap) (locs : List Loc) (ls : Array Slot) , B_X12_firstFor_45 kk4 a1 a2 a3 S k → RelM D cy b z tx S s H → va_S (gA b 12 z) s.heap H locs → lv_has ls 4 [(0, .ref (b + adM 0 0)), (1, .int a1), (2, .int a2), (3, .int a3)] → W p l e rm_X12_firstFor s m args below meth c H locs 0 0 (MQ below (PiM D cy b z tx k) args s 0 0 (gA b 12 z)) (F0 m 45 ls []) := by
  intro a1 a2 a3 S H locs ls h hR hS hl
  have hx := C0.1
  have hb := C0.2.1
  unfold B_X12_firstFor_45 at h
  obtain ⟨x5, ex5⟩ : ∃ x5 : Int32, x5 = a3 + 1 := ⟨_, rfl⟩
  have h := h x5 ex5
  refine w_iinc (v0 := 1) (lv' := [(3, .int x5), (0, .ref (b + adM 0 0)), (1, .int a1), (2, .int a2)]) C0 dX12_firstFor_45 hl (k := 3) rfl (by decide) (by decide) x5 ex5 rfl (fun ls hl => ?_)
  refine lv_goto (tgt := 4) hx hb dX12_firstFor_48 (by decide) ?_
  exact ih4 a1 a2 x5 S _ _ _  h hR hS (lv_sub hl [1, 2, 3, 0] rfl)
def B_X12_firstFor_43 (kk4 : Int32 → Int32 → Int32 → sSt → Prop) (a1 : Int32) (a3 : Int32) (S : sSt) (k : Int32 → sSt → Prop) : Prop := B_X12_firstFor_45 kk4 a1 a3 a3 S k
set_option maxHeartbeats 4000000 in
set_option maxRecDepth 100000 in
theorem Bw_X12_firstFor_43 {p : Program} {l : Launch} {e : Env} {s : State} {m : MethodId} {args : Array Value} {below : List Frame} {meth : Method} {c : Code} {D : va_G} {cy : Nat → ClassId} {b z : Nat} {tx : TX} (C0 : CallFix p m c cX12_firstFor 4 s args TB RX12) (hr : meth.sig.returnType = (some .int)) (hlk : meth.locks = false) (hT : TxR tx s) {k : Int32 → sSt → Prop} {kk4 : Int32 → Int32 → Int32 → sSt → Prop} (ih4 : ∀ (a1 : Int32) (a2 : Int32) (a3 : Int32) (S : sSt) (H : Heap) (locs : List Loc) (ls : Array Slot) , kk4 a1 a2 a3 S → RelM D cy b z tx S s H → va_S (gA b 12 z) s.heap H locs → lv_has ls 4 [(0, .ref (b + adM 0 0)), (1, .int a1), (2, .int a2), (3, .int a3)] → W p l e rm_X12_firstFor s m args below meth c H locs 0 0 (MQ below (PiM D cy b z tx k) args s 0 0 (gA b 12 z)) (F0 m 4 ls [])) : ∀ (a1 : Int32) (a3 : Int32) (S : sSt) (H : Heap) (locs : List Loc) (ls : Array Slot) , B_X12_firstFor_43 kk4 a1 a3 S k → RelM D cy b z tx S s H → va_S (gA b 12 z) s.heap H locs → lv_has ls 4 [(0, .ref (b + adM 0 0)), (1, .int a1), (3, .int a3)] → W p l e rm_X12_firstFor s m args below meth c H locs 0 0 (MQ below (PiM D cy b z tx k) args s 0 0 (gA b 12 z)) (F0 m 43 ls []) := by
  intro a1 a3 S H locs ls h hR hS hl
  have hx := C0.1
  have hb := C0.2.1
  unfold B_X12_firstFor_43 at h
  refine lv_iload_n hx hb dX12_firstFor_43 rfl (lv_at hl 2 rfl) ?_
  refine lv_istore_n (lv' := [(2, .int a3), (0, .ref (b + adM 0 0)), (1, .int a1), (3, .int a3)]) hx hb dX12_firstFor_44 rfl hl (by decide) rfl (fun ls hl => ?_)
  exact Bw_X12_firstFor_45 C0 hr hlk hT ih4 a1 a3 a3 S _ _ _ h hR hS (lv_sub hl [1, 2, 0, 3] rfl)
def Bb_X12_firstFor_4 (kk4 : Int32 → Int32 → Int32 → sSt → Prop) (a1 : Int32) (a2 : Int32) (a3 : Int32) (S : sSt) (k : Int32 → sSt → Prop) : Prop := ((24 ≤ a3 → k a2 S) ∧ (¬ 24 ≤ a3 → F_X12_mayBeClaimed a3 a1 S (fun r2 S3 => ((r2 = 0 → B_X12_firstFor_45 kk4 a1 a2 a3 S3 k) ∧ (¬ r2 = 0 → F_X12_isAsAsked a3 a1 S3 (fun r6 S7 => ((r6 = 0 → B_X12_firstFor_45 kk4 a1 a2 a3 S7 k) ∧ (¬ r6 = 0 → ((a2 = (-1) → B_X12_firstFor_43 kk4 a1 a3 S7 k) ∧ (¬ a2 = (-1) → F_X12_isAhead a3 a2 a1 S7 (fun r10 S11 => ((r10 = 0 → B_X12_firstFor_45 kk4 a1 a2 a3 S11 k) ∧ (¬ r10 = 0 → B_X12_firstFor_43 kk4 a1 a3 S11 k)))))))))))))
set_option maxHeartbeats 4000000 in
set_option maxRecDepth 100000 in
theorem Bbw_X12_firstFor_4 {p : Program} {l : Launch} {e : Env} {s : State} {m : MethodId} {args : Array Value} {below : List Frame} {meth : Method} {c : Code} {D : va_G} {cy : Nat → ClassId} {b z : Nat} {tx : TX} (C0 : CallFix p m c cX12_firstFor 4 s args TB RX12) (hr : meth.sig.returnType = (some .int)) (hlk : meth.locks = false) (hT : TxR tx s) {k : Int32 → sSt → Prop} {kk4 : Int32 → Int32 → Int32 → sSt → Prop} (ih4 : ∀ (a1 : Int32) (a2 : Int32) (a3 : Int32) (S : sSt) (H : Heap) (locs : List Loc) (ls : Array Slot) , kk4 a1 a2 a3 S → RelM D cy b z tx S s H → va_S (gA b 12 z) s.heap H locs → lv_has ls 4 [(0, .ref (b + adM 0 0)), (1, .int a1), (2, .int a2), (3, .int a3)] → W p l e rm_X12_firstFor s m args below meth c H locs 0 0 (MQ below (PiM D cy b z tx k) args s 0 0 (gA b 12 z)) (F0 m 4 ls [])) : ∀ (a1 : Int32) (a2 : Int32) (a3 : Int32) (S : sSt) (H : Heap) (locs : List Loc) (ls : Array Slot) , Bb_X12_firstFor_4 kk4 a1 a2 a3 S k → RelM D cy b z tx S s H → va_S (gA b 12 z) s.heap H locs → lv_has ls 4 [(0, .ref (b + adM 0 0)), (1, .int a1), (2, .int a2), (3, .int a3)] → W p l e rm_X12_firstFor s m args below meth c H locs 0 0 (MQ below (PiM D cy b z tx k) args s 0 0 (gA b 12 z)) (F0 m 4 ls []) := by
  intro a1 a2 a3 S H locs ls h hR hS hl
  have hx := C0.1
  have hb := C0.2.1
  unfold Bb_X12_firstFor_4 at h
  refine lv_iload_n hx hb dX12_firstFor_4 rfl (lv_at hl 3 rfl) ?_
  refine lv_bipush (v := 24) hx hb dX12_firstFor_5 (by decide) ?_
  refine lv_icmp_ge (tgt := 51) hx hb dX12_firstFor_7 (by decide) (fun c1 => ?_) (fun c1 => ?_)
  · have h := h.1 c1
    refine lv_iload_n hx hb dX12_firstFor_51 rfl (lv_at hl 2 rfl) ?_
    exact rtM_i C0 hr hlk hR hS h dX12_firstFor_52
  · have h := h.2 c1
    refine lv_aload_n hx hb dX12_firstFor_10 rfl (lv_at hl 0 rfl) ?_
    refine lv_iload_n hx hb dX12_firstFor_11 rfl (lv_at hl 3 rfl) ?_
    refine lv_iload_n hx hb dX12_firstFor_12 rfl (lv_at hl 1 rfl) ?_
    refine qM_Vi (As := [.int a3, .int a1]) (rest := []) C0 (c_X12_mayBeClaimed l h) (cwV 2 C0.2.2.2.2 (tbV mM5_8_163 ⟨mM5_8_165, mpM5_5_4, mM5_1_11, mM5_8_166⟩) rfl rfl rfl (by decide +kernel) ⟨Nat.le_of_ble_eq_true rfl, Nat.le_of_ble_eq_true rfl⟩) (rcM_0 hR Nat.zero_lt_one) hR hT hS rfl hl.1 rfl (Nat.le_of_ble_eq_true rfl) dX12_firstFor_13 ⟨Nat.zero_le _, Nat.zero_le _⟩ (fun r2 S3 H locs h hR hS => ?_)
    refine lv_if_eq (tgt := 45) hx hb dX12_firstFor_16 (by decide) (fun c4 => ?_) (fun c4 => ?_)
    · have h := h.1 c4
      exact Bw_X12_firstFor_45 C0 hr hlk hT ih4 a1 a2 a3 S3 _ _ _ h hR hS (lv_sub hl [0, 1, 2, 3] rfl)
    · have h := h.2 c4
      refine lv_aload_n hx hb dX12_firstFor_19 rfl (lv_at hl 0 rfl) ?_
      refine lv_iload_n hx hb dX12_firstFor_20 rfl (lv_at hl 3 rfl) ?_
      refine lv_iload_n hx hb dX12_firstFor_21 rfl (lv_at hl 1 rfl) ?_
      refine qM_Vi (As := [.int a3, .int a1]) (rest := []) C0 (c_X12_isAsAsked l h) (cwV 2 C0.2.2.2.2 (tbV mM5_8_195 ⟨mM5_8_197, mpM5_5_12, mM5_1_11, mM5_8_198⟩) rfl rfl rfl (by decide +kernel) ⟨Nat.le_of_ble_eq_true rfl, Nat.le_of_ble_eq_true rfl⟩) (rcM_0 hR Nat.zero_lt_one) hR hT hS rfl hl.1 rfl (Nat.le_of_ble_eq_true rfl) dX12_firstFor_22 ⟨Nat.zero_le _, Nat.zero_le _⟩ (fun r6 S7 H locs h hR hS => ?_)
      refine lv_if_eq (tgt := 45) hx hb dX12_firstFor_25 (by decide) (fun c8 => ?_) (fun c8 => ?_)
      · have h := h.1 c8
        exact Bw_X12_firstFor_45 C0 hr hlk hT ih4 a1 a2 a3 S7 _ _ _ h hR hS (lv_sub hl [0, 1, 2, 3] rfl)
      · have h := h.2 c8
        refine lv_iload_n hx hb dX12_firstFor_28 rfl (lv_at hl 2 rfl) ?_
        refine lv_iconst (v := (-1)) hx hb dX12_firstFor_29 (by decide) ?_
        refine lv_icmp_eq (tgt := 43) hx hb dX12_firstFor_30 (by decide) (fun c9 => ?_) (fun c9 => ?_)
        · have h := h.1 c9
          exact Bw_X12_firstFor_43 C0 hr hlk hT ih4 a1 a3 S7 _ _ _ h hR hS (lv_sub hl [0, 1, 3] rfl)
        · have h := h.2 c9
          refine lv_aload_n hx hb dX12_firstFor_33 rfl (lv_at hl 0 rfl) ?_
          refine lv_iload_n hx hb dX12_firstFor_34 rfl (lv_at hl 3 rfl) ?_
          refine lv_iload_n hx hb dX12_firstFor_35 rfl (lv_at hl 2 rfl) ?_
          refine lv_iload_n hx hb dX12_firstFor_36 rfl (lv_at hl 1 rfl) ?_
          refine qM_Vi (As := [.int a3, .int a2, .int a1]) (rest := []) C0 (c_X12_isAhead l h) (cwV 3 C0.2.2.2.2 (tbV mM5_8_203 ⟨mM5_8_205, mpM5_5_14, mM5_1_11, mM5_8_206⟩) rfl rfl rfl (by decide +kernel) ⟨Nat.le_of_ble_eq_true rfl, Nat.le_of_ble_eq_true rfl⟩) (rcM_0 hR Nat.zero_lt_one) hR hT hS rfl hl.1 rfl (Nat.le_of_ble_eq_true rfl) dX12_firstFor_37 ⟨Nat.zero_le _, Nat.zero_le _⟩ (fun r10 S11 H locs h hR hS => ?_)
          refine lv_if_eq (tgt := 45) hx hb dX12_firstFor_40 (by decide) (fun c12 => ?_) (fun c12 => ?_)
          · have h := h.1 c12
            exact Bw_X12_firstFor_45 C0 hr hlk hT ih4 a1 a2 a3 S11 _ _ _ h hR hS (lv_sub hl [0, 1, 2, 3] rfl)
          · have h := h.2 c12
            exact Bw_X12_firstFor_43 C0 hr hlk hT ih4 a1 a3 S11 _ _ _ h hR hS (lv_sub hl [0, 1, 3] rfl)
def B_X12_firstFor_4 (n9 : Nat) (a1 : Int32) (a2 : Int32) (a3 : Int32) (S : sSt) (k : Int32 → sSt → Prop) : Prop := (Nat.rec (motive := fun _ => Int32 → Int32 → Int32 → sSt → Prop) (fun _ _ _ _ => False) (fun _ r9 => fun a1 a2 a3 S => Bb_X12_firstFor_4 r9 a1 a2 a3 S k) n9 : Int32 → Int32 → Int32 → sSt → Prop) a1 a2 a3 S
theorem B_X12_firstFor_4_s (n9 : Nat) (a1 : Int32) (a2 : Int32) (a3 : Int32) (S : sSt) (k : Int32 → sSt → Prop) : B_X12_firstFor_4 (n9 + 1) a1 a2 a3 S k = Bb_X12_firstFor_4 (fun a1 a2 a3 S => B_X12_firstFor_4 n9 a1 a2 a3 S k) a1 a2 a3 S k := rfl
set_option maxHeartbeats 4000000 in
set_option maxRecDepth 100000 in
theorem Bw_X12_firstFor_4 {p : Program} {l : Launch} {e : Env} {s : State} {m : MethodId} {args : Array Value} {below : List Frame} {meth : Method} {c : Code} {D : va_G} {cy : Nat → ClassId} {b z : Nat} {tx : TX} (C0 : CallFix p m c cX12_firstFor 4 s args TB RX12) (hr : meth.sig.returnType = (some .int)) (hlk : meth.locks = false) (hT : TxR tx s) {k : Int32 → sSt → Prop} : ∀ (n9 : Nat), ∀ (a1 : Int32) (a2 : Int32) (a3 : Int32) (S : sSt) (H : Heap) (locs : List Loc) (ls : Array Slot) , B_X12_firstFor_4 n9 a1 a2 a3 S k → RelM D cy b z tx S s H → va_S (gA b 12 z) s.heap H locs → lv_has ls 4 [(0, .ref (b + adM 0 0)), (1, .int a1), (2, .int a2), (3, .int a3)] → W p l e rm_X12_firstFor s m args below meth c H locs 0 0 (MQ below (PiM D cy b z tx k) args s 0 0 (gA b 12 z)) (F0 m 4 ls []) := by
  intro n9
  induction n9 with
  | zero => intro a1 a2 a3 S H locs ls h; exact h.elim
  | succ n9 ih =>
    intro a1 a2 a3 S H locs ls h hR hS hl
    exact Bbw_X12_firstFor_4 C0 hr hlk hT ih a1 a2 a3 S H locs ls h hR hS hl
def F_X12_firstFor (a1 : Int32) (S : sSt) (k : Int32 → sSt → Prop) : Prop := B_X12_firstFor_4 fuel a1 (-1) 0 S k
set_option maxHeartbeats 4000000 in
set_option maxRecDepth 100000 in
theorem c_X12_firstFor (l : Launch) {D : va_G} {cy : Nat → ClassId} {b z : Nat} {tx : TX} {a1 : Int32} {S : sSt} {k : Int32 → sSt → Prop} (h : F_X12_firstFor a1 S k) : Met l yX12_firstFor (Cond.code yX12_firstFor cX12_firstFor 4 (some .int) :: TB) rm_X12_firstFor (va_Pc [.ref (b + adM 0 0), .int a1] (fun U => RelM D cy b z tx S U U.heap ∧ TxR tx U)) (PiM D cy b z tx k) 0 0 (gA b 12 z) := by
  refine Met.ofW (cc := cX12_firstFor) (maxL := 4) (ret := (some .int)) (by decide) rfl ?_
  intro p e s m args below meth c s₁ B hml hv
  obtain ⟨rfl, hR, hT⟩ := hv
  have C0 : CallFix p m c cX12_firstFor 4 s _ TB RX12 := ⟨B.exec, B.bytes, hml, findClass_of_methodNamed B.named, fun w hw => atoms_spec B.pre w (List.mem_cons_of_mem _ hw)⟩
  have hr := B.returns
  have hlk := B.notSynchronized
  have hx := C0.1
  have hb := C0.2.1
  have hS : va_S (gA b 12 z) s.heap s.heap [] := va_S.rf
  have hl := lv_entry ([.ref (b + adM 0 0), .int a1]) (n := 4) (Nat.le_of_ble_eq_true rfl)
  rw [lg_entry_eq]
  generalize (lg_sl ([.ref (b + adM 0 0), .int a1]) ++ List.replicate (4 - (lg_sl ([.ref (b + adM 0 0), .int a1])).length) Slot.unset).toArray = ls at hl ⊢
  have hl : lv_has ls 4 [(0, .ref (b + adM 0 0)), (1, .int a1)] := hl
  show W p l e rm_X12_firstFor s m _ below meth c s.heap [] 0 0 (MQ below (PiM D cy b z tx k) _ s 0 0 (gA b 12 z)) _
  unfold F_X12_firstFor at h
  refine lv_iconst (v := (-1)) hx hb dX12_firstFor_0 (by decide) ?_
  refine lv_istore_n (lv' := [(2, .int (-1)), (0, .ref (b + adM 0 0)), (1, .int a1)]) hx hb dX12_firstFor_1 rfl hl (by decide) rfl (fun ls hl => ?_)
  refine lv_iconst (v := 0) hx hb dX12_firstFor_2 (by decide) ?_
  refine lv_istore_n (lv' := [(3, .int 0), (2, .int (-1)), (0, .ref (b + adM 0 0)), (1, .int a1)]) hx hb dX12_firstFor_3 rfl hl (by decide) rfl (fun ls hl => ?_)
  exact Bw_X12_firstFor_4 C0 hr hlk hT fuel a1 (-1) 0 S _ _ _ h hR hS (lv_sub hl [2, 3, 1, 0] rfl)

def rm_X12_claims : Room := { frames := 8, cells := 0, slots := 0, locals := 177 }
def Bb_X12_claims_20 (kk20 : Int32 → Int32 → Int32 → Int32 → sSt → Prop) (a1 : Int32) (a2 : Int32) (a3 : Int32) (a4 : Int32) (S : sSt) (k : Int32 → sSt → Prop) : Prop := ((a4 = (-1) → k a2 S) ∧ (¬ a4 = (-1) → ((a3 ≤ a2 → k a2 S) ∧ (¬ a3 ≤ a2 → F_X12_locks a4 a1 S (fun r9 S10 => ∀ S11, S11 = uI S10 1 0 5 ((S10.1 1 0 5) + 1) → ix (r9 + 3) 10421 (fun j12 => ∀ S13, S13 = uI S11 1 0 j12 1 → ix (r9 + 9) 10421 (fun j14 => ∀ S15, S15 = uI S13 1 0 j14 a1 → ix (r9 + 8) 10421 (fun j16 => ∀ S17, S17 = uI S15 1 0 j16 (S15.1 1 0 5) → ix (r9 + 10) 10421 (fun j18 => ∀ S19, S19 = uI S17 1 0 j18 ((S17.1 1 0 3) + (S17.1 1 0 9)) → F_X12_sessionAt a1 1 S19 (fun r20 S21 => ix (r9 + 0) 10421 (fun j22 => ix r20 10421 (fun j23 => ∀ S24, S24 = uI S21 1 0 j23 (S21.1 1 0 j22) → ix a2 6 (fun j25 => ∀ S26, S26 = uI S24 8 0 j25 a4 → ∀ x27 : Int32, x27 = a2 + 1 → F_X12_firstFor a1 S26 (fun r28 S29 => kk20 a1 x27 a3 r28 S29))))))))))))))
set_option maxHeartbeats 4000000 in
set_option maxRecDepth 100000 in
theorem Bbw_X12_claims_20 {p : Program} {l : Launch} {e : Env} {s : State} {m : MethodId} {args : Array Value} {below : List Frame} {meth : Method} {c : Code} {D : va_G} {cy : Nat → ClassId} {b z : Nat} {tx : TX} (C0 : CallFix p m c cX12_claims 6 s args TB RX12) (hr : meth.sig.returnType = (some .int)) (hlk : meth.locks = false) (hT : TxR tx s) {k : Int32 → sSt → Prop} {kk20 : Int32 → Int32 → Int32 → Int32 → sSt → Prop} (ih20 : ∀ (a1 : Int32) (a2 : Int32) (a3 : Int32) (a4 : Int32) (S : sSt) (H : Heap) (locs : List Loc) (ls : Array Slot) , kk20 a1 a2 a3 a4 S → RelM D cy b z tx S s H → va_S (gA b 12 z) s.heap H locs → lv_has ls 6 [(0, .ref (b + adM 0 0)), (1, .int a1), (2, .int a2), (3, .int a3), (4, .int a4)] → W p l e rm_X12_claims s m args below meth c H locs 0 0 (MQ below (PiM D cy b z tx k) args s 0 0 (gA b 12 z)) (F0 m 20 ls [])) : ∀ (a1 : Int32) (a2 : Int32) (a3 : Int32) (a4 : Int32) (S : sSt) (H : Heap) (locs : List Loc) (ls : Array Slot) , Bb_X12_claims_20 kk20 a1 a2 a3 a4 S k → RelM D cy b z tx S s H → va_S (gA b 12 z) s.heap H locs → lv_has ls 6 [(0, .ref (b + adM 0 0)), (1, .int a1), (2, .int a2), (3, .int a3), (4, .int a4)] → W p l e rm_X12_claims s m args below meth c H locs 0 0 (MQ below (PiM D cy b z tx k) args s 0 0 (gA b 12 z)) (F0 m 20 ls []) := by
  intro a1 a2 a3 a4 S H locs ls h hR hS hl
  have hx := C0.1
  have hb := C0.2.1
  unfold Bb_X12_claims_20 at h
  refine lv_iload hx hb dX12_claims_20 (lv_at hl 4 rfl) ?_
  refine lv_iconst (v := (-1)) hx hb dX12_claims_22 (by decide) ?_
  refine lv_icmp_eq (tgt := 151) hx hb dX12_claims_23 (by decide) (fun c7 => ?_) (fun c7 => ?_)
  · have h := h.1 c7
    refine lv_iload_n hx hb dX12_claims_151 rfl (lv_at hl 2 rfl) ?_
    exact rtM_i C0 hr hlk hR hS h dX12_claims_152
  · have h := h.2 c7
    refine lv_iload_n hx hb dX12_claims_26 rfl (lv_at hl 2 rfl) ?_
    refine lv_iload_n hx hb dX12_claims_27 rfl (lv_at hl 3 rfl) ?_
    refine lv_icmp_ge (tgt := 151) hx hb dX12_claims_28 (by decide) (fun c8 => ?_) (fun c8 => ?_)
    · have h := h.1 c8
      refine lv_iload_n hx hb dX12_claims_151 rfl (lv_at hl 2 rfl) ?_
      exact rtM_i C0 hr hlk hR hS h dX12_claims_152
    · have h := h.2 c8
      refine lv_aload_n hx hb dX12_claims_31 rfl (lv_at hl 0 rfl) ?_
      refine lv_iload hx hb dX12_claims_32 (lv_at hl 4 rfl) ?_
      refine lv_iload_n hx hb dX12_claims_34 rfl (lv_at hl 1 rfl) ?_
      refine qM_Vi (As := [.int a4, .int a1]) (rest := []) C0 (c_X12_locks l h) (cwV 2 C0.2.2.2.2 (tbV mM5_8_207 ⟨mM5_8_209, mpM5_5_15, mM5_1_11, mM5_8_210⟩) rfl rfl rfl (by decide +kernel) ⟨Nat.le_of_ble_eq_true rfl, Nat.le_of_ble_eq_true rfl⟩) (rcM_0 hR Nat.zero_lt_one) hR hT hS rfl hl.1 rfl (Nat.le_of_ble_eq_true rfl) dX12_claims_35 ⟨Nat.zero_le _, Nat.zero_le _⟩ (fun r9 S10 H locs h hR hS => ?_)
      refine lv_istore (lv' := [(5, .int r9), (0, .ref (b + adM 0 0)), (1, .int a1), (2, .int a2), (3, .int a3), (4, .int a4)]) hx hb dX12_claims_38 hl (by decide) rfl (fun ls hl => ?_)
      refine lv_aload_n hx hb dX12_claims_40 rfl (lv_at hl 1 rfl) ?_
      refine gM_0_2 C0 hR Nat.zero_lt_one tbs_wsX120 mM5_7_79 dX12_claims_41 ?_
      refine lv_iconst (v := 5) hx hb dX12_claims_44 (by decide) ?_
      refine lv_dup2_11 hx hb dX12_claims_45 rfl rfl ?_
      refine lM_1 C0 hR Nat.zero_lt_one (by decide) rfl dX12_claims_46 ?_
      refine lv_iconst (v := 1) hx hb dX12_claims_47 (by decide) ?_
      refine lv_iadd hx hb dX12_claims_48 ?_
      refine sM_1 C0 hR hS Nat.zero_lt_one (by decide) rfl dX12_claims_49 (fun S11 eS11 H locs hR hS => ?_)
      have h := h S11 eS11
      refine lv_aload_n hx hb dX12_claims_50 rfl (lv_at hl 1 rfl) ?_
      refine gM_0_2 C0 hR Nat.zero_lt_one tbs_wsX120 mM5_7_79 dX12_claims_51 ?_
      refine lv_iload hx hb dX12_claims_54 (lv_at hl 0 rfl) ?_
      refine lv_iconst (v := 3) hx hb dX12_claims_56 (by decide) ?_
      refine lv_iadd hx hb dX12_claims_57 ?_
      refine lv_iconst (v := 1) hx hb dX12_claims_58 (by decide) ?_
      obtain ⟨j12, hj12, ej12, h⟩ := h
      refine sM_1 C0 hR hS Nat.zero_lt_one hj12 ej12 dX12_claims_59 (fun S13 eS13 H locs hR hS => ?_)
      have h := h S13 eS13
      refine lv_aload_n hx hb dX12_claims_60 rfl (lv_at hl 1 rfl) ?_
      refine gM_0_2 C0 hR Nat.zero_lt_one tbs_wsX120 mM5_7_79 dX12_claims_61 ?_
      refine lv_iload hx hb dX12_claims_64 (lv_at hl 0 rfl) ?_
      refine lv_bipush (v := 9) hx hb dX12_claims_66 (by decide) ?_
      refine lv_iadd hx hb dX12_claims_68 ?_
      refine lv_iload_n hx hb dX12_claims_69 rfl (lv_at hl 2 rfl) ?_
      obtain ⟨j14, hj14, ej14, h⟩ := h
      refine sM_1 C0 hR hS Nat.zero_lt_one hj14 ej14 dX12_claims_70 (fun S15 eS15 H locs hR hS => ?_)
      have h := h S15 eS15
      refine lv_aload_n hx hb dX12_claims_71 rfl (lv_at hl 1 rfl) ?_
      refine gM_0_2 C0 hR Nat.zero_lt_one tbs_wsX120 mM5_7_79 dX12_claims_72 ?_
      refine lv_iload hx hb dX12_claims_75 (lv_at hl 0 rfl) ?_
      refine lv_bipush (v := 8) hx hb dX12_claims_77 (by decide) ?_
      refine lv_iadd hx hb dX12_claims_79 ?_
      refine lv_aload_n hx hb dX12_claims_80 rfl (lv_at hl 1 rfl) ?_
      refine gM_0_2 C0 hR Nat.zero_lt_one tbs_wsX120 mM5_7_79 dX12_claims_81 ?_
      refine lv_iconst (v := 5) hx hb dX12_claims_84 (by decide) ?_
      refine lM_1 C0 hR Nat.zero_lt_one (by decide) rfl dX12_claims_85 ?_
      obtain ⟨j16, hj16, ej16, h⟩ := h
      refine sM_1 C0 hR hS Nat.zero_lt_one hj16 ej16 dX12_claims_86 (fun S17 eS17 H locs hR hS => ?_)
      have h := h S17 eS17
      refine lv_aload_n hx hb dX12_claims_87 rfl (lv_at hl 1 rfl) ?_
      refine gM_0_2 C0 hR Nat.zero_lt_one tbs_wsX120 mM5_7_79 dX12_claims_88 ?_
      refine lv_iload hx hb dX12_claims_91 (lv_at hl 0 rfl) ?_
      refine lv_bipush (v := 10) hx hb dX12_claims_93 (by decide) ?_
      refine lv_iadd hx hb dX12_claims_95 ?_
      refine lv_aload_n hx hb dX12_claims_96 rfl (lv_at hl 1 rfl) ?_
      refine gM_0_2 C0 hR Nat.zero_lt_one tbs_wsX120 mM5_7_79 dX12_claims_97 ?_
      refine lv_iconst (v := 3) hx hb dX12_claims_100 (by decide) ?_
      refine lM_1 C0 hR Nat.zero_lt_one (by decide) rfl dX12_claims_101 ?_
      refine lv_aload_n hx hb dX12_claims_102 rfl (lv_at hl 1 rfl) ?_
      refine gM_0_2 C0 hR Nat.zero_lt_one tbs_wsX120 mM5_7_79 dX12_claims_103 ?_
      refine lv_bipush (v := 9) hx hb dX12_claims_106 (by decide) ?_
      refine lM_1 C0 hR Nat.zero_lt_one (by decide) rfl dX12_claims_108 ?_
      refine lv_iadd hx hb dX12_claims_109 ?_
      obtain ⟨j18, hj18, ej18, h⟩ := h
      refine sM_1 C0 hR hS Nat.zero_lt_one hj18 ej18 dX12_claims_110 (fun S19 eS19 H locs hR hS => ?_)
      have h := h S19 eS19
      refine lv_aload_n hx hb dX12_claims_111 rfl (lv_at hl 1 rfl) ?_
      refine gM_0_2 C0 hR Nat.zero_lt_one tbs_wsX120 mM5_7_79 dX12_claims_112 ?_
      refine lv_iload_n hx hb dX12_claims_115 rfl (lv_at hl 2 rfl) ?_
      refine lv_iconst (v := 1) hx hb dX12_claims_116 (by decide) ?_
      refine qM_Si (As := [.int a1, .int 1]) (rest := [.ref (b + adM 1 0)]) C0 (c_X12_sessionAt l h) (va_cwS 2 C0.2.2.2.2 (tbS mM5_7_233 ⟨mM5_7_234, mM5_1_11, mM5_7_235⟩) rfl rfl rfl (by decide +kernel) ⟨Nat.le_of_ble_eq_true rfl, Nat.le_of_ble_eq_true rfl⟩) hR hT hS rfl hl.1 rfl (Nat.le_of_ble_eq_true rfl) dX12_claims_117 ⟨Nat.zero_le _, Nat.zero_le _⟩ (fun r20 S21 H locs h hR hS => ?_)
      refine lv_aload_n hx hb dX12_claims_120 rfl (lv_at hl 1 rfl) ?_
      refine gM_0_2 C0 hR Nat.zero_lt_one tbs_wsX120 mM5_7_79 dX12_claims_121 ?_
      refine lv_iload hx hb dX12_claims_124 (lv_at hl 0 rfl) ?_
      refine lv_iconst (v := 0) hx hb dX12_claims_126 (by decide) ?_
      refine lv_iadd hx hb dX12_claims_127 ?_
      obtain ⟨j22, hj22, ej22, h⟩ := h
      refine lM_1 C0 hR Nat.zero_lt_one hj22 ej22 dX12_claims_128 ?_
      obtain ⟨j23, hj23, ej23, h⟩ := h
      refine sM_1 C0 hR hS Nat.zero_lt_one hj23 ej23 dX12_claims_129 (fun S24 eS24 H locs hR hS => ?_)
      have h := h S24 eS24
      refine lv_aload_n hx hb dX12_claims_130 rfl (lv_at hl 1 rfl) ?_
      refine gM_0_15 C0 hR Nat.zero_lt_one tbs_wsX120 mM5_7_92 dX12_claims_131 ?_
      refine lv_iload_n hx hb dX12_claims_134 rfl (lv_at hl 3 rfl) ?_
      refine lv_iload hx hb dX12_claims_135 (lv_at hl 5 rfl) ?_
      obtain ⟨j25, hj25, ej25, h⟩ := h
      refine sM_8 C0 hR hS Nat.zero_lt_one hj25 ej25 dX12_claims_137 (fun S26 eS26 H locs hR hS => ?_)
      have h := h S26 eS26
      obtain ⟨x27, ex27⟩ : ∃ x27 : Int32, x27 = a2 + 1 := ⟨_, rfl⟩
      have h := h x27 ex27
      refine w_iinc (v0 := 1) (lv' := [(2, .int x27), (5, .int r9), (0, .ref (b + adM 0 0)), (1, .int a1), (3, .int a3), (4, .int a4)]) C0 dX12_claims_138 hl (k := 3) rfl (by decide) (by decide) x27 ex27 rfl (fun ls hl => ?_)
      refine lv_aload_n hx hb dX12_claims_141 rfl (lv_at hl 2 rfl) ?_
      refine lv_iload_n hx hb dX12_claims_142 rfl (lv_at hl 3 rfl) ?_
      refine qM_Vi (As := [.int a1]) (rest := []) C0 (c_X12_firstFor l h) (cwV 1 C0.2.2.2.2 (tbV mM5_8_159 ⟨mM5_8_161, mpM5_5_3, mM5_1_11, mM5_8_162⟩) rfl rfl rfl (by decide +kernel) ⟨Nat.le_of_ble_eq_true rfl, Nat.le_of_ble_eq_true rfl⟩) (rcM_0 hR Nat.zero_lt_one) hR hT hS rfl hl.1 rfl (Nat.le_of_ble_eq_true rfl) dX12_claims_143 ⟨Nat.zero_le _, Nat.zero_le _⟩ (fun r28 S29 H locs h hR hS => ?_)
      refine lv_istore (lv' := [(4, .int r28), (2, .int x27), (5, .int r9), (0, .ref (b + adM 0 0)), (1, .int a1), (3, .int a3)]) hx hb dX12_claims_146 hl (by decide) rfl (fun ls hl => ?_)
      refine lv_goto (tgt := 20) hx hb dX12_claims_148 (by decide) ?_
      exact ih20 a1 x27 a3 r28 S29 _ _ _  h hR hS (lv_sub hl [3, 4, 1, 5, 0] rfl)
def B_X12_claims_20 (n9 : Nat) (a1 : Int32) (a2 : Int32) (a3 : Int32) (a4 : Int32) (S : sSt) (k : Int32 → sSt → Prop) : Prop := (Nat.rec (motive := fun _ => Int32 → Int32 → Int32 → Int32 → sSt → Prop) (fun _ _ _ _ _ => False) (fun _ r9 => fun a1 a2 a3 a4 S => Bb_X12_claims_20 r9 a1 a2 a3 a4 S k) n9 : Int32 → Int32 → Int32 → Int32 → sSt → Prop) a1 a2 a3 a4 S
theorem B_X12_claims_20_s (n9 : Nat) (a1 : Int32) (a2 : Int32) (a3 : Int32) (a4 : Int32) (S : sSt) (k : Int32 → sSt → Prop) : B_X12_claims_20 (n9 + 1) a1 a2 a3 a4 S k = Bb_X12_claims_20 (fun a1 a2 a3 a4 S => B_X12_claims_20 n9 a1 a2 a3 a4 S k) a1 a2 a3 a4 S k := rfl
set_option maxHeartbeats 4000000 in
set_option maxRecDepth 100000 in
theorem Bw_X12_claims_20 {p : Program} {l : Launch} {e : Env} {s : State} {m : MethodId} {args : Array Value} {below : List Frame} {meth : Method} {c : Code} {D : va_G} {cy : Nat → ClassId} {b z : Nat} {tx : TX} (C0 : CallFix p m c cX12_claims 6 s args TB RX12) (hr : meth.sig.returnType = (some .int)) (hlk : meth.locks = false) (hT : TxR tx s) {k : Int32 → sSt → Prop} : ∀ (n9 : Nat), ∀ (a1 : Int32) (a2 : Int32) (a3 : Int32) (a4 : Int32) (S : sSt) (H : Heap) (locs : List Loc) (ls : Array Slot) , B_X12_claims_20 n9 a1 a2 a3 a4 S k → RelM D cy b z tx S s H → va_S (gA b 12 z) s.heap H locs → lv_has ls 6 [(0, .ref (b + adM 0 0)), (1, .int a1), (2, .int a2), (3, .int a3), (4, .int a4)] → W p l e rm_X12_claims s m args below meth c H locs 0 0 (MQ below (PiM D cy b z tx k) args s 0 0 (gA b 12 z)) (F0 m 20 ls []) := by
  intro n9
  induction n9 with
  | zero => intro a1 a2 a3 a4 S H locs ls h; exact h.elim
  | succ n9 ih =>
    intro a1 a2 a3 a4 S H locs ls h hR hS hl
    exact Bbw_X12_claims_20 C0 hr hlk hT ih a1 a2 a3 a4 S H locs ls h hR hS hl
def F_X12_claims (a1 : Int32) (S : sSt) (k : Int32 → sSt → Prop) : Prop := F_X12_sessionAt a1 4 S (fun r1 S2 => ix r1 10421 (fun j3 => ∀ x4 : Int32, x4 = (S2.1 1 0 j3) → F_X12_firstFor a1 S2 (fun r5 S6 => B_X12_claims_20 fuel a1 0 x4 r5 S6 k)))
set_option maxHeartbeats 4000000 in
set_option maxRecDepth 100000 in
theorem c_X12_claims (l : Launch) {D : va_G} {cy : Nat → ClassId} {b z : Nat} {tx : TX} {a1 : Int32} {S : sSt} {k : Int32 → sSt → Prop} (h : F_X12_claims a1 S k) : Met l yX12_claims (Cond.code yX12_claims cX12_claims 6 (some .int) :: TB) rm_X12_claims (va_Pc [.ref (b + adM 0 0), .int a1] (fun U => RelM D cy b z tx S U U.heap ∧ TxR tx U)) (PiM D cy b z tx k) 0 0 (gA b 12 z) := by
  refine Met.ofW (cc := cX12_claims) (maxL := 6) (ret := (some .int)) (by decide) rfl ?_
  intro p e s m args below meth c s₁ B hml hv
  obtain ⟨rfl, hR, hT⟩ := hv
  have C0 : CallFix p m c cX12_claims 6 s _ TB RX12 := ⟨B.exec, B.bytes, hml, findClass_of_methodNamed B.named, fun w hw => atoms_spec B.pre w (List.mem_cons_of_mem _ hw)⟩
  have hr := B.returns
  have hlk := B.notSynchronized
  have hx := C0.1
  have hb := C0.2.1
  have hS : va_S (gA b 12 z) s.heap s.heap [] := va_S.rf
  have hl := lv_entry ([.ref (b + adM 0 0), .int a1]) (n := 6) (Nat.le_of_ble_eq_true rfl)
  rw [lg_entry_eq]
  generalize (lg_sl ([.ref (b + adM 0 0), .int a1]) ++ List.replicate (6 - (lg_sl ([.ref (b + adM 0 0), .int a1])).length) Slot.unset).toArray = ls at hl ⊢
  have hl : lv_has ls 6 [(0, .ref (b + adM 0 0)), (1, .int a1)] := hl
  show W p l e rm_X12_claims s m _ below meth c s.heap [] 0 0 (MQ below (PiM D cy b z tx k) _ s 0 0 (gA b 12 z)) _
  unfold F_X12_claims at h
  refine lv_iconst (v := 0) hx hb dX12_claims_0 (by decide) ?_
  refine lv_istore_n (lv' := [(2, .int 0), (0, .ref (b + adM 0 0)), (1, .int a1)]) hx hb dX12_claims_1 rfl hl (by decide) rfl (fun ls hl => ?_)
  refine lv_aload_n hx hb dX12_claims_2 rfl (lv_at hl 1 rfl) ?_
  refine gM_0_2 C0 hR Nat.zero_lt_one tbs_wsX120 mM5_7_79 dX12_claims_3 ?_
  refine lv_iload_n hx hb dX12_claims_6 rfl (lv_at hl 2 rfl) ?_
  refine lv_iconst (v := 4) hx hb dX12_claims_7 (by decide) ?_
  refine qM_Si (As := [.int a1, .int 4]) (rest := [.ref (b + adM 1 0)]) C0 (c_X12_sessionAt l h) (va_cwS 2 C0.2.2.2.2 (tbS mM5_7_233 ⟨mM5_7_234, mM5_1_11, mM5_7_235⟩) rfl rfl rfl (by decide +kernel) ⟨Nat.le_of_ble_eq_true rfl, Nat.le_of_ble_eq_true rfl⟩) hR hT hS rfl hl.1 rfl (Nat.le_of_ble_eq_true rfl) dX12_claims_8 ⟨Nat.zero_le _, Nat.zero_le _⟩ (fun r1 S2 H locs h hR hS => ?_)
  obtain ⟨j3, hj3, ej3, h⟩ := h
  refine lM_1 C0 hR Nat.zero_lt_one hj3 ej3 dX12_claims_11 ?_
  refine lv_topi (fun x4 ex4 => ?_)
  have h := h x4 ex4
  refine lv_istore_n (lv' := [(3, .int x4), (2, .int 0), (0, .ref (b + adM 0 0)), (1, .int a1)]) hx hb dX12_claims_12 rfl hl (by decide) rfl (fun ls hl => ?_)
  refine lv_aload_n hx hb dX12_claims_13 rfl (lv_at hl 2 rfl) ?_
  refine lv_iload_n hx hb dX12_claims_14 rfl (lv_at hl 3 rfl) ?_
  refine qM_Vi (As := [.int a1]) (rest := []) C0 (c_X12_firstFor l h) (cwV 1 C0.2.2.2.2 (tbV mM5_8_159 ⟨mM5_8_161, mpM5_5_3, mM5_1_11, mM5_8_162⟩) rfl rfl rfl (by decide +kernel) ⟨Nat.le_of_ble_eq_true rfl, Nat.le_of_ble_eq_true rfl⟩) (rcM_0 hR Nat.zero_lt_one) hR hT hS rfl hl.1 rfl (Nat.le_of_ble_eq_true rfl) dX12_claims_15 ⟨Nat.zero_le _, Nat.zero_le _⟩ (fun r5 S6 H locs h hR hS => ?_)
  refine lv_istore (lv' := [(4, .int r5), (3, .int x4), (2, .int 0), (0, .ref (b + adM 0 0)), (1, .int a1)]) hx hb dX12_claims_18 hl (by decide) rfl (fun ls hl => ?_)
  exact Bw_X12_claims_20 C0 hr hlk hT fuel a1 0 x4 r5 S6 _ _ _ h hR hS (lv_sub hl [3, 4, 2, 1, 0] rfl)

def rm_X12_claim : Room := { frames := 9, cells := 0, slots := 0, locals := 202 }
def F_X12_claim (a1 : Int32) (S : sSt) (k : Int32 → sSt → Prop) : Prop := ∀ S1, S1 = uI S 0 0 0 0 → F_X12_noSession a1 S1 (fun r2 S3 => F_X12_throwsIf r2 1 S3 (fun r4 S5 => ((r4 = 0 → F_X12_claims a1 S5 (fun r7 S8 => F_X12_isDone a1 S8 (fun S10 => k r7 S10))) ∧ (¬ r4 = 0 → k 0 S5))))
set_option maxHeartbeats 4000000 in
set_option maxRecDepth 100000 in
theorem c_X12_claim (l : Launch) {D : va_G} {cy : Nat → ClassId} {b z : Nat} {tx : TX} {a1 : Int32} {S : sSt} {k : Int32 → sSt → Prop} (h : F_X12_claim a1 S k) : Met l yX12_claim (Cond.code yX12_claim cX12_claim 3 (some .int) :: TB) rm_X12_claim (va_Pc [.ref (b + adM 0 0), .int a1] (fun U => RelM D cy b z tx S U U.heap ∧ TxR tx U)) (PiM D cy b z tx k) 0 0 (gA b 12 z) := by
  refine Met.ofW (cc := cX12_claim) (maxL := 3) (ret := (some .int)) (by decide) rfl ?_
  intro p e s m args below meth c s₁ B hml hv
  obtain ⟨rfl, hR, hT⟩ := hv
  have C0 : CallFix p m c cX12_claim 3 s _ TB RX12 := ⟨B.exec, B.bytes, hml, findClass_of_methodNamed B.named, fun w hw => atoms_spec B.pre w (List.mem_cons_of_mem _ hw)⟩
  have hr := B.returns
  have hlk := B.notSynchronized
  have hx := C0.1
  have hb := C0.2.1
  have hS : va_S (gA b 12 z) s.heap s.heap [] := va_S.rf
  have hl := lv_entry ([.ref (b + adM 0 0), .int a1]) (n := 3) (Nat.le_of_ble_eq_true rfl)
  rw [lg_entry_eq]
  generalize (lg_sl ([.ref (b + adM 0 0), .int a1]) ++ List.replicate (3 - (lg_sl ([.ref (b + adM 0 0), .int a1])).length) Slot.unset).toArray = ls at hl ⊢
  have hl : lv_has ls 3 [(0, .ref (b + adM 0 0)), (1, .int a1)] := hl
  show W p l e rm_X12_claim s m _ below meth c s.heap [] 0 0 (MQ below (PiM D cy b z tx k) _ s 0 0 (gA b 12 z)) _
  unfold F_X12_claim at h
  refine lv_aload_n hx hb dX12_claim_0 rfl (lv_at hl 0 rfl) ?_
  refine lv_iconst (v := 0) hx hb dX12_claim_1 (by decide) ?_
  refine pM_0_0 C0 hR hS Nat.zero_lt_one tbs_wsX120 mM5_7_77 dX12_claim_2 (fun S1 eS1 H locs hR hS => ?_)
  have h := h S1 eS1
  refine lv_aload_n hx hb dX12_claim_5 rfl (lv_at hl 0 rfl) ?_
  refine lv_aload_n hx hb dX12_claim_6 rfl (lv_at hl 0 rfl) ?_
  refine lv_iload_n hx hb dX12_claim_7 rfl (lv_at hl 1 rfl) ?_
  refine qM_Vi (As := [.int a1]) (rest := [.ref (b + adM 0 0)]) C0 (c_X12_noSession l h) (cwV 1 C0.2.2.2.2 (tbV mM5_8_33 ⟨mM5_8_35, mpM5_3_14, mM5_1_11, mM5_8_36⟩) rfl rfl rfl (by decide +kernel) ⟨Nat.le_of_ble_eq_true rfl, Nat.le_of_ble_eq_true rfl⟩) (rcM_0 hR Nat.zero_lt_one) hR hT hS rfl hl.1 rfl (Nat.le_of_ble_eq_true rfl) dX12_claim_8 ⟨Nat.zero_le _, Nat.zero_le _⟩ (fun r2 S3 H locs h hR hS => ?_)
  refine lv_iconst (v := 1) hx hb dX12_claim_11 (by decide) ?_
  refine qM_Vi (As := [.int r2, .int 1]) (rest := []) C0 (c_X12_throwsIf l h) (cwV 2 C0.2.2.2.2 (tbV mM5_8_25 ⟨mM5_8_27, mpM5_3_13, mM5_1_11, mM5_8_28⟩) rfl rfl rfl (by decide +kernel) ⟨Nat.le_of_ble_eq_true rfl, Nat.le_of_ble_eq_true rfl⟩) (rcM_0 hR Nat.zero_lt_one) hR hT hS rfl hl.1 rfl (Nat.le_of_ble_eq_true rfl) dX12_claim_12 ⟨Nat.zero_le _, Nat.zero_le _⟩ (fun r4 S5 H locs h hR hS => ?_)
  refine lv_if_eq (tgt := 20) hx hb dX12_claim_15 (by decide) (fun c6 => ?_) (fun c6 => ?_)
  · have h := h.1 c6
    refine lv_aload_n hx hb dX12_claim_20 rfl (lv_at hl 0 rfl) ?_
    refine lv_iload_n hx hb dX12_claim_21 rfl (lv_at hl 1 rfl) ?_
    refine qM_Vi (As := [.int a1]) (rest := []) C0 (c_X12_claims l h) (cwV 1 C0.2.2.2.2 (tbV mM5_8_155 ⟨mM5_8_157, mpM5_5_2, mM5_1_11, mM5_8_158⟩) rfl rfl rfl (by decide +kernel) ⟨Nat.le_of_ble_eq_true rfl, Nat.le_of_ble_eq_true rfl⟩) (rcM_0 hR Nat.zero_lt_one) hR hT hS rfl hl.1 rfl (Nat.le_of_ble_eq_true rfl) dX12_claim_22 ⟨Nat.zero_le _, Nat.zero_le _⟩ (fun r7 S8 H locs h hR hS => ?_)
    refine lv_istore_n (lv' := [(2, .int r7), (0, .ref (b + adM 0 0)), (1, .int a1)]) hx hb dX12_claim_25 rfl hl (by decide) rfl (fun ls hl => ?_)
    refine lv_aload_n hx hb dX12_claim_26 rfl (lv_at hl 1 rfl) ?_
    refine lv_iload_n hx hb dX12_claim_27 rfl (lv_at hl 2 rfl) ?_
    refine qM_Vv (As := [.int a1]) (rest := []) C0 (c_X12_isDone l h) (cwV 1 C0.2.2.2.2 (tbV mM5_8_211 ⟨mM5_8_213, mpM5_6_0, mM5_1_11, mM5_8_214⟩) rfl rfl rfl (by decide +kernel) ⟨Nat.le_of_ble_eq_true rfl, Nat.le_of_ble_eq_true rfl⟩) (rcM_0 hR Nat.zero_lt_one) hR hT hS rfl hl.1 rfl (Nat.le_of_ble_eq_true rfl) dX12_claim_28 ⟨Nat.zero_le _, Nat.zero_le _⟩ (fun S10 H locs h hR hS => ?_)
    refine lv_iload_n hx hb dX12_claim_31 rfl (lv_at hl 0 rfl) ?_
    exact rtM_i C0 hr hlk hR hS h dX12_claim_32
  · have h := h.2 c6
    refine lv_iconst (v := 0) hx hb dX12_claim_18 (by decide) ?_
    exact rtM_i C0 hr hlk hR hS h dX12_claim_19

def rm_X12_bars : Room := { frames := 4, cells := 0, slots := 0, locals := 85 }
def F_X12_bars (a1 : Int32) (a2 : Int32) (a3 : Int32) (S : sSt) (k : Int32 → sSt → Prop) : Prop := F_X12_isOthers a1 a2 S (fun r1 S2 => ((r1 = 0 → F_X12_seen a1 a2 S2 (fun r4 S5 => ix (r4 + 3) 10421 (fun j6 => ((¬ (S5.1 1 0 j6) = 1 → k 3 S5) ∧ ((S5.1 1 0 j6) = 1 → ix (r4 + 8) 10421 (fun j8 => ((¬ (S5.1 1 0 j8) = a3 → k 3 S5) ∧ ((S5.1 1 0 j8) = a3 → ix (r4 + 9) 10421 (fun j10 => (((S5.1 1 0 j10) = a2 → ix (r4 + 10) 10421 (fun j12 => (((S5.1 1 0 3) ≤ (S5.1 1 0 j12) → k 0 S5) ∧ (¬ (S5.1 1 0 3) ≤ (S5.1 1 0 j12) → k 4 S5)))) ∧ (¬ (S5.1 1 0 j10) = a2 → k 3 S5))))))))))) ∧ (¬ r1 = 0 → k 2 S2)))
set_option maxHeartbeats 4000000 in
set_option maxRecDepth 100000 in
theorem c_X12_bars (l : Launch) {D : va_G} {cy : Nat → ClassId} {b z : Nat} {tx : TX} {a1 : Int32} {a2 : Int32} {a3 : Int32} {S : sSt} {k : Int32 → sSt → Prop} (h : F_X12_bars a1 a2 a3 S k) : Met l yX12_bars (Cond.code yX12_bars cX12_bars 5 (some .int) :: TB) rm_X12_bars (va_Pc [.ref (b + adM 0 0), .int a1, .int a2, .int a3] (fun U => RelM D cy b z tx S U U.heap ∧ TxR tx U)) (PiM D cy b z tx k) 0 0 (gA b 12 z) := by
  refine Met.ofW (cc := cX12_bars) (maxL := 5) (ret := (some .int)) (by decide) rfl ?_
  intro p e s m args below meth c s₁ B hml hv
  obtain ⟨rfl, hR, hT⟩ := hv
  have C0 : CallFix p m c cX12_bars 5 s _ TB RX12 := ⟨B.exec, B.bytes, hml, findClass_of_methodNamed B.named, fun w hw => atoms_spec B.pre w (List.mem_cons_of_mem _ hw)⟩
  have hr := B.returns
  have hlk := B.notSynchronized
  have hx := C0.1
  have hb := C0.2.1
  have hS : va_S (gA b 12 z) s.heap s.heap [] := va_S.rf
  have hl := lv_entry ([.ref (b + adM 0 0), .int a1, .int a2, .int a3]) (n := 5) (Nat.le_of_ble_eq_true rfl)
  rw [lg_entry_eq]
  generalize (lg_sl ([.ref (b + adM 0 0), .int a1, .int a2, .int a3]) ++ List.replicate (5 - (lg_sl ([.ref (b + adM 0 0), .int a1, .int a2, .int a3])).length) Slot.unset).toArray = ls at hl ⊢
  have hl : lv_has ls 5 [(0, .ref (b + adM 0 0)), (1, .int a1), (2, .int a2), (3, .int a3)] := hl
  show W p l e rm_X12_bars s m _ below meth c s.heap [] 0 0 (MQ below (PiM D cy b z tx k) _ s 0 0 (gA b 12 z)) _
  unfold F_X12_bars at h
  refine lv_aload_n hx hb dX12_bars_0 rfl (lv_at hl 0 rfl) ?_
  refine lv_iload_n hx hb dX12_bars_1 rfl (lv_at hl 1 rfl) ?_
  refine lv_iload_n hx hb dX12_bars_2 rfl (lv_at hl 2 rfl) ?_
  refine qM_Vi (As := [.int a1, .int a2]) (rest := []) C0 (c_X12_isOthers l h) (cwV 2 C0.2.2.2.2 (tbV mM5_8_175 ⟨mM5_8_177, mpM5_5_7, mM5_1_11, mM5_8_178⟩) rfl rfl rfl (by decide +kernel) ⟨Nat.le_of_ble_eq_true rfl, Nat.le_of_ble_eq_true rfl⟩) (rcM_0 hR Nat.zero_lt_one) hR hT hS rfl hl.1 rfl (Nat.le_of_ble_eq_true rfl) dX12_bars_3 ⟨Nat.zero_le _, Nat.zero_le _⟩ (fun r1 S2 H locs h hR hS => ?_)
  refine lv_if_eq (tgt := 11) hx hb dX12_bars_6 (by decide) (fun c3 => ?_) (fun c3 => ?_)
  · have h := h.1 c3
    refine lv_aload_n hx hb dX12_bars_11 rfl (lv_at hl 0 rfl) ?_
    refine lv_iload_n hx hb dX12_bars_12 rfl (lv_at hl 1 rfl) ?_
    refine lv_iload_n hx hb dX12_bars_13 rfl (lv_at hl 2 rfl) ?_
    refine qM_Vi (As := [.int a1, .int a2]) (rest := []) C0 (c_X12_seen l h) (cwV 2 C0.2.2.2.2 (tbV mM5_8_167 ⟨mM5_8_169, mpM5_5_5, mM5_1_11, mM5_8_170⟩) rfl rfl rfl (by decide +kernel) ⟨Nat.le_of_ble_eq_true rfl, Nat.le_of_ble_eq_true rfl⟩) (rcM_0 hR Nat.zero_lt_one) hR hT hS rfl hl.1 rfl (Nat.le_of_ble_eq_true rfl) dX12_bars_14 ⟨Nat.zero_le _, Nat.zero_le _⟩ (fun r4 S5 H locs h hR hS => ?_)
    refine lv_istore (lv' := [(4, .int r4), (0, .ref (b + adM 0 0)), (1, .int a1), (2, .int a2), (3, .int a3)]) hx hb dX12_bars_17 hl (by decide) rfl (fun ls hl => ?_)
    refine lv_aload_n hx hb dX12_bars_19 rfl (lv_at hl 1 rfl) ?_
    refine gM_0_2 C0 hR Nat.zero_lt_one tbs_wsX120 mM5_7_79 dX12_bars_20 ?_
    refine lv_iload hx hb dX12_bars_23 (lv_at hl 0 rfl) ?_
    refine lv_iconst (v := 3) hx hb dX12_bars_25 (by decide) ?_
    refine lv_iadd hx hb dX12_bars_26 ?_
    obtain ⟨j6, hj6, ej6, h⟩ := h
    refine lM_1 C0 hR Nat.zero_lt_one hj6 ej6 dX12_bars_27 ?_
    refine lv_iconst (v := 1) hx hb dX12_bars_28 (by decide) ?_
    refine lv_icmp_ne (tgt := 60) hx hb dX12_bars_29 (by decide) (fun c7 => ?_) (fun c7 => ?_)
    · have h := h.1 c7
      refine lv_iconst (v := 3) hx hb dX12_bars_60 (by decide) ?_
      exact rtM_i C0 hr hlk hR hS h dX12_bars_61
    · have h := h.2 c7
      refine lv_aload_n hx hb dX12_bars_32 rfl (lv_at hl 1 rfl) ?_
      refine gM_0_2 C0 hR Nat.zero_lt_one tbs_wsX120 mM5_7_79 dX12_bars_33 ?_
      refine lv_iload hx hb dX12_bars_36 (lv_at hl 0 rfl) ?_
      refine lv_bipush (v := 8) hx hb dX12_bars_38 (by decide) ?_
      refine lv_iadd hx hb dX12_bars_40 ?_
      obtain ⟨j8, hj8, ej8, h⟩ := h
      refine lM_1 C0 hR Nat.zero_lt_one hj8 ej8 dX12_bars_41 ?_
      refine lv_iload_n hx hb dX12_bars_42 rfl (lv_at hl 4 rfl) ?_
      refine lv_icmp_ne (tgt := 60) hx hb dX12_bars_43 (by decide) (fun c9 => ?_) (fun c9 => ?_)
      · have h := h.1 c9
        refine lv_iconst (v := 3) hx hb dX12_bars_60 (by decide) ?_
        exact rtM_i C0 hr hlk hR hS h dX12_bars_61
      · have h := h.2 c9
        refine lv_aload_n hx hb dX12_bars_46 rfl (lv_at hl 1 rfl) ?_
        refine gM_0_2 C0 hR Nat.zero_lt_one tbs_wsX120 mM5_7_79 dX12_bars_47 ?_
        refine lv_iload hx hb dX12_bars_50 (lv_at hl 0 rfl) ?_
        refine lv_bipush (v := 9) hx hb dX12_bars_52 (by decide) ?_
        refine lv_iadd hx hb dX12_bars_54 ?_
        obtain ⟨j10, hj10, ej10, h⟩ := h
        refine lM_1 C0 hR Nat.zero_lt_one hj10 ej10 dX12_bars_55 ?_
        refine lv_iload_n hx hb dX12_bars_56 rfl (lv_at hl 3 rfl) ?_
        refine lv_icmp_eq (tgt := 62) hx hb dX12_bars_57 (by decide) (fun c11 => ?_) (fun c11 => ?_)
        · have h := h.1 c11
          refine lv_aload_n hx hb dX12_bars_62 rfl (lv_at hl 1 rfl) ?_
          refine gM_0_2 C0 hR Nat.zero_lt_one tbs_wsX120 mM5_7_79 dX12_bars_63 ?_
          refine lv_iload hx hb dX12_bars_66 (lv_at hl 0 rfl) ?_
          refine lv_bipush (v := 10) hx hb dX12_bars_68 (by decide) ?_
          refine lv_iadd hx hb dX12_bars_70 ?_
          obtain ⟨j12, hj12, ej12, h⟩ := h
          refine lM_1 C0 hR Nat.zero_lt_one hj12 ej12 dX12_bars_71 ?_
          refine lv_aload_n hx hb dX12_bars_72 rfl (lv_at hl 1 rfl) ?_
          refine gM_0_2 C0 hR Nat.zero_lt_one tbs_wsX120 mM5_7_79 dX12_bars_73 ?_
          refine lv_iconst (v := 3) hx hb dX12_bars_76 (by decide) ?_
          refine lM_1 C0 hR Nat.zero_lt_one (by decide) rfl dX12_bars_77 ?_
          refine lv_icmp_ge (tgt := 85) hx hb dX12_bars_78 (by decide) (fun c13 => ?_) (fun c13 => ?_)
          · have h := h.1 c13
            refine lv_iconst (v := 0) hx hb dX12_bars_85 (by decide) ?_
            exact rtM_i C0 hr hlk hR hS h dX12_bars_86
          · have h := h.2 c13
            refine lv_iconst (v := 4) hx hb dX12_bars_81 (by decide) ?_
            refine lv_goto (tgt := 86) hx hb dX12_bars_82 (by decide) ?_
            exact rtM_i C0 hr hlk hR hS h dX12_bars_86
        · have h := h.2 c11
          refine lv_iconst (v := 3) hx hb dX12_bars_60 (by decide) ?_
          exact rtM_i C0 hr hlk hR hS h dX12_bars_61
  · have h := h.2 c3
    refine lv_iconst (v := 2) hx hb dX12_bars_9 (by decide) ?_
    exact rtM_i C0 hr hlk hR hS h dX12_bars_10
