theorem mM10_7_77 : Cond.fieldLink RX12 3 "ClaimTableModel" "thrown" "I" ∈ TB := tbT_7 _ (List.mem_of_getElem? (i := 77) rfl) rfl
theorem mM10_8_122 : Cond.methodLink RX12 73 yX12_isIn ∈ TB := tbT_8 _ (List.mem_of_getElem? (i := 122) rfl) rfl
theorem mM10_8_125 : Cond.code yX12_isIn cX12_isIn 2 (some .boolean) ∈ TB := tbT_8 _ (List.mem_of_getElem? (i := 125) rfl) rfl
theorem mM10_8_124 : Cond.instanceMethod yX12_isIn ∈ TB := tbT_8 _ (List.mem_of_getElem? (i := 124) rfl) rfl
theorem mpM10_4_13 : Cond.selects RX12 yX12_isIn yX12_isIn ∈ TB := tbP_4 (yX12_isIn, 19) (List.mem_of_getElem? (i := 13) rfl)
theorem mM10_1_11 : Cond.initialized RX12 ∈ TB := tbT_1 _ (List.mem_of_getElem? (i := 11) rfl) rfl
theorem mM10_7_79 : Cond.fieldLink RX12 13 "ClaimTableModel" "world" "[I" ∈ TB := tbT_7 _ (List.mem_of_getElem? (i := 79) rfl) rfl
theorem mM10_8_37 : Cond.methodLink RX12 66 yX12_in ∈ TB := tbT_8 _ (List.mem_of_getElem? (i := 37) rfl) rfl
theorem mM10_8_39 : Cond.code yX12_in cX12_in 3 (some .boolean) ∈ TB := tbT_8 _ (List.mem_of_getElem? (i := 39) rfl) rfl
theorem mM10_8_38 : Cond.static yX12_in ∈ TB := tbT_8 _ (List.mem_of_getElem? (i := 38) rfl) rfl
theorem mM10_8_95 : Cond.methodLink RX12 279 yX12_opened ∈ TB := tbT_8 _ (List.mem_of_getElem? (i := 95) rfl) rfl
theorem mM10_8_98 : Cond.code yX12_opened cX12_opened 3 (some .int) ∈ TB := tbT_8 _ (List.mem_of_getElem? (i := 98) rfl) rfl
theorem mM10_8_97 : Cond.instanceMethod yX12_opened ∈ TB := tbT_8 _ (List.mem_of_getElem? (i := 97) rfl) rfl
theorem mpM10_4_9 : Cond.selects RX12 yX12_opened yX12_opened ∈ TB := tbP_4 (yX12_opened, 19) (List.mem_of_getElem? (i := 9) rfl)
theorem mM10_7_202 : Cond.methodLink RX12 59 yX12_numberOf ∈ TB := tbT_7 _ (List.mem_of_getElem? (i := 202) rfl) rfl
theorem mM10_7_205 : Cond.code yX12_numberOf cX12_numberOf 2 (some .int) ∈ TB := tbT_7 _ (List.mem_of_getElem? (i := 205) rfl) rfl
theorem mM10_7_204 : Cond.instanceMethod yX12_numberOf ∈ TB := tbT_7 _ (List.mem_of_getElem? (i := 204) rfl) rfl
theorem mpM10_3_3 : Cond.selects RX12 yX12_numberOf yX12_numberOf ∈ TB := tbP_3 (yX12_numberOf, 19) (List.mem_of_getElem? (i := 3) rfl)
theorem mM10_8_106 : Cond.methodLink RX12 70 yX12_lockerOf ∈ TB := tbT_8 _ (List.mem_of_getElem? (i := 106) rfl) rfl
theorem mM10_8_109 : Cond.code yX12_lockerOf cX12_lockerOf 2 (some .int) ∈ TB := tbT_8 _ (List.mem_of_getElem? (i := 109) rfl) rfl
theorem mM10_8_108 : Cond.instanceMethod yX12_lockerOf ∈ TB := tbT_8 _ (List.mem_of_getElem? (i := 108) rfl) rfl
theorem mpM10_4_10 : Cond.selects RX12 yX12_lockerOf yX12_lockerOf ∈ TB := tbP_4 (yX12_lockerOf, 19) (List.mem_of_getElem? (i := 10) rfl)
def rm_X12_count : Room := { frames := 3, cells := 0, slots := 0, locals := 64 }
def B_X12_count_118 (kk98 : Int32 → Int32 → sSt → Prop) (a3 : Int32) (t0 : Int32) (t1 : Int32) (S : sSt) (k : Int32 → sSt → Prop) : Prop := ∀ x7 : Int32, x7 = (t0 + t1) → ∀ x8 : Int32, x8 = a3 + 1 → kk98 x7 x8 S
set_option maxHeartbeats 4000000 in
set_option maxRecDepth 100000 in
theorem Bw_X12_count_118 {p : Program} {l : Launch} {e : Env} {s : State} {m : MethodId} {args : Array Value} {below : List Frame} {meth : Method} {c : Code} {D : va_G} {cy : Nat → ClassId} {b z : Nat} {tx : TX} (C0 : CallFix p m c cX12_count 4 s args TB RX12) (hr : meth.sig.returnType = (some .int)) (hlk : meth.locks = false) (hT : TxR tx s) {k : Int32 → sSt → Prop} {kk98 : Int32 → Int32 → sSt → Prop} (ih98 : ∀ (a2 : Int32) (a3 : Int32) (S : sSt) (H : Heap) (locs : List Loc) (ls : Array Slot) , kk98 a2 a3 S → RelM D cy b z tx S s H → va_S (gA b 12 z) s.heap H locs → lv_has ls 4 [(0, .ref (b + adM 0 0)), (2, .int a2), (3, .int a3)] → W p l e rm_X12_count s m args below meth c H locs 0 0 (MQ below (PiM D cy b z tx k) args s 0 0 (gA b 12 z)) (F0 m 98 ls [])) : ∀ (a3 : Int32) (t0 : Int32) (t1 : Int32) (S : sSt) (H : Heap) (locs : List Loc) (ls : Array Slot) , B_X12_count_118 kk98 a3 t0 t1 S k → RelM D cy b z tx S s H → va_S (gA b 12 z) s.heap H locs → lv_has ls 4 [(0, .ref (b + adM 0 0)), (3, .int a3)] → W p l e rm_X12_count s m args below meth c H locs 0 0 (MQ below (PiM D cy b z tx k) args s 0 0 (gA b 12 z)) (F0 m 118 ls [.int t1, .int t0]) := by
  intro a3 t0 t1 S H locs ls h hR hS hl
  have hx := C0.1
  have hb := C0.2.1
  unfold B_X12_count_118 at h
  refine lv_iadd hx hb dX12_count_118 ?_
  refine lv_topi (fun x7 ex7 => ?_)
  have h := h x7 ex7
  refine lv_istore_n (lv' := [(2, .int x7), (0, .ref (b + adM 0 0)), (3, .int a3)]) hx hb dX12_count_119 rfl hl (by decide) rfl (fun ls hl => ?_)
  obtain ⟨x8, ex8⟩ : ∃ x8 : Int32, x8 = a3 + 1 := ⟨_, rfl⟩
  have h := h x8 ex8
  refine w_iinc (v0 := 1) (lv' := [(3, .int x8), (2, .int x7), (0, .ref (b + adM 0 0))]) C0 dX12_count_120 hl (k := 2) rfl (by decide) (by decide) x8 ex8 rfl (fun ls hl => ?_)
  refine lv_goto (tgt := 98) hx hb dX12_count_123 (by decide) ?_
  exact ih98 x7 x8 S _ _ _  h hR hS (lv_sub hl [2, 1, 0] rfl)
def Bb_X12_count_98 (kk98 : Int32 → Int32 → sSt → Prop) (a2 : Int32) (a3 : Int32) (S : sSt) (k : Int32 → sSt → Prop) : Prop := ((24 ≤ a3 → k a2 S) ∧ (¬ 24 ≤ a3 → F_X12_isIn a3 S (fun r4 S5 => ((r4 = 0 → B_X12_count_118 kk98 a3 a2 0 S5 k) ∧ (¬ r4 = 0 → B_X12_count_118 kk98 a3 a2 1 S5 k)))))
set_option maxHeartbeats 4000000 in
set_option maxRecDepth 100000 in
theorem Bbw_X12_count_98 {p : Program} {l : Launch} {e : Env} {s : State} {m : MethodId} {args : Array Value} {below : List Frame} {meth : Method} {c : Code} {D : va_G} {cy : Nat → ClassId} {b z : Nat} {tx : TX} (C0 : CallFix p m c cX12_count 4 s args TB RX12) (hr : meth.sig.returnType = (some .int)) (hlk : meth.locks = false) (hT : TxR tx s) {k : Int32 → sSt → Prop} {kk98 : Int32 → Int32 → sSt → Prop} (ih98 : ∀ (a2 : Int32) (a3 : Int32) (S : sSt) (H : Heap) (locs : List Loc) (ls : Array Slot) , kk98 a2 a3 S → RelM D cy b z tx S s H → va_S (gA b 12 z) s.heap H locs → lv_has ls 4 [(0, .ref (b + adM 0 0)), (2, .int a2), (3, .int a3)] → W p l e rm_X12_count s m args below meth c H locs 0 0 (MQ below (PiM D cy b z tx k) args s 0 0 (gA b 12 z)) (F0 m 98 ls [])) : ∀ (a2 : Int32) (a3 : Int32) (S : sSt) (H : Heap) (locs : List Loc) (ls : Array Slot) , Bb_X12_count_98 kk98 a2 a3 S k → RelM D cy b z tx S s H → va_S (gA b 12 z) s.heap H locs → lv_has ls 4 [(0, .ref (b + adM 0 0)), (2, .int a2), (3, .int a3)] → W p l e rm_X12_count s m args below meth c H locs 0 0 (MQ below (PiM D cy b z tx k) args s 0 0 (gA b 12 z)) (F0 m 98 ls []) := by
  intro a2 a3 S H locs ls h hR hS hl
  have hx := C0.1
  have hb := C0.2.1
  unfold Bb_X12_count_98 at h
  refine lv_iload_n hx hb dX12_count_98 rfl (lv_at hl 2 rfl) ?_
  refine lv_bipush (v := 24) hx hb dX12_count_99 (by decide) ?_
  refine lv_icmp_ge (tgt := 126) hx hb dX12_count_101 (by decide) (fun c3 => ?_) (fun c3 => ?_)
  · have h := h.1 c3
    refine lv_iload_n hx hb dX12_count_126 rfl (lv_at hl 1 rfl) ?_
    exact rtM_i C0 hr hlk hR hS h dX12_count_127
  · have h := h.2 c3
    refine lv_iload_n hx hb dX12_count_104 rfl (lv_at hl 1 rfl) ?_
    refine lv_aload_n hx hb dX12_count_105 rfl (lv_at hl 0 rfl) ?_
    refine lv_iload_n hx hb dX12_count_106 rfl (lv_at hl 2 rfl) ?_
    refine qM_Vi (As := [.int a3]) (rest := [.int a2]) C0 (c_X12_isIn l h) (cwV 1 C0.2.2.2.2 (tbV mM10_8_122 ⟨mM10_8_124, mpM10_4_13, mM10_1_11, mM10_8_125⟩) rfl rfl rfl (by decide +kernel) ⟨Nat.le_of_ble_eq_true rfl, Nat.le_of_ble_eq_true rfl⟩) (rcM_0 hR Nat.zero_lt_one) hR hT hS rfl hl.1 rfl (Nat.le_of_ble_eq_true rfl) dX12_count_107 ⟨Nat.zero_le _, Nat.zero_le _⟩ (fun r4 S5 H locs h hR hS => ?_)
    refine lv_if_eq (tgt := 117) hx hb dX12_count_110 (by decide) (fun c6 => ?_) (fun c6 => ?_)
    · have h := h.1 c6
      refine lv_iconst (v := 0) hx hb dX12_count_117 (by decide) ?_
      exact Bw_X12_count_118 C0 hr hlk hT ih98 a3 a2 0 S5 _ _ _ h hR hS (lv_sub hl [0, 2] rfl)
    · have h := h.2 c6
      refine lv_iconst (v := 1) hx hb dX12_count_113 (by decide) ?_
      refine lv_goto (tgt := 118) hx hb dX12_count_114 (by decide) ?_
      exact Bw_X12_count_118 C0 hr hlk hT ih98 a3 a2 1 S5 _ _ _ h hR hS (lv_sub hl [0, 2] rfl)
def B_X12_count_98 (n9 : Nat) (a2 : Int32) (a3 : Int32) (S : sSt) (k : Int32 → sSt → Prop) : Prop := (Nat.rec (motive := fun _ => Int32 → Int32 → sSt → Prop) (fun _ _ _ => False) (fun _ r9 => fun a2 a3 S => Bb_X12_count_98 r9 a2 a3 S k) n9 : Int32 → Int32 → sSt → Prop) a2 a3 S
theorem B_X12_count_98_s (n9 : Nat) (a2 : Int32) (a3 : Int32) (S : sSt) (k : Int32 → sSt → Prop) : B_X12_count_98 (n9 + 1) a2 a3 S k = Bb_X12_count_98 (fun a2 a3 S => B_X12_count_98 n9 a2 a3 S k) a2 a3 S k := rfl
set_option maxHeartbeats 4000000 in
set_option maxRecDepth 100000 in
theorem Bw_X12_count_98 {p : Program} {l : Launch} {e : Env} {s : State} {m : MethodId} {args : Array Value} {below : List Frame} {meth : Method} {c : Code} {D : va_G} {cy : Nat → ClassId} {b z : Nat} {tx : TX} (C0 : CallFix p m c cX12_count 4 s args TB RX12) (hr : meth.sig.returnType = (some .int)) (hlk : meth.locks = false) (hT : TxR tx s) {k : Int32 → sSt → Prop} : ∀ (n9 : Nat), ∀ (a2 : Int32) (a3 : Int32) (S : sSt) (H : Heap) (locs : List Loc) (ls : Array Slot) , B_X12_count_98 n9 a2 a3 S k → RelM D cy b z tx S s H → va_S (gA b 12 z) s.heap H locs → lv_has ls 4 [(0, .ref (b + adM 0 0)), (2, .int a2), (3, .int a3)] → W p l e rm_X12_count s m args below meth c H locs 0 0 (MQ below (PiM D cy b z tx k) args s 0 0 (gA b 12 z)) (F0 m 98 ls []) := by
  intro n9
  induction n9 with
  | zero => intro a2 a3 S H locs ls h; exact h.elim
  | succ n9 ih =>
    intro a2 a3 S H locs ls h hR hS hl
    exact Bbw_X12_count_98 C0 hr hlk hT ih a2 a3 S H locs ls h hR hS hl
def B_X12_count_186 (kk156 : Int32 → Int32 → sSt → Prop) (a3 : Int32) (t0 : Int32) (t1 : Int32) (S : sSt) (k : Int32 → sSt → Prop) : Prop := ∀ x74 : Int32, x74 = (t0 + t1) → ∀ x75 : Int32, x75 = a3 + 1 → kk156 x74 x75 S
set_option maxHeartbeats 4000000 in
set_option maxRecDepth 100000 in
theorem Bw_X12_count_186 {p : Program} {l : Launch} {e : Env} {s : State} {m : MethodId} {args : Array Value} {below : List Frame} {meth : Method} {c : Code} {D : va_G} {cy : Nat → ClassId} {b z : Nat} {tx : TX} (C0 : CallFix p m c cX12_count 4 s args TB RX12) (hr : meth.sig.returnType = (some .int)) (hlk : meth.locks = false) (hT : TxR tx s) {k : Int32 → sSt → Prop} {kk156 : Int32 → Int32 → sSt → Prop} (ih156 : ∀ (a2 : Int32) (a3 : Int32) (S : sSt) (H : Heap) (locs : List Loc) (ls : Array Slot) , kk156 a2 a3 S → RelM D cy b z tx S s H → va_S (gA b 12 z) s.heap H locs → lv_has ls 4 [(0, .ref (b + adM 0 0)), (2, .int a2), (3, .int a3)] → W p l e rm_X12_count s m args below meth c H locs 0 0 (MQ below (PiM D cy b z tx k) args s 0 0 (gA b 12 z)) (F0 m 156 ls [])) : ∀ (a3 : Int32) (t0 : Int32) (t1 : Int32) (S : sSt) (H : Heap) (locs : List Loc) (ls : Array Slot) , B_X12_count_186 kk156 a3 t0 t1 S k → RelM D cy b z tx S s H → va_S (gA b 12 z) s.heap H locs → lv_has ls 4 [(0, .ref (b + adM 0 0)), (3, .int a3)] → W p l e rm_X12_count s m args below meth c H locs 0 0 (MQ below (PiM D cy b z tx k) args s 0 0 (gA b 12 z)) (F0 m 186 ls [.int t1, .int t0]) := by
  intro a3 t0 t1 S H locs ls h hR hS hl
  have hx := C0.1
  have hb := C0.2.1
  unfold B_X12_count_186 at h
  refine lv_iadd hx hb dX12_count_186 ?_
  refine lv_topi (fun x74 ex74 => ?_)
  have h := h x74 ex74
  refine lv_istore_n (lv' := [(2, .int x74), (0, .ref (b + adM 0 0)), (3, .int a3)]) hx hb dX12_count_187 rfl hl (by decide) rfl (fun ls hl => ?_)
  obtain ⟨x75, ex75⟩ : ∃ x75 : Int32, x75 = a3 + 1 := ⟨_, rfl⟩
  have h := h x75 ex75
  refine w_iinc (v0 := 1) (lv' := [(3, .int x75), (2, .int x74), (0, .ref (b + adM 0 0))]) C0 dX12_count_188 hl (k := 2) rfl (by decide) (by decide) x75 ex75 rfl (fun ls hl => ?_)
  refine lv_goto (tgt := 156) hx hb dX12_count_191 (by decide) ?_
  exact ih156 x74 x75 S _ _ _  h hR hS (lv_sub hl [2, 1, 0] rfl)
def B_X12_count_185 (kk156 : Int32 → Int32 → sSt → Prop) (a3 : Int32) (t0 : Int32) (S : sSt) (k : Int32 → sSt → Prop) : Prop := B_X12_count_186 kk156 a3 t0 0 S k
set_option maxHeartbeats 4000000 in
set_option maxRecDepth 100000 in
theorem Bw_X12_count_185 {p : Program} {l : Launch} {e : Env} {s : State} {m : MethodId} {args : Array Value} {below : List Frame} {meth : Method} {c : Code} {D : va_G} {cy : Nat → ClassId} {b z : Nat} {tx : TX} (C0 : CallFix p m c cX12_count 4 s args TB RX12) (hr : meth.sig.returnType = (some .int)) (hlk : meth.locks = false) (hT : TxR tx s) {k : Int32 → sSt → Prop} {kk156 : Int32 → Int32 → sSt → Prop} (ih156 : ∀ (a2 : Int32) (a3 : Int32) (S : sSt) (H : Heap) (locs : List Loc) (ls : Array Slot) , kk156 a2 a3 S → RelM D cy b z tx S s H → va_S (gA b 12 z) s.heap H locs → lv_has ls 4 [(0, .ref (b + adM 0 0)), (2, .int a2), (3, .int a3)] → W p l e rm_X12_count s m args below meth c H locs 0 0 (MQ below (PiM D cy b z tx k) args s 0 0 (gA b 12 z)) (F0 m 156 ls [])) : ∀ (a3 : Int32) (t0 : Int32) (S : sSt) (H : Heap) (locs : List Loc) (ls : Array Slot) , B_X12_count_185 kk156 a3 t0 S k → RelM D cy b z tx S s H → va_S (gA b 12 z) s.heap H locs → lv_has ls 4 [(0, .ref (b + adM 0 0)), (3, .int a3)] → W p l e rm_X12_count s m args below meth c H locs 0 0 (MQ below (PiM D cy b z tx k) args s 0 0 (gA b 12 z)) (F0 m 185 ls [.int t0]) := by
  intro a3 t0 S H locs ls h hR hS hl
  have hx := C0.1
  have hb := C0.2.1
  unfold B_X12_count_185 at h
  refine lv_iconst (v := 0) hx hb dX12_count_185 (by decide) ?_
  exact Bw_X12_count_186 C0 hr hlk hT ih156 a3 t0 0 S _ _ _ h hR hS (lv_sub hl [0, 1] rfl)
def Bb_X12_count_156 (kk156 : Int32 → Int32 → sSt → Prop) (a2 : Int32) (a3 : Int32) (S : sSt) (k : Int32 → sSt → Prop) : Prop := ((24 ≤ a3 → k a2 S) ∧ (¬ 24 ≤ a3 → F_X12_numberOf a3 S (fun r71 S72 => ((r71 = (-1) → B_X12_count_185 kk156 a3 a2 S72 k) ∧ (¬ r71 = (-1) → F_X12_lockerOf a3 S72 (fun r76 S77 => ((r76 = (-1) → B_X12_count_185 kk156 a3 a2 S77 k) ∧ (¬ r76 = (-1) → B_X12_count_186 kk156 a3 a2 1 S77 k))))))))
set_option maxHeartbeats 4000000 in
set_option maxRecDepth 100000 in
theorem Bbw_X12_count_156 {p : Program} {l : Launch} {e : Env} {s : State} {m : MethodId} {args : Array Value} {below : List Frame} {meth : Method} {c : Code} {D : va_G} {cy : Nat → ClassId} {b z : Nat} {tx : TX} (C0 : CallFix p m c cX12_count 4 s args TB RX12) (hr : meth.sig.returnType = (some .int)) (hlk : meth.locks = false) (hT : TxR tx s) {k : Int32 → sSt → Prop} {kk156 : Int32 → Int32 → sSt → Prop} (ih156 : ∀ (a2 : Int32) (a3 : Int32) (S : sSt) (H : Heap) (locs : List Loc) (ls : Array Slot) , kk156 a2 a3 S → RelM D cy b z tx S s H → va_S (gA b 12 z) s.heap H locs → lv_has ls 4 [(0, .ref (b + adM 0 0)), (2, .int a2), (3, .int a3)] → W p l e rm_X12_count s m args below meth c H locs 0 0 (MQ below (PiM D cy b z tx k) args s 0 0 (gA b 12 z)) (F0 m 156 ls [])) : ∀ (a2 : Int32) (a3 : Int32) (S : sSt) (H : Heap) (locs : List Loc) (ls : Array Slot) , Bb_X12_count_156 kk156 a2 a3 S k → RelM D cy b z tx S s H → va_S (gA b 12 z) s.heap H locs → lv_has ls 4 [(0, .ref (b + adM 0 0)), (2, .int a2), (3, .int a3)] → W p l e rm_X12_count s m args below meth c H locs 0 0 (MQ below (PiM D cy b z tx k) args s 0 0 (gA b 12 z)) (F0 m 156 ls []) := by
  intro a2 a3 S H locs ls h hR hS hl
  have hx := C0.1
  have hb := C0.2.1
  unfold Bb_X12_count_156 at h
  refine lv_iload_n hx hb dX12_count_156 rfl (lv_at hl 2 rfl) ?_
  refine lv_bipush (v := 24) hx hb dX12_count_157 (by decide) ?_
  refine lv_icmp_ge (tgt := 194) hx hb dX12_count_159 (by decide) (fun c70 => ?_) (fun c70 => ?_)
  · have h := h.1 c70
    refine lv_iload_n hx hb dX12_count_194 rfl (lv_at hl 1 rfl) ?_
    exact rtM_i C0 hr hlk hR hS h dX12_count_195
  · have h := h.2 c70
    refine lv_iload_n hx hb dX12_count_162 rfl (lv_at hl 1 rfl) ?_
    refine lv_aload_n hx hb dX12_count_163 rfl (lv_at hl 0 rfl) ?_
    refine lv_iload_n hx hb dX12_count_164 rfl (lv_at hl 2 rfl) ?_
    refine qM_Vi (As := [.int a3]) (rest := [.int a2]) C0 (c_X12_numberOf l h) (cwV 1 C0.2.2.2.2 (tbV mM10_7_202 ⟨mM10_7_204, mpM10_3_3, mM10_1_11, mM10_7_205⟩) rfl rfl rfl (by decide +kernel) ⟨Nat.le_of_ble_eq_true rfl, Nat.le_of_ble_eq_true rfl⟩) (rcM_0 hR Nat.zero_lt_one) hR hT hS rfl hl.1 rfl (Nat.le_of_ble_eq_true rfl) dX12_count_165 ⟨Nat.zero_le _, Nat.zero_le _⟩ (fun r71 S72 H locs h hR hS => ?_)
    refine lv_iconst (v := (-1)) hx hb dX12_count_168 (by decide) ?_
    refine lv_icmp_eq (tgt := 185) hx hb dX12_count_169 (by decide) (fun c73 => ?_) (fun c73 => ?_)
    · have h := h.1 c73
      exact Bw_X12_count_185 C0 hr hlk hT ih156 a3 a2 S72 _ _ _ h hR hS (lv_sub hl [0, 2] rfl)
    · have h := h.2 c73
      refine lv_aload_n hx hb dX12_count_172 rfl (lv_at hl 0 rfl) ?_
      refine lv_iload_n hx hb dX12_count_173 rfl (lv_at hl 2 rfl) ?_
      refine qM_Vi (As := [.int a3]) (rest := [.int a2]) C0 (c_X12_lockerOf l h) (cwV 1 C0.2.2.2.2 (tbV mM10_8_106 ⟨mM10_8_108, mpM10_4_10, mM10_1_11, mM10_8_109⟩) rfl rfl rfl (by decide +kernel) ⟨Nat.le_of_ble_eq_true rfl, Nat.le_of_ble_eq_true rfl⟩) (rcM_0 hR Nat.zero_lt_one) hR hT hS rfl hl.1 rfl (Nat.le_of_ble_eq_true rfl) dX12_count_174 ⟨Nat.zero_le _, Nat.zero_le _⟩ (fun r76 S77 H locs h hR hS => ?_)
      refine lv_iconst (v := (-1)) hx hb dX12_count_177 (by decide) ?_
      refine lv_icmp_eq (tgt := 185) hx hb dX12_count_178 (by decide) (fun c78 => ?_) (fun c78 => ?_)
      · have h := h.1 c78
        exact Bw_X12_count_185 C0 hr hlk hT ih156 a3 a2 S77 _ _ _ h hR hS (lv_sub hl [0, 2] rfl)
      · have h := h.2 c78
        refine lv_iconst (v := 1) hx hb dX12_count_181 (by decide) ?_
        refine lv_goto (tgt := 186) hx hb dX12_count_182 (by decide) ?_
        exact Bw_X12_count_186 C0 hr hlk hT ih156 a3 a2 1 S77 _ _ _ h hR hS (lv_sub hl [0, 2] rfl)
def B_X12_count_156 (n9 : Nat) (a2 : Int32) (a3 : Int32) (S : sSt) (k : Int32 → sSt → Prop) : Prop := (Nat.rec (motive := fun _ => Int32 → Int32 → sSt → Prop) (fun _ _ _ => False) (fun _ r9 => fun a2 a3 S => Bb_X12_count_156 r9 a2 a3 S k) n9 : Int32 → Int32 → sSt → Prop) a2 a3 S
theorem B_X12_count_156_s (n9 : Nat) (a2 : Int32) (a3 : Int32) (S : sSt) (k : Int32 → sSt → Prop) : B_X12_count_156 (n9 + 1) a2 a3 S k = Bb_X12_count_156 (fun a2 a3 S => B_X12_count_156 n9 a2 a3 S k) a2 a3 S k := rfl
set_option maxHeartbeats 4000000 in
set_option maxRecDepth 100000 in
theorem Bw_X12_count_156 {p : Program} {l : Launch} {e : Env} {s : State} {m : MethodId} {args : Array Value} {below : List Frame} {meth : Method} {c : Code} {D : va_G} {cy : Nat → ClassId} {b z : Nat} {tx : TX} (C0 : CallFix p m c cX12_count 4 s args TB RX12) (hr : meth.sig.returnType = (some .int)) (hlk : meth.locks = false) (hT : TxR tx s) {k : Int32 → sSt → Prop} : ∀ (n9 : Nat), ∀ (a2 : Int32) (a3 : Int32) (S : sSt) (H : Heap) (locs : List Loc) (ls : Array Slot) , B_X12_count_156 n9 a2 a3 S k → RelM D cy b z tx S s H → va_S (gA b 12 z) s.heap H locs → lv_has ls 4 [(0, .ref (b + adM 0 0)), (2, .int a2), (3, .int a3)] → W p l e rm_X12_count s m args below meth c H locs 0 0 (MQ below (PiM D cy b z tx k) args s 0 0 (gA b 12 z)) (F0 m 156 ls []) := by
  intro n9
  induction n9 with
  | zero => intro a2 a3 S H locs ls h; exact h.elim
  | succ n9 ih =>
    intro a2 a3 S H locs ls h hR hS hl
    exact Bbw_X12_count_156 C0 hr hlk hT ih a2 a3 S H locs ls h hR hS hl
def F_X12_count (a1 : Int32) (S : sSt) (k : Int32 → sSt → Prop) : Prop := ∀ S1, S1 = uI S 0 0 0 0 → ((a1 = 0 → B_X12_count_98 fuel 0 0 S1 k) ∧ (¬ a1 = 0 → ((a1 = 1 → k (S1.1 1 0 0) S1) ∧ (¬ a1 = 1 → ((a1 = 2 → k (S1.1 1 0 1) S1) ∧ (¬ a1 = 2 → ((a1 = 3 → k (S1.1 1 0 2) S1) ∧ (¬ a1 = 3 → ((a1 = 4 → F_X12_in a1 4 9 S1 (fun r13 S14 => ((r13 = 0 → F_X12_in a1 12 16 S14 (fun r16 S17 => ((r16 = 0 → k (-1) S17) ∧ (¬ r16 = 0 → ix ((9 + a1) - 12) 10421 (fun j19 => k (S17.1 1 0 j19) S17))))) ∧ (¬ r13 = 0 → ix ((3 + a1) - 4) 10421 (fun j20 => k (S14.1 1 0 j20) S14))))) ∧ (¬ a1 = 4 → ((a1 = 5 → F_X12_in a1 4 9 S1 (fun r22 S23 => ((r22 = 0 → F_X12_in a1 12 16 S23 (fun r25 S26 => ((r25 = 0 → k (-1) S26) ∧ (¬ r25 = 0 → ix ((9 + a1) - 12) 10421 (fun j28 => k (S26.1 1 0 j28) S26))))) ∧ (¬ r22 = 0 → ix ((3 + a1) - 4) 10421 (fun j29 => k (S23.1 1 0 j29) S23))))) ∧ (¬ a1 = 5 → ((a1 = 6 → F_X12_in a1 4 9 S1 (fun r31 S32 => ((r31 = 0 → F_X12_in a1 12 16 S32 (fun r34 S35 => ((r34 = 0 → k (-1) S35) ∧ (¬ r34 = 0 → ix ((9 + a1) - 12) 10421 (fun j37 => k (S35.1 1 0 j37) S35))))) ∧ (¬ r31 = 0 → ix ((3 + a1) - 4) 10421 (fun j38 => k (S32.1 1 0 j38) S32))))) ∧ (¬ a1 = 6 → ((a1 = 7 → F_X12_in a1 4 9 S1 (fun r40 S41 => ((r40 = 0 → F_X12_in a1 12 16 S41 (fun r43 S44 => ((r43 = 0 → k (-1) S44) ∧ (¬ r43 = 0 → ix ((9 + a1) - 12) 10421 (fun j46 => k (S44.1 1 0 j46) S44))))) ∧ (¬ r40 = 0 → ix ((3 + a1) - 4) 10421 (fun j47 => k (S41.1 1 0 j47) S41))))) ∧ (¬ a1 = 7 → ((a1 = 8 → F_X12_in a1 4 9 S1 (fun r49 S50 => ((r49 = 0 → F_X12_in a1 12 16 S50 (fun r52 S53 => ((r52 = 0 → k (-1) S53) ∧ (¬ r52 = 0 → ix ((9 + a1) - 12) 10421 (fun j55 => k (S53.1 1 0 j55) S53))))) ∧ (¬ r49 = 0 → ix ((3 + a1) - 4) 10421 (fun j56 => k (S50.1 1 0 j56) S50))))) ∧ (¬ a1 = 8 → ((a1 = 9 → F_X12_in a1 4 9 S1 (fun r58 S59 => ((r58 = 0 → F_X12_in a1 12 16 S59 (fun r61 S62 => ((r61 = 0 → k (-1) S62) ∧ (¬ r61 = 0 → ix ((9 + a1) - 12) 10421 (fun j64 => k (S62.1 1 0 j64) S62))))) ∧ (¬ r58 = 0 → ix ((3 + a1) - 4) 10421 (fun j65 => k (S59.1 1 0 j65) S59))))) ∧ (¬ a1 = 9 → ((a1 = 10 → F_X12_opened S1 (fun r67 S68 => k r67 S68)) ∧ (¬ a1 = 10 → ((a1 = 11 → B_X12_count_156 fuel 0 0 S1 k) ∧ (¬ a1 = 11 → ((a1 = 12 → F_X12_in a1 4 9 S1 (fun r80 S81 => ((r80 = 0 → F_X12_in a1 12 16 S81 (fun r83 S84 => ((r83 = 0 → k (-1) S84) ∧ (¬ r83 = 0 → ix ((9 + a1) - 12) 10421 (fun j86 => k (S84.1 1 0 j86) S84))))) ∧ (¬ r80 = 0 → ix ((3 + a1) - 4) 10421 (fun j87 => k (S81.1 1 0 j87) S81))))) ∧ (¬ a1 = 12 → ((a1 = 13 → F_X12_in a1 4 9 S1 (fun r89 S90 => ((r89 = 0 → F_X12_in a1 12 16 S90 (fun r92 S93 => ((r92 = 0 → k (-1) S93) ∧ (¬ r92 = 0 → ix ((9 + a1) - 12) 10421 (fun j95 => k (S93.1 1 0 j95) S93))))) ∧ (¬ r89 = 0 → ix ((3 + a1) - 4) 10421 (fun j96 => k (S90.1 1 0 j96) S90))))) ∧ (¬ a1 = 13 → ((a1 = 14 → F_X12_in a1 4 9 S1 (fun r98 S99 => ((r98 = 0 → F_X12_in a1 12 16 S99 (fun r101 S102 => ((r101 = 0 → k (-1) S102) ∧ (¬ r101 = 0 → ix ((9 + a1) - 12) 10421 (fun j104 => k (S102.1 1 0 j104) S102))))) ∧ (¬ r98 = 0 → ix ((3 + a1) - 4) 10421 (fun j105 => k (S99.1 1 0 j105) S99))))) ∧ (¬ a1 = 14 → ((a1 = 15 → F_X12_in a1 4 9 S1 (fun r107 S108 => ((r107 = 0 → F_X12_in a1 12 16 S108 (fun r110 S111 => ((r110 = 0 → k (-1) S111) ∧ (¬ r110 = 0 → ix ((9 + a1) - 12) 10421 (fun j113 => k (S111.1 1 0 j113) S111))))) ∧ (¬ r107 = 0 → ix ((3 + a1) - 4) 10421 (fun j114 => k (S108.1 1 0 j114) S108))))) ∧ (¬ a1 = 15 → ((a1 = 16 → F_X12_in a1 4 9 S1 (fun r116 S117 => ((r116 = 0 → F_X12_in a1 12 16 S117 (fun r119 S120 => ((r119 = 0 → k (-1) S120) ∧ (¬ r119 = 0 → ix ((9 + a1) - 12) 10421 (fun j122 => k (S120.1 1 0 j122) S120))))) ∧ (¬ r116 = 0 → ix ((3 + a1) - 4) 10421 (fun j123 => k (S117.1 1 0 j123) S117))))) ∧ (¬ a1 = 16 → ((a1 = 17 → k (S1.1 1 0 14) S1) ∧ (¬ a1 = 17 → F_X12_in a1 4 9 S1 (fun r125 S126 => ((r125 = 0 → F_X12_in a1 12 16 S126 (fun r128 S129 => ((r128 = 0 → k (-1) S129) ∧ (¬ r128 = 0 → ix ((9 + a1) - 12) 10421 (fun j131 => k (S129.1 1 0 j131) S129))))) ∧ (¬ r125 = 0 → ix ((3 + a1) - 4) 10421 (fun j132 => k (S126.1 1 0 j132) S126))))))))))))))))))))))))))))))))))))))))
set_option maxHeartbeats 4000000 in
set_option maxRecDepth 100000 in
theorem c_X12_count (l : Launch) {D : va_G} {cy : Nat → ClassId} {b z : Nat} {tx : TX} {a1 : Int32} {S : sSt} {k : Int32 → sSt → Prop} (h : F_X12_count a1 S k) : Met l yX12_count (Cond.code yX12_count cX12_count 4 (some .int) :: TB) rm_X12_count (va_Pc [.ref (b + adM 0 0), .int a1] (fun U => RelM D cy b z tx S U U.heap ∧ TxR tx U)) (PiM D cy b z tx k) 0 0 (gA b 12 z) := by
  refine Met.ofW (cc := cX12_count) (maxL := 4) (ret := (some .int)) (by decide) rfl ?_
  intro p e s m args below meth c s₁ B hml hv
  obtain ⟨rfl, hR, hT⟩ := hv
  have C0 : CallFix p m c cX12_count 4 s _ TB RX12 := ⟨B.exec, B.bytes, hml, findClass_of_methodNamed B.named, fun w hw => atoms_spec B.pre w (List.mem_cons_of_mem _ hw)⟩
  have hr := B.returns
  have hlk := B.notSynchronized
  have hx := C0.1
  have hb := C0.2.1
  have hS : va_S (gA b 12 z) s.heap s.heap [] := va_S.rf
  have hl := lv_entry ([.ref (b + adM 0 0), .int a1]) (n := 4) (Nat.le_of_ble_eq_true rfl)
  rw [lg_entry_eq]
  generalize (lg_sl ([.ref (b + adM 0 0), .int a1]) ++ List.replicate (4 - (lg_sl ([.ref (b + adM 0 0), .int a1])).length) Slot.unset).toArray = ls at hl ⊢
  have hl : lv_has ls 4 [(0, .ref (b + adM 0 0)), (1, .int a1)] := hl
  show W p l e rm_X12_count s m _ below meth c s.heap [] 0 0 (MQ below (PiM D cy b z tx k) _ s 0 0 (gA b 12 z)) _
  unfold F_X12_count at h
  refine lv_aload_n hx hb dX12_count_0 rfl (lv_at hl 0 rfl) ?_
  refine lv_iconst (v := 0) hx hb dX12_count_1 (by decide) ?_
  refine pM_0_0 C0 hR hS Nat.zero_lt_one tbs_wsX120 mM10_7_77 dX12_count_2 (fun S1 eS1 H locs hR hS => ?_)
  have h := h S1 eS1
  refine lv_iconst (v := 0) hx hb dX12_count_5 (by decide) ?_
  refine lv_istore_n (lv' := [(2, .int 0), (0, .ref (b + adM 0 0)), (1, .int a1)]) hx hb dX12_count_6 rfl hl (by decide) rfl (fun ls hl => ?_)
  refine lv_iload_n hx hb dX12_count_7 rfl (lv_at hl 2 rfl) ?_
  by_cases c2 : a1 = 0
  · have h := h.1 c2
    refine lv_tableIn (tgt := 96) hx hb dX12_count_8 (by rw [c2]; decide) (by rw [c2]; decide) (by rw [c2]; rfl) (by decide) ?_
    refine lv_iconst (v := 0) hx hb dX12_count_96 (by decide) ?_
    refine lv_istore_n (lv' := [(3, .int 0), (2, .int 0), (0, .ref (b + adM 0 0)), (1, .int a1)]) hx hb dX12_count_97 rfl hl (by decide) rfl (fun ls hl => ?_)
    exact Bw_X12_count_98 C0 hr hlk hT fuel 0 0 S1 _ _ _ h hR hS (lv_sub hl [2, 1, 0] rfl)
  have h := h.2 c2
  by_cases c9 : a1 = 1
  · have h := h.1 c9
    refine lv_tableIn (tgt := 128) hx hb dX12_count_8 (by rw [c9]; decide) (by rw [c9]; decide) (by rw [c9]; rfl) (by decide) ?_
    refine lv_aload_n hx hb dX12_count_128 rfl (lv_at hl 1 rfl) ?_
    refine gM_0_2 C0 hR Nat.zero_lt_one tbs_wsX120 mM10_7_79 dX12_count_129 ?_
    refine lv_iconst (v := 0) hx hb dX12_count_132 (by decide) ?_
    refine lM_1 C0 hR Nat.zero_lt_one (by decide) rfl dX12_count_133 ?_
    exact rtM_i C0 hr hlk hR hS h dX12_count_134
  have h := h.2 c9
  by_cases c10 : a1 = 2
  · have h := h.1 c10
    refine lv_tableIn (tgt := 135) hx hb dX12_count_8 (by rw [c10]; decide) (by rw [c10]; decide) (by rw [c10]; rfl) (by decide) ?_
    refine lv_aload_n hx hb dX12_count_135 rfl (lv_at hl 1 rfl) ?_
    refine gM_0_2 C0 hR Nat.zero_lt_one tbs_wsX120 mM10_7_79 dX12_count_136 ?_
    refine lv_iconst (v := 1) hx hb dX12_count_139 (by decide) ?_
    refine lM_1 C0 hR Nat.zero_lt_one (by decide) rfl dX12_count_140 ?_
    exact rtM_i C0 hr hlk hR hS h dX12_count_141
  have h := h.2 c10
  by_cases c11 : a1 = 3
  · have h := h.1 c11
    refine lv_tableIn (tgt := 142) hx hb dX12_count_8 (by rw [c11]; decide) (by rw [c11]; decide) (by rw [c11]; rfl) (by decide) ?_
    refine lv_aload_n hx hb dX12_count_142 rfl (lv_at hl 1 rfl) ?_
    refine gM_0_2 C0 hR Nat.zero_lt_one tbs_wsX120 mM10_7_79 dX12_count_143 ?_
    refine lv_iconst (v := 2) hx hb dX12_count_146 (by decide) ?_
    refine lM_1 C0 hR Nat.zero_lt_one (by decide) rfl dX12_count_147 ?_
    exact rtM_i C0 hr hlk hR hS h dX12_count_148
  have h := h.2 c11
  by_cases c12 : a1 = 4
  · have h := h.1 c12
    refine lv_tableIn (tgt := 204) hx hb dX12_count_8 (by rw [c12]; decide) (by rw [c12]; decide) (by rw [c12]; rfl) (by decide) ?_
    refine lv_iload_n hx hb dX12_count_204 rfl (lv_at hl 2 rfl) ?_
    refine lv_iconst (v := 4) hx hb dX12_count_205 (by decide) ?_
    refine lv_bipush (v := 9) hx hb dX12_count_206 (by decide) ?_
    refine qM_Si (As := [.int a1, .int 4, .int 9]) (rest := []) C0 (c_X12_in l h) (va_cwS 3 C0.2.2.2.2 (tbS mM10_8_37 ⟨mM10_8_38, mM10_1_11, mM10_8_39⟩) rfl rfl rfl (by decide +kernel) ⟨Nat.le_of_ble_eq_true rfl, Nat.le_of_ble_eq_true rfl⟩) hR hT hS rfl hl.1 rfl (Nat.le_of_ble_eq_true rfl) dX12_count_208 ⟨Nat.zero_le _, Nat.zero_le _⟩ (fun r13 S14 H locs h hR hS => ?_)
    refine lv_if_eq (tgt := 227) hx hb dX12_count_211 (by decide) (fun c15 => ?_) (fun c15 => ?_)
    · have h := h.1 c15
      refine lv_iload_n hx hb dX12_count_227 rfl (lv_at hl 2 rfl) ?_
      refine lv_bipush (v := 12) hx hb dX12_count_228 (by decide) ?_
      refine lv_bipush (v := 16) hx hb dX12_count_230 (by decide) ?_
      refine qM_Si (As := [.int a1, .int 12, .int 16]) (rest := []) C0 (c_X12_in l h) (va_cwS 3 C0.2.2.2.2 (tbS mM10_8_37 ⟨mM10_8_38, mM10_1_11, mM10_8_39⟩) rfl rfl rfl (by decide +kernel) ⟨Nat.le_of_ble_eq_true rfl, Nat.le_of_ble_eq_true rfl⟩) hR hT hS rfl hl.1 rfl (Nat.le_of_ble_eq_true rfl) dX12_count_232 ⟨Nat.zero_le _, Nat.zero_le _⟩ (fun r16 S17 H locs h hR hS => ?_)
      refine lv_if_eq (tgt := 253) hx hb dX12_count_235 (by decide) (fun c18 => ?_) (fun c18 => ?_)
      · have h := h.1 c18
        refine lv_iconst (v := (-1)) hx hb dX12_count_253 (by decide) ?_
        exact rtM_i C0 hr hlk hR hS h dX12_count_254
      · have h := h.2 c18
        refine lv_aload_n hx hb dX12_count_238 rfl (lv_at hl 1 rfl) ?_
        refine gM_0_2 C0 hR Nat.zero_lt_one tbs_wsX120 mM10_7_79 dX12_count_239 ?_
        refine lv_bipush (v := 9) hx hb dX12_count_242 (by decide) ?_
        refine lv_iload_n hx hb dX12_count_244 rfl (lv_at hl 2 rfl) ?_
        refine lv_iadd hx hb dX12_count_245 ?_
        refine lv_bipush (v := 12) hx hb dX12_count_246 (by decide) ?_
        refine lv_isub hx hb dX12_count_248 ?_
        obtain ⟨j19, hj19, ej19, h⟩ := h
        refine lM_1 C0 hR Nat.zero_lt_one hj19 ej19 dX12_count_249 ?_
        refine lv_goto (tgt := 254) hx hb dX12_count_250 (by decide) ?_
        exact rtM_i C0 hr hlk hR hS h dX12_count_254
    · have h := h.2 c15
      refine lv_aload_n hx hb dX12_count_214 rfl (lv_at hl 1 rfl) ?_
      refine gM_0_2 C0 hR Nat.zero_lt_one tbs_wsX120 mM10_7_79 dX12_count_215 ?_
      refine lv_iconst (v := 3) hx hb dX12_count_218 (by decide) ?_
      refine lv_iload_n hx hb dX12_count_219 rfl (lv_at hl 2 rfl) ?_
      refine lv_iadd hx hb dX12_count_220 ?_
      refine lv_iconst (v := 4) hx hb dX12_count_221 (by decide) ?_
      refine lv_isub hx hb dX12_count_222 ?_
      obtain ⟨j20, hj20, ej20, h⟩ := h
      refine lM_1 C0 hR Nat.zero_lt_one hj20 ej20 dX12_count_223 ?_
      refine lv_goto (tgt := 254) hx hb dX12_count_224 (by decide) ?_
      exact rtM_i C0 hr hlk hR hS h dX12_count_254
  have h := h.2 c12
  by_cases c21 : a1 = 5
  · have h := h.1 c21
    refine lv_tableIn (tgt := 204) hx hb dX12_count_8 (by rw [c21]; decide) (by rw [c21]; decide) (by rw [c21]; rfl) (by decide) ?_
    refine lv_iload_n hx hb dX12_count_204 rfl (lv_at hl 2 rfl) ?_
    refine lv_iconst (v := 4) hx hb dX12_count_205 (by decide) ?_
    refine lv_bipush (v := 9) hx hb dX12_count_206 (by decide) ?_
    refine qM_Si (As := [.int a1, .int 4, .int 9]) (rest := []) C0 (c_X12_in l h) (va_cwS 3 C0.2.2.2.2 (tbS mM10_8_37 ⟨mM10_8_38, mM10_1_11, mM10_8_39⟩) rfl rfl rfl (by decide +kernel) ⟨Nat.le_of_ble_eq_true rfl, Nat.le_of_ble_eq_true rfl⟩) hR hT hS rfl hl.1 rfl (Nat.le_of_ble_eq_true rfl) dX12_count_208 ⟨Nat.zero_le _, Nat.zero_le _⟩ (fun r22 S23 H locs h hR hS => ?_)
    refine lv_if_eq (tgt := 227) hx hb dX12_count_211 (by decide) (fun c24 => ?_) (fun c24 => ?_)
    · have h := h.1 c24
      refine lv_iload_n hx hb dX12_count_227 rfl (lv_at hl 2 rfl) ?_
      refine lv_bipush (v := 12) hx hb dX12_count_228 (by decide) ?_
      refine lv_bipush (v := 16) hx hb dX12_count_230 (by decide) ?_
      refine qM_Si (As := [.int a1, .int 12, .int 16]) (rest := []) C0 (c_X12_in l h) (va_cwS 3 C0.2.2.2.2 (tbS mM10_8_37 ⟨mM10_8_38, mM10_1_11, mM10_8_39⟩) rfl rfl rfl (by decide +kernel) ⟨Nat.le_of_ble_eq_true rfl, Nat.le_of_ble_eq_true rfl⟩) hR hT hS rfl hl.1 rfl (Nat.le_of_ble_eq_true rfl) dX12_count_232 ⟨Nat.zero_le _, Nat.zero_le _⟩ (fun r25 S26 H locs h hR hS => ?_)
      refine lv_if_eq (tgt := 253) hx hb dX12_count_235 (by decide) (fun c27 => ?_) (fun c27 => ?_)
      · have h := h.1 c27
        refine lv_iconst (v := (-1)) hx hb dX12_count_253 (by decide) ?_
        exact rtM_i C0 hr hlk hR hS h dX12_count_254
      · have h := h.2 c27
        refine lv_aload_n hx hb dX12_count_238 rfl (lv_at hl 1 rfl) ?_
        refine gM_0_2 C0 hR Nat.zero_lt_one tbs_wsX120 mM10_7_79 dX12_count_239 ?_
        refine lv_bipush (v := 9) hx hb dX12_count_242 (by decide) ?_
        refine lv_iload_n hx hb dX12_count_244 rfl (lv_at hl 2 rfl) ?_
        refine lv_iadd hx hb dX12_count_245 ?_
        refine lv_bipush (v := 12) hx hb dX12_count_246 (by decide) ?_
        refine lv_isub hx hb dX12_count_248 ?_
        obtain ⟨j28, hj28, ej28, h⟩ := h
        refine lM_1 C0 hR Nat.zero_lt_one hj28 ej28 dX12_count_249 ?_
        refine lv_goto (tgt := 254) hx hb dX12_count_250 (by decide) ?_
        exact rtM_i C0 hr hlk hR hS h dX12_count_254
    · have h := h.2 c24
      refine lv_aload_n hx hb dX12_count_214 rfl (lv_at hl 1 rfl) ?_
      refine gM_0_2 C0 hR Nat.zero_lt_one tbs_wsX120 mM10_7_79 dX12_count_215 ?_
      refine lv_iconst (v := 3) hx hb dX12_count_218 (by decide) ?_
      refine lv_iload_n hx hb dX12_count_219 rfl (lv_at hl 2 rfl) ?_
      refine lv_iadd hx hb dX12_count_220 ?_
      refine lv_iconst (v := 4) hx hb dX12_count_221 (by decide) ?_
      refine lv_isub hx hb dX12_count_222 ?_
      obtain ⟨j29, hj29, ej29, h⟩ := h
      refine lM_1 C0 hR Nat.zero_lt_one hj29 ej29 dX12_count_223 ?_
      refine lv_goto (tgt := 254) hx hb dX12_count_224 (by decide) ?_
      exact rtM_i C0 hr hlk hR hS h dX12_count_254
  have h := h.2 c21
  by_cases c30 : a1 = 6
  · have h := h.1 c30
    refine lv_tableIn (tgt := 204) hx hb dX12_count_8 (by rw [c30]; decide) (by rw [c30]; decide) (by rw [c30]; rfl) (by decide) ?_
    refine lv_iload_n hx hb dX12_count_204 rfl (lv_at hl 2 rfl) ?_
    refine lv_iconst (v := 4) hx hb dX12_count_205 (by decide) ?_
    refine lv_bipush (v := 9) hx hb dX12_count_206 (by decide) ?_
    refine qM_Si (As := [.int a1, .int 4, .int 9]) (rest := []) C0 (c_X12_in l h) (va_cwS 3 C0.2.2.2.2 (tbS mM10_8_37 ⟨mM10_8_38, mM10_1_11, mM10_8_39⟩) rfl rfl rfl (by decide +kernel) ⟨Nat.le_of_ble_eq_true rfl, Nat.le_of_ble_eq_true rfl⟩) hR hT hS rfl hl.1 rfl (Nat.le_of_ble_eq_true rfl) dX12_count_208 ⟨Nat.zero_le _, Nat.zero_le _⟩ (fun r31 S32 H locs h hR hS => ?_)
    refine lv_if_eq (tgt := 227) hx hb dX12_count_211 (by decide) (fun c33 => ?_) (fun c33 => ?_)
    · have h := h.1 c33
      refine lv_iload_n hx hb dX12_count_227 rfl (lv_at hl 2 rfl) ?_
      refine lv_bipush (v := 12) hx hb dX12_count_228 (by decide) ?_
      refine lv_bipush (v := 16) hx hb dX12_count_230 (by decide) ?_
      refine qM_Si (As := [.int a1, .int 12, .int 16]) (rest := []) C0 (c_X12_in l h) (va_cwS 3 C0.2.2.2.2 (tbS mM10_8_37 ⟨mM10_8_38, mM10_1_11, mM10_8_39⟩) rfl rfl rfl (by decide +kernel) ⟨Nat.le_of_ble_eq_true rfl, Nat.le_of_ble_eq_true rfl⟩) hR hT hS rfl hl.1 rfl (Nat.le_of_ble_eq_true rfl) dX12_count_232 ⟨Nat.zero_le _, Nat.zero_le _⟩ (fun r34 S35 H locs h hR hS => ?_)
      refine lv_if_eq (tgt := 253) hx hb dX12_count_235 (by decide) (fun c36 => ?_) (fun c36 => ?_)
      · have h := h.1 c36
        refine lv_iconst (v := (-1)) hx hb dX12_count_253 (by decide) ?_
        exact rtM_i C0 hr hlk hR hS h dX12_count_254
      · have h := h.2 c36
        refine lv_aload_n hx hb dX12_count_238 rfl (lv_at hl 1 rfl) ?_
        refine gM_0_2 C0 hR Nat.zero_lt_one tbs_wsX120 mM10_7_79 dX12_count_239 ?_
        refine lv_bipush (v := 9) hx hb dX12_count_242 (by decide) ?_
        refine lv_iload_n hx hb dX12_count_244 rfl (lv_at hl 2 rfl) ?_
        refine lv_iadd hx hb dX12_count_245 ?_
        refine lv_bipush (v := 12) hx hb dX12_count_246 (by decide) ?_
        refine lv_isub hx hb dX12_count_248 ?_
        obtain ⟨j37, hj37, ej37, h⟩ := h
        refine lM_1 C0 hR Nat.zero_lt_one hj37 ej37 dX12_count_249 ?_
        refine lv_goto (tgt := 254) hx hb dX12_count_250 (by decide) ?_
        exact rtM_i C0 hr hlk hR hS h dX12_count_254
    · have h := h.2 c33
      refine lv_aload_n hx hb dX12_count_214 rfl (lv_at hl 1 rfl) ?_
      refine gM_0_2 C0 hR Nat.zero_lt_one tbs_wsX120 mM10_7_79 dX12_count_215 ?_
      refine lv_iconst (v := 3) hx hb dX12_count_218 (by decide) ?_
      refine lv_iload_n hx hb dX12_count_219 rfl (lv_at hl 2 rfl) ?_
      refine lv_iadd hx hb dX12_count_220 ?_
      refine lv_iconst (v := 4) hx hb dX12_count_221 (by decide) ?_
      refine lv_isub hx hb dX12_count_222 ?_
      obtain ⟨j38, hj38, ej38, h⟩ := h
      refine lM_1 C0 hR Nat.zero_lt_one hj38 ej38 dX12_count_223 ?_
      refine lv_goto (tgt := 254) hx hb dX12_count_224 (by decide) ?_
      exact rtM_i C0 hr hlk hR hS h dX12_count_254
  have h := h.2 c30
  by_cases c39 : a1 = 7
  · have h := h.1 c39
    refine lv_tableIn (tgt := 204) hx hb dX12_count_8 (by rw [c39]; decide) (by rw [c39]; decide) (by rw [c39]; rfl) (by decide) ?_
    refine lv_iload_n hx hb dX12_count_204 rfl (lv_at hl 2 rfl) ?_
    refine lv_iconst (v := 4) hx hb dX12_count_205 (by decide) ?_
    refine lv_bipush (v := 9) hx hb dX12_count_206 (by decide) ?_
    refine qM_Si (As := [.int a1, .int 4, .int 9]) (rest := []) C0 (c_X12_in l h) (va_cwS 3 C0.2.2.2.2 (tbS mM10_8_37 ⟨mM10_8_38, mM10_1_11, mM10_8_39⟩) rfl rfl rfl (by decide +kernel) ⟨Nat.le_of_ble_eq_true rfl, Nat.le_of_ble_eq_true rfl⟩) hR hT hS rfl hl.1 rfl (Nat.le_of_ble_eq_true rfl) dX12_count_208 ⟨Nat.zero_le _, Nat.zero_le _⟩ (fun r40 S41 H locs h hR hS => ?_)
    refine lv_if_eq (tgt := 227) hx hb dX12_count_211 (by decide) (fun c42 => ?_) (fun c42 => ?_)
    · have h := h.1 c42
      refine lv_iload_n hx hb dX12_count_227 rfl (lv_at hl 2 rfl) ?_
      refine lv_bipush (v := 12) hx hb dX12_count_228 (by decide) ?_
      refine lv_bipush (v := 16) hx hb dX12_count_230 (by decide) ?_
      refine qM_Si (As := [.int a1, .int 12, .int 16]) (rest := []) C0 (c_X12_in l h) (va_cwS 3 C0.2.2.2.2 (tbS mM10_8_37 ⟨mM10_8_38, mM10_1_11, mM10_8_39⟩) rfl rfl rfl (by decide +kernel) ⟨Nat.le_of_ble_eq_true rfl, Nat.le_of_ble_eq_true rfl⟩) hR hT hS rfl hl.1 rfl (Nat.le_of_ble_eq_true rfl) dX12_count_232 ⟨Nat.zero_le _, Nat.zero_le _⟩ (fun r43 S44 H locs h hR hS => ?_)
      refine lv_if_eq (tgt := 253) hx hb dX12_count_235 (by decide) (fun c45 => ?_) (fun c45 => ?_)
      · have h := h.1 c45
        refine lv_iconst (v := (-1)) hx hb dX12_count_253 (by decide) ?_
        exact rtM_i C0 hr hlk hR hS h dX12_count_254
      · have h := h.2 c45
        refine lv_aload_n hx hb dX12_count_238 rfl (lv_at hl 1 rfl) ?_
        refine gM_0_2 C0 hR Nat.zero_lt_one tbs_wsX120 mM10_7_79 dX12_count_239 ?_
        refine lv_bipush (v := 9) hx hb dX12_count_242 (by decide) ?_
        refine lv_iload_n hx hb dX12_count_244 rfl (lv_at hl 2 rfl) ?_
        refine lv_iadd hx hb dX12_count_245 ?_
        refine lv_bipush (v := 12) hx hb dX12_count_246 (by decide) ?_
        refine lv_isub hx hb dX12_count_248 ?_
        obtain ⟨j46, hj46, ej46, h⟩ := h
        refine lM_1 C0 hR Nat.zero_lt_one hj46 ej46 dX12_count_249 ?_
        refine lv_goto (tgt := 254) hx hb dX12_count_250 (by decide) ?_
        exact rtM_i C0 hr hlk hR hS h dX12_count_254
    · have h := h.2 c42
      refine lv_aload_n hx hb dX12_count_214 rfl (lv_at hl 1 rfl) ?_
      refine gM_0_2 C0 hR Nat.zero_lt_one tbs_wsX120 mM10_7_79 dX12_count_215 ?_
      refine lv_iconst (v := 3) hx hb dX12_count_218 (by decide) ?_
      refine lv_iload_n hx hb dX12_count_219 rfl (lv_at hl 2 rfl) ?_
      refine lv_iadd hx hb dX12_count_220 ?_
      refine lv_iconst (v := 4) hx hb dX12_count_221 (by decide) ?_
      refine lv_isub hx hb dX12_count_222 ?_
      obtain ⟨j47, hj47, ej47, h⟩ := h
      refine lM_1 C0 hR Nat.zero_lt_one hj47 ej47 dX12_count_223 ?_
      refine lv_goto (tgt := 254) hx hb dX12_count_224 (by decide) ?_
      exact rtM_i C0 hr hlk hR hS h dX12_count_254
  have h := h.2 c39
  by_cases c48 : a1 = 8
  · have h := h.1 c48
    refine lv_tableIn (tgt := 204) hx hb dX12_count_8 (by rw [c48]; decide) (by rw [c48]; decide) (by rw [c48]; rfl) (by decide) ?_
    refine lv_iload_n hx hb dX12_count_204 rfl (lv_at hl 2 rfl) ?_
    refine lv_iconst (v := 4) hx hb dX12_count_205 (by decide) ?_
    refine lv_bipush (v := 9) hx hb dX12_count_206 (by decide) ?_
    refine qM_Si (As := [.int a1, .int 4, .int 9]) (rest := []) C0 (c_X12_in l h) (va_cwS 3 C0.2.2.2.2 (tbS mM10_8_37 ⟨mM10_8_38, mM10_1_11, mM10_8_39⟩) rfl rfl rfl (by decide +kernel) ⟨Nat.le_of_ble_eq_true rfl, Nat.le_of_ble_eq_true rfl⟩) hR hT hS rfl hl.1 rfl (Nat.le_of_ble_eq_true rfl) dX12_count_208 ⟨Nat.zero_le _, Nat.zero_le _⟩ (fun r49 S50 H locs h hR hS => ?_)
    refine lv_if_eq (tgt := 227) hx hb dX12_count_211 (by decide) (fun c51 => ?_) (fun c51 => ?_)
    · have h := h.1 c51
      refine lv_iload_n hx hb dX12_count_227 rfl (lv_at hl 2 rfl) ?_
      refine lv_bipush (v := 12) hx hb dX12_count_228 (by decide) ?_
      refine lv_bipush (v := 16) hx hb dX12_count_230 (by decide) ?_
      refine qM_Si (As := [.int a1, .int 12, .int 16]) (rest := []) C0 (c_X12_in l h) (va_cwS 3 C0.2.2.2.2 (tbS mM10_8_37 ⟨mM10_8_38, mM10_1_11, mM10_8_39⟩) rfl rfl rfl (by decide +kernel) ⟨Nat.le_of_ble_eq_true rfl, Nat.le_of_ble_eq_true rfl⟩) hR hT hS rfl hl.1 rfl (Nat.le_of_ble_eq_true rfl) dX12_count_232 ⟨Nat.zero_le _, Nat.zero_le _⟩ (fun r52 S53 H locs h hR hS => ?_)
      refine lv_if_eq (tgt := 253) hx hb dX12_count_235 (by decide) (fun c54 => ?_) (fun c54 => ?_)
      · have h := h.1 c54
        refine lv_iconst (v := (-1)) hx hb dX12_count_253 (by decide) ?_
        exact rtM_i C0 hr hlk hR hS h dX12_count_254
      · have h := h.2 c54
        refine lv_aload_n hx hb dX12_count_238 rfl (lv_at hl 1 rfl) ?_
        refine gM_0_2 C0 hR Nat.zero_lt_one tbs_wsX120 mM10_7_79 dX12_count_239 ?_
        refine lv_bipush (v := 9) hx hb dX12_count_242 (by decide) ?_
        refine lv_iload_n hx hb dX12_count_244 rfl (lv_at hl 2 rfl) ?_
        refine lv_iadd hx hb dX12_count_245 ?_
        refine lv_bipush (v := 12) hx hb dX12_count_246 (by decide) ?_
        refine lv_isub hx hb dX12_count_248 ?_
        obtain ⟨j55, hj55, ej55, h⟩ := h
        refine lM_1 C0 hR Nat.zero_lt_one hj55 ej55 dX12_count_249 ?_
        refine lv_goto (tgt := 254) hx hb dX12_count_250 (by decide) ?_
        exact rtM_i C0 hr hlk hR hS h dX12_count_254
    · have h := h.2 c51
      refine lv_aload_n hx hb dX12_count_214 rfl (lv_at hl 1 rfl) ?_
      refine gM_0_2 C0 hR Nat.zero_lt_one tbs_wsX120 mM10_7_79 dX12_count_215 ?_
      refine lv_iconst (v := 3) hx hb dX12_count_218 (by decide) ?_
      refine lv_iload_n hx hb dX12_count_219 rfl (lv_at hl 2 rfl) ?_
      refine lv_iadd hx hb dX12_count_220 ?_
      refine lv_iconst (v := 4) hx hb dX12_count_221 (by decide) ?_
      refine lv_isub hx hb dX12_count_222 ?_
      obtain ⟨j56, hj56, ej56, h⟩ := h
      refine lM_1 C0 hR Nat.zero_lt_one hj56 ej56 dX12_count_223 ?_
      refine lv_goto (tgt := 254) hx hb dX12_count_224 (by decide) ?_
      exact rtM_i C0 hr hlk hR hS h dX12_count_254
  have h := h.2 c48
  by_cases c57 : a1 = 9
  · have h := h.1 c57
    refine lv_tableIn (tgt := 204) hx hb dX12_count_8 (by rw [c57]; decide) (by rw [c57]; decide) (by rw [c57]; rfl) (by decide) ?_
    refine lv_iload_n hx hb dX12_count_204 rfl (lv_at hl 2 rfl) ?_
    refine lv_iconst (v := 4) hx hb dX12_count_205 (by decide) ?_
    refine lv_bipush (v := 9) hx hb dX12_count_206 (by decide) ?_
    refine qM_Si (As := [.int a1, .int 4, .int 9]) (rest := []) C0 (c_X12_in l h) (va_cwS 3 C0.2.2.2.2 (tbS mM10_8_37 ⟨mM10_8_38, mM10_1_11, mM10_8_39⟩) rfl rfl rfl (by decide +kernel) ⟨Nat.le_of_ble_eq_true rfl, Nat.le_of_ble_eq_true rfl⟩) hR hT hS rfl hl.1 rfl (Nat.le_of_ble_eq_true rfl) dX12_count_208 ⟨Nat.zero_le _, Nat.zero_le _⟩ (fun r58 S59 H locs h hR hS => ?_)
    refine lv_if_eq (tgt := 227) hx hb dX12_count_211 (by decide) (fun c60 => ?_) (fun c60 => ?_)
    · have h := h.1 c60
      refine lv_iload_n hx hb dX12_count_227 rfl (lv_at hl 2 rfl) ?_
      refine lv_bipush (v := 12) hx hb dX12_count_228 (by decide) ?_
      refine lv_bipush (v := 16) hx hb dX12_count_230 (by decide) ?_
      refine qM_Si (As := [.int a1, .int 12, .int 16]) (rest := []) C0 (c_X12_in l h) (va_cwS 3 C0.2.2.2.2 (tbS mM10_8_37 ⟨mM10_8_38, mM10_1_11, mM10_8_39⟩) rfl rfl rfl (by decide +kernel) ⟨Nat.le_of_ble_eq_true rfl, Nat.le_of_ble_eq_true rfl⟩) hR hT hS rfl hl.1 rfl (Nat.le_of_ble_eq_true rfl) dX12_count_232 ⟨Nat.zero_le _, Nat.zero_le _⟩ (fun r61 S62 H locs h hR hS => ?_)
      refine lv_if_eq (tgt := 253) hx hb dX12_count_235 (by decide) (fun c63 => ?_) (fun c63 => ?_)
      · have h := h.1 c63
        refine lv_iconst (v := (-1)) hx hb dX12_count_253 (by decide) ?_
        exact rtM_i C0 hr hlk hR hS h dX12_count_254
      · have h := h.2 c63
        refine lv_aload_n hx hb dX12_count_238 rfl (lv_at hl 1 rfl) ?_
        refine gM_0_2 C0 hR Nat.zero_lt_one tbs_wsX120 mM10_7_79 dX12_count_239 ?_
        refine lv_bipush (v := 9) hx hb dX12_count_242 (by decide) ?_
        refine lv_iload_n hx hb dX12_count_244 rfl (lv_at hl 2 rfl) ?_
        refine lv_iadd hx hb dX12_count_245 ?_
        refine lv_bipush (v := 12) hx hb dX12_count_246 (by decide) ?_
        refine lv_isub hx hb dX12_count_248 ?_
        obtain ⟨j64, hj64, ej64, h⟩ := h
        refine lM_1 C0 hR Nat.zero_lt_one hj64 ej64 dX12_count_249 ?_
        refine lv_goto (tgt := 254) hx hb dX12_count_250 (by decide) ?_
        exact rtM_i C0 hr hlk hR hS h dX12_count_254
    · have h := h.2 c60
      refine lv_aload_n hx hb dX12_count_214 rfl (lv_at hl 1 rfl) ?_
      refine gM_0_2 C0 hR Nat.zero_lt_one tbs_wsX120 mM10_7_79 dX12_count_215 ?_
      refine lv_iconst (v := 3) hx hb dX12_count_218 (by decide) ?_
      refine lv_iload_n hx hb dX12_count_219 rfl (lv_at hl 2 rfl) ?_
      refine lv_iadd hx hb dX12_count_220 ?_
      refine lv_iconst (v := 4) hx hb dX12_count_221 (by decide) ?_
      refine lv_isub hx hb dX12_count_222 ?_
      obtain ⟨j65, hj65, ej65, h⟩ := h
      refine lM_1 C0 hR Nat.zero_lt_one hj65 ej65 dX12_count_223 ?_
      refine lv_goto (tgt := 254) hx hb dX12_count_224 (by decide) ?_
      exact rtM_i C0 hr hlk hR hS h dX12_count_254
  have h := h.2 c57
  by_cases c66 : a1 = 10
  · have h := h.1 c66
    refine lv_tableIn (tgt := 149) hx hb dX12_count_8 (by rw [c66]; decide) (by rw [c66]; decide) (by rw [c66]; rfl) (by decide) ?_
    refine lv_aload_n hx hb dX12_count_149 rfl (lv_at hl 1 rfl) ?_
    refine qM_Vi (As := []) (rest := []) C0 (c_X12_opened l h) (cwV 0 C0.2.2.2.2 (tbV mM10_8_95 ⟨mM10_8_97, mpM10_4_9, mM10_1_11, mM10_8_98⟩) rfl rfl rfl (by decide +kernel) ⟨Nat.le_of_ble_eq_true rfl, Nat.le_of_ble_eq_true rfl⟩) (rcM_0 hR Nat.zero_lt_one) hR hT hS rfl hl.1 rfl (Nat.le_of_ble_eq_true rfl) dX12_count_150 ⟨Nat.zero_le _, Nat.zero_le _⟩ (fun r67 S68 H locs h hR hS => ?_)
    exact rtM_i C0 hr hlk hR hS h dX12_count_153
  have h := h.2 c66
  by_cases c69 : a1 = 11
  · have h := h.1 c69
    refine lv_tableIn (tgt := 154) hx hb dX12_count_8 (by rw [c69]; decide) (by rw [c69]; decide) (by rw [c69]; rfl) (by decide) ?_
    refine lv_iconst (v := 0) hx hb dX12_count_154 (by decide) ?_
    refine lv_istore_n (lv' := [(3, .int 0), (2, .int 0), (0, .ref (b + adM 0 0)), (1, .int a1)]) hx hb dX12_count_155 rfl hl (by decide) rfl (fun ls hl => ?_)
    exact Bw_X12_count_156 C0 hr hlk hT fuel 0 0 S1 _ _ _ h hR hS (lv_sub hl [2, 1, 0] rfl)
  have h := h.2 c69
  by_cases c79 : a1 = 12
  · have h := h.1 c79
    refine lv_tableIn (tgt := 204) hx hb dX12_count_8 (by rw [c79]; decide) (by rw [c79]; decide) (by rw [c79]; rfl) (by decide) ?_
    refine lv_iload_n hx hb dX12_count_204 rfl (lv_at hl 2 rfl) ?_
    refine lv_iconst (v := 4) hx hb dX12_count_205 (by decide) ?_
    refine lv_bipush (v := 9) hx hb dX12_count_206 (by decide) ?_
    refine qM_Si (As := [.int a1, .int 4, .int 9]) (rest := []) C0 (c_X12_in l h) (va_cwS 3 C0.2.2.2.2 (tbS mM10_8_37 ⟨mM10_8_38, mM10_1_11, mM10_8_39⟩) rfl rfl rfl (by decide +kernel) ⟨Nat.le_of_ble_eq_true rfl, Nat.le_of_ble_eq_true rfl⟩) hR hT hS rfl hl.1 rfl (Nat.le_of_ble_eq_true rfl) dX12_count_208 ⟨Nat.zero_le _, Nat.zero_le _⟩ (fun r80 S81 H locs h hR hS => ?_)
    refine lv_if_eq (tgt := 227) hx hb dX12_count_211 (by decide) (fun c82 => ?_) (fun c82 => ?_)
    · have h := h.1 c82
      refine lv_iload_n hx hb dX12_count_227 rfl (lv_at hl 2 rfl) ?_
      refine lv_bipush (v := 12) hx hb dX12_count_228 (by decide) ?_
      refine lv_bipush (v := 16) hx hb dX12_count_230 (by decide) ?_
      refine qM_Si (As := [.int a1, .int 12, .int 16]) (rest := []) C0 (c_X12_in l h) (va_cwS 3 C0.2.2.2.2 (tbS mM10_8_37 ⟨mM10_8_38, mM10_1_11, mM10_8_39⟩) rfl rfl rfl (by decide +kernel) ⟨Nat.le_of_ble_eq_true rfl, Nat.le_of_ble_eq_true rfl⟩) hR hT hS rfl hl.1 rfl (Nat.le_of_ble_eq_true rfl) dX12_count_232 ⟨Nat.zero_le _, Nat.zero_le _⟩ (fun r83 S84 H locs h hR hS => ?_)
      refine lv_if_eq (tgt := 253) hx hb dX12_count_235 (by decide) (fun c85 => ?_) (fun c85 => ?_)
      · have h := h.1 c85
        refine lv_iconst (v := (-1)) hx hb dX12_count_253 (by decide) ?_
        exact rtM_i C0 hr hlk hR hS h dX12_count_254
      · have h := h.2 c85
        refine lv_aload_n hx hb dX12_count_238 rfl (lv_at hl 1 rfl) ?_
        refine gM_0_2 C0 hR Nat.zero_lt_one tbs_wsX120 mM10_7_79 dX12_count_239 ?_
        refine lv_bipush (v := 9) hx hb dX12_count_242 (by decide) ?_
        refine lv_iload_n hx hb dX12_count_244 rfl (lv_at hl 2 rfl) ?_
        refine lv_iadd hx hb dX12_count_245 ?_
        refine lv_bipush (v := 12) hx hb dX12_count_246 (by decide) ?_
        refine lv_isub hx hb dX12_count_248 ?_
        obtain ⟨j86, hj86, ej86, h⟩ := h
        refine lM_1 C0 hR Nat.zero_lt_one hj86 ej86 dX12_count_249 ?_
        refine lv_goto (tgt := 254) hx hb dX12_count_250 (by decide) ?_
        exact rtM_i C0 hr hlk hR hS h dX12_count_254
    · have h := h.2 c82
      refine lv_aload_n hx hb dX12_count_214 rfl (lv_at hl 1 rfl) ?_
      refine gM_0_2 C0 hR Nat.zero_lt_one tbs_wsX120 mM10_7_79 dX12_count_215 ?_
      refine lv_iconst (v := 3) hx hb dX12_count_218 (by decide) ?_
      refine lv_iload_n hx hb dX12_count_219 rfl (lv_at hl 2 rfl) ?_
      refine lv_iadd hx hb dX12_count_220 ?_
      refine lv_iconst (v := 4) hx hb dX12_count_221 (by decide) ?_
      refine lv_isub hx hb dX12_count_222 ?_
      obtain ⟨j87, hj87, ej87, h⟩ := h
      refine lM_1 C0 hR Nat.zero_lt_one hj87 ej87 dX12_count_223 ?_
      refine lv_goto (tgt := 254) hx hb dX12_count_224 (by decide) ?_
      exact rtM_i C0 hr hlk hR hS h dX12_count_254
  have h := h.2 c79
  by_cases c88 : a1 = 13
  · have h := h.1 c88
    refine lv_tableIn (tgt := 204) hx hb dX12_count_8 (by rw [c88]; decide) (by rw [c88]; decide) (by rw [c88]; rfl) (by decide) ?_
    refine lv_iload_n hx hb dX12_count_204 rfl (lv_at hl 2 rfl) ?_
    refine lv_iconst (v := 4) hx hb dX12_count_205 (by decide) ?_
    refine lv_bipush (v := 9) hx hb dX12_count_206 (by decide) ?_
    refine qM_Si (As := [.int a1, .int 4, .int 9]) (rest := []) C0 (c_X12_in l h) (va_cwS 3 C0.2.2.2.2 (tbS mM10_8_37 ⟨mM10_8_38, mM10_1_11, mM10_8_39⟩) rfl rfl rfl (by decide +kernel) ⟨Nat.le_of_ble_eq_true rfl, Nat.le_of_ble_eq_true rfl⟩) hR hT hS rfl hl.1 rfl (Nat.le_of_ble_eq_true rfl) dX12_count_208 ⟨Nat.zero_le _, Nat.zero_le _⟩ (fun r89 S90 H locs h hR hS => ?_)
    refine lv_if_eq (tgt := 227) hx hb dX12_count_211 (by decide) (fun c91 => ?_) (fun c91 => ?_)
    · have h := h.1 c91
      refine lv_iload_n hx hb dX12_count_227 rfl (lv_at hl 2 rfl) ?_
      refine lv_bipush (v := 12) hx hb dX12_count_228 (by decide) ?_
      refine lv_bipush (v := 16) hx hb dX12_count_230 (by decide) ?_
      refine qM_Si (As := [.int a1, .int 12, .int 16]) (rest := []) C0 (c_X12_in l h) (va_cwS 3 C0.2.2.2.2 (tbS mM10_8_37 ⟨mM10_8_38, mM10_1_11, mM10_8_39⟩) rfl rfl rfl (by decide +kernel) ⟨Nat.le_of_ble_eq_true rfl, Nat.le_of_ble_eq_true rfl⟩) hR hT hS rfl hl.1 rfl (Nat.le_of_ble_eq_true rfl) dX12_count_232 ⟨Nat.zero_le _, Nat.zero_le _⟩ (fun r92 S93 H locs h hR hS => ?_)
      refine lv_if_eq (tgt := 253) hx hb dX12_count_235 (by decide) (fun c94 => ?_) (fun c94 => ?_)
      · have h := h.1 c94
        refine lv_iconst (v := (-1)) hx hb dX12_count_253 (by decide) ?_
        exact rtM_i C0 hr hlk hR hS h dX12_count_254
      · have h := h.2 c94
        refine lv_aload_n hx hb dX12_count_238 rfl (lv_at hl 1 rfl) ?_
        refine gM_0_2 C0 hR Nat.zero_lt_one tbs_wsX120 mM10_7_79 dX12_count_239 ?_
        refine lv_bipush (v := 9) hx hb dX12_count_242 (by decide) ?_
        refine lv_iload_n hx hb dX12_count_244 rfl (lv_at hl 2 rfl) ?_
        refine lv_iadd hx hb dX12_count_245 ?_
        refine lv_bipush (v := 12) hx hb dX12_count_246 (by decide) ?_
        refine lv_isub hx hb dX12_count_248 ?_
        obtain ⟨j95, hj95, ej95, h⟩ := h
        refine lM_1 C0 hR Nat.zero_lt_one hj95 ej95 dX12_count_249 ?_
        refine lv_goto (tgt := 254) hx hb dX12_count_250 (by decide) ?_
        exact rtM_i C0 hr hlk hR hS h dX12_count_254
    · have h := h.2 c91
      refine lv_aload_n hx hb dX12_count_214 rfl (lv_at hl 1 rfl) ?_
      refine gM_0_2 C0 hR Nat.zero_lt_one tbs_wsX120 mM10_7_79 dX12_count_215 ?_
      refine lv_iconst (v := 3) hx hb dX12_count_218 (by decide) ?_
      refine lv_iload_n hx hb dX12_count_219 rfl (lv_at hl 2 rfl) ?_
      refine lv_iadd hx hb dX12_count_220 ?_
      refine lv_iconst (v := 4) hx hb dX12_count_221 (by decide) ?_
      refine lv_isub hx hb dX12_count_222 ?_
      obtain ⟨j96, hj96, ej96, h⟩ := h
      refine lM_1 C0 hR Nat.zero_lt_one hj96 ej96 dX12_count_223 ?_
      refine lv_goto (tgt := 254) hx hb dX12_count_224 (by decide) ?_
      exact rtM_i C0 hr hlk hR hS h dX12_count_254
  have h := h.2 c88
  by_cases c97 : a1 = 14
  · have h := h.1 c97
    refine lv_tableIn (tgt := 204) hx hb dX12_count_8 (by rw [c97]; decide) (by rw [c97]; decide) (by rw [c97]; rfl) (by decide) ?_
    refine lv_iload_n hx hb dX12_count_204 rfl (lv_at hl 2 rfl) ?_
    refine lv_iconst (v := 4) hx hb dX12_count_205 (by decide) ?_
    refine lv_bipush (v := 9) hx hb dX12_count_206 (by decide) ?_
    refine qM_Si (As := [.int a1, .int 4, .int 9]) (rest := []) C0 (c_X12_in l h) (va_cwS 3 C0.2.2.2.2 (tbS mM10_8_37 ⟨mM10_8_38, mM10_1_11, mM10_8_39⟩) rfl rfl rfl (by decide +kernel) ⟨Nat.le_of_ble_eq_true rfl, Nat.le_of_ble_eq_true rfl⟩) hR hT hS rfl hl.1 rfl (Nat.le_of_ble_eq_true rfl) dX12_count_208 ⟨Nat.zero_le _, Nat.zero_le _⟩ (fun r98 S99 H locs h hR hS => ?_)
    refine lv_if_eq (tgt := 227) hx hb dX12_count_211 (by decide) (fun c100 => ?_) (fun c100 => ?_)
    · have h := h.1 c100
      refine lv_iload_n hx hb dX12_count_227 rfl (lv_at hl 2 rfl) ?_
      refine lv_bipush (v := 12) hx hb dX12_count_228 (by decide) ?_
      refine lv_bipush (v := 16) hx hb dX12_count_230 (by decide) ?_
      refine qM_Si (As := [.int a1, .int 12, .int 16]) (rest := []) C0 (c_X12_in l h) (va_cwS 3 C0.2.2.2.2 (tbS mM10_8_37 ⟨mM10_8_38, mM10_1_11, mM10_8_39⟩) rfl rfl rfl (by decide +kernel) ⟨Nat.le_of_ble_eq_true rfl, Nat.le_of_ble_eq_true rfl⟩) hR hT hS rfl hl.1 rfl (Nat.le_of_ble_eq_true rfl) dX12_count_232 ⟨Nat.zero_le _, Nat.zero_le _⟩ (fun r101 S102 H locs h hR hS => ?_)
      refine lv_if_eq (tgt := 253) hx hb dX12_count_235 (by decide) (fun c103 => ?_) (fun c103 => ?_)
      · have h := h.1 c103
        refine lv_iconst (v := (-1)) hx hb dX12_count_253 (by decide) ?_
        exact rtM_i C0 hr hlk hR hS h dX12_count_254
      · have h := h.2 c103
        refine lv_aload_n hx hb dX12_count_238 rfl (lv_at hl 1 rfl) ?_
        refine gM_0_2 C0 hR Nat.zero_lt_one tbs_wsX120 mM10_7_79 dX12_count_239 ?_
        refine lv_bipush (v := 9) hx hb dX12_count_242 (by decide) ?_
        refine lv_iload_n hx hb dX12_count_244 rfl (lv_at hl 2 rfl) ?_
        refine lv_iadd hx hb dX12_count_245 ?_
        refine lv_bipush (v := 12) hx hb dX12_count_246 (by decide) ?_
        refine lv_isub hx hb dX12_count_248 ?_
        obtain ⟨j104, hj104, ej104, h⟩ := h
        refine lM_1 C0 hR Nat.zero_lt_one hj104 ej104 dX12_count_249 ?_
        refine lv_goto (tgt := 254) hx hb dX12_count_250 (by decide) ?_
        exact rtM_i C0 hr hlk hR hS h dX12_count_254
    · have h := h.2 c100
      refine lv_aload_n hx hb dX12_count_214 rfl (lv_at hl 1 rfl) ?_
      refine gM_0_2 C0 hR Nat.zero_lt_one tbs_wsX120 mM10_7_79 dX12_count_215 ?_
      refine lv_iconst (v := 3) hx hb dX12_count_218 (by decide) ?_
      refine lv_iload_n hx hb dX12_count_219 rfl (lv_at hl 2 rfl) ?_
      refine lv_iadd hx hb dX12_count_220 ?_
      refine lv_iconst (v := 4) hx hb dX12_count_221 (by decide) ?_
      refine lv_isub hx hb dX12_count_222 ?_
      obtain ⟨j105, hj105, ej105, h⟩ := h
      refine lM_1 C0 hR Nat.zero_lt_one hj105 ej105 dX12_count_223 ?_
      refine lv_goto (tgt := 254) hx hb dX12_count_224 (by decide) ?_
      exact rtM_i C0 hr hlk hR hS h dX12_count_254
  have h := h.2 c97
  by_cases c106 : a1 = 15
  · have h := h.1 c106
    refine lv_tableIn (tgt := 204) hx hb dX12_count_8 (by rw [c106]; decide) (by rw [c106]; decide) (by rw [c106]; rfl) (by decide) ?_
    refine lv_iload_n hx hb dX12_count_204 rfl (lv_at hl 2 rfl) ?_
    refine lv_iconst (v := 4) hx hb dX12_count_205 (by decide) ?_
    refine lv_bipush (v := 9) hx hb dX12_count_206 (by decide) ?_
    refine qM_Si (As := [.int a1, .int 4, .int 9]) (rest := []) C0 (c_X12_in l h) (va_cwS 3 C0.2.2.2.2 (tbS mM10_8_37 ⟨mM10_8_38, mM10_1_11, mM10_8_39⟩) rfl rfl rfl (by decide +kernel) ⟨Nat.le_of_ble_eq_true rfl, Nat.le_of_ble_eq_true rfl⟩) hR hT hS rfl hl.1 rfl (Nat.le_of_ble_eq_true rfl) dX12_count_208 ⟨Nat.zero_le _, Nat.zero_le _⟩ (fun r107 S108 H locs h hR hS => ?_)
    refine lv_if_eq (tgt := 227) hx hb dX12_count_211 (by decide) (fun c109 => ?_) (fun c109 => ?_)
    · have h := h.1 c109
      refine lv_iload_n hx hb dX12_count_227 rfl (lv_at hl 2 rfl) ?_
      refine lv_bipush (v := 12) hx hb dX12_count_228 (by decide) ?_
      refine lv_bipush (v := 16) hx hb dX12_count_230 (by decide) ?_
      refine qM_Si (As := [.int a1, .int 12, .int 16]) (rest := []) C0 (c_X12_in l h) (va_cwS 3 C0.2.2.2.2 (tbS mM10_8_37 ⟨mM10_8_38, mM10_1_11, mM10_8_39⟩) rfl rfl rfl (by decide +kernel) ⟨Nat.le_of_ble_eq_true rfl, Nat.le_of_ble_eq_true rfl⟩) hR hT hS rfl hl.1 rfl (Nat.le_of_ble_eq_true rfl) dX12_count_232 ⟨Nat.zero_le _, Nat.zero_le _⟩ (fun r110 S111 H locs h hR hS => ?_)
      refine lv_if_eq (tgt := 253) hx hb dX12_count_235 (by decide) (fun c112 => ?_) (fun c112 => ?_)
      · have h := h.1 c112
        refine lv_iconst (v := (-1)) hx hb dX12_count_253 (by decide) ?_
        exact rtM_i C0 hr hlk hR hS h dX12_count_254
      · have h := h.2 c112
        refine lv_aload_n hx hb dX12_count_238 rfl (lv_at hl 1 rfl) ?_
        refine gM_0_2 C0 hR Nat.zero_lt_one tbs_wsX120 mM10_7_79 dX12_count_239 ?_
        refine lv_bipush (v := 9) hx hb dX12_count_242 (by decide) ?_
        refine lv_iload_n hx hb dX12_count_244 rfl (lv_at hl 2 rfl) ?_
        refine lv_iadd hx hb dX12_count_245 ?_
        refine lv_bipush (v := 12) hx hb dX12_count_246 (by decide) ?_
        refine lv_isub hx hb dX12_count_248 ?_
        obtain ⟨j113, hj113, ej113, h⟩ := h
        refine lM_1 C0 hR Nat.zero_lt_one hj113 ej113 dX12_count_249 ?_
        refine lv_goto (tgt := 254) hx hb dX12_count_250 (by decide) ?_
        exact rtM_i C0 hr hlk hR hS h dX12_count_254
    · have h := h.2 c109
      refine lv_aload_n hx hb dX12_count_214 rfl (lv_at hl 1 rfl) ?_
      refine gM_0_2 C0 hR Nat.zero_lt_one tbs_wsX120 mM10_7_79 dX12_count_215 ?_
      refine lv_iconst (v := 3) hx hb dX12_count_218 (by decide) ?_
      refine lv_iload_n hx hb dX12_count_219 rfl (lv_at hl 2 rfl) ?_
      refine lv_iadd hx hb dX12_count_220 ?_
      refine lv_iconst (v := 4) hx hb dX12_count_221 (by decide) ?_
      refine lv_isub hx hb dX12_count_222 ?_
      obtain ⟨j114, hj114, ej114, h⟩ := h
      refine lM_1 C0 hR Nat.zero_lt_one hj114 ej114 dX12_count_223 ?_
      refine lv_goto (tgt := 254) hx hb dX12_count_224 (by decide) ?_
      exact rtM_i C0 hr hlk hR hS h dX12_count_254
  have h := h.2 c106
  by_cases c115 : a1 = 16
  · have h := h.1 c115
    refine lv_tableIn (tgt := 204) hx hb dX12_count_8 (by rw [c115]; decide) (by rw [c115]; decide) (by rw [c115]; rfl) (by decide) ?_
    refine lv_iload_n hx hb dX12_count_204 rfl (lv_at hl 2 rfl) ?_
    refine lv_iconst (v := 4) hx hb dX12_count_205 (by decide) ?_
    refine lv_bipush (v := 9) hx hb dX12_count_206 (by decide) ?_
    refine qM_Si (As := [.int a1, .int 4, .int 9]) (rest := []) C0 (c_X12_in l h) (va_cwS 3 C0.2.2.2.2 (tbS mM10_8_37 ⟨mM10_8_38, mM10_1_11, mM10_8_39⟩) rfl rfl rfl (by decide +kernel) ⟨Nat.le_of_ble_eq_true rfl, Nat.le_of_ble_eq_true rfl⟩) hR hT hS rfl hl.1 rfl (Nat.le_of_ble_eq_true rfl) dX12_count_208 ⟨Nat.zero_le _, Nat.zero_le _⟩ (fun r116 S117 H locs h hR hS => ?_)
    refine lv_if_eq (tgt := 227) hx hb dX12_count_211 (by decide) (fun c118 => ?_) (fun c118 => ?_)
    · have h := h.1 c118
      refine lv_iload_n hx hb dX12_count_227 rfl (lv_at hl 2 rfl) ?_
      refine lv_bipush (v := 12) hx hb dX12_count_228 (by decide) ?_
      refine lv_bipush (v := 16) hx hb dX12_count_230 (by decide) ?_
      refine qM_Si (As := [.int a1, .int 12, .int 16]) (rest := []) C0 (c_X12_in l h) (va_cwS 3 C0.2.2.2.2 (tbS mM10_8_37 ⟨mM10_8_38, mM10_1_11, mM10_8_39⟩) rfl rfl rfl (by decide +kernel) ⟨Nat.le_of_ble_eq_true rfl, Nat.le_of_ble_eq_true rfl⟩) hR hT hS rfl hl.1 rfl (Nat.le_of_ble_eq_true rfl) dX12_count_232 ⟨Nat.zero_le _, Nat.zero_le _⟩ (fun r119 S120 H locs h hR hS => ?_)
      refine lv_if_eq (tgt := 253) hx hb dX12_count_235 (by decide) (fun c121 => ?_) (fun c121 => ?_)
      · have h := h.1 c121
        refine lv_iconst (v := (-1)) hx hb dX12_count_253 (by decide) ?_
        exact rtM_i C0 hr hlk hR hS h dX12_count_254
      · have h := h.2 c121
        refine lv_aload_n hx hb dX12_count_238 rfl (lv_at hl 1 rfl) ?_
        refine gM_0_2 C0 hR Nat.zero_lt_one tbs_wsX120 mM10_7_79 dX12_count_239 ?_
        refine lv_bipush (v := 9) hx hb dX12_count_242 (by decide) ?_
        refine lv_iload_n hx hb dX12_count_244 rfl (lv_at hl 2 rfl) ?_
        refine lv_iadd hx hb dX12_count_245 ?_
        refine lv_bipush (v := 12) hx hb dX12_count_246 (by decide) ?_
        refine lv_isub hx hb dX12_count_248 ?_
        obtain ⟨j122, hj122, ej122, h⟩ := h
        refine lM_1 C0 hR Nat.zero_lt_one hj122 ej122 dX12_count_249 ?_
        refine lv_goto (tgt := 254) hx hb dX12_count_250 (by decide) ?_
        exact rtM_i C0 hr hlk hR hS h dX12_count_254
    · have h := h.2 c118
      refine lv_aload_n hx hb dX12_count_214 rfl (lv_at hl 1 rfl) ?_
      refine gM_0_2 C0 hR Nat.zero_lt_one tbs_wsX120 mM10_7_79 dX12_count_215 ?_
      refine lv_iconst (v := 3) hx hb dX12_count_218 (by decide) ?_
      refine lv_iload_n hx hb dX12_count_219 rfl (lv_at hl 2 rfl) ?_
      refine lv_iadd hx hb dX12_count_220 ?_
      refine lv_iconst (v := 4) hx hb dX12_count_221 (by decide) ?_
      refine lv_isub hx hb dX12_count_222 ?_
      obtain ⟨j123, hj123, ej123, h⟩ := h
      refine lM_1 C0 hR Nat.zero_lt_one hj123 ej123 dX12_count_223 ?_
      refine lv_goto (tgt := 254) hx hb dX12_count_224 (by decide) ?_
      exact rtM_i C0 hr hlk hR hS h dX12_count_254
  have h := h.2 c115
  by_cases c124 : a1 = 17
  · have h := h.1 c124
    refine lv_tableIn (tgt := 196) hx hb dX12_count_8 (by rw [c124]; decide) (by rw [c124]; decide) (by rw [c124]; rfl) (by decide) ?_
    refine lv_aload_n hx hb dX12_count_196 rfl (lv_at hl 1 rfl) ?_
    refine gM_0_2 C0 hR Nat.zero_lt_one tbs_wsX120 mM10_7_79 dX12_count_197 ?_
    refine lv_bipush (v := 14) hx hb dX12_count_200 (by decide) ?_
    refine lM_1 C0 hR Nat.zero_lt_one (by decide) rfl dX12_count_202 ?_
    exact rtM_i C0 hr hlk hR hS h dX12_count_203
  have h := h.2 c124
  refine lv_tableOut (tgt := 204) hx hb dX12_count_8 (by have a9 := fun j : Int32 => (Int32.toInt_inj (x := a1) (y := j)).mp; have b9 : ∀ j : Int32, a1 ≠ j → (a1 : Int32).toInt ≠ j.toInt := fun j n9 q9 => n9 (a9 j q9); have c2_ := b9 _ c2; have c9_ := b9 _ c9; have c10_ := b9 _ c10; have c11_ := b9 _ c11; have c12_ := b9 _ c12; have c21_ := b9 _ c21; have c30_ := b9 _ c30; have c39_ := b9 _ c39; have c48_ := b9 _ c48; have c57_ := b9 _ c57; have c66_ := b9 _ c66; have c69_ := b9 _ c69; have c79_ := b9 _ c79; have c88_ := b9 _ c88; have c97_ := b9 _ c97; have c106_ := b9 _ c106; have c115_ := b9 _ c115; have c124_ := b9 _ c124; simp at c2_ c9_ c10_ c11_ c12_ c21_ c30_ c39_ c48_ c57_ c66_ c69_ c79_ c88_ c97_ c106_ c115_ c124_; omega) (by decide) ?_
  refine lv_iload_n hx hb dX12_count_204 rfl (lv_at hl 2 rfl) ?_
  refine lv_iconst (v := 4) hx hb dX12_count_205 (by decide) ?_
  refine lv_bipush (v := 9) hx hb dX12_count_206 (by decide) ?_
  refine qM_Si (As := [.int a1, .int 4, .int 9]) (rest := []) C0 (c_X12_in l h) (va_cwS 3 C0.2.2.2.2 (tbS mM10_8_37 ⟨mM10_8_38, mM10_1_11, mM10_8_39⟩) rfl rfl rfl (by decide +kernel) ⟨Nat.le_of_ble_eq_true rfl, Nat.le_of_ble_eq_true rfl⟩) hR hT hS rfl hl.1 rfl (Nat.le_of_ble_eq_true rfl) dX12_count_208 ⟨Nat.zero_le _, Nat.zero_le _⟩ (fun r125 S126 H locs h hR hS => ?_)
  refine lv_if_eq (tgt := 227) hx hb dX12_count_211 (by decide) (fun c127 => ?_) (fun c127 => ?_)
  · have h := h.1 c127
    refine lv_iload_n hx hb dX12_count_227 rfl (lv_at hl 2 rfl) ?_
    refine lv_bipush (v := 12) hx hb dX12_count_228 (by decide) ?_
    refine lv_bipush (v := 16) hx hb dX12_count_230 (by decide) ?_
    refine qM_Si (As := [.int a1, .int 12, .int 16]) (rest := []) C0 (c_X12_in l h) (va_cwS 3 C0.2.2.2.2 (tbS mM10_8_37 ⟨mM10_8_38, mM10_1_11, mM10_8_39⟩) rfl rfl rfl (by decide +kernel) ⟨Nat.le_of_ble_eq_true rfl, Nat.le_of_ble_eq_true rfl⟩) hR hT hS rfl hl.1 rfl (Nat.le_of_ble_eq_true rfl) dX12_count_232 ⟨Nat.zero_le _, Nat.zero_le _⟩ (fun r128 S129 H locs h hR hS => ?_)
    refine lv_if_eq (tgt := 253) hx hb dX12_count_235 (by decide) (fun c130 => ?_) (fun c130 => ?_)
    · have h := h.1 c130
      refine lv_iconst (v := (-1)) hx hb dX12_count_253 (by decide) ?_
      exact rtM_i C0 hr hlk hR hS h dX12_count_254
    · have h := h.2 c130
      refine lv_aload_n hx hb dX12_count_238 rfl (lv_at hl 1 rfl) ?_
      refine gM_0_2 C0 hR Nat.zero_lt_one tbs_wsX120 mM10_7_79 dX12_count_239 ?_
      refine lv_bipush (v := 9) hx hb dX12_count_242 (by decide) ?_
      refine lv_iload_n hx hb dX12_count_244 rfl (lv_at hl 2 rfl) ?_
      refine lv_iadd hx hb dX12_count_245 ?_
      refine lv_bipush (v := 12) hx hb dX12_count_246 (by decide) ?_
      refine lv_isub hx hb dX12_count_248 ?_
      obtain ⟨j131, hj131, ej131, h⟩ := h
      refine lM_1 C0 hR Nat.zero_lt_one hj131 ej131 dX12_count_249 ?_
      refine lv_goto (tgt := 254) hx hb dX12_count_250 (by decide) ?_
      exact rtM_i C0 hr hlk hR hS h dX12_count_254
  · have h := h.2 c127
    refine lv_aload_n hx hb dX12_count_214 rfl (lv_at hl 1 rfl) ?_
    refine gM_0_2 C0 hR Nat.zero_lt_one tbs_wsX120 mM10_7_79 dX12_count_215 ?_
    refine lv_iconst (v := 3) hx hb dX12_count_218 (by decide) ?_
    refine lv_iload_n hx hb dX12_count_219 rfl (lv_at hl 2 rfl) ?_
    refine lv_iadd hx hb dX12_count_220 ?_
    refine lv_iconst (v := 4) hx hb dX12_count_221 (by decide) ?_
    refine lv_isub hx hb dX12_count_222 ?_
    obtain ⟨j132, hj132, ej132, h⟩ := h
    refine lM_1 C0 hR Nat.zero_lt_one hj132 ej132 dX12_count_223 ?_
    refine lv_goto (tgt := 254) hx hb dX12_count_224 (by decide) ?_
    exact rtM_i C0 hr hlk hR hS h dX12_count_254
