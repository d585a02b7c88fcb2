theorem mM0_7_77 : Cond.fieldLink RX12 3 "ClaimTableModel" "thrown" "I" ∈ TB := tbT_7 _ (List.mem_of_getElem? (i := 77) rfl) rfl
theorem mM0_7_84 : Cond.fieldLink RX12 55 "ClaimTableModel" "hasImage" "Z" ∈ TB := tbT_7 _ (List.mem_of_getElem? (i := 84) rfl) rfl
theorem mM0_7_80 : Cond.fieldLink RX12 17 "ClaimTableModel" "image" "[I" ∈ TB := tbT_7 _ (List.mem_of_getElem? (i := 80) rfl) rfl
theorem mM0_7_79 : Cond.fieldLink RX12 13 "ClaimTableModel" "world" "[I" ∈ TB := tbT_7 _ (List.mem_of_getElem? (i := 79) rfl) rfl
theorem mM0_7_82 : Cond.fieldLink RX12 23 "ClaimTableModel" "trial" "[I" ∈ TB := tbT_7 _ (List.mem_of_getElem? (i := 82) rfl) rfl
theorem mM0_7_74 : Cond.methodLink RX12 51 yX12_jobAt ∈ TB := tbT_7 _ (List.mem_of_getElem? (i := 74) rfl) rfl
theorem mM0_7_76 : Cond.code yX12_jobAt cX12_jobAt 2 (some .int) ∈ TB := tbT_7 _ (List.mem_of_getElem? (i := 76) rfl) rfl
theorem mM0_7_75 : Cond.static yX12_jobAt ∈ TB := tbT_7 _ (List.mem_of_getElem? (i := 75) rfl) rfl
theorem mM0_1_11 : Cond.initialized RX12 ∈ TB := tbT_1 _ (List.mem_of_getElem? (i := 11) rfl) rfl
theorem mM0_7_202 : Cond.methodLink RX12 59 yX12_numberOf ∈ TB := tbT_7 _ (List.mem_of_getElem? (i := 202) rfl) rfl
theorem mM0_7_205 : Cond.code yX12_numberOf cX12_numberOf 2 (some .int) ∈ TB := tbT_7 _ (List.mem_of_getElem? (i := 205) rfl) rfl
theorem mM0_7_204 : Cond.instanceMethod yX12_numberOf ∈ TB := tbT_7 _ (List.mem_of_getElem? (i := 204) rfl) rfl
theorem mpM0_3_3 : Cond.selects RX12 yX12_numberOf yX12_numberOf ∈ TB := tbP_3 (yX12_numberOf, 19) (List.mem_of_getElem? (i := 3) rfl)
theorem mM0_7_233 : Cond.methodLink RX12 63 yX12_sessionAt ∈ TB := tbT_7 _ (List.mem_of_getElem? (i := 233) rfl) rfl
theorem mM0_7_235 : Cond.code yX12_sessionAt cX12_sessionAt 2 (some .int) ∈ TB := tbT_7 _ (List.mem_of_getElem? (i := 235) rfl) rfl
theorem mM0_7_234 : Cond.static yX12_sessionAt ∈ TB := tbT_7 _ (List.mem_of_getElem? (i := 234) rfl) rfl
theorem mM0_8_37 : Cond.methodLink RX12 66 yX12_in ∈ TB := tbT_8 _ (List.mem_of_getElem? (i := 37) rfl) rfl
theorem mM0_8_39 : Cond.code yX12_in cX12_in 3 (some .boolean) ∈ TB := tbT_8 _ (List.mem_of_getElem? (i := 39) rfl) rfl
theorem mM0_8_38 : Cond.static yX12_in ∈ TB := tbT_8 _ (List.mem_of_getElem? (i := 38) rfl) rfl
theorem mM0_8_122 : Cond.methodLink RX12 73 yX12_isIn ∈ TB := tbT_8 _ (List.mem_of_getElem? (i := 122) rfl) rfl
theorem mM0_8_125 : Cond.code yX12_isIn cX12_isIn 2 (some .boolean) ∈ TB := tbT_8 _ (List.mem_of_getElem? (i := 125) rfl) rfl
theorem mM0_8_124 : Cond.instanceMethod yX12_isIn ∈ TB := tbT_8 _ (List.mem_of_getElem? (i := 124) rfl) rfl
theorem mpM0_4_13 : Cond.selects RX12 yX12_isIn yX12_isIn ∈ TB := tbP_4 (yX12_isIn, 19) (List.mem_of_getElem? (i := 13) rfl)
theorem mM0_8_106 : Cond.methodLink RX12 70 yX12_lockerOf ∈ TB := tbT_8 _ (List.mem_of_getElem? (i := 106) rfl) rfl
theorem mM0_8_109 : Cond.code yX12_lockerOf cX12_lockerOf 2 (some .int) ∈ TB := tbT_8 _ (List.mem_of_getElem? (i := 109) rfl) rfl
theorem mM0_8_108 : Cond.instanceMethod yX12_lockerOf ∈ TB := tbT_8 _ (List.mem_of_getElem? (i := 108) rfl) rfl
theorem mpM0_4_10 : Cond.selects RX12 yX12_lockerOf yX12_lockerOf ∈ TB := tbP_4 (yX12_lockerOf, 19) (List.mem_of_getElem? (i := 10) rfl)
def rm_X12_thrown : Room := { frames := 0, cells := 0, slots := 0, locals := 0 }
def F_X12_thrown (S : sSt) (k : Int32 → sSt → Prop) : Prop := k (S.1 0 0 0) S
set_option maxHeartbeats 4000000 in
set_option maxRecDepth 100000 in
theorem c_X12_thrown (l : Launch) {D : va_G} {cy : Nat → ClassId} {b z : Nat} {tx : TX} {S : sSt} {k : Int32 → sSt → Prop} (h : F_X12_thrown S k) : Met l yX12_thrown (Cond.code yX12_thrown cX12_thrown 1 (some .int) :: TB) rm_X12_thrown (va_Pc [.ref (b + adM 0 0)] (fun U => RelM D cy b z tx S U U.heap ∧ TxR tx U)) (PiM D cy b z tx k) 0 0 (gA b 12 z) := by
  refine Met.ofW (cc := cX12_thrown) (maxL := 1) (ret := (some .int)) (by decide) rfl ?_
  intro p e s m args below meth c s₁ B hml hv
  obtain ⟨rfl, hR, hT⟩ := hv
  have C0 : CallFix p m c cX12_thrown 1 s _ TB RX12 := ⟨B.exec, B.bytes, hml, findClass_of_methodNamed B.named, fun w hw => atoms_spec B.pre w (List.mem_cons_of_mem _ hw)⟩
  have hr := B.returns
  have hlk := B.notSynchronized
  have hx := C0.1
  have hb := C0.2.1
  have hS : va_S (gA b 12 z) s.heap s.heap [] := va_S.rf
  have hl := lv_entry ([.ref (b + adM 0 0)]) (n := 1) (Nat.le_of_ble_eq_true rfl)
  rw [lg_entry_eq]
  generalize (lg_sl ([.ref (b + adM 0 0)]) ++ List.replicate (1 - (lg_sl ([.ref (b + adM 0 0)])).length) Slot.unset).toArray = ls at hl ⊢
  have hl : lv_has ls 1 [(0, .ref (b + adM 0 0))] := hl
  show W p l e rm_X12_thrown s m _ below meth c s.heap [] 0 0 (MQ below (PiM D cy b z tx k) _ s 0 0 (gA b 12 z)) _
  unfold F_X12_thrown at h
  refine lv_aload_n hx hb dX12_thrown_0 rfl (lv_at hl 0 rfl) ?_
  refine gM_0_0 C0 hR Nat.zero_lt_one tbs_wsX120 mM0_7_77 dX12_thrown_1 ?_
  exact rtM_i C0 hr hlk hR hS h dX12_thrown_4

def rm_X12_throwsIf : Room := { frames := 0, cells := 0, slots := 0, locals := 0 }
def F_X12_throwsIf (a1 : Int32) (a2 : Int32) (S : sSt) (k : Int32 → sSt → Prop) : Prop := ((a1 = 0 → bz a1 (k a1 S)) ∧ (¬ a1 = 0 → ∀ S2, S2 = uI S 0 0 0 a2 → bz a1 (k a1 S2)))
set_option maxHeartbeats 4000000 in
set_option maxRecDepth 100000 in
theorem c_X12_throwsIf (l : Launch) {D : va_G} {cy : Nat → ClassId} {b z : Nat} {tx : TX} {a1 : Int32} {a2 : Int32} {S : sSt} {k : Int32 → sSt → Prop} (h : F_X12_throwsIf a1 a2 S k) : Met l yX12_throwsIf (Cond.code yX12_throwsIf cX12_throwsIf 3 (some .boolean) :: TB) rm_X12_throwsIf (va_Pc [.ref (b + adM 0 0), .int a1, .int a2] (fun U => RelM D cy b z tx S U U.heap ∧ TxR tx U)) (PiM D cy b z tx k) 0 0 (gA b 12 z) := by
  refine Met.ofW (cc := cX12_throwsIf) (maxL := 3) (ret := (some .boolean)) (by decide) rfl ?_
  intro p e s m args below meth c s₁ B hml hv
  obtain ⟨rfl, hR, hT⟩ := hv
  have C0 : CallFix p m c cX12_throwsIf 3 s _ TB RX12 := ⟨B.exec, B.bytes, hml, findClass_of_methodNamed B.named, fun w hw => atoms_spec B.pre w (List.mem_cons_of_mem _ hw)⟩
  have hr := B.returns
  have hlk := B.notSynchronized
  have hx := C0.1
  have hb := C0.2.1
  have hS : va_S (gA b 12 z) s.heap s.heap [] := va_S.rf
  have hl := lv_entry ([.ref (b + adM 0 0), .int a1, .int a2]) (n := 3) (Nat.le_of_ble_eq_true rfl)
  rw [lg_entry_eq]
  generalize (lg_sl ([.ref (b + adM 0 0), .int a1, .int a2]) ++ List.replicate (3 - (lg_sl ([.ref (b + adM 0 0), .int a1, .int a2])).length) Slot.unset).toArray = ls at hl ⊢
  have hl : lv_has ls 3 [(0, .ref (b + adM 0 0)), (1, .int a1), (2, .int a2)] := hl
  show W p l e rm_X12_throwsIf s m _ below meth c s.heap [] 0 0 (MQ below (PiM D cy b z tx k) _ s 0 0 (gA b 12 z)) _
  unfold F_X12_throwsIf at h
  refine lv_iload_n hx hb dX12_throwsIf_0 rfl (lv_at hl 1 rfl) ?_
  refine lv_if_eq (tgt := 9) hx hb dX12_throwsIf_1 (by decide) (fun c1 => ?_) (fun c1 => ?_)
  · have h := h.1 c1
    refine lv_iload_n hx hb dX12_throwsIf_9 rfl (lv_at hl 1 rfl) ?_
    exact rtM_z C0 hr hlk hR hS h.1 h.2 dX12_throwsIf_10
  · have h := h.2 c1
    refine lv_aload_n hx hb dX12_throwsIf_4 rfl (lv_at hl 0 rfl) ?_
    refine lv_iload_n hx hb dX12_throwsIf_5 rfl (lv_at hl 2 rfl) ?_
    refine pM_0_0 C0 hR hS Nat.zero_lt_one tbs_wsX120 mM0_7_77 dX12_throwsIf_6 (fun S2 eS2 H locs hR hS => ?_)
    have h := h S2 eS2
    refine lv_iload_n hx hb dX12_throwsIf_9 rfl (lv_at hl 1 rfl) ?_
    exact rtM_z C0 hr hlk hR hS h.1 h.2 dX12_throwsIf_10

def rm_X12_in : Room := { frames := 0, cells := 0, slots := 0, locals := 0 }
def F_X12_in (a0 : Int32) (a1 : Int32) (a2 : Int32) (S : sSt) (k : Int32 → sSt → Prop) : Prop := ((a0 < a1 → k 0 S) ∧ (¬ a0 < a1 → ((a2 < a0 → k 0 S) ∧ (¬ a2 < a0 → k 1 S))))
set_option maxHeartbeats 4000000 in
set_option maxRecDepth 100000 in
theorem c_X12_in (l : Launch) {D : va_G} {cy : Nat → ClassId} {b z : Nat} {tx : TX} {a0 : Int32} {a1 : Int32} {a2 : Int32} {S : sSt} {k : Int32 → sSt → Prop} (h : F_X12_in a0 a1 a2 S k) : Met l yX12_in (Cond.code yX12_in cX12_in 3 (some .boolean) :: TB) rm_X12_in (va_Pc [.int a0, .int a1, .int a2] (fun U => RelM D cy b z tx S U U.heap ∧ TxR tx U)) (PiM D cy b z tx k) 0 0 (gA b 12 z) := by
  refine Met.ofW (cc := cX12_in) (maxL := 3) (ret := (some .boolean)) (by decide) rfl ?_
  intro p e s m args below meth c s₁ B hml hv
  obtain ⟨rfl, hR, hT⟩ := hv
  have C0 : CallFix p m c cX12_in 3 s _ TB RX12 := ⟨B.exec, B.bytes, hml, findClass_of_methodNamed B.named, fun w hw => atoms_spec B.pre w (List.mem_cons_of_mem _ hw)⟩
  have hr := B.returns
  have hlk := B.notSynchronized
  have hx := C0.1
  have hb := C0.2.1
  have hS : va_S (gA b 12 z) s.heap s.heap [] := va_S.rf
  have hl := lv_entry ([.int a0, .int a1, .int a2]) (n := 3) (Nat.le_of_ble_eq_true rfl)
  rw [lg_entry_eq]
  generalize (lg_sl ([.int a0, .int a1, .int a2]) ++ List.replicate (3 - (lg_sl ([.int a0, .int a1, .int a2])).length) Slot.unset).toArray = ls at hl ⊢
  have hl : lv_has ls 3 [(0, .int a0), (1, .int a1), (2, .int a2)] := hl
  show W p l e rm_X12_in s m _ below meth c s.heap [] 0 0 (MQ below (PiM D cy b z tx k) _ s 0 0 (gA b 12 z)) _
  unfold F_X12_in at h
  refine lv_iload_n hx hb dX12_in_0 rfl (lv_at hl 0 rfl) ?_
  refine lv_iload_n hx hb dX12_in_1 rfl (lv_at hl 1 rfl) ?_
  refine lv_icmp_lt (tgt := 14) hx hb dX12_in_2 (by decide) (fun c1 => ?_) (fun c1 => ?_)
  · have h := h.1 c1
    refine lv_iconst (v := 0) hx hb dX12_in_14 (by decide) ?_
    exact rtM_z C0 hr hlk hR hS (by decide) h dX12_in_15
  · have h := h.2 c1
    refine lv_iload_n hx hb dX12_in_5 rfl (lv_at hl 0 rfl) ?_
    refine lv_iload_n hx hb dX12_in_6 rfl (lv_at hl 2 rfl) ?_
    refine lv_icmp_gt (tgt := 14) hx hb dX12_in_7 (by decide) (fun c2 => ?_) (fun c2 => ?_)
    · have h := h.1 c2
      refine lv_iconst (v := 0) hx hb dX12_in_14 (by decide) ?_
      exact rtM_z C0 hr hlk hR hS (by decide) h dX12_in_15
    · have h := h.2 c2
      refine lv_iconst (v := 1) hx hb dX12_in_10 (by decide) ?_
      refine lv_goto (tgt := 15) hx hb dX12_in_11 (by decide) ?_
      exact rtM_z C0 hr hlk hR hS (by decide) h dX12_in_15

def rm_X12_jobAt : Room := { frames := 0, cells := 0, slots := 0, locals := 0 }
def F_X12_jobAt (a0 : Int32) (a1 : Int32) (S : sSt) (k : Int32 → sSt → Prop) : Prop := k ((21 + (47 * a0)) + a1) S
set_option maxHeartbeats 4000000 in
set_option maxRecDepth 100000 in
theorem c_X12_jobAt (l : Launch) {D : va_G} {cy : Nat → ClassId} {b z : Nat} {tx : TX} {a0 : Int32} {a1 : Int32} {S : sSt} {k : Int32 → sSt → Prop} (h : F_X12_jobAt a0 a1 S k) : Met l yX12_jobAt (Cond.code yX12_jobAt cX12_jobAt 2 (some .int) :: TB) rm_X12_jobAt (va_Pc [.int a0, .int a1] (fun U => RelM D cy b z tx S U U.heap ∧ TxR tx U)) (PiM D cy b z tx k) 0 0 (gA b 12 z) := by
  refine Met.ofW (cc := cX12_jobAt) (maxL := 2) (ret := (some .int)) (by decide) rfl ?_
  intro p e s m args below meth c s₁ B hml hv
  obtain ⟨rfl, hR, hT⟩ := hv
  have C0 : CallFix p m c cX12_jobAt 2 s _ TB RX12 := ⟨B.exec, B.bytes, hml, findClass_of_methodNamed B.named, fun w hw => atoms_spec B.pre w (List.mem_cons_of_mem _ hw)⟩
  have hr := B.returns
  have hlk := B.notSynchronized
  have hx := C0.1
  have hb := C0.2.1
  have hS : va_S (gA b 12 z) s.heap s.heap [] := va_S.rf
  have hl := lv_entry ([.int a0, .int a1]) (n := 2) (Nat.le_of_ble_eq_true rfl)
  rw [lg_entry_eq]
  generalize (lg_sl ([.int a0, .int a1]) ++ List.replicate (2 - (lg_sl ([.int a0, .int a1])).length) Slot.unset).toArray = ls at hl ⊢
  have hl : lv_has ls 2 [(0, .int a0), (1, .int a1)] := hl
  show W p l e rm_X12_jobAt s m _ below meth c s.heap [] 0 0 (MQ below (PiM D cy b z tx k) _ s 0 0 (gA b 12 z)) _
  unfold F_X12_jobAt at h
  refine lv_bipush (v := 21) hx hb dX12_jobAt_0 (by decide) ?_
  refine lv_bipush (v := 47) hx hb dX12_jobAt_2 (by decide) ?_
  refine lv_iload_n hx hb dX12_jobAt_4 rfl (lv_at hl 0 rfl) ?_
  refine lv_imul hx hb dX12_jobAt_5 ?_
  refine lv_iadd hx hb dX12_jobAt_6 ?_
  refine lv_iload_n hx hb dX12_jobAt_7 rfl (lv_at hl 1 rfl) ?_
  refine lv_iadd hx hb dX12_jobAt_8 ?_
  exact rtM_i C0 hr hlk hR hS h dX12_jobAt_9

def rm_X12_image : Room := { frames := 0, cells := 0, slots := 0, locals := 0 }
def Bb_X12_image_7 (kk7 : Int32 → sSt → Prop) (a1 : Int32) (S : sSt) (k : sSt → Prop) : Prop := ((10421 ≤ a1 → ∀ S3, S3 = uI S 0 0 7 1 → k S3) ∧ (¬ 10421 ≤ a1 → ix a1 10421 (fun j4 => ∀ S5, S5 = uI S 2 0 j4 (S.1 1 0 j4) → ∀ x6 : Int32, x6 = a1 + 1 → kk7 x6 S5)))
set_option maxHeartbeats 4000000 in
set_option maxRecDepth 100000 in
theorem Bbw_X12_image_7 {p : Program} {l : Launch} {e : Env} {s : State} {m : MethodId} {args : Array Value} {below : List Frame} {meth : Method} {c : Code} {D : va_G} {cy : Nat → ClassId} {b z : Nat} {tx : TX} (C0 : CallFix p m c cX12_image 2 s args TB RX12) (hr : meth.sig.returnType = none) (hlk : meth.locks = false) (hT : TxR tx s) {k : sSt → Prop} {kk7 : Int32 → sSt → Prop} (ih7 : ∀ (a1 : Int32) (S : sSt) (H : Heap) (locs : List Loc) (ls : Array Slot) , kk7 a1 S → RelM D cy b z tx S s H → va_S (gA b 12 z) s.heap H locs → lv_has ls 2 [(0, .ref (b + adM 0 0)), (1, .int a1)] → W p l e rm_X12_image s m args below meth c H locs 0 0 (MQ below (PvM D cy b z tx k) args s 0 0 (gA b 12 z)) (F0 m 7 ls [])) : ∀ (a1 : Int32) (S : sSt) (H : Heap) (locs : List Loc) (ls : Array Slot) , Bb_X12_image_7 kk7 a1 S k → RelM D cy b z tx S s H → va_S (gA b 12 z) s.heap H locs → lv_has ls 2 [(0, .ref (b + adM 0 0)), (1, .int a1)] → W p l e rm_X12_image s m args below meth c H locs 0 0 (MQ below (PvM D cy b z tx k) args s 0 0 (gA b 12 z)) (F0 m 7 ls []) := by
  intro a1 S H locs ls h hR hS hl
  have hx := C0.1
  have hb := C0.2.1
  unfold Bb_X12_image_7 at h
  refine lv_iload_n hx hb dX12_image_7 rfl (lv_at hl 1 rfl) ?_
  refine lv_sipush (v := 10421) hx hb dX12_image_8 (by decide) ?_
  refine lv_icmp_ge (tgt := 32) hx hb dX12_image_11 (by decide) (fun c2 => ?_) (fun c2 => ?_)
  · have h := h.1 c2
    refine lv_aload_n hx hb dX12_image_32 rfl (lv_at hl 0 rfl) ?_
    refine lv_iconst (v := 1) hx hb dX12_image_33 (by decide) ?_
    refine pM_0_7 C0 hR hS Nat.zero_lt_one tbs_wsX120 mM0_7_84 (by decide) dX12_image_34 (fun S3 eS3 H locs hR hS => ?_)
    have h := h S3 eS3
    exact rtM_v C0 hr hlk hR hS h dX12_image_37
  · have h := h.2 c2
    refine lv_aload_n hx hb dX12_image_14 rfl (lv_at hl 0 rfl) ?_
    refine gM_0_3 C0 hR Nat.zero_lt_one tbs_wsX120 mM0_7_80 dX12_image_15 ?_
    refine lv_iload_n hx hb dX12_image_18 rfl (lv_at hl 1 rfl) ?_
    refine lv_aload_n hx hb dX12_image_19 rfl (lv_at hl 0 rfl) ?_
    refine gM_0_2 C0 hR Nat.zero_lt_one tbs_wsX120 mM0_7_79 dX12_image_20 ?_
    refine lv_iload_n hx hb dX12_image_23 rfl (lv_at hl 1 rfl) ?_
    obtain ⟨j4, hj4, ej4, h⟩ := h
    refine lM_1 C0 hR Nat.zero_lt_one hj4 ej4 dX12_image_24 ?_
    refine sM_2 C0 hR hS Nat.zero_lt_one hj4 ej4 dX12_image_25 (fun S5 eS5 H locs hR hS => ?_)
    have h := h S5 eS5
    obtain ⟨x6, ex6⟩ : ∃ x6 : Int32, x6 = a1 + 1 := ⟨_, rfl⟩
    have h := h x6 ex6
    refine w_iinc (v0 := 1) (lv' := [(1, .int x6), (0, .ref (b + adM 0 0))]) C0 dX12_image_26 hl (k := 1) rfl (by decide) (by decide) x6 ex6 rfl (fun ls hl => ?_)
    refine lv_goto (tgt := 7) hx hb dX12_image_29 (by decide) ?_
    exact ih7 x6 S5 _ _ _  h hR hS (lv_sub hl [1, 0] rfl)
def B_X12_image_7 (n9 : Nat) (a1 : Int32) (S : sSt) (k : sSt → Prop) : Prop := (Nat.rec (motive := fun _ => Int32 → sSt → Prop) (fun _ _ => False) (fun _ r9 => fun a1 S => Bb_X12_image_7 r9 a1 S k) n9 : Int32 → sSt → Prop) a1 S
theorem B_X12_image_7_s (n9 : Nat) (a1 : Int32) (S : sSt) (k : sSt → Prop) : B_X12_image_7 (n9 + 1) a1 S k = Bb_X12_image_7 (fun a1 S => B_X12_image_7 n9 a1 S k) a1 S k := rfl
set_option maxHeartbeats 4000000 in
set_option maxRecDepth 100000 in
theorem Bw_X12_image_7 {p : Program} {l : Launch} {e : Env} {s : State} {m : MethodId} {args : Array Value} {below : List Frame} {meth : Method} {c : Code} {D : va_G} {cy : Nat → ClassId} {b z : Nat} {tx : TX} (C0 : CallFix p m c cX12_image 2 s args TB RX12) (hr : meth.sig.returnType = none) (hlk : meth.locks = false) (hT : TxR tx s) {k : sSt → Prop} : ∀ (n9 : Nat), ∀ (a1 : Int32) (S : sSt) (H : Heap) (locs : List Loc) (ls : Array Slot) , B_X12_image_7 n9 a1 S k → RelM D cy b z tx S s H → va_S (gA b 12 z) s.heap H locs → lv_has ls 2 [(0, .ref (b + adM 0 0)), (1, .int a1)] → W p l e rm_X12_image s m args below meth c H locs 0 0 (MQ below (PvM D cy b z tx k) args s 0 0 (gA b 12 z)) (F0 m 7 ls []) := by
  intro n9
  induction n9 with
  | zero => intro a1 S H locs ls h; exact h.elim
  | succ n9 ih =>
    intro a1 S H locs ls h hR hS hl
    exact Bbw_X12_image_7 C0 hr hlk hT ih a1 S H locs ls h hR hS hl
def F_X12_image (S : sSt) (k : sSt → Prop) : Prop := ∀ S1, S1 = uI S 0 0 0 0 → B_X12_image_7 fuel 0 S1 k
set_option maxHeartbeats 4000000 in
set_option maxRecDepth 100000 in
theorem c_X12_image (l : Launch) {D : va_G} {cy : Nat → ClassId} {b z : Nat} {tx : TX} {S : sSt} {k : sSt → Prop} (h : F_X12_image S k) : Met l yX12_image (Cond.code yX12_image cX12_image 2 none :: TB) rm_X12_image (va_Pc [.ref (b + adM 0 0)] (fun U => RelM D cy b z tx S U U.heap ∧ TxR tx U)) (PvM D cy b z tx k) 0 0 (gA b 12 z) := by
  refine Met.ofW (cc := cX12_image) (maxL := 2) (ret := none) (by decide) rfl ?_
  intro p e s m args below meth c s₁ B hml hv
  obtain ⟨rfl, hR, hT⟩ := hv
  have C0 : CallFix p m c cX12_image 2 s _ TB RX12 := ⟨B.exec, B.bytes, hml, findClass_of_methodNamed B.named, fun w hw => atoms_spec B.pre w (List.mem_cons_of_mem _ hw)⟩
  have hr := B.returns
  have hlk := B.notSynchronized
  have hx := C0.1
  have hb := C0.2.1
  have hS : va_S (gA b 12 z) s.heap s.heap [] := va_S.rf
  have hl := lv_entry ([.ref (b + adM 0 0)]) (n := 2) (Nat.le_of_ble_eq_true rfl)
  rw [lg_entry_eq]
  generalize (lg_sl ([.ref (b + adM 0 0)]) ++ List.replicate (2 - (lg_sl ([.ref (b + adM 0 0)])).length) Slot.unset).toArray = ls at hl ⊢
  have hl : lv_has ls 2 [(0, .ref (b + adM 0 0))] := hl
  show W p l e rm_X12_image s m _ below meth c s.heap [] 0 0 (MQ below (PvM D cy b z tx k) _ s 0 0 (gA b 12 z)) _
  unfold F_X12_image at h
  refine lv_aload_n hx hb dX12_image_0 rfl (lv_at hl 0 rfl) ?_
  refine lv_iconst (v := 0) hx hb dX12_image_1 (by decide) ?_
  refine pM_0_0 C0 hR hS Nat.zero_lt_one tbs_wsX120 mM0_7_77 dX12_image_2 (fun S1 eS1 H locs hR hS => ?_)
  have h := h S1 eS1
  refine lv_iconst (v := 0) hx hb dX12_image_5 (by decide) ?_
  refine lv_istore_n (lv' := [(1, .int 0), (0, .ref (b + adM 0 0))]) hx hb dX12_image_6 rfl hl (by decide) rfl (fun ls hl => ?_)
  exact Bw_X12_image_7 C0 hr hlk hT fuel 0 S1 _ _ _ h hR hS (lv_sub hl [1, 0] rfl)

def rm_X12_back : Room := { frames := 0, cells := 0, slots := 0, locals := 0 }
def Bb_X12_back_16 (kk16 : Int32 → sSt → Prop) (a1 : Int32) (S : sSt) (k : Int32 → sSt → Prop) : Prop := ((10421 ≤ a1 → k 1 S) ∧ (¬ 10421 ≤ a1 → ix a1 10421 (fun j4 => ∀ S5, S5 = uI S 1 0 j4 (S.1 2 0 j4) → ∀ x6 : Int32, x6 = a1 + 1 → kk16 x6 S5)))
set_option maxHeartbeats 4000000 in
set_option maxRecDepth 100000 in
theorem Bbw_X12_back_16 {p : Program} {l : Launch} {e : Env} {s : State} {m : MethodId} {args : Array Value} {below : List Frame} {meth : Method} {c : Code} {D : va_G} {cy : Nat → ClassId} {b z : Nat} {tx : TX} (C0 : CallFix p m c cX12_back 2 s args TB RX12) (hr : meth.sig.returnType = (some .boolean)) (hlk : meth.locks = false) (hT : TxR tx s) {k : Int32 → sSt → Prop} {kk16 : Int32 → sSt → Prop} (ih16 : ∀ (a1 : Int32) (S : sSt) (H : Heap) (locs : List Loc) (ls : Array Slot) , kk16 a1 S → RelM D cy b z tx S s H → va_S (gA b 12 z) s.heap H locs → lv_has ls 2 [(0, .ref (b + adM 0 0)), (1, .int a1)] → W p l e rm_X12_back s m args below meth c H locs 0 0 (MQ below (PiM D cy b z tx k) args s 0 0 (gA b 12 z)) (F0 m 16 ls [])) : ∀ (a1 : Int32) (S : sSt) (H : Heap) (locs : List Loc) (ls : Array Slot) , Bb_X12_back_16 kk16 a1 S k → RelM D cy b z tx S s H → va_S (gA b 12 z) s.heap H locs → lv_has ls 2 [(0, .ref (b + adM 0 0)), (1, .int a1)] → W p l e rm_X12_back s m args below meth c H locs 0 0 (MQ below (PiM D cy b z tx k) args s 0 0 (gA b 12 z)) (F0 m 16 ls []) := by
  intro a1 S H locs ls h hR hS hl
  have hx := C0.1
  have hb := C0.2.1
  unfold Bb_X12_back_16 at h
  refine lv_iload_n hx hb dX12_back_16 rfl (lv_at hl 1 rfl) ?_
  refine lv_sipush (v := 10421) hx hb dX12_back_17 (by decide) ?_
  refine lv_icmp_ge (tgt := 41) hx hb dX12_back_20 (by decide) (fun c3 => ?_) (fun c3 => ?_)
  · have h := h.1 c3
    refine lv_iconst (v := 1) hx hb dX12_back_41 (by decide) ?_
    exact rtM_z C0 hr hlk hR hS (by decide) h dX12_back_42
  · have h := h.2 c3
    refine lv_aload_n hx hb dX12_back_23 rfl (lv_at hl 0 rfl) ?_
    refine gM_0_2 C0 hR Nat.zero_lt_one tbs_wsX120 mM0_7_79 dX12_back_24 ?_
    refine lv_iload_n hx hb dX12_back_27 rfl (lv_at hl 1 rfl) ?_
    refine lv_aload_n hx hb dX12_back_28 rfl (lv_at hl 0 rfl) ?_
    refine gM_0_3 C0 hR Nat.zero_lt_one tbs_wsX120 mM0_7_80 dX12_back_29 ?_
    refine lv_iload_n hx hb dX12_back_32 rfl (lv_at hl 1 rfl) ?_
    obtain ⟨j4, hj4, ej4, h⟩ := h
    refine lM_2 C0 hR Nat.zero_lt_one hj4 ej4 dX12_back_33 ?_
    refine sM_1 C0 hR hS Nat.zero_lt_one hj4 ej4 dX12_back_34 (fun S5 eS5 H locs hR hS => ?_)
    have h := h S5 eS5
    obtain ⟨x6, ex6⟩ : ∃ x6 : Int32, x6 = a1 + 1 := ⟨_, rfl⟩
    have h := h x6 ex6
    refine w_iinc (v0 := 1) (lv' := [(1, .int x6), (0, .ref (b + adM 0 0))]) C0 dX12_back_35 hl (k := 1) rfl (by decide) (by decide) x6 ex6 rfl (fun ls hl => ?_)
    refine lv_goto (tgt := 16) hx hb dX12_back_38 (by decide) ?_
    exact ih16 x6 S5 _ _ _  h hR hS (lv_sub hl [1, 0] rfl)
def B_X12_back_16 (n9 : Nat) (a1 : Int32) (S : sSt) (k : Int32 → sSt → Prop) : Prop := (Nat.rec (motive := fun _ => Int32 → sSt → Prop) (fun _ _ => False) (fun _ r9 => fun a1 S => Bb_X12_back_16 r9 a1 S k) n9 : Int32 → sSt → Prop) a1 S
theorem B_X12_back_16_s (n9 : Nat) (a1 : Int32) (S : sSt) (k : Int32 → sSt → Prop) : B_X12_back_16 (n9 + 1) a1 S k = Bb_X12_back_16 (fun a1 S => B_X12_back_16 n9 a1 S k) a1 S k := rfl
set_option maxHeartbeats 4000000 in
set_option maxRecDepth 100000 in
theorem Bw_X12_back_16 {p : Program} {l : Launch} {e : Env} {s : State} {m : MethodId} {args : Array Value} {below : List Frame} {meth : Method} {c : Code} {D : va_G} {cy : Nat → ClassId} {b z : Nat} {tx : TX} (C0 : CallFix p m c cX12_back 2 s args TB RX12) (hr : meth.sig.returnType = (some .boolean)) (hlk : meth.locks = false) (hT : TxR tx s) {k : Int32 → sSt → Prop} : ∀ (n9 : Nat), ∀ (a1 : Int32) (S : sSt) (H : Heap) (locs : List Loc) (ls : Array Slot) , B_X12_back_16 n9 a1 S k → RelM D cy b z tx S s H → va_S (gA b 12 z) s.heap H locs → lv_has ls 2 [(0, .ref (b + adM 0 0)), (1, .int a1)] → W p l e rm_X12_back s m args below meth c H locs 0 0 (MQ below (PiM D cy b z tx k) args s 0 0 (gA b 12 z)) (F0 m 16 ls []) := by
  intro n9
  induction n9 with
  | zero => intro a1 S H locs ls h; exact h.elim
  | succ n9 ih =>
    intro a1 S H locs ls h hR hS hl
    exact Bbw_X12_back_16 C0 hr hlk hT ih a1 S H locs ls h hR hS hl
def F_X12_back (S : sSt) (k : Int32 → sSt → Prop) : Prop := ∀ S1, S1 = uI S 0 0 0 0 → ((¬ (S1.1 0 0 7) = 0 → B_X12_back_16 fuel 0 S1 k) ∧ ((S1.1 0 0 7) = 0 → k 0 S1))
set_option maxHeartbeats 4000000 in
set_option maxRecDepth 100000 in
theorem c_X12_back (l : Launch) {D : va_G} {cy : Nat → ClassId} {b z : Nat} {tx : TX} {S : sSt} {k : Int32 → sSt → Prop} (h : F_X12_back S k) : Met l yX12_back (Cond.code yX12_back cX12_back 2 (some .boolean) :: TB) rm_X12_back (va_Pc [.ref (b + adM 0 0)] (fun U => RelM D cy b z tx S U U.heap ∧ TxR tx U)) (PiM D cy b z tx k) 0 0 (gA b 12 z) := by
  refine Met.ofW (cc := cX12_back) (maxL := 2) (ret := (some .boolean)) (by decide) rfl ?_
  intro p e s m args below meth c s₁ B hml hv
  obtain ⟨rfl, hR, hT⟩ := hv
  have C0 : CallFix p m c cX12_back 2 s _ TB RX12 := ⟨B.exec, B.bytes, hml, findClass_of_methodNamed B.named, fun w hw => atoms_spec B.pre w (List.mem_cons_of_mem _ hw)⟩
  have hr := B.returns
  have hlk := B.notSynchronized
  have hx := C0.1
  have hb := C0.2.1
  have hS : va_S (gA b 12 z) s.heap s.heap [] := va_S.rf
  have hl := lv_entry ([.ref (b + adM 0 0)]) (n := 2) (Nat.le_of_ble_eq_true rfl)
  rw [lg_entry_eq]
  generalize (lg_sl ([.ref (b + adM 0 0)]) ++ List.replicate (2 - (lg_sl ([.ref (b + adM 0 0)])).length) Slot.unset).toArray = ls at hl ⊢
  have hl : lv_has ls 2 [(0, .ref (b + adM 0 0))] := hl
  show W p l e rm_X12_back s m _ below meth c s.heap [] 0 0 (MQ below (PiM D cy b z tx k) _ s 0 0 (gA b 12 z)) _
  unfold F_X12_back at h
  refine lv_aload_n hx hb dX12_back_0 rfl (lv_at hl 0 rfl) ?_
  refine lv_iconst (v := 0) hx hb dX12_back_1 (by decide) ?_
  refine pM_0_0 C0 hR hS Nat.zero_lt_one tbs_wsX120 mM0_7_77 dX12_back_2 (fun S1 eS1 H locs hR hS => ?_)
  have h := h S1 eS1
  refine lv_aload_n hx hb dX12_back_5 rfl (lv_at hl 0 rfl) ?_
  refine gM_0_7 C0 hR Nat.zero_lt_one tbs_wsX120 mM0_7_84 dX12_back_6 ?_
  refine lv_if_ne (tgt := 14) hx hb dX12_back_9 (by decide) (fun c2 => ?_) (fun c2 => ?_)
  · have h := h.1 c2
    refine lv_iconst (v := 0) hx hb dX12_back_14 (by decide) ?_
    refine lv_istore_n (lv' := [(1, .int 0), (0, .ref (b + adM 0 0))]) hx hb dX12_back_15 rfl hl (by decide) rfl (fun ls hl => ?_)
    exact Bw_X12_back_16 C0 hr hlk hT fuel 0 S1 _ _ _ h hR hS (lv_sub hl [1, 0] rfl)
  · have h := h.2 c2
    refine lv_iconst (v := 0) hx hb dX12_back_12 (by decide) ?_
    exact rtM_z C0 hr hlk hR hS (by decide) h dX12_back_13

def rm_X12_keepsAll : Room := { frames := 0, cells := 0, slots := 0, locals := 0 }
def Bb_X12_keepsAll_2 (kk2 : Int32 → sSt → Prop) (a1 : Int32) (S : sSt) (k : sSt → Prop) : Prop := ((1289 ≤ a1 → k S) ∧ (¬ 1289 ≤ a1 → ix a1 10421 (fun j2 => ix a1 1289 (fun j3 => ∀ S4, S4 = uI S 4 0 j3 (S.1 1 0 j2) → ∀ x5 : Int32, x5 = a1 + 1 → kk2 x5 S4))))
set_option maxHeartbeats 4000000 in
set_option maxRecDepth 100000 in
theorem Bbw_X12_keepsAll_2 {p : Program} {l : Launch} {e : Env} {s : State} {m : MethodId} {args : Array Value} {below : List Frame} {meth : Method} {c : Code} {D : va_G} {cy : Nat → ClassId} {b z : Nat} {tx : TX} (C0 : CallFix p m c cX12_keepsAll 2 s args TB RX12) (hr : meth.sig.returnType = none) (hlk : meth.locks = false) (hT : TxR tx s) {k : sSt → Prop} {kk2 : Int32 → sSt → Prop} (ih2 : ∀ (a1 : Int32) (S : sSt) (H : Heap) (locs : List Loc) (ls : Array Slot) , kk2 a1 S → RelM D cy b z tx S s H → va_S (gA b 12 z) s.heap H locs → lv_has ls 2 [(0, .ref (b + adM 0 0)), (1, .int a1)] → W p l e rm_X12_keepsAll s m args below meth c H locs 0 0 (MQ below (PvM D cy b z tx k) args s 0 0 (gA b 12 z)) (F0 m 2 ls [])) : ∀ (a1 : Int32) (S : sSt) (H : Heap) (locs : List Loc) (ls : Array Slot) , Bb_X12_keepsAll_2 kk2 a1 S k → RelM D cy b z tx S s H → va_S (gA b 12 z) s.heap H locs → lv_has ls 2 [(0, .ref (b + adM 0 0)), (1, .int a1)] → W p l e rm_X12_keepsAll s m args below meth c H locs 0 0 (MQ below (PvM D cy b z tx k) args s 0 0 (gA b 12 z)) (F0 m 2 ls []) := by
  intro a1 S H locs ls h hR hS hl
  have hx := C0.1
  have hb := C0.2.1
  unfold Bb_X12_keepsAll_2 at h
  refine lv_iload_n hx hb dX12_keepsAll_2 rfl (lv_at hl 1 rfl) ?_
  refine lv_sipush (v := 1289) hx hb dX12_keepsAll_3 (by decide) ?_
  refine lv_icmp_ge (tgt := 27) hx hb dX12_keepsAll_6 (by decide) (fun c1 => ?_) (fun c1 => ?_)
  · have h := h.1 c1
    exact rtM_v C0 hr hlk hR hS h dX12_keepsAll_27
  · have h := h.2 c1
    refine lv_aload_n hx hb dX12_keepsAll_9 rfl (lv_at hl 0 rfl) ?_
    refine gM_0_5 C0 hR Nat.zero_lt_one tbs_wsX120 mM0_7_82 dX12_keepsAll_10 ?_
    refine lv_iload_n hx hb dX12_keepsAll_13 rfl (lv_at hl 1 rfl) ?_
    refine lv_aload_n hx hb dX12_keepsAll_14 rfl (lv_at hl 0 rfl) ?_
    refine gM_0_2 C0 hR Nat.zero_lt_one tbs_wsX120 mM0_7_79 dX12_keepsAll_15 ?_
    refine lv_iload_n hx hb dX12_keepsAll_18 rfl (lv_at hl 1 rfl) ?_
    obtain ⟨j2, hj2, ej2, h⟩ := h
    refine lM_1 C0 hR Nat.zero_lt_one hj2 ej2 dX12_keepsAll_19 ?_
    obtain ⟨j3, hj3, ej3, h⟩ := h
    refine sM_4 C0 hR hS Nat.zero_lt_one hj3 ej3 dX12_keepsAll_20 (fun S4 eS4 H locs hR hS => ?_)
    have h := h S4 eS4
    obtain ⟨x5, ex5⟩ : ∃ x5 : Int32, x5 = a1 + 1 := ⟨_, rfl⟩
    have h := h x5 ex5
    refine w_iinc (v0 := 1) (lv' := [(1, .int x5), (0, .ref (b + adM 0 0))]) C0 dX12_keepsAll_21 hl (k := 1) rfl (by decide) (by decide) x5 ex5 rfl (fun ls hl => ?_)
    refine lv_goto (tgt := 2) hx hb dX12_keepsAll_24 (by decide) ?_
    exact ih2 x5 S4 _ _ _  h hR hS (lv_sub hl [1, 0] rfl)
def B_X12_keepsAll_2 (n9 : Nat) (a1 : Int32) (S : sSt) (k : sSt → Prop) : Prop := (Nat.rec (motive := fun _ => Int32 → sSt → Prop) (fun _ _ => False) (fun _ r9 => fun a1 S => Bb_X12_keepsAll_2 r9 a1 S k) n9 : Int32 → sSt → Prop) a1 S
theorem B_X12_keepsAll_2_s (n9 : Nat) (a1 : Int32) (S : sSt) (k : sSt → Prop) : B_X12_keepsAll_2 (n9 + 1) a1 S k = Bb_X12_keepsAll_2 (fun a1 S => B_X12_keepsAll_2 n9 a1 S k) a1 S k := rfl
set_option maxHeartbeats 4000000 in
set_option maxRecDepth 100000 in
theorem Bw_X12_keepsAll_2 {p : Program} {l : Launch} {e : Env} {s : State} {m : MethodId} {args : Array Value} {below : List Frame} {meth : Method} {c : Code} {D : va_G} {cy : Nat → ClassId} {b z : Nat} {tx : TX} (C0 : CallFix p m c cX12_keepsAll 2 s args TB RX12) (hr : meth.sig.returnType = none) (hlk : meth.locks = false) (hT : TxR tx s) {k : sSt → Prop} : ∀ (n9 : Nat), ∀ (a1 : Int32) (S : sSt) (H : Heap) (locs : List Loc) (ls : Array Slot) , B_X12_keepsAll_2 n9 a1 S k → RelM D cy b z tx S s H → va_S (gA b 12 z) s.heap H locs → lv_has ls 2 [(0, .ref (b + adM 0 0)), (1, .int a1)] → W p l e rm_X12_keepsAll s m args below meth c H locs 0 0 (MQ below (PvM D cy b z tx k) args s 0 0 (gA b 12 z)) (F0 m 2 ls []) := by
  intro n9
  induction n9 with
  | zero => intro a1 S H locs ls h; exact h.elim
  | succ n9 ih =>
    intro a1 S H locs ls h hR hS hl
    exact Bbw_X12_keepsAll_2 C0 hr hlk hT ih a1 S H locs ls h hR hS hl
def F_X12_keepsAll (S : sSt) (k : sSt → Prop) : Prop := B_X12_keepsAll_2 fuel 0 S k
set_option maxHeartbeats 4000000 in
set_option maxRecDepth 100000 in
theorem c_X12_keepsAll (l : Launch) {D : va_G} {cy : Nat → ClassId} {b z : Nat} {tx : TX} {S : sSt} {k : sSt → Prop} (h : F_X12_keepsAll S k) : Met l yX12_keepsAll (Cond.code yX12_keepsAll cX12_keepsAll 2 none :: TB) rm_X12_keepsAll (va_Pc [.ref (b + adM 0 0)] (fun U => RelM D cy b z tx S U U.heap ∧ TxR tx U)) (PvM D cy b z tx k) 0 0 (gA b 12 z) := by
  refine Met.ofW (cc := cX12_keepsAll) (maxL := 2) (ret := none) (by decide) rfl ?_
  intro p e s m args below meth c s₁ B hml hv
  obtain ⟨rfl, hR, hT⟩ := hv
  have C0 : CallFix p m c cX12_keepsAll 2 s _ TB RX12 := ⟨B.exec, B.bytes, hml, findClass_of_methodNamed B.named, fun w hw => atoms_spec B.pre w (List.mem_cons_of_mem _ hw)⟩
  have hr := B.returns
  have hlk := B.notSynchronized
  have hx := C0.1
  have hb := C0.2.1
  have hS : va_S (gA b 12 z) s.heap s.heap [] := va_S.rf
  have hl := lv_entry ([.ref (b + adM 0 0)]) (n := 2) (Nat.le_of_ble_eq_true rfl)
  rw [lg_entry_eq]
  generalize (lg_sl ([.ref (b + adM 0 0)]) ++ List.replicate (2 - (lg_sl ([.ref (b + adM 0 0)])).length) Slot.unset).toArray = ls at hl ⊢
  have hl : lv_has ls 2 [(0, .ref (b + adM 0 0))] := hl
  show W p l e rm_X12_keepsAll s m _ below meth c s.heap [] 0 0 (MQ below (PvM D cy b z tx k) _ s 0 0 (gA b 12 z)) _
  unfold F_X12_keepsAll at h
  refine lv_iconst (v := 0) hx hb dX12_keepsAll_0 (by decide) ?_
  refine lv_istore_n (lv' := [(1, .int 0), (0, .ref (b + adM 0 0))]) hx hb dX12_keepsAll_1 rfl hl (by decide) rfl (fun ls hl => ?_)
  exact Bw_X12_keepsAll_2 C0 hr hlk hT fuel 0 S _ _ _ h hR hS (lv_sub hl [1, 0] rfl)

def rm_X12_bringsBack : Room := { frames := 0, cells := 0, slots := 0, locals := 0 }
def Bb_X12_bringsBack_2 (kk2 : Int32 → sSt → Prop) (a1 : Int32) (S : sSt) (k : sSt → Prop) : Prop := ((1289 ≤ a1 → k S) ∧ (¬ 1289 ≤ a1 → ix a1 1289 (fun j2 => ix a1 10421 (fun j3 => ∀ S4, S4 = uI S 1 0 j3 (S.1 4 0 j2) → ∀ x5 : Int32, x5 = a1 + 1 → kk2 x5 S4))))
set_option maxHeartbeats 4000000 in
set_option maxRecDepth 100000 in
theorem Bbw_X12_bringsBack_2 {p : Program} {l : Launch} {e : Env} {s : State} {m : MethodId} {args : Array Value} {below : List Frame} {meth : Method} {c : Code} {D : va_G} {cy : Nat → ClassId} {b z : Nat} {tx : TX} (C0 : CallFix p m c cX12_bringsBack 2 s args TB RX12) (hr : meth.sig.returnType = none) (hlk : meth.locks = false) (hT : TxR tx s) {k : sSt → Prop} {kk2 : Int32 → sSt → Prop} (ih2 : ∀ (a1 : Int32) (S : sSt) (H : Heap) (locs : List Loc) (ls : Array Slot) , kk2 a1 S → RelM D cy b z tx S s H → va_S (gA b 12 z) s.heap H locs → lv_has ls 2 [(0, .ref (b + adM 0 0)), (1, .int a1)] → W p l e rm_X12_bringsBack s m args below meth c H locs 0 0 (MQ below (PvM D cy b z tx k) args s 0 0 (gA b 12 z)) (F0 m 2 ls [])) : ∀ (a1 : Int32) (S : sSt) (H : Heap) (locs : List Loc) (ls : Array Slot) , Bb_X12_bringsBack_2 kk2 a1 S k → RelM D cy b z tx S s H → va_S (gA b 12 z) s.heap H locs → lv_has ls 2 [(0, .ref (b + adM 0 0)), (1, .int a1)] → W p l e rm_X12_bringsBack s m args below meth c H locs 0 0 (MQ below (PvM D cy b z tx k) args s 0 0 (gA b 12 z)) (F0 m 2 ls []) := by
  intro a1 S H locs ls h hR hS hl
  have hx := C0.1
  have hb := C0.2.1
  unfold Bb_X12_bringsBack_2 at h
  refine lv_iload_n hx hb dX12_bringsBack_2 rfl (lv_at hl 1 rfl) ?_
  refine lv_sipush (v := 1289) hx hb dX12_bringsBack_3 (by decide) ?_
  refine lv_icmp_ge (tgt := 27) hx hb dX12_bringsBack_6 (by decide) (fun c1 => ?_) (fun c1 => ?_)
  · have h := h.1 c1
    exact rtM_v C0 hr hlk hR hS h dX12_bringsBack_27
  · have h := h.2 c1
    refine lv_aload_n hx hb dX12_bringsBack_9 rfl (lv_at hl 0 rfl) ?_
    refine gM_0_2 C0 hR Nat.zero_lt_one tbs_wsX120 mM0_7_79 dX12_bringsBack_10 ?_
    refine lv_iload_n hx hb dX12_bringsBack_13 rfl (lv_at hl 1 rfl) ?_
    refine lv_aload_n hx hb dX12_bringsBack_14 rfl (lv_at hl 0 rfl) ?_
    refine gM_0_5 C0 hR Nat.zero_lt_one tbs_wsX120 mM0_7_82 dX12_bringsBack_15 ?_
    refine lv_iload_n hx hb dX12_bringsBack_18 rfl (lv_at hl 1 rfl) ?_
    obtain ⟨j2, hj2, ej2, h⟩ := h
    refine lM_4 C0 hR Nat.zero_lt_one hj2 ej2 dX12_bringsBack_19 ?_
    obtain ⟨j3, hj3, ej3, h⟩ := h
    refine sM_1 C0 hR hS Nat.zero_lt_one hj3 ej3 dX12_bringsBack_20 (fun S4 eS4 H locs hR hS => ?_)
    have h := h S4 eS4
    obtain ⟨x5, ex5⟩ : ∃ x5 : Int32, x5 = a1 + 1 := ⟨_, rfl⟩
    have h := h x5 ex5
    refine w_iinc (v0 := 1) (lv' := [(1, .int x5), (0, .ref (b + adM 0 0))]) C0 dX12_bringsBack_21 hl (k := 1) rfl (by decide) (by decide) x5 ex5 rfl (fun ls hl => ?_)
    refine lv_goto (tgt := 2) hx hb dX12_bringsBack_24 (by decide) ?_
    exact ih2 x5 S4 _ _ _  h hR hS (lv_sub hl [1, 0] rfl)
def B_X12_bringsBack_2 (n9 : Nat) (a1 : Int32) (S : sSt) (k : sSt → Prop) : Prop := (Nat.rec (motive := fun _ => Int32 → sSt → Prop) (fun _ _ => False) (fun _ r9 => fun a1 S => Bb_X12_bringsBack_2 r9 a1 S k) n9 : Int32 → sSt → Prop) a1 S
theorem B_X12_bringsBack_2_s (n9 : Nat) (a1 : Int32) (S : sSt) (k : sSt → Prop) : B_X12_bringsBack_2 (n9 + 1) a1 S k = Bb_X12_bringsBack_2 (fun a1 S => B_X12_bringsBack_2 n9 a1 S k) a1 S k := rfl
set_option maxHeartbeats 4000000 in
set_option maxRecDepth 100000 in
theorem Bw_X12_bringsBack_2 {p : Program} {l : Launch} {e : Env} {s : State} {m : MethodId} {args : Array Value} {below : List Frame} {meth : Method} {c : Code} {D : va_G} {cy : Nat → ClassId} {b z : Nat} {tx : TX} (C0 : CallFix p m c cX12_bringsBack 2 s args TB RX12) (hr : meth.sig.returnType = none) (hlk : meth.locks = false) (hT : TxR tx s) {k : sSt → Prop} : ∀ (n9 : Nat), ∀ (a1 : Int32) (S : sSt) (H : Heap) (locs : List Loc) (ls : Array Slot) , B_X12_bringsBack_2 n9 a1 S k → RelM D cy b z tx S s H → va_S (gA b 12 z) s.heap H locs → lv_has ls 2 [(0, .ref (b + adM 0 0)), (1, .int a1)] → W p l e rm_X12_bringsBack s m args below meth c H locs 0 0 (MQ below (PvM D cy b z tx k) args s 0 0 (gA b 12 z)) (F0 m 2 ls []) := by
  intro n9
  induction n9 with
  | zero => intro a1 S H locs ls h; exact h.elim
  | succ n9 ih =>
    intro a1 S H locs ls h hR hS hl
    exact Bbw_X12_bringsBack_2 C0 hr hlk hT ih a1 S H locs ls h hR hS hl
def F_X12_bringsBack (S : sSt) (k : sSt → Prop) : Prop := B_X12_bringsBack_2 fuel 0 S k
set_option maxHeartbeats 4000000 in
set_option maxRecDepth 100000 in
theorem c_X12_bringsBack (l : Launch) {D : va_G} {cy : Nat → ClassId} {b z : Nat} {tx : TX} {S : sSt} {k : sSt → Prop} (h : F_X12_bringsBack S k) : Met l yX12_bringsBack (Cond.code yX12_bringsBack cX12_bringsBack 2 none :: TB) rm_X12_bringsBack (va_Pc [.ref (b + adM 0 0)] (fun U => RelM D cy b z tx S U U.heap ∧ TxR tx U)) (PvM D cy b z tx k) 0 0 (gA b 12 z) := by
  refine Met.ofW (cc := cX12_bringsBack) (maxL := 2) (ret := none) (by decide) rfl ?_
  intro p e s m args below meth c s₁ B hml hv
  obtain ⟨rfl, hR, hT⟩ := hv
  have C0 : CallFix p m c cX12_bringsBack 2 s _ TB RX12 := ⟨B.exec, B.bytes, hml, findClass_of_methodNamed B.named, fun w hw => atoms_spec B.pre w (List.mem_cons_of_mem _ hw)⟩
  have hr := B.returns
  have hlk := B.notSynchronized
  have hx := C0.1
  have hb := C0.2.1
  have hS : va_S (gA b 12 z) s.heap s.heap [] := va_S.rf
  have hl := lv_entry ([.ref (b + adM 0 0)]) (n := 2) (Nat.le_of_ble_eq_true rfl)
  rw [lg_entry_eq]
  generalize (lg_sl ([.ref (b + adM 0 0)]) ++ List.replicate (2 - (lg_sl ([.ref (b + adM 0 0)])).length) Slot.unset).toArray = ls at hl ⊢
  have hl : lv_has ls 2 [(0, .ref (b + adM 0 0))] := hl
  show W p l e rm_X12_bringsBack s m _ below meth c s.heap [] 0 0 (MQ below (PvM D cy b z tx k) _ s 0 0 (gA b 12 z)) _
  unfold F_X12_bringsBack at h
  refine lv_iconst (v := 0) hx hb dX12_bringsBack_0 (by decide) ?_
  refine lv_istore_n (lv' := [(1, .int 0), (0, .ref (b + adM 0 0))]) hx hb dX12_bringsBack_1 rfl hl (by decide) rfl (fun ls hl => ?_)
  exact Bw_X12_bringsBack_2 C0 hr hlk hT fuel 0 S _ _ _ h hR hS (lv_sub hl [1, 0] rfl)

def rm_X12_sessionAt : Room := { frames := 0, cells := 0, slots := 0, locals := 0 }
def F_X12_sessionAt (a0 : Int32) (a1 : Int32) (S : sSt) (k : Int32 → sSt → Prop) : Prop := k ((1149 + (27 * a0)) + a1) S
set_option maxHeartbeats 4000000 in
set_option maxRecDepth 100000 in
theorem c_X12_sessionAt (l : Launch) {D : va_G} {cy : Nat → ClassId} {b z : Nat} {tx : TX} {a0 : Int32} {a1 : Int32} {S : sSt} {k : Int32 → sSt → Prop} (h : F_X12_sessionAt a0 a1 S k) : Met l yX12_sessionAt (Cond.code yX12_sessionAt cX12_sessionAt 2 (some .int) :: TB) rm_X12_sessionAt (va_Pc [.int a0, .int a1] (fun U => RelM D cy b z tx S U U.heap ∧ TxR tx U)) (PiM D cy b z tx k) 0 0 (gA b 12 z) := by
  refine Met.ofW (cc := cX12_sessionAt) (maxL := 2) (ret := (some .int)) (by decide) rfl ?_
  intro p e s m args below meth c s₁ B hml hv
  obtain ⟨rfl, hR, hT⟩ := hv
  have C0 : CallFix p m c cX12_sessionAt 2 s _ TB RX12 := ⟨B.exec, B.bytes, hml, findClass_of_methodNamed B.named, fun w hw => atoms_spec B.pre w (List.mem_cons_of_mem _ hw)⟩
  have hr := B.returns
  have hlk := B.notSynchronized
  have hx := C0.1
  have hb := C0.2.1
  have hS : va_S (gA b 12 z) s.heap s.heap [] := va_S.rf
  have hl := lv_entry ([.int a0, .int a1]) (n := 2) (Nat.le_of_ble_eq_true rfl)
  rw [lg_entry_eq]
  generalize (lg_sl ([.int a0, .int a1]) ++ List.replicate (2 - (lg_sl ([.int a0, .int a1])).length) Slot.unset).toArray = ls at hl ⊢
  have hl : lv_has ls 2 [(0, .int a0), (1, .int a1)] := hl
  show W p l e rm_X12_sessionAt s m _ below meth c s.heap [] 0 0 (MQ below (PiM D cy b z tx k) _ s 0 0 (gA b 12 z)) _
  unfold F_X12_sessionAt at h
  refine lv_sipush (v := 1149) hx hb dX12_sessionAt_0 (by decide) ?_
  refine lv_bipush (v := 27) hx hb dX12_sessionAt_3 (by decide) ?_
  refine lv_iload_n hx hb dX12_sessionAt_5 rfl (lv_at hl 0 rfl) ?_
  refine lv_imul hx hb dX12_sessionAt_6 ?_
  refine lv_iadd hx hb dX12_sessionAt_7 ?_
  refine lv_iload_n hx hb dX12_sessionAt_8 rfl (lv_at hl 1 rfl) ?_
  refine lv_iadd hx hb dX12_sessionAt_9 ?_
  exact rtM_i C0 hr hlk hR hS h dX12_sessionAt_10

def rm_X12_planAt : Room := { frames := 0, cells := 0, slots := 0, locals := 0 }
def F_X12_planAt (a0 : Int32) (a1 : Int32) (S : sSt) (k : Int32 → sSt → Prop) : Prop := k ((1257 + (8 * a0)) + a1) S
set_option maxHeartbeats 4000000 in
set_option maxRecDepth 100000 in
theorem c_X12_planAt (l : Launch) {D : va_G} {cy : Nat → ClassId} {b z : Nat} {tx : TX} {a0 : Int32} {a1 : Int32} {S : sSt} {k : Int32 → sSt → Prop} (h : F_X12_planAt a0 a1 S k) : Met l yX12_planAt (Cond.code yX12_planAt cX12_planAt 2 (some .int) :: TB) rm_X12_planAt (va_Pc [.int a0, .int a1] (fun U => RelM D cy b z tx S U U.heap ∧ TxR tx U)) (PiM D cy b z tx k) 0 0 (gA b 12 z) := by
  refine Met.ofW (cc := cX12_planAt) (maxL := 2) (ret := (some .int)) (by decide) rfl ?_
  intro p e s m args below meth c s₁ B hml hv
  obtain ⟨rfl, hR, hT⟩ := hv
  have C0 : CallFix p m c cX12_planAt 2 s _ TB RX12 := ⟨B.exec, B.bytes, hml, findClass_of_methodNamed B.named, fun w hw => atoms_spec B.pre w (List.mem_cons_of_mem _ hw)⟩
  have hr := B.returns
  have hlk := B.notSynchronized
  have hx := C0.1
  have hb := C0.2.1
  have hS : va_S (gA b 12 z) s.heap s.heap [] := va_S.rf
  have hl := lv_entry ([.int a0, .int a1]) (n := 2) (Nat.le_of_ble_eq_true rfl)
  rw [lg_entry_eq]
  generalize (lg_sl ([.int a0, .int a1]) ++ List.replicate (2 - (lg_sl ([.int a0, .int a1])).length) Slot.unset).toArray = ls at hl ⊢
  have hl : lv_has ls 2 [(0, .int a0), (1, .int a1)] := hl
  show W p l e rm_X12_planAt s m _ below meth c s.heap [] 0 0 (MQ below (PiM D cy b z tx k) _ s 0 0 (gA b 12 z)) _
  unfold F_X12_planAt at h
  refine lv_sipush (v := 1257) hx hb dX12_planAt_0 (by decide) ?_
  refine lv_bipush (v := 8) hx hb dX12_planAt_3 (by decide) ?_
  refine lv_iload_n hx hb dX12_planAt_5 rfl (lv_at hl 0 rfl) ?_
  refine lv_imul hx hb dX12_planAt_6 ?_
  refine lv_iadd hx hb dX12_planAt_7 ?_
  refine lv_iload_n hx hb dX12_planAt_8 rfl (lv_at hl 1 rfl) ?_
  refine lv_iadd hx hb dX12_planAt_9 ?_
  exact rtM_i C0 hr hlk hR hS h dX12_planAt_10

def rm_X12_numberOf : Room := { frames := 1, cells := 0, slots := 0, locals := 21 }
def F_X12_numberOf (a1 : Int32) (S : sSt) (k : Int32 → sSt → Prop) : Prop := F_X12_jobAt a1 0 S (fun r1 S2 => ix r1 10421 (fun j3 => k (S2.1 1 0 j3) S2))
set_option maxHeartbeats 4000000 in
set_option maxRecDepth 100000 in
theorem c_X12_numberOf (l : Launch) {D : va_G} {cy : Nat → ClassId} {b z : Nat} {tx : TX} {a1 : Int32} {S : sSt} {k : Int32 → sSt → Prop} (h : F_X12_numberOf a1 S k) : Met l yX12_numberOf (Cond.code yX12_numberOf cX12_numberOf 2 (some .int) :: TB) rm_X12_numberOf (va_Pc [.ref (b + adM 0 0), .int a1] (fun U => RelM D cy b z tx S U U.heap ∧ TxR tx U)) (PiM D cy b z tx k) 0 0 (gA b 12 z) := by
  refine Met.ofW (cc := cX12_numberOf) (maxL := 2) (ret := (some .int)) (by decide) rfl ?_
  intro p e s m args below meth c s₁ B hml hv
  obtain ⟨rfl, hR, hT⟩ := hv
  have C0 : CallFix p m c cX12_numberOf 2 s _ TB RX12 := ⟨B.exec, B.bytes, hml, findClass_of_methodNamed B.named, fun w hw => atoms_spec B.pre w (List.mem_cons_of_mem _ hw)⟩
  have hr := B.returns
  have hlk := B.notSynchronized
  have hx := C0.1
  have hb := C0.2.1
  have hS : va_S (gA b 12 z) s.heap s.heap [] := va_S.rf
  have hl := lv_entry ([.ref (b + adM 0 0), .int a1]) (n := 2) (Nat.le_of_ble_eq_true rfl)
  rw [lg_entry_eq]
  generalize (lg_sl ([.ref (b + adM 0 0), .int a1]) ++ List.replicate (2 - (lg_sl ([.ref (b + adM 0 0), .int a1])).length) Slot.unset).toArray = ls at hl ⊢
  have hl : lv_has ls 2 [(0, .ref (b + adM 0 0)), (1, .int a1)] := hl
  show W p l e rm_X12_numberOf s m _ below meth c s.heap [] 0 0 (MQ below (PiM D cy b z tx k) _ s 0 0 (gA b 12 z)) _
  unfold F_X12_numberOf at h
  refine lv_aload_n hx hb dX12_numberOf_0 rfl (lv_at hl 0 rfl) ?_
  refine gM_0_2 C0 hR Nat.zero_lt_one tbs_wsX120 mM0_7_79 dX12_numberOf_1 ?_
  refine lv_iload_n hx hb dX12_numberOf_4 rfl (lv_at hl 1 rfl) ?_
  refine lv_iconst (v := 0) hx hb dX12_numberOf_5 (by decide) ?_
  refine qM_Si (As := [.int a1, .int 0]) (rest := [.ref (b + adM 1 0)]) C0 (c_X12_jobAt l h) (va_cwS 2 C0.2.2.2.2 (tbS mM0_7_74 ⟨mM0_7_75, mM0_1_11, mM0_7_76⟩) rfl rfl rfl (by decide +kernel) ⟨Nat.le_of_ble_eq_true rfl, Nat.le_of_ble_eq_true rfl⟩) hR hT hS rfl hl.1 rfl (Nat.le_of_ble_eq_true rfl) dX12_numberOf_6 ⟨Nat.zero_le _, Nat.zero_le _⟩ (fun r1 S2 H locs h hR hS => ?_)
  obtain ⟨j3, hj3, ej3, h⟩ := h
  refine lM_1 C0 hR Nat.zero_lt_one hj3 ej3 dX12_numberOf_9 ?_
  exact rtM_i C0 hr hlk hR hS h dX12_numberOf_10

def rm_X12_lockerOf : Room := { frames := 1, cells := 0, slots := 0, locals := 21 }
def F_X12_lockerOf (a1 : Int32) (S : sSt) (k : Int32 → sSt → Prop) : Prop := F_X12_jobAt a1 2 S (fun r1 S2 => ix r1 10421 (fun j3 => k (S2.1 1 0 j3) S2))
set_option maxHeartbeats 4000000 in
set_option maxRecDepth 100000 in
theorem c_X12_lockerOf (l : Launch) {D : va_G} {cy : Nat → ClassId} {b z : Nat} {tx : TX} {a1 : Int32} {S : sSt} {k : Int32 → sSt → Prop} (h : F_X12_lockerOf a1 S k) : Met l yX12_lockerOf (Cond.code yX12_lockerOf cX12_lockerOf 2 (some .int) :: TB) rm_X12_lockerOf (va_Pc [.ref (b + adM 0 0), .int a1] (fun U => RelM D cy b z tx S U U.heap ∧ TxR tx U)) (PiM D cy b z tx k) 0 0 (gA b 12 z) := by
  refine Met.ofW (cc := cX12_lockerOf) (maxL := 2) (ret := (some .int)) (by decide) rfl ?_
  intro p e s m args below meth c s₁ B hml hv
  obtain ⟨rfl, hR, hT⟩ := hv
  have C0 : CallFix p m c cX12_lockerOf 2 s _ TB RX12 := ⟨B.exec, B.bytes, hml, findClass_of_methodNamed B.named, fun w hw => atoms_spec B.pre w (List.mem_cons_of_mem _ hw)⟩
  have hr := B.returns
  have hlk := B.notSynchronized
  have hx := C0.1
  have hb := C0.2.1
  have hS : va_S (gA b 12 z) s.heap s.heap [] := va_S.rf
  have hl := lv_entry ([.ref (b + adM 0 0), .int a1]) (n := 2) (Nat.le_of_ble_eq_true rfl)
  rw [lg_entry_eq]
  generalize (lg_sl ([.ref (b + adM 0 0), .int a1]) ++ List.replicate (2 - (lg_sl ([.ref (b + adM 0 0), .int a1])).length) Slot.unset).toArray = ls at hl ⊢
  have hl : lv_has ls 2 [(0, .ref (b + adM 0 0)), (1, .int a1)] := hl
  show W p l e rm_X12_lockerOf s m _ below meth c s.heap [] 0 0 (MQ below (PiM D cy b z tx k) _ s 0 0 (gA b 12 z)) _
  unfold F_X12_lockerOf at h
  refine lv_aload_n hx hb dX12_lockerOf_0 rfl (lv_at hl 0 rfl) ?_
  refine gM_0_2 C0 hR Nat.zero_lt_one tbs_wsX120 mM0_7_79 dX12_lockerOf_1 ?_
  refine lv_iload_n hx hb dX12_lockerOf_4 rfl (lv_at hl 1 rfl) ?_
  refine lv_iconst (v := 2) hx hb dX12_lockerOf_5 (by decide) ?_
  refine qM_Si (As := [.int a1, .int 2]) (rest := [.ref (b + adM 1 0)]) C0 (c_X12_jobAt l h) (va_cwS 2 C0.2.2.2.2 (tbS mM0_7_74 ⟨mM0_7_75, mM0_1_11, mM0_7_76⟩) rfl rfl rfl (by decide +kernel) ⟨Nat.le_of_ble_eq_true rfl, Nat.le_of_ble_eq_true rfl⟩) hR hT hS rfl hl.1 rfl (Nat.le_of_ble_eq_true rfl) dX12_lockerOf_6 ⟨Nat.zero_le _, Nat.zero_le _⟩ (fun r1 S2 H locs h hR hS => ?_)
  obtain ⟨j3, hj3, ej3, h⟩ := h
  refine lM_1 C0 hR Nat.zero_lt_one hj3 ej3 dX12_lockerOf_9 ?_
  exact rtM_i C0 hr hlk hR hS h dX12_lockerOf_10

def rm_X12_isIn : Room := { frames := 2, cells := 0, slots := 0, locals := 42 }
def F_X12_isIn (a1 : Int32) (S : sSt) (k : Int32 → sSt → Prop) : Prop := F_X12_numberOf a1 S (fun r1 S2 => ((r1 = (-1) → k 0 S2) ∧ (¬ r1 = (-1) → F_X12_jobAt a1 1 S2 (fun r4 S5 => ix r4 10421 (fun j6 => ((¬ (S5.1 1 0 j6) = 1 → k 0 S5) ∧ ((S5.1 1 0 j6) = 1 → k 1 S5)))))))
set_option maxHeartbeats 4000000 in
set_option maxRecDepth 100000 in
theorem c_X12_isIn (l : Launch) {D : va_G} {cy : Nat → ClassId} {b z : Nat} {tx : TX} {a1 : Int32} {S : sSt} {k : Int32 → sSt → Prop} (h : F_X12_isIn a1 S k) : Met l yX12_isIn (Cond.code yX12_isIn cX12_isIn 2 (some .boolean) :: TB) rm_X12_isIn (va_Pc [.ref (b + adM 0 0), .int a1] (fun U => RelM D cy b z tx S U U.heap ∧ TxR tx U)) (PiM D cy b z tx k) 0 0 (gA b 12 z) := by
  refine Met.ofW (cc := cX12_isIn) (maxL := 2) (ret := (some .boolean)) (by decide) rfl ?_
  intro p e s m args below meth c s₁ B hml hv
  obtain ⟨rfl, hR, hT⟩ := hv
  have C0 : CallFix p m c cX12_isIn 2 s _ TB RX12 := ⟨B.exec, B.bytes, hml, findClass_of_methodNamed B.named, fun w hw => atoms_spec B.pre w (List.mem_cons_of_mem _ hw)⟩
  have hr := B.returns
  have hlk := B.notSynchronized
  have hx := C0.1
  have hb := C0.2.1
  have hS : va_S (gA b 12 z) s.heap s.heap [] := va_S.rf
  have hl := lv_entry ([.ref (b + adM 0 0), .int a1]) (n := 2) (Nat.le_of_ble_eq_true rfl)
  rw [lg_entry_eq]
  generalize (lg_sl ([.ref (b + adM 0 0), .int a1]) ++ List.replicate (2 - (lg_sl ([.ref (b + adM 0 0), .int a1])).length) Slot.unset).toArray = ls at hl ⊢
  have hl : lv_has ls 2 [(0, .ref (b + adM 0 0)), (1, .int a1)] := hl
  show W p l e rm_X12_isIn s m _ below meth c s.heap [] 0 0 (MQ below (PiM D cy b z tx k) _ s 0 0 (gA b 12 z)) _
  unfold F_X12_isIn at h
  refine lv_aload_n hx hb dX12_isIn_0 rfl (lv_at hl 0 rfl) ?_
  refine lv_iload_n hx hb dX12_isIn_1 rfl (lv_at hl 1 rfl) ?_
  refine qM_Vi (As := [.int a1]) (rest := []) C0 (c_X12_numberOf l h) (cwV 1 C0.2.2.2.2 (tbV mM0_7_202 ⟨mM0_7_204, mpM0_3_3, mM0_1_11, mM0_7_205⟩) rfl rfl rfl (by decide +kernel) ⟨Nat.le_of_ble_eq_true rfl, Nat.le_of_ble_eq_true rfl⟩) (rcM_0 hR Nat.zero_lt_one) hR hT hS rfl hl.1 rfl (Nat.le_of_ble_eq_true rfl) dX12_isIn_2 ⟨Nat.zero_le _, Nat.zero_le _⟩ (fun r1 S2 H locs h hR hS => ?_)
  refine lv_iconst (v := (-1)) hx hb dX12_isIn_5 (by decide) ?_
  refine lv_icmp_eq (tgt := 27) hx hb dX12_isIn_6 (by decide) (fun c3 => ?_) (fun c3 => ?_)
  · have h := h.1 c3
    refine lv_iconst (v := 0) hx hb dX12_isIn_27 (by decide) ?_
    exact rtM_z C0 hr hlk hR hS (by decide) h dX12_isIn_28
  · have h := h.2 c3
    refine lv_aload_n hx hb dX12_isIn_9 rfl (lv_at hl 0 rfl) ?_
    refine gM_0_2 C0 hR Nat.zero_lt_one tbs_wsX120 mM0_7_79 dX12_isIn_10 ?_
    refine lv_iload_n hx hb dX12_isIn_13 rfl (lv_at hl 1 rfl) ?_
    refine lv_iconst (v := 1) hx hb dX12_isIn_14 (by decide) ?_
    refine qM_Si (As := [.int a1, .int 1]) (rest := [.ref (b + adM 1 0)]) C0 (c_X12_jobAt l h) (va_cwS 2 C0.2.2.2.2 (tbS mM0_7_74 ⟨mM0_7_75, mM0_1_11, mM0_7_76⟩) rfl rfl rfl (by decide +kernel) ⟨Nat.le_of_ble_eq_true rfl, Nat.le_of_ble_eq_true rfl⟩) hR hT hS rfl hl.1 rfl (Nat.le_of_ble_eq_true rfl) dX12_isIn_15 ⟨Nat.zero_le _, Nat.zero_le _⟩ (fun r4 S5 H locs h hR hS => ?_)
    obtain ⟨j6, hj6, ej6, h⟩ := h
    refine lM_1 C0 hR Nat.zero_lt_one hj6 ej6 dX12_isIn_18 ?_
    refine lv_iconst (v := 1) hx hb dX12_isIn_19 (by decide) ?_
    refine lv_icmp_ne (tgt := 27) hx hb dX12_isIn_20 (by decide) (fun c7 => ?_) (fun c7 => ?_)
    · have h := h.1 c7
      refine lv_iconst (v := 0) hx hb dX12_isIn_27 (by decide) ?_
      exact rtM_z C0 hr hlk hR hS (by decide) h dX12_isIn_28
    · have h := h.2 c7
      refine lv_iconst (v := 1) hx hb dX12_isIn_23 (by decide) ?_
      refine lv_goto (tgt := 28) hx hb dX12_isIn_24 (by decide) ?_
      exact rtM_z C0 hr hlk hR hS (by decide) h dX12_isIn_28

def rm_X12_isOpen : Room := { frames := 1, cells := 0, slots := 0, locals := 21 }
def F_X12_isOpen (a1 : Int32) (S : sSt) (k : Int32 → sSt → Prop) : Prop := F_X12_sessionAt a1 2 S (fun r1 S2 => ix r1 10421 (fun j3 => ((¬ (S2.1 1 0 j3) = 1 → k 0 S2) ∧ ((S2.1 1 0 j3) = 1 → k 1 S2))))
set_option maxHeartbeats 4000000 in
set_option maxRecDepth 100000 in
theorem c_X12_isOpen (l : Launch) {D : va_G} {cy : Nat → ClassId} {b z : Nat} {tx : TX} {a1 : Int32} {S : sSt} {k : Int32 → sSt → Prop} (h : F_X12_isOpen a1 S k) : Met l yX12_isOpen (Cond.code yX12_isOpen cX12_isOpen 2 (some .boolean) :: TB) rm_X12_isOpen (va_Pc [.ref (b + adM 0 0), .int a1] (fun U => RelM D cy b z tx S U U.heap ∧ TxR tx U)) (PiM D cy b z tx k) 0 0 (gA b 12 z) := by
  refine Met.ofW (cc := cX12_isOpen) (maxL := 2) (ret := (some .boolean)) (by decide) rfl ?_
  intro p e s m args below meth c s₁ B hml hv
  obtain ⟨rfl, hR, hT⟩ := hv
  have C0 : CallFix p m c cX12_isOpen 2 s _ TB RX12 := ⟨B.exec, B.bytes, hml, findClass_of_methodNamed B.named, fun w hw => atoms_spec B.pre w (List.mem_cons_of_mem _ hw)⟩
  have hr := B.returns
  have hlk := B.notSynchronized
  have hx := C0.1
  have hb := C0.2.1
  have hS : va_S (gA b 12 z) s.heap s.heap [] := va_S.rf
  have hl := lv_entry ([.ref (b + adM 0 0), .int a1]) (n := 2) (Nat.le_of_ble_eq_true rfl)
  rw [lg_entry_eq]
  generalize (lg_sl ([.ref (b + adM 0 0), .int a1]) ++ List.replicate (2 - (lg_sl ([.ref (b + adM 0 0), .int a1])).length) Slot.unset).toArray = ls at hl ⊢
  have hl : lv_has ls 2 [(0, .ref (b + adM 0 0)), (1, .int a1)] := hl
  show W p l e rm_X12_isOpen s m _ below meth c s.heap [] 0 0 (MQ below (PiM D cy b z tx k) _ s 0 0 (gA b 12 z)) _
  unfold F_X12_isOpen at h
  refine lv_aload_n hx hb dX12_isOpen_0 rfl (lv_at hl 0 rfl) ?_
  refine gM_0_2 C0 hR Nat.zero_lt_one tbs_wsX120 mM0_7_79 dX12_isOpen_1 ?_
  refine lv_iload_n hx hb dX12_isOpen_4 rfl (lv_at hl 1 rfl) ?_
  refine lv_iconst (v := 2) hx hb dX12_isOpen_5 (by decide) ?_
  refine qM_Si (As := [.int a1, .int 2]) (rest := [.ref (b + adM 1 0)]) C0 (c_X12_sessionAt l h) (va_cwS 2 C0.2.2.2.2 (tbS mM0_7_233 ⟨mM0_7_234, mM0_1_11, mM0_7_235⟩) rfl rfl rfl (by decide +kernel) ⟨Nat.le_of_ble_eq_true rfl, Nat.le_of_ble_eq_true rfl⟩) hR hT hS rfl hl.1 rfl (Nat.le_of_ble_eq_true rfl) dX12_isOpen_6 ⟨Nat.zero_le _, Nat.zero_le _⟩ (fun r1 S2 H locs h hR hS => ?_)
  obtain ⟨j3, hj3, ej3, h⟩ := h
  refine lM_1 C0 hR Nat.zero_lt_one hj3 ej3 dX12_isOpen_9 ?_
  refine lv_iconst (v := 1) hx hb dX12_isOpen_10 (by decide) ?_
  refine lv_icmp_ne (tgt := 18) hx hb dX12_isOpen_11 (by decide) (fun c4 => ?_) (fun c4 => ?_)
  · have h := h.1 c4
    refine lv_iconst (v := 0) hx hb dX12_isOpen_18 (by decide) ?_
    exact rtM_z C0 hr hlk hR hS (by decide) h dX12_isOpen_19
  · have h := h.2 c4
    refine lv_iconst (v := 1) hx hb dX12_isOpen_14 (by decide) ?_
    refine lv_goto (tgt := 19) hx hb dX12_isOpen_15 (by decide) ?_
    exact rtM_z C0 hr hlk hR hS (by decide) h dX12_isOpen_19

def rm_X12_noSession : Room := { frames := 1, cells := 0, slots := 0, locals := 22 }
def F_X12_noSession (a1 : Int32) (S : sSt) (k : Int32 → sSt → Prop) : Prop := F_X12_in a1 0 ((S.1 1 0 0) - 1) S (fun r1 S2 => ((¬ r1 = 0 → k 0 S2) ∧ (r1 = 0 → k 1 S2)))
set_option maxHeartbeats 4000000 in
set_option maxRecDepth 100000 in
theorem c_X12_noSession (l : Launch) {D : va_G} {cy : Nat → ClassId} {b z : Nat} {tx : TX} {a1 : Int32} {S : sSt} {k : Int32 → sSt → Prop} (h : F_X12_noSession a1 S k) : Met l yX12_noSession (Cond.code yX12_noSession cX12_noSession 2 (some .boolean) :: TB) rm_X12_noSession (va_Pc [.ref (b + adM 0 0), .int a1] (fun U => RelM D cy b z tx S U U.heap ∧ TxR tx U)) (PiM D cy b z tx k) 0 0 (gA b 12 z) := by
  refine Met.ofW (cc := cX12_noSession) (maxL := 2) (ret := (some .boolean)) (by decide) rfl ?_
  intro p e s m args below meth c s₁ B hml hv
  obtain ⟨rfl, hR, hT⟩ := hv
  have C0 : CallFix p m c cX12_noSession 2 s _ TB RX12 := ⟨B.exec, B.bytes, hml, findClass_of_methodNamed B.named, fun w hw => atoms_spec B.pre w (List.mem_cons_of_mem _ hw)⟩
  have hr := B.returns
  have hlk := B.notSynchronized
  have hx := C0.1
  have hb := C0.2.1
  have hS : va_S (gA b 12 z) s.heap s.heap [] := va_S.rf
  have hl := lv_entry ([.ref (b + adM 0 0), .int a1]) (n := 2) (Nat.le_of_ble_eq_true rfl)
  rw [lg_entry_eq]
  generalize (lg_sl ([.ref (b + adM 0 0), .int a1]) ++ List.replicate (2 - (lg_sl ([.ref (b + adM 0 0), .int a1])).length) Slot.unset).toArray = ls at hl ⊢
  have hl : lv_has ls 2 [(0, .ref (b + adM 0 0)), (1, .int a1)] := hl
  show W p l e rm_X12_noSession s m _ below meth c s.heap [] 0 0 (MQ below (PiM D cy b z tx k) _ s 0 0 (gA b 12 z)) _
  unfold F_X12_noSession at h
  refine lv_iload_n hx hb dX12_noSession_0 rfl (lv_at hl 1 rfl) ?_
  refine lv_iconst (v := 0) hx hb dX12_noSession_1 (by decide) ?_
  refine lv_aload_n hx hb dX12_noSession_2 rfl (lv_at hl 0 rfl) ?_
  refine gM_0_2 C0 hR Nat.zero_lt_one tbs_wsX120 mM0_7_79 dX12_noSession_3 ?_
  refine lv_iconst (v := 0) hx hb dX12_noSession_6 (by decide) ?_
  refine lM_1 C0 hR Nat.zero_lt_one (by decide) rfl dX12_noSession_7 ?_
  refine lv_iconst (v := 1) hx hb dX12_noSession_8 (by decide) ?_
  refine lv_isub hx hb dX12_noSession_9 ?_
  refine qM_Si (As := [.int a1, .int 0, .int ((S.1 1 0 0) - 1)]) (rest := []) C0 (c_X12_in l h) (va_cwS 3 C0.2.2.2.2 (tbS mM0_8_37 ⟨mM0_8_38, mM0_1_11, mM0_8_39⟩) rfl rfl rfl (by decide +kernel) ⟨Nat.le_of_ble_eq_true rfl, Nat.le_of_ble_eq_true rfl⟩) hR hT hS rfl hl.1 rfl (Nat.le_of_ble_eq_true rfl) dX12_noSession_10 ⟨Nat.zero_le _, Nat.zero_le _⟩ (fun r1 S2 H locs h hR hS => ?_)
  refine lv_if_ne (tgt := 20) hx hb dX12_noSession_13 (by decide) (fun c3 => ?_) (fun c3 => ?_)
  · have h := h.1 c3
    refine lv_iconst (v := 0) hx hb dX12_noSession_20 (by decide) ?_
    exact rtM_z C0 hr hlk hR hS (by decide) h dX12_noSession_21
  · have h := h.2 c3
    refine lv_iconst (v := 1) hx hb dX12_noSession_16 (by decide) ?_
    refine lv_goto (tgt := 21) hx hb dX12_noSession_17 (by decide) ?_
    exact rtM_z C0 hr hlk hR hS (by decide) h dX12_noSession_21

def rm_X12_behindNumber : Room := { frames := 2, cells := 0, slots := 0, locals := 42 }
def B_X12_behindNumber_39 (kk4 : Int32 → Int32 → Int32 → sSt → Prop) (a1 : Int32) (a2 : Int32) (a3 : Int32) (S : sSt) (k : Int32 → sSt → Prop) : Prop := ∀ x5 : Int32, x5 = a3 + 1 → kk4 a1 a2 x5 S
set_option maxHeartbeats 4000000 in
set_option maxRecDepth 100000 in
theorem Bw_X12_behindNumber_39 {p : Program} {l : Launch} {e : Env} {s : State} {m : MethodId} {args : Array Value} {below : List Frame} {meth : Method} {c : Code} {D : va_G} {cy : Nat → ClassId} {b z : Nat} {tx : TX} (C0 : CallFix p m c cX12_behindNumber 4 s args TB RX12) (hr : meth.sig.returnType = (some .int)) (hlk : meth.locks = false) (hT : TxR tx s) {k : Int32 → sSt → Prop} {kk4 : Int32 → Int32 → Int32 → sSt → Prop} (ih4 : ∀ (a1 : Int32) (a2 : Int32) (a3 : Int32) (S : sSt) (H : Heap) (locs : List Loc) (ls : Array Slot) , kk4 a1 a2 a3 S → RelM D cy b z tx S s H → va_S (gA b 12 z) s.heap H locs → lv_has ls 4 [(0, .ref (b + adM 0 0)), (1, .int a1), (2, .int a2), (3, .int a3)] → W p l e rm_X12_behindNumber s m args below meth c H locs 0 0 (MQ below (PiM D cy b z tx k) args s 0 0 (gA b 12 z)) (F0 m 4 ls [])) : ∀ (a1 : Int32) (a2 : Int32) (a3 : Int32) (S : sSt) (H : Heap) (locs : List Loc) (ls : Array Slot) , B_X12_behindNumber_39 kk4 a1 a2 a3 S k → RelM D cy b z tx S s H → va_S (gA b 12 z) s.heap H locs → lv_has ls 4 [(0, .ref (b + adM 0 0)), (1, .int a1), (2, .int a2), (3, .int a3)] → W p l e rm_X12_behindNumber s m args below meth c H locs 0 0 (MQ below (PiM D cy b z tx k) args s 0 0 (gA b 12 z)) (F0 m 39 ls []) := by
  intro a1 a2 a3 S H locs ls h hR hS hl
  have hx := C0.1
  have hb := C0.2.1
  unfold B_X12_behindNumber_39 at h
  obtain ⟨x5, ex5⟩ : ∃ x5 : Int32, x5 = a3 + 1 := ⟨_, rfl⟩
  have h := h x5 ex5
  refine w_iinc (v0 := 1) (lv' := [(3, .int x5), (0, .ref (b + adM 0 0)), (1, .int a1), (2, .int a2)]) C0 dX12_behindNumber_39 hl (k := 3) rfl (by decide) (by decide) x5 ex5 rfl (fun ls hl => ?_)
  refine lv_goto (tgt := 4) hx hb dX12_behindNumber_42 (by decide) ?_
  exact ih4 a1 a2 x5 S _ _ _  h hR hS (lv_sub hl [1, 2, 3, 0] rfl)
def B_X12_behindNumber_37 (kk4 : Int32 → Int32 → Int32 → sSt → Prop) (a1 : Int32) (a3 : Int32) (S : sSt) (k : Int32 → sSt → Prop) : Prop := B_X12_behindNumber_39 kk4 a1 a3 a3 S k
set_option maxHeartbeats 4000000 in
set_option maxRecDepth 100000 in
theorem Bw_X12_behindNumber_37 {p : Program} {l : Launch} {e : Env} {s : State} {m : MethodId} {args : Array Value} {below : List Frame} {meth : Method} {c : Code} {D : va_G} {cy : Nat → ClassId} {b z : Nat} {tx : TX} (C0 : CallFix p m c cX12_behindNumber 4 s args TB RX12) (hr : meth.sig.returnType = (some .int)) (hlk : meth.locks = false) (hT : TxR tx s) {k : Int32 → sSt → Prop} {kk4 : Int32 → Int32 → Int32 → sSt → Prop} (ih4 : ∀ (a1 : Int32) (a2 : Int32) (a3 : Int32) (S : sSt) (H : Heap) (locs : List Loc) (ls : Array Slot) , kk4 a1 a2 a3 S → RelM D cy b z tx S s H → va_S (gA b 12 z) s.heap H locs → lv_has ls 4 [(0, .ref (b + adM 0 0)), (1, .int a1), (2, .int a2), (3, .int a3)] → W p l e rm_X12_behindNumber s m args below meth c H locs 0 0 (MQ below (PiM D cy b z tx k) args s 0 0 (gA b 12 z)) (F0 m 4 ls [])) : ∀ (a1 : Int32) (a3 : Int32) (S : sSt) (H : Heap) (locs : List Loc) (ls : Array Slot) , B_X12_behindNumber_37 kk4 a1 a3 S k → RelM D cy b z tx S s H → va_S (gA b 12 z) s.heap H locs → lv_has ls 4 [(0, .ref (b + adM 0 0)), (1, .int a1), (3, .int a3)] → W p l e rm_X12_behindNumber s m args below meth c H locs 0 0 (MQ below (PiM D cy b z tx k) args s 0 0 (gA b 12 z)) (F0 m 37 ls []) := by
  intro a1 a3 S H locs ls h hR hS hl
  have hx := C0.1
  have hb := C0.2.1
  unfold B_X12_behindNumber_37 at h
  refine lv_iload_n hx hb dX12_behindNumber_37 rfl (lv_at hl 2 rfl) ?_
  refine lv_istore_n (lv' := [(2, .int a3), (0, .ref (b + adM 0 0)), (1, .int a1), (3, .int a3)]) hx hb dX12_behindNumber_38 rfl hl (by decide) rfl (fun ls hl => ?_)
  exact Bw_X12_behindNumber_39 C0 hr hlk hT ih4 a1 a3 a3 S _ _ _ h hR hS (lv_sub hl [1, 2, 0, 3] rfl)
def Bb_X12_behindNumber_4 (kk4 : Int32 → Int32 → Int32 → sSt → Prop) (a1 : Int32) (a2 : Int32) (a3 : Int32) (S : sSt) (k : Int32 → sSt → Prop) : Prop := ((24 ≤ a3 → k a2 S) ∧ (¬ 24 ≤ a3 → F_X12_numberOf a3 S (fun r2 S3 => ((r2 ≤ a1 → B_X12_behindNumber_39 kk4 a1 a2 a3 S3 k) ∧ (¬ r2 ≤ a1 → ((a2 = (-1) → B_X12_behindNumber_37 kk4 a1 a3 S3 k) ∧ (¬ a2 = (-1) → F_X12_numberOf a3 S3 (fun r7 S8 => F_X12_numberOf a2 S8 (fun r9 S10 => ((r9 ≤ r7 → B_X12_behindNumber_39 kk4 a1 a2 a3 S10 k) ∧ (¬ r9 ≤ r7 → B_X12_behindNumber_37 kk4 a1 a3 S10 k)))))))))))
set_option maxHeartbeats 4000000 in
set_option maxRecDepth 100000 in
theorem Bbw_X12_behindNumber_4 {p : Program} {l : Launch} {e : Env} {s : State} {m : MethodId} {args : Array Value} {below : List Frame} {meth : Method} {c : Code} {D : va_G} {cy : Nat → ClassId} {b z : Nat} {tx : TX} (C0 : CallFix p m c cX12_behindNumber 4 s args TB RX12) (hr : meth.sig.returnType = (some .int)) (hlk : meth.locks = false) (hT : TxR tx s) {k : Int32 → sSt → Prop} {kk4 : Int32 → Int32 → Int32 → sSt → Prop} (ih4 : ∀ (a1 : Int32) (a2 : Int32) (a3 : Int32) (S : sSt) (H : Heap) (locs : List Loc) (ls : Array Slot) , kk4 a1 a2 a3 S → RelM D cy b z tx S s H → va_S (gA b 12 z) s.heap H locs → lv_has ls 4 [(0, .ref (b + adM 0 0)), (1, .int a1), (2, .int a2), (3, .int a3)] → W p l e rm_X12_behindNumber s m args below meth c H locs 0 0 (MQ below (PiM D cy b z tx k) args s 0 0 (gA b 12 z)) (F0 m 4 ls [])) : ∀ (a1 : Int32) (a2 : Int32) (a3 : Int32) (S : sSt) (H : Heap) (locs : List Loc) (ls : Array Slot) , Bb_X12_behindNumber_4 kk4 a1 a2 a3 S k → RelM D cy b z tx S s H → va_S (gA b 12 z) s.heap H locs → lv_has ls 4 [(0, .ref (b + adM 0 0)), (1, .int a1), (2, .int a2), (3, .int a3)] → W p l e rm_X12_behindNumber s m args below meth c H locs 0 0 (MQ below (PiM D cy b z tx k) args s 0 0 (gA b 12 z)) (F0 m 4 ls []) := by
  intro a1 a2 a3 S H locs ls h hR hS hl
  have hx := C0.1
  have hb := C0.2.1
  unfold Bb_X12_behindNumber_4 at h
  refine lv_iload_n hx hb dX12_behindNumber_4 rfl (lv_at hl 3 rfl) ?_
  refine lv_bipush (v := 24) hx hb dX12_behindNumber_5 (by decide) ?_
  refine lv_icmp_ge (tgt := 45) hx hb dX12_behindNumber_7 (by decide) (fun c1 => ?_) (fun c1 => ?_)
  · have h := h.1 c1
    refine lv_iload_n hx hb dX12_behindNumber_45 rfl (lv_at hl 2 rfl) ?_
    exact rtM_i C0 hr hlk hR hS h dX12_behindNumber_46
  · have h := h.2 c1
    refine lv_aload_n hx hb dX12_behindNumber_10 rfl (lv_at hl 0 rfl) ?_
    refine lv_iload_n hx hb dX12_behindNumber_11 rfl (lv_at hl 3 rfl) ?_
    refine qM_Vi (As := [.int a3]) (rest := []) C0 (c_X12_numberOf l h) (cwV 1 C0.2.2.2.2 (tbV mM0_7_202 ⟨mM0_7_204, mpM0_3_3, mM0_1_11, mM0_7_205⟩) rfl rfl rfl (by decide +kernel) ⟨Nat.le_of_ble_eq_true rfl, Nat.le_of_ble_eq_true rfl⟩) (rcM_0 hR Nat.zero_lt_one) hR hT hS rfl hl.1 rfl (Nat.le_of_ble_eq_true rfl) dX12_behindNumber_12 ⟨Nat.zero_le _, Nat.zero_le _⟩ (fun r2 S3 H locs h hR hS => ?_)
    refine lv_iload_n hx hb dX12_behindNumber_15 rfl (lv_at hl 1 rfl) ?_
    refine lv_icmp_le (tgt := 39) hx hb dX12_behindNumber_16 (by decide) (fun c4 => ?_) (fun c4 => ?_)
    · have h := h.1 c4
      exact Bw_X12_behindNumber_39 C0 hr hlk hT ih4 a1 a2 a3 S3 _ _ _ h hR hS (lv_sub hl [0, 1, 2, 3] rfl)
    · have h := h.2 c4
      refine lv_iload_n hx hb dX12_behindNumber_19 rfl (lv_at hl 2 rfl) ?_
      refine lv_iconst (v := (-1)) hx hb dX12_behindNumber_20 (by decide) ?_
      refine lv_icmp_eq (tgt := 37) hx hb dX12_behindNumber_21 (by decide) (fun c6 => ?_) (fun c6 => ?_)
      · have h := h.1 c6
        exact Bw_X12_behindNumber_37 C0 hr hlk hT ih4 a1 a3 S3 _ _ _ h hR hS (lv_sub hl [0, 1, 3] rfl)
      · have h := h.2 c6
        refine lv_aload_n hx hb dX12_behindNumber_24 rfl (lv_at hl 0 rfl) ?_
        refine lv_iload_n hx hb dX12_behindNumber_25 rfl (lv_at hl 3 rfl) ?_
        refine qM_Vi (As := [.int a3]) (rest := []) C0 (c_X12_numberOf l h) (cwV 1 C0.2.2.2.2 (tbV mM0_7_202 ⟨mM0_7_204, mpM0_3_3, mM0_1_11, mM0_7_205⟩) rfl rfl rfl (by decide +kernel) ⟨Nat.le_of_ble_eq_true rfl, Nat.le_of_ble_eq_true rfl⟩) (rcM_0 hR Nat.zero_lt_one) hR hT hS rfl hl.1 rfl (Nat.le_of_ble_eq_true rfl) dX12_behindNumber_26 ⟨Nat.zero_le _, Nat.zero_le _⟩ (fun r7 S8 H locs h hR hS => ?_)
        refine lv_aload_n hx hb dX12_behindNumber_29 rfl (lv_at hl 0 rfl) ?_
        refine lv_iload_n hx hb dX12_behindNumber_30 rfl (lv_at hl 2 rfl) ?_
        refine qM_Vi (As := [.int a2]) (rest := [.int r7]) C0 (c_X12_numberOf l h) (cwV 1 C0.2.2.2.2 (tbV mM0_7_202 ⟨mM0_7_204, mpM0_3_3, mM0_1_11, mM0_7_205⟩) rfl rfl rfl (by decide +kernel) ⟨Nat.le_of_ble_eq_true rfl, Nat.le_of_ble_eq_true rfl⟩) (rcM_0 hR Nat.zero_lt_one) hR hT hS rfl hl.1 rfl (Nat.le_of_ble_eq_true rfl) dX12_behindNumber_31 ⟨Nat.zero_le _, Nat.zero_le _⟩ (fun r9 S10 H locs h hR hS => ?_)
        refine lv_icmp_ge (tgt := 39) hx hb dX12_behindNumber_34 (by decide) (fun c11 => ?_) (fun c11 => ?_)
        · have h := h.1 c11
          exact Bw_X12_behindNumber_39 C0 hr hlk hT ih4 a1 a2 a3 S10 _ _ _ h hR hS (lv_sub hl [0, 1, 2, 3] rfl)
        · have h := h.2 c11
          exact Bw_X12_behindNumber_37 C0 hr hlk hT ih4 a1 a3 S10 _ _ _ h hR hS (lv_sub hl [0, 1, 3] rfl)
def B_X12_behindNumber_4 (n9 : Nat) (a1 : Int32) (a2 : Int32) (a3 : Int32) (S : sSt) (k : Int32 → sSt → Prop) : Prop := (Nat.rec (motive := fun _ => Int32 → Int32 → Int32 → sSt → Prop) (fun _ _ _ _ => False) (fun _ r9 => fun a1 a2 a3 S => Bb_X12_behindNumber_4 r9 a1 a2 a3 S k) n9 : Int32 → Int32 → Int32 → sSt → Prop) a1 a2 a3 S
theorem B_X12_behindNumber_4_s (n9 : Nat) (a1 : Int32) (a2 : Int32) (a3 : Int32) (S : sSt) (k : Int32 → sSt → Prop) : B_X12_behindNumber_4 (n9 + 1) a1 a2 a3 S k = Bb_X12_behindNumber_4 (fun a1 a2 a3 S => B_X12_behindNumber_4 n9 a1 a2 a3 S k) a1 a2 a3 S k := rfl
set_option maxHeartbeats 4000000 in
set_option maxRecDepth 100000 in
theorem Bw_X12_behindNumber_4 {p : Program} {l : Launch} {e : Env} {s : State} {m : MethodId} {args : Array Value} {below : List Frame} {meth : Method} {c : Code} {D : va_G} {cy : Nat → ClassId} {b z : Nat} {tx : TX} (C0 : CallFix p m c cX12_behindNumber 4 s args TB RX12) (hr : meth.sig.returnType = (some .int)) (hlk : meth.locks = false) (hT : TxR tx s) {k : Int32 → sSt → Prop} : ∀ (n9 : Nat), ∀ (a1 : Int32) (a2 : Int32) (a3 : Int32) (S : sSt) (H : Heap) (locs : List Loc) (ls : Array Slot) , B_X12_behindNumber_4 n9 a1 a2 a3 S k → RelM D cy b z tx S s H → va_S (gA b 12 z) s.heap H locs → lv_has ls 4 [(0, .ref (b + adM 0 0)), (1, .int a1), (2, .int a2), (3, .int a3)] → W p l e rm_X12_behindNumber s m args below meth c H locs 0 0 (MQ below (PiM D cy b z tx k) args s 0 0 (gA b 12 z)) (F0 m 4 ls []) := by
  intro n9
  induction n9 with
  | zero => intro a1 a2 a3 S H locs ls h; exact h.elim
  | succ n9 ih =>
    intro a1 a2 a3 S H locs ls h hR hS hl
    exact Bbw_X12_behindNumber_4 C0 hr hlk hT ih a1 a2 a3 S H locs ls h hR hS hl
def F_X12_behindNumber (a1 : Int32) (S : sSt) (k : Int32 → sSt → Prop) : Prop := B_X12_behindNumber_4 fuel a1 (-1) 0 S k
set_option maxHeartbeats 4000000 in
set_option maxRecDepth 100000 in
theorem c_X12_behindNumber (l : Launch) {D : va_G} {cy : Nat → ClassId} {b z : Nat} {tx : TX} {a1 : Int32} {S : sSt} {k : Int32 → sSt → Prop} (h : F_X12_behindNumber a1 S k) : Met l yX12_behindNumber (Cond.code yX12_behindNumber cX12_behindNumber 4 (some .int) :: TB) rm_X12_behindNumber (va_Pc [.ref (b + adM 0 0), .int a1] (fun U => RelM D cy b z tx S U U.heap ∧ TxR tx U)) (PiM D cy b z tx k) 0 0 (gA b 12 z) := by
  refine Met.ofW (cc := cX12_behindNumber) (maxL := 4) (ret := (some .int)) (by decide) rfl ?_
  intro p e s m args below meth c s₁ B hml hv
  obtain ⟨rfl, hR, hT⟩ := hv
  have C0 : CallFix p m c cX12_behindNumber 4 s _ TB RX12 := ⟨B.exec, B.bytes, hml, findClass_of_methodNamed B.named, fun w hw => atoms_spec B.pre w (List.mem_cons_of_mem _ hw)⟩
  have hr := B.returns
  have hlk := B.notSynchronized
  have hx := C0.1
  have hb := C0.2.1
  have hS : va_S (gA b 12 z) s.heap s.heap [] := va_S.rf
  have hl := lv_entry ([.ref (b + adM 0 0), .int a1]) (n := 4) (Nat.le_of_ble_eq_true rfl)
  rw [lg_entry_eq]
  generalize (lg_sl ([.ref (b + adM 0 0), .int a1]) ++ List.replicate (4 - (lg_sl ([.ref (b + adM 0 0), .int a1])).length) Slot.unset).toArray = ls at hl ⊢
  have hl : lv_has ls 4 [(0, .ref (b + adM 0 0)), (1, .int a1)] := hl
  show W p l e rm_X12_behindNumber s m _ below meth c s.heap [] 0 0 (MQ below (PiM D cy b z tx k) _ s 0 0 (gA b 12 z)) _
  unfold F_X12_behindNumber at h
  refine lv_iconst (v := (-1)) hx hb dX12_behindNumber_0 (by decide) ?_
  refine lv_istore_n (lv' := [(2, .int (-1)), (0, .ref (b + adM 0 0)), (1, .int a1)]) hx hb dX12_behindNumber_1 rfl hl (by decide) rfl (fun ls hl => ?_)
  refine lv_iconst (v := 0) hx hb dX12_behindNumber_2 (by decide) ?_
  refine lv_istore_n (lv' := [(3, .int 0), (2, .int (-1)), (0, .ref (b + adM 0 0)), (1, .int a1)]) hx hb dX12_behindNumber_3 rfl hl (by decide) rfl (fun ls hl => ?_)
  exact Bw_X12_behindNumber_4 C0 hr hlk hT fuel a1 (-1) 0 S _ _ _ h hR hS (lv_sub hl [2, 3, 1, 0] rfl)

def rm_X12_jobOf : Room := { frames := 2, cells := 0, slots := 0, locals := 42 }
def B_X12_jobOf_32 (a2 : Int32) (S : sSt) (k : Int32 → sSt → Prop) : Prop := ((¬ a2 = 24 → k a2 S) ∧ (a2 = 24 → k (-1) S))
set_option maxHeartbeats 4000000 in
set_option maxRecDepth 100000 in
theorem Bw_X12_jobOf_32 {p : Program} {l : Launch} {e : Env} {s : State} {m : MethodId} {args : Array Value} {below : List Frame} {meth : Method} {c : Code} {D : va_G} {cy : Nat → ClassId} {b z : Nat} {tx : TX} (C0 : CallFix p m c cX12_jobOf 3 s args TB RX12) (hr : meth.sig.returnType = (some .int)) (hlk : meth.locks = false) (hT : TxR tx s) {k : Int32 → sSt → Prop} : ∀ (a2 : Int32) (S : sSt) (H : Heap) (locs : List Loc) (ls : Array Slot) , B_X12_jobOf_32 a2 S k → RelM D cy b z tx S s H → va_S (gA b 12 z) s.heap H locs → lv_has ls 3 [(2, .int a2)] → W p l e rm_X12_jobOf s m args below meth c H locs 0 0 (MQ below (PiM D cy b z tx k) args s 0 0 (gA b 12 z)) (F0 m 32 ls []) := by
  intro a2 S H locs ls h hR hS hl
  have hx := C0.1
  have hb := C0.2.1
  unfold B_X12_jobOf_32 at h
  refine lv_iload_n hx hb dX12_jobOf_32 rfl (lv_at hl 0 rfl) ?_
  refine lv_bipush (v := 24) hx hb dX12_jobOf_33 (by decide) ?_
  refine lv_icmp_ne (tgt := 42) hx hb dX12_jobOf_35 (by decide) (fun c3 => ?_) (fun c3 => ?_)
  · have h := h.1 c3
    refine lv_iload_n hx hb dX12_jobOf_42 rfl (lv_at hl 0 rfl) ?_
    exact rtM_i C0 hr hlk hR hS h dX12_jobOf_43
  · have h := h.2 c3
    refine lv_iconst (v := (-1)) hx hb dX12_jobOf_38 (by decide) ?_
    refine lv_goto (tgt := 43) hx hb dX12_jobOf_39 (by decide) ?_
    exact rtM_i C0 hr hlk hR hS h dX12_jobOf_43
def Bb_X12_jobOf_11 (kk11 : Int32 → Int32 → sSt → Prop) (a1 : Int32) (a2 : Int32) (S : sSt) (k : Int32 → sSt → Prop) : Prop := ((24 ≤ a2 → B_X12_jobOf_32 a2 S k) ∧ (¬ 24 ≤ a2 → F_X12_numberOf a2 S (fun r4 S5 => ((r4 = a1 → B_X12_jobOf_32 a2 S5 k) ∧ (¬ r4 = a1 → ∀ x7 : Int32, x7 = a2 + 1 → kk11 a1 x7 S5)))))
set_option maxHeartbeats 4000000 in
set_option maxRecDepth 100000 in
theorem Bbw_X12_jobOf_11 {p : Program} {l : Launch} {e : Env} {s : State} {m : MethodId} {args : Array Value} {below : List Frame} {meth : Method} {c : Code} {D : va_G} {cy : Nat → ClassId} {b z : Nat} {tx : TX} (C0 : CallFix p m c cX12_jobOf 3 s args TB RX12) (hr : meth.sig.returnType = (some .int)) (hlk : meth.locks = false) (hT : TxR tx s) {k : Int32 → sSt → Prop} {kk11 : Int32 → Int32 → sSt → Prop} (ih11 : ∀ (a1 : Int32) (a2 : Int32) (S : sSt) (H : Heap) (locs : List Loc) (ls : Array Slot) , kk11 a1 a2 S → RelM D cy b z tx S s H → va_S (gA b 12 z) s.heap H locs → lv_has ls 3 [(0, .ref (b + adM 0 0)), (1, .int a1), (2, .int a2)] → W p l e rm_X12_jobOf s m args below meth c H locs 0 0 (MQ below (PiM D cy b z tx k) args s 0 0 (gA b 12 z)) (F0 m 11 ls [])) : ∀ (a1 : Int32) (a2 : Int32) (S : sSt) (H : Heap) (locs : List Loc) (ls : Array Slot) , Bb_X12_jobOf_11 kk11 a1 a2 S k → RelM D cy b z tx S s H → va_S (gA b 12 z) s.heap H locs → lv_has ls 3 [(0, .ref (b + adM 0 0)), (1, .int a1), (2, .int a2)] → W p l e rm_X12_jobOf s m args below meth c H locs 0 0 (MQ below (PiM D cy b z tx k) args s 0 0 (gA b 12 z)) (F0 m 11 ls []) := by
  intro a1 a2 S H locs ls h hR hS hl
  have hx := C0.1
  have hb := C0.2.1
  unfold Bb_X12_jobOf_11 at h
  refine lv_iload_n hx hb dX12_jobOf_11 rfl (lv_at hl 2 rfl) ?_
  refine lv_bipush (v := 24) hx hb dX12_jobOf_12 (by decide) ?_
  refine lv_icmp_ge (tgt := 32) hx hb dX12_jobOf_14 (by decide) (fun c2 => ?_) (fun c2 => ?_)
  · have h := h.1 c2
    exact Bw_X12_jobOf_32 C0 hr hlk hT a2 S _ _ _ h hR hS (lv_sub hl [2] rfl)
  · have h := h.2 c2
    refine lv_aload_n hx hb dX12_jobOf_17 rfl (lv_at hl 0 rfl) ?_
    refine lv_iload_n hx hb dX12_jobOf_18 rfl (lv_at hl 2 rfl) ?_
    refine qM_Vi (As := [.int a2]) (rest := []) C0 (c_X12_numberOf l h) (cwV 1 C0.2.2.2.2 (tbV mM0_7_202 ⟨mM0_7_204, mpM0_3_3, mM0_1_11, mM0_7_205⟩) rfl rfl rfl (by decide +kernel) ⟨Nat.le_of_ble_eq_true rfl, Nat.le_of_ble_eq_true rfl⟩) (rcM_0 hR Nat.zero_lt_one) hR hT hS rfl hl.1 rfl (Nat.le_of_ble_eq_true rfl) dX12_jobOf_19 ⟨Nat.zero_le _, Nat.zero_le _⟩ (fun r4 S5 H locs h hR hS => ?_)
    refine lv_iload_n hx hb dX12_jobOf_22 rfl (lv_at hl 1 rfl) ?_
    refine lv_icmp_eq (tgt := 32) hx hb dX12_jobOf_23 (by decide) (fun c6 => ?_) (fun c6 => ?_)
    · have h := h.1 c6
      exact Bw_X12_jobOf_32 C0 hr hlk hT a2 S5 _ _ _ h hR hS (lv_sub hl [2] rfl)
    · have h := h.2 c6
      obtain ⟨x7, ex7⟩ : ∃ x7 : Int32, x7 = a2 + 1 := ⟨_, rfl⟩
      have h := h x7 ex7
      refine w_iinc (v0 := 1) (lv' := [(2, .int x7), (0, .ref (b + adM 0 0)), (1, .int a1)]) C0 dX12_jobOf_26 hl (k := 2) rfl (by decide) (by decide) x7 ex7 rfl (fun ls hl => ?_)
      refine lv_goto (tgt := 11) hx hb dX12_jobOf_29 (by decide) ?_
      exact ih11 a1 x7 S5 _ _ _  h hR hS (lv_sub hl [1, 2, 0] rfl)
def B_X12_jobOf_11 (n9 : Nat) (a1 : Int32) (a2 : Int32) (S : sSt) (k : Int32 → sSt → Prop) : Prop := (Nat.rec (motive := fun _ => Int32 → Int32 → sSt → Prop) (fun _ _ _ => False) (fun _ r9 => fun a1 a2 S => Bb_X12_jobOf_11 r9 a1 a2 S k) n9 : Int32 → Int32 → sSt → Prop) a1 a2 S
theorem B_X12_jobOf_11_s (n9 : Nat) (a1 : Int32) (a2 : Int32) (S : sSt) (k : Int32 → sSt → Prop) : B_X12_jobOf_11 (n9 + 1) a1 a2 S k = Bb_X12_jobOf_11 (fun a1 a2 S => B_X12_jobOf_11 n9 a1 a2 S k) a1 a2 S k := rfl
set_option maxHeartbeats 4000000 in
set_option maxRecDepth 100000 in
theorem Bw_X12_jobOf_11 {p : Program} {l : Launch} {e : Env} {s : State} {m : MethodId} {args : Array Value} {below : List Frame} {meth : Method} {c : Code} {D : va_G} {cy : Nat → ClassId} {b z : Nat} {tx : TX} (C0 : CallFix p m c cX12_jobOf 3 s args TB RX12) (hr : meth.sig.returnType = (some .int)) (hlk : meth.locks = false) (hT : TxR tx s) {k : Int32 → sSt → Prop} : ∀ (n9 : Nat), ∀ (a1 : Int32) (a2 : Int32) (S : sSt) (H : Heap) (locs : List Loc) (ls : Array Slot) , B_X12_jobOf_11 n9 a1 a2 S k → RelM D cy b z tx S s H → va_S (gA b 12 z) s.heap H locs → lv_has ls 3 [(0, .ref (b + adM 0 0)), (1, .int a1), (2, .int a2)] → W p l e rm_X12_jobOf s m args below meth c H locs 0 0 (MQ below (PiM D cy b z tx k) args s 0 0 (gA b 12 z)) (F0 m 11 ls []) := by
  intro n9
  induction n9 with
  | zero => intro a1 a2 S H locs ls h; exact h.elim
  | succ n9 ih =>
    intro a1 a2 S H locs ls h hR hS hl
    exact Bbw_X12_jobOf_11 C0 hr hlk hT ih a1 a2 S H locs ls h hR hS hl
def B_X12_jobOf_10 (a1 : Int32) (t0 : Int32) (S : sSt) (k : Int32 → sSt → Prop) : Prop := B_X12_jobOf_11 fuel a1 t0 S k
set_option maxHeartbeats 4000000 in
set_option maxRecDepth 100000 in
theorem Bw_X12_jobOf_10 {p : Program} {l : Launch} {e : Env} {s : State} {m : MethodId} {args : Array Value} {below : List Frame} {meth : Method} {c : Code} {D : va_G} {cy : Nat → ClassId} {b z : Nat} {tx : TX} (C0 : CallFix p m c cX12_jobOf 3 s args TB RX12) (hr : meth.sig.returnType = (some .int)) (hlk : meth.locks = false) (hT : TxR tx s) {k : Int32 → sSt → Prop} : ∀ (a1 : Int32) (t0 : Int32) (S : sSt) (H : Heap) (locs : List Loc) (ls : Array Slot) , B_X12_jobOf_10 a1 t0 S k → RelM D cy b z tx S s H → va_S (gA b 12 z) s.heap H locs → lv_has ls 3 [(0, .ref (b + adM 0 0)), (1, .int a1)] → W p l e rm_X12_jobOf s m args below meth c H locs 0 0 (MQ below (PiM D cy b z tx k) args s 0 0 (gA b 12 z)) (F0 m 10 ls [.int t0]) := by
  intro a1 t0 S H locs ls h hR hS hl
  have hx := C0.1
  have hb := C0.2.1
  unfold B_X12_jobOf_10 at h
  refine lv_istore_n (lv' := [(2, .int t0), (0, .ref (b + adM 0 0)), (1, .int a1)]) hx hb dX12_jobOf_10 rfl hl (by decide) rfl (fun ls hl => ?_)
  exact Bw_X12_jobOf_11 C0 hr hlk hT fuel a1 t0 S _ _ _ h hR hS (lv_sub hl [1, 2, 0] rfl)
def F_X12_jobOf (a1 : Int32) (S : sSt) (k : Int32 → sSt → Prop) : Prop := ((0 ≤ a1 → B_X12_jobOf_10 a1 0 S k) ∧ (¬ 0 ≤ a1 → B_X12_jobOf_10 a1 24 S k))
set_option maxHeartbeats 4000000 in
set_option maxRecDepth 100000 in
theorem c_X12_jobOf (l : Launch) {D : va_G} {cy : Nat → ClassId} {b z : Nat} {tx : TX} {a1 : Int32} {S : sSt} {k : Int32 → sSt → Prop} (h : F_X12_jobOf a1 S k) : Met l yX12_jobOf (Cond.code yX12_jobOf cX12_jobOf 3 (some .int) :: TB) rm_X12_jobOf (va_Pc [.ref (b + adM 0 0), .int a1] (fun U => RelM D cy b z tx S U U.heap ∧ TxR tx U)) (PiM D cy b z tx k) 0 0 (gA b 12 z) := by
  refine Met.ofW (cc := cX12_jobOf) (maxL := 3) (ret := (some .int)) (by decide) rfl ?_
  intro p e s m args below meth c s₁ B hml hv
  obtain ⟨rfl, hR, hT⟩ := hv
  have C0 : CallFix p m c cX12_jobOf 3 s _ TB RX12 := ⟨B.exec, B.bytes, hml, findClass_of_methodNamed B.named, fun w hw => atoms_spec B.pre w (List.mem_cons_of_mem _ hw)⟩
  have hr := B.returns
  have hlk := B.notSynchronized
  have hx := C0.1
  have hb := C0.2.1
  have hS : va_S (gA b 12 z) s.heap s.heap [] := va_S.rf
  have hl := lv_entry ([.ref (b + adM 0 0), .int a1]) (n := 3) (Nat.le_of_ble_eq_true rfl)
  rw [lg_entry_eq]
  generalize (lg_sl ([.ref (b + adM 0 0), .int a1]) ++ List.replicate (3 - (lg_sl ([.ref (b + adM 0 0), .int a1])).length) Slot.unset).toArray = ls at hl ⊢
  have hl : lv_has ls 3 [(0, .ref (b + adM 0 0)), (1, .int a1)] := hl
  show W p l e rm_X12_jobOf s m _ below meth c s.heap [] 0 0 (MQ below (PiM D cy b z tx k) _ s 0 0 (gA b 12 z)) _
  unfold F_X12_jobOf at h
  refine lv_iload_n hx hb dX12_jobOf_0 rfl (lv_at hl 1 rfl) ?_
  refine lv_if_ge (tgt := 9) hx hb dX12_jobOf_1 (by decide) (fun c1 => ?_) (fun c1 => ?_)
  · have h := h.1 c1
    refine lv_iconst (v := 0) hx hb dX12_jobOf_9 (by decide) ?_
    exact Bw_X12_jobOf_10 C0 hr hlk hT a1 0 S _ _ _ h hR hS (lv_sub hl [0, 1] rfl)
  · have h := h.2 c1
    refine lv_bipush (v := 24) hx hb dX12_jobOf_4 (by decide) ?_
    refine lv_goto (tgt := 10) hx hb dX12_jobOf_6 (by decide) ?_
    exact Bw_X12_jobOf_10 C0 hr hlk hT a1 24 S _ _ _ h hR hS (lv_sub hl [0, 1] rfl)

def rm_X12_jobsLying : Room := { frames := 2, cells := 0, slots := 0, locals := 42 }
def B_X12_jobsLying_25 (kk4 : Int32 → Int32 → sSt → Prop) (a2 : Int32) (t0 : Int32) (t1 : Int32) (S : sSt) (k : Int32 → sSt → Prop) : Prop := ∀ x5 : Int32, x5 = (t0 + t1) → ∀ x6 : Int32, x6 = a2 + 1 → kk4 x5 x6 S
set_option maxHeartbeats 4000000 in
set_option maxRecDepth 100000 in
theorem Bw_X12_jobsLying_25 {p : Program} {l : Launch} {e : Env} {s : State} {m : MethodId} {args : Array Value} {below : List Frame} {meth : Method} {c : Code} {D : va_G} {cy : Nat → ClassId} {b z : Nat} {tx : TX} (C0 : CallFix p m c cX12_jobsLying 3 s args TB RX12) (hr : meth.sig.returnType = (some .int)) (hlk : meth.locks = false) (hT : TxR tx s) {k : Int32 → sSt → Prop} {kk4 : Int32 → Int32 → sSt → Prop} (ih4 : ∀ (a1 : Int32) (a2 : Int32) (S : sSt) (H : Heap) (locs : List Loc) (ls : Array Slot) , kk4 a1 a2 S → RelM D cy b z tx S s H → va_S (gA b 12 z) s.heap H locs → lv_has ls 3 [(0, .ref (b + adM 0 0)), (1, .int a1), (2, .int a2)] → W p l e rm_X12_jobsLying s m args below meth c H locs 0 0 (MQ below (PiM D cy b z tx k) args s 0 0 (gA b 12 z)) (F0 m 4 ls [])) : ∀ (a2 : Int32) (t0 : Int32) (t1 : Int32) (S : sSt) (H : Heap) (locs : List Loc) (ls : Array Slot) , B_X12_jobsLying_25 kk4 a2 t0 t1 S k → RelM D cy b z tx S s H → va_S (gA b 12 z) s.heap H locs → lv_has ls 3 [(0, .ref (b + adM 0 0)), (2, .int a2)] → W p l e rm_X12_jobsLying s m args below meth c H locs 0 0 (MQ below (PiM D cy b z tx k) args s 0 0 (gA b 12 z)) (F0 m 25 ls [.int t1, .int t0]) := by
  intro a2 t0 t1 S H locs ls h hR hS hl
  have hx := C0.1
  have hb := C0.2.1
  unfold B_X12_jobsLying_25 at h
  refine lv_iadd hx hb dX12_jobsLying_25 ?_
  refine lv_topi (fun x5 ex5 => ?_)
  have h := h x5 ex5
  refine lv_istore_n (lv' := [(1, .int x5), (0, .ref (b + adM 0 0)), (2, .int a2)]) hx hb dX12_jobsLying_26 rfl hl (by decide) rfl (fun ls hl => ?_)
  obtain ⟨x6, ex6⟩ : ∃ x6 : Int32, x6 = a2 + 1 := ⟨_, rfl⟩
  have h := h x6 ex6
  refine w_iinc (v0 := 1) (lv' := [(2, .int x6), (1, .int x5), (0, .ref (b + adM 0 0))]) C0 dX12_jobsLying_27 hl (k := 2) rfl (by decide) (by decide) x6 ex6 rfl (fun ls hl => ?_)
  refine lv_goto (tgt := 4) hx hb dX12_jobsLying_30 (by decide) ?_
  exact ih4 x5 x6 S _ _ _  h hR hS (lv_sub hl [2, 1, 0] rfl)
def Bb_X12_jobsLying_4 (kk4 : Int32 → Int32 → sSt → Prop) (a1 : Int32) (a2 : Int32) (S : sSt) (k : Int32 → sSt → Prop) : Prop := ((24 ≤ a2 → k a1 S) ∧ (¬ 24 ≤ a2 → F_X12_numberOf a2 S (fun r2 S3 => ((¬ r2 = (-1) → B_X12_jobsLying_25 kk4 a2 a1 1 S3 k) ∧ (r2 = (-1) → B_X12_jobsLying_25 kk4 a2 a1 0 S3 k)))))
set_option maxHeartbeats 4000000 in
set_option maxRecDepth 100000 in
theorem Bbw_X12_jobsLying_4 {p : Program} {l : Launch} {e : Env} {s : State} {m : MethodId} {args : Array Value} {below : List Frame} {meth : Method} {c : Code} {D : va_G} {cy : Nat → ClassId} {b z : Nat} {tx : TX} (C0 : CallFix p m c cX12_jobsLying 3 s args TB RX12) (hr : meth.sig.returnType = (some .int)) (hlk : meth.locks = false) (hT : TxR tx s) {k : Int32 → sSt → Prop} {kk4 : Int32 → Int32 → sSt → Prop} (ih4 : ∀ (a1 : Int32) (a2 : Int32) (S : sSt) (H : Heap) (locs : List Loc) (ls : Array Slot) , kk4 a1 a2 S → RelM D cy b z tx S s H → va_S (gA b 12 z) s.heap H locs → lv_has ls 3 [(0, .ref (b + adM 0 0)), (1, .int a1), (2, .int a2)] → W p l e rm_X12_jobsLying s m args below meth c H locs 0 0 (MQ below (PiM D cy b z tx k) args s 0 0 (gA b 12 z)) (F0 m 4 ls [])) : ∀ (a1 : Int32) (a2 : Int32) (S : sSt) (H : Heap) (locs : List Loc) (ls : Array Slot) , Bb_X12_jobsLying_4 kk4 a1 a2 S k → RelM D cy b z tx S s H → va_S (gA b 12 z) s.heap H locs → lv_has ls 3 [(0, .ref (b + adM 0 0)), (1, .int a1), (2, .int a2)] → W p l e rm_X12_jobsLying s m args below meth c H locs 0 0 (MQ below (PiM D cy b z tx k) args s 0 0 (gA b 12 z)) (F0 m 4 ls []) := by
  intro a1 a2 S H locs ls h hR hS hl
  have hx := C0.1
  have hb := C0.2.1
  unfold Bb_X12_jobsLying_4 at h
  refine lv_iload_n hx hb dX12_jobsLying_4 rfl (lv_at hl 2 rfl) ?_
  refine lv_bipush (v := 24) hx hb dX12_jobsLying_5 (by decide) ?_
  refine lv_icmp_ge (tgt := 33) hx hb dX12_jobsLying_7 (by decide) (fun c1 => ?_) (fun c1 => ?_)
  · have h := h.1 c1
    refine lv_iload_n hx hb dX12_jobsLying_33 rfl (lv_at hl 1 rfl) ?_
    exact rtM_i C0 hr hlk hR hS h dX12_jobsLying_34
  · have h := h.2 c1
    refine lv_iload_n hx hb dX12_jobsLying_10 rfl (lv_at hl 1 rfl) ?_
    refine lv_aload_n hx hb dX12_jobsLying_11 rfl (lv_at hl 0 rfl) ?_
    refine lv_iload_n hx hb dX12_jobsLying_12 rfl (lv_at hl 2 rfl) ?_
    refine qM_Vi (As := [.int a2]) (rest := [.int a1]) C0 (c_X12_numberOf l h) (cwV 1 C0.2.2.2.2 (tbV mM0_7_202 ⟨mM0_7_204, mpM0_3_3, mM0_1_11, mM0_7_205⟩) rfl rfl rfl (by decide +kernel) ⟨Nat.le_of_ble_eq_true rfl, Nat.le_of_ble_eq_true rfl⟩) (rcM_0 hR Nat.zero_lt_one) hR hT hS rfl hl.1 rfl (Nat.le_of_ble_eq_true rfl) dX12_jobsLying_13 ⟨Nat.zero_le _, Nat.zero_le _⟩ (fun r2 S3 H locs h hR hS => ?_)
    refine lv_iconst (v := (-1)) hx hb dX12_jobsLying_16 (by decide) ?_
    refine lv_icmp_ne (tgt := 24) hx hb dX12_jobsLying_17 (by decide) (fun c4 => ?_) (fun c4 => ?_)
    · have h := h.1 c4
      refine lv_iconst (v := 1) hx hb dX12_jobsLying_24 (by decide) ?_
      exact Bw_X12_jobsLying_25 C0 hr hlk hT ih4 a2 a1 1 S3 _ _ _ h hR hS (lv_sub hl [0, 2] rfl)
    · have h := h.2 c4
      refine lv_iconst (v := 0) hx hb dX12_jobsLying_20 (by decide) ?_
      refine lv_goto (tgt := 25) hx hb dX12_jobsLying_21 (by decide) ?_
      exact Bw_X12_jobsLying_25 C0 hr hlk hT ih4 a2 a1 0 S3 _ _ _ h hR hS (lv_sub hl [0, 2] rfl)
def B_X12_jobsLying_4 (n9 : Nat) (a1 : Int32) (a2 : Int32) (S : sSt) (k : Int32 → sSt → Prop) : Prop := (Nat.rec (motive := fun _ => Int32 → Int32 → sSt → Prop) (fun _ _ _ => False) (fun _ r9 => fun a1 a2 S => Bb_X12_jobsLying_4 r9 a1 a2 S k) n9 : Int32 → Int32 → sSt → Prop) a1 a2 S
theorem B_X12_jobsLying_4_s (n9 : Nat) (a1 : Int32) (a2 : Int32) (S : sSt) (k : Int32 → sSt → Prop) : B_X12_jobsLying_4 (n9 + 1) a1 a2 S k = Bb_X12_jobsLying_4 (fun a1 a2 S => B_X12_jobsLying_4 n9 a1 a2 S k) a1 a2 S k := rfl
set_option maxHeartbeats 4000000 in
set_option maxRecDepth 100000 in
theorem Bw_X12_jobsLying_4 {p : Program} {l : Launch} {e : Env} {s : State} {m : MethodId} {args : Array Value} {below : List Frame} {meth : Method} {c : Code} {D : va_G} {cy : Nat → ClassId} {b z : Nat} {tx : TX} (C0 : CallFix p m c cX12_jobsLying 3 s args TB RX12) (hr : meth.sig.returnType = (some .int)) (hlk : meth.locks = false) (hT : TxR tx s) {k : Int32 → sSt → Prop} : ∀ (n9 : Nat), ∀ (a1 : Int32) (a2 : Int32) (S : sSt) (H : Heap) (locs : List Loc) (ls : Array Slot) , B_X12_jobsLying_4 n9 a1 a2 S k → RelM D cy b z tx S s H → va_S (gA b 12 z) s.heap H locs → lv_has ls 3 [(0, .ref (b + adM 0 0)), (1, .int a1), (2, .int a2)] → W p l e rm_X12_jobsLying s m args below meth c H locs 0 0 (MQ below (PiM D cy b z tx k) args s 0 0 (gA b 12 z)) (F0 m 4 ls []) := by
  intro n9
  induction n9 with
  | zero => intro a1 a2 S H locs ls h; exact h.elim
  | succ n9 ih =>
    intro a1 a2 S H locs ls h hR hS hl
    exact Bbw_X12_jobsLying_4 C0 hr hlk hT ih a1 a2 S H locs ls h hR hS hl
def F_X12_jobsLying (S : sSt) (k : Int32 → sSt → Prop) : Prop := B_X12_jobsLying_4 fuel 0 0 S k
set_option maxHeartbeats 4000000 in
set_option maxRecDepth 100000 in
theorem c_X12_jobsLying (l : Launch) {D : va_G} {cy : Nat → ClassId} {b z : Nat} {tx : TX} {S : sSt} {k : Int32 → sSt → Prop} (h : F_X12_jobsLying S k) : Met l yX12_jobsLying (Cond.code yX12_jobsLying cX12_jobsLying 3 (some .int) :: TB) rm_X12_jobsLying (va_Pc [.ref (b + adM 0 0)] (fun U => RelM D cy b z tx S U U.heap ∧ TxR tx U)) (PiM D cy b z tx k) 0 0 (gA b 12 z) := by
  refine Met.ofW (cc := cX12_jobsLying) (maxL := 3) (ret := (some .int)) (by decide) rfl ?_
  intro p e s m args below meth c s₁ B hml hv
  obtain ⟨rfl, hR, hT⟩ := hv
  have C0 : CallFix p m c cX12_jobsLying 3 s _ TB RX12 := ⟨B.exec, B.bytes, hml, findClass_of_methodNamed B.named, fun w hw => atoms_spec B.pre w (List.mem_cons_of_mem _ hw)⟩
  have hr := B.returns
  have hlk := B.notSynchronized
  have hx := C0.1
  have hb := C0.2.1
  have hS : va_S (gA b 12 z) s.heap s.heap [] := va_S.rf
  have hl := lv_entry ([.ref (b + adM 0 0)]) (n := 3) (Nat.le_of_ble_eq_true rfl)
  rw [lg_entry_eq]
  generalize (lg_sl ([.ref (b + adM 0 0)]) ++ List.replicate (3 - (lg_sl ([.ref (b + adM 0 0)])).length) Slot.unset).toArray = ls at hl ⊢
  have hl : lv_has ls 3 [(0, .ref (b + adM 0 0))] := hl
  show W p l e rm_X12_jobsLying s m _ below meth c s.heap [] 0 0 (MQ below (PiM D cy b z tx k) _ s 0 0 (gA b 12 z)) _
  unfold F_X12_jobsLying at h
  refine lv_iconst (v := 0) hx hb dX12_jobsLying_0 (by decide) ?_
  refine lv_istore_n (lv' := [(1, .int 0), (0, .ref (b + adM 0 0))]) hx hb dX12_jobsLying_1 rfl hl (by decide) rfl (fun ls hl => ?_)
  refine lv_iconst (v := 0) hx hb dX12_jobsLying_2 (by decide) ?_
  refine lv_istore_n (lv' := [(2, .int 0), (1, .int 0), (0, .ref (b + adM 0 0))]) hx hb dX12_jobsLying_3 rfl hl (by decide) rfl (fun ls hl => ?_)
  exact Bw_X12_jobsLying_4 C0 hr hlk hT fuel 0 0 S _ _ _ h hR hS (lv_sub hl [2, 1, 0] rfl)

def rm_X12_seen : Room := { frames := 3, cells := 0, slots := 0, locals := 63 }
def B_X12_seen_32 (a1 : Int32) (S : sSt) (k : Int32 → sSt → Prop) : Prop := F_X12_isIn a1 S (fun r5 S6 => ((r5 = 0 → k (-1) S6) ∧ (¬ r5 = 0 → F_X12_jobAt a1 3 S6 (fun r8 S9 => k r8 S9))))
set_option maxHeartbeats 4000000 in
set_option maxRecDepth 100000 in
theorem Bw_X12_seen_32 {p : Program} {l : Launch} {e : Env} {s : State} {m : MethodId} {args : Array Value} {below : List Frame} {meth : Method} {c : Code} {D : va_G} {cy : Nat → ClassId} {b z : Nat} {tx : TX} (C0 : CallFix p m c cX12_seen 3 s args TB RX12) (hr : meth.sig.returnType = (some .int)) (hlk : meth.locks = false) (hT : TxR tx s) {k : Int32 → sSt → Prop} : ∀ (a1 : Int32) (S : sSt) (H : Heap) (locs : List Loc) (ls : Array Slot) , B_X12_seen_32 a1 S k → RelM D cy b z tx S s H → va_S (gA b 12 z) s.heap H locs → lv_has ls 3 [(0, .ref (b + adM 0 0)), (1, .int a1)] → W p l e rm_X12_seen s m args below meth c H locs 0 0 (MQ below (PiM D cy b z tx k) args s 0 0 (gA b 12 z)) (F0 m 32 ls []) := by
  intro a1 S H locs ls h hR hS hl
  have hx := C0.1
  have hb := C0.2.1
  unfold B_X12_seen_32 at h
  refine lv_aload_n hx hb dX12_seen_32 rfl (lv_at hl 0 rfl) ?_
  refine lv_iload_n hx hb dX12_seen_33 rfl (lv_at hl 1 rfl) ?_
  refine qM_Vi (As := [.int a1]) (rest := []) C0 (c_X12_isIn l h) (cwV 1 C0.2.2.2.2 (tbV mM0_8_122 ⟨mM0_8_124, mpM0_4_13, mM0_1_11, mM0_8_125⟩) rfl rfl rfl (by decide +kernel) ⟨Nat.le_of_ble_eq_true rfl, Nat.le_of_ble_eq_true rfl⟩) (rcM_0 hR Nat.zero_lt_one) hR hT hS rfl hl.1 rfl (Nat.le_of_ble_eq_true rfl) dX12_seen_34 ⟨Nat.zero_le _, Nat.zero_le _⟩ (fun r5 S6 H locs h hR hS => ?_)
  refine lv_if_eq (tgt := 48) hx hb dX12_seen_37 (by decide) (fun c7 => ?_) (fun c7 => ?_)
  · have h := h.1 c7
    refine lv_iconst (v := (-1)) hx hb dX12_seen_48 (by decide) ?_
    exact rtM_i C0 hr hlk hR hS h dX12_seen_49
  · have h := h.2 c7
    refine lv_iload_n hx hb dX12_seen_40 rfl (lv_at hl 1 rfl) ?_
    refine lv_iconst (v := 3) hx hb dX12_seen_41 (by decide) ?_
    refine qM_Si (As := [.int a1, .int 3]) (rest := []) C0 (c_X12_jobAt l h) (va_cwS 2 C0.2.2.2.2 (tbS mM0_7_74 ⟨mM0_7_75, mM0_1_11, mM0_7_76⟩) rfl rfl rfl (by decide +kernel) ⟨Nat.le_of_ble_eq_true rfl, Nat.le_of_ble_eq_true rfl⟩) hR hT hS rfl hl.1 rfl (Nat.le_of_ble_eq_true rfl) dX12_seen_42 ⟨Nat.zero_le _, Nat.zero_le _⟩ (fun r8 S9 H locs h hR hS => ?_)
    refine lv_goto (tgt := 49) hx hb dX12_seen_45 (by decide) ?_
    exact rtM_i C0 hr hlk hR hS h dX12_seen_49
def F_X12_seen (a1 : Int32) (a2 : Int32) (S : sSt) (k : Int32 → sSt → Prop) : Prop := F_X12_numberOf a1 S (fun r1 S2 => ((¬ r1 = (-1) → ((a2 = (-1) → B_X12_seen_32 a1 S2 k) ∧ (¬ a2 = (-1) → F_X12_lockerOf a1 S2 (fun r10 S11 => ((¬ r10 = a2 → B_X12_seen_32 a1 S11 k) ∧ (r10 = a2 → F_X12_jobAt a1 25 S11 (fun r13 S14 => k r13 S14))))))) ∧ (r1 = (-1) → k (-1) S2)))
set_option maxHeartbeats 4000000 in
set_option maxRecDepth 100000 in
theorem c_X12_seen (l : Launch) {D : va_G} {cy : Nat → ClassId} {b z : Nat} {tx : TX} {a1 : Int32} {a2 : Int32} {S : sSt} {k : Int32 → sSt → Prop} (h : F_X12_seen a1 a2 S k) : Met l yX12_seen (Cond.code yX12_seen cX12_seen 3 (some .int) :: TB) rm_X12_seen (va_Pc [.ref (b + adM 0 0), .int a1, .int a2] (fun U => RelM D cy b z tx S U U.heap ∧ TxR tx U)) (PiM D cy b z tx k) 0 0 (gA b 12 z) := by
  refine Met.ofW (cc := cX12_seen) (maxL := 3) (ret := (some .int)) (by decide) rfl ?_
  intro p e s m args below meth c s₁ B hml hv
  obtain ⟨rfl, hR, hT⟩ := hv
  have C0 : CallFix p m c cX12_seen 3 s _ TB RX12 := ⟨B.exec, B.bytes, hml, findClass_of_methodNamed B.named, fun w hw => atoms_spec B.pre w (List.mem_cons_of_mem _ hw)⟩
  have hr := B.returns
  have hlk := B.notSynchronized
  have hx := C0.1
  have hb := C0.2.1
  have hS : va_S (gA b 12 z) s.heap s.heap [] := va_S.rf
  have hl := lv_entry ([.ref (b + adM 0 0), .int a1, .int a2]) (n := 3) (Nat.le_of_ble_eq_true rfl)
  rw [lg_entry_eq]
  generalize (lg_sl ([.ref (b + adM 0 0), .int a1, .int a2]) ++ List.replicate (3 - (lg_sl ([.ref (b + adM 0 0), .int a1, .int a2])).length) Slot.unset).toArray = ls at hl ⊢
  have hl : lv_has ls 3 [(0, .ref (b + adM 0 0)), (1, .int a1), (2, .int a2)] := hl
  show W p l e rm_X12_seen s m _ below meth c s.heap [] 0 0 (MQ below (PiM D cy b z tx k) _ s 0 0 (gA b 12 z)) _
  unfold F_X12_seen at h
  refine lv_aload_n hx hb dX12_seen_0 rfl (lv_at hl 0 rfl) ?_
  refine lv_iload_n hx hb dX12_seen_1 rfl (lv_at hl 1 rfl) ?_
  refine qM_Vi (As := [.int a1]) (rest := []) C0 (c_X12_numberOf l h) (cwV 1 C0.2.2.2.2 (tbV mM0_7_202 ⟨mM0_7_204, mpM0_3_3, mM0_1_11, mM0_7_205⟩) rfl rfl rfl (by decide +kernel) ⟨Nat.le_of_ble_eq_true rfl, Nat.le_of_ble_eq_true rfl⟩) (rcM_0 hR Nat.zero_lt_one) hR hT hS rfl hl.1 rfl (Nat.le_of_ble_eq_true rfl) dX12_seen_2 ⟨Nat.zero_le _, Nat.zero_le _⟩ (fun r1 S2 H locs h hR hS => ?_)
  refine lv_iconst (v := (-1)) hx hb dX12_seen_5 (by decide) ?_
  refine lv_icmp_ne (tgt := 11) hx hb dX12_seen_6 (by decide) (fun c3 => ?_) (fun c3 => ?_)
  · have h := h.1 c3
    refine lv_iload_n hx hb dX12_seen_11 rfl (lv_at hl 2 rfl) ?_
    refine lv_iconst (v := (-1)) hx hb dX12_seen_12 (by decide) ?_
    refine lv_icmp_eq (tgt := 32) hx hb dX12_seen_13 (by decide) (fun c4 => ?_) (fun c4 => ?_)
    · have h := h.1 c4
      exact Bw_X12_seen_32 C0 hr hlk hT a1 S2 _ _ _ h hR hS (lv_sub hl [0, 1] rfl)
    · have h := h.2 c4
      refine lv_aload_n hx hb dX12_seen_16 rfl (lv_at hl 0 rfl) ?_
      refine lv_iload_n hx hb dX12_seen_17 rfl (lv_at hl 1 rfl) ?_
      refine qM_Vi (As := [.int a1]) (rest := []) C0 (c_X12_lockerOf l h) (cwV 1 C0.2.2.2.2 (tbV mM0_8_106 ⟨mM0_8_108, mpM0_4_10, mM0_1_11, mM0_8_109⟩) rfl rfl rfl (by decide +kernel) ⟨Nat.le_of_ble_eq_true rfl, Nat.le_of_ble_eq_true rfl⟩) (rcM_0 hR Nat.zero_lt_one) hR hT hS rfl hl.1 rfl (Nat.le_of_ble_eq_true rfl) dX12_seen_18 ⟨Nat.zero_le _, Nat.zero_le _⟩ (fun r10 S11 H locs h hR hS => ?_)
      refine lv_iload_n hx hb dX12_seen_21 rfl (lv_at hl 2 rfl) ?_
      refine lv_icmp_ne (tgt := 32) hx hb dX12_seen_22 (by decide) (fun c12 => ?_) (fun c12 => ?_)
      · have h := h.1 c12
        exact Bw_X12_seen_32 C0 hr hlk hT a1 S11 _ _ _ h hR hS (lv_sub hl [0, 1] rfl)
      · have h := h.2 c12
        refine lv_iload_n hx hb dX12_seen_25 rfl (lv_at hl 1 rfl) ?_
        refine lv_bipush (v := 25) hx hb dX12_seen_26 (by decide) ?_
        refine qM_Si (As := [.int a1, .int 25]) (rest := []) C0 (c_X12_jobAt l h) (va_cwS 2 C0.2.2.2.2 (tbS mM0_7_74 ⟨mM0_7_75, mM0_1_11, mM0_7_76⟩) rfl rfl rfl (by decide +kernel) ⟨Nat.le_of_ble_eq_true rfl, Nat.le_of_ble_eq_true rfl⟩) hR hT hS rfl hl.1 rfl (Nat.le_of_ble_eq_true rfl) dX12_seen_28 ⟨Nat.zero_le _, Nat.zero_le _⟩ (fun r13 S14 H locs h hR hS => ?_)
        exact rtM_i C0 hr hlk hR hS h dX12_seen_31
  · have h := h.2 c3
    refine lv_iconst (v := (-1)) hx hb dX12_seen_9 (by decide) ?_
    exact rtM_i C0 hr hlk hR hS h dX12_seen_10

def rm_X12_isOthers : Room := { frames := 2, cells := 0, slots := 0, locals := 42 }
def F_X12_isOthers (a1 : Int32) (a2 : Int32) (S : sSt) (k : Int32 → sSt → Prop) : Prop := F_X12_lockerOf a1 S (fun r1 S2 => ((r1 = (-1) → k 0 S2) ∧ (¬ r1 = (-1) → F_X12_lockerOf a1 S2 (fun r4 S5 => ((r4 = a2 → k 0 S5) ∧ (¬ r4 = a2 → k 1 S5))))))
set_option maxHeartbeats 4000000 in
set_option maxRecDepth 100000 in
theorem c_X12_isOthers (l : Launch) {D : va_G} {cy : Nat → ClassId} {b z : Nat} {tx : TX} {a1 : Int32} {a2 : Int32} {S : sSt} {k : Int32 → sSt → Prop} (h : F_X12_isOthers a1 a2 S k) : Met l yX12_isOthers (Cond.code yX12_isOthers cX12_isOthers 3 (some .boolean) :: TB) rm_X12_isOthers (va_Pc [.ref (b + adM 0 0), .int a1, .int a2] (fun U => RelM D cy b z tx S U U.heap ∧ TxR tx U)) (PiM D cy b z tx k) 0 0 (gA b 12 z) := by
  refine Met.ofW (cc := cX12_isOthers) (maxL := 3) (ret := (some .boolean)) (by decide) rfl ?_
  intro p e s m args below meth c s₁ B hml hv
  obtain ⟨rfl, hR, hT⟩ := hv
  have C0 : CallFix p m c cX12_isOthers 3 s _ TB RX12 := ⟨B.exec, B.bytes, hml, findClass_of_methodNamed B.named, fun w hw => atoms_spec B.pre w (List.mem_cons_of_mem _ hw)⟩
  have hr := B.returns
  have hlk := B.notSynchronized
  have hx := C0.1
  have hb := C0.2.1
  have hS : va_S (gA b 12 z) s.heap s.heap [] := va_S.rf
  have hl := lv_entry ([.ref (b + adM 0 0), .int a1, .int a2]) (n := 3) (Nat.le_of_ble_eq_true rfl)
  rw [lg_entry_eq]
  generalize (lg_sl ([.ref (b + adM 0 0), .int a1, .int a2]) ++ List.replicate (3 - (lg_sl ([.ref (b + adM 0 0), .int a1, .int a2])).length) Slot.unset).toArray = ls at hl ⊢
  have hl : lv_has ls 3 [(0, .ref (b + adM 0 0)), (1, .int a1), (2, .int a2)] := hl
  show W p l e rm_X12_isOthers s m _ below meth c s.heap [] 0 0 (MQ below (PiM D cy b z tx k) _ s 0 0 (gA b 12 z)) _
  unfold F_X12_isOthers at h
  refine lv_aload_n hx hb dX12_isOthers_0 rfl (lv_at hl 0 rfl) ?_
  refine lv_iload_n hx hb dX12_isOthers_1 rfl (lv_at hl 1 rfl) ?_
  refine qM_Vi (As := [.int a1]) (rest := []) C0 (c_X12_lockerOf l h) (cwV 1 C0.2.2.2.2 (tbV mM0_8_106 ⟨mM0_8_108, mpM0_4_10, mM0_1_11, mM0_8_109⟩) rfl rfl rfl (by decide +kernel) ⟨Nat.le_of_ble_eq_true rfl, Nat.le_of_ble_eq_true rfl⟩) (rcM_0 hR Nat.zero_lt_one) hR hT hS rfl hl.1 rfl (Nat.le_of_ble_eq_true rfl) dX12_isOthers_2 ⟨Nat.zero_le _, Nat.zero_le _⟩ (fun r1 S2 H locs h hR hS => ?_)
  refine lv_iconst (v := (-1)) hx hb dX12_isOthers_5 (by decide) ?_
  refine lv_icmp_eq (tgt := 22) hx hb dX12_isOthers_6 (by decide) (fun c3 => ?_) (fun c3 => ?_)
  · have h := h.1 c3
    refine lv_iconst (v := 0) hx hb dX12_isOthers_22 (by decide) ?_
    exact rtM_z C0 hr hlk hR hS (by decide) h dX12_isOthers_23
  · have h := h.2 c3
    refine lv_aload_n hx hb dX12_isOthers_9 rfl (lv_at hl 0 rfl) ?_
    refine lv_iload_n hx hb dX12_isOthers_10 rfl (lv_at hl 1 rfl) ?_
    refine qM_Vi (As := [.int a1]) (rest := []) C0 (c_X12_lockerOf l h) (cwV 1 C0.2.2.2.2 (tbV mM0_8_106 ⟨mM0_8_108, mpM0_4_10, mM0_1_11, mM0_8_109⟩) rfl rfl rfl (by decide +kernel) ⟨Nat.le_of_ble_eq_true rfl, Nat.le_of_ble_eq_true rfl⟩) (rcM_0 hR Nat.zero_lt_one) hR hT hS rfl hl.1 rfl (Nat.le_of_ble_eq_true rfl) dX12_isOthers_11 ⟨Nat.zero_le _, Nat.zero_le _⟩ (fun r4 S5 H locs h hR hS => ?_)
    refine lv_iload_n hx hb dX12_isOthers_14 rfl (lv_at hl 2 rfl) ?_
    refine lv_icmp_eq (tgt := 22) hx hb dX12_isOthers_15 (by decide) (fun c6 => ?_) (fun c6 => ?_)
    · have h := h.1 c6
      refine lv_iconst (v := 0) hx hb dX12_isOthers_22 (by decide) ?_
      exact rtM_z C0 hr hlk hR hS (by decide) h dX12_isOthers_23
    · have h := h.2 c6
      refine lv_iconst (v := 1) hx hb dX12_isOthers_18 (by decide) ?_
      refine lv_goto (tgt := 23) hx hb dX12_isOthers_19 (by decide) ?_
      exact rtM_z C0 hr hlk hR hS (by decide) h dX12_isOthers_23

def rm_X12_anyVersion : Room := { frames := 3, cells := 0, slots := 0, locals := 63 }
def B_X12_anyVersion_15 (t0 : Int32) (t1 : Int32) (S : sSt) (k : Int32 → sSt → Prop) : Prop := F_X12_jobAt t0 t1 S (fun r4 S5 => k r4 S5)
set_option maxHeartbeats 4000000 in
set_option maxRecDepth 100000 in
theorem Bw_X12_anyVersion_15 {p : Program} {l : Launch} {e : Env} {s : State} {m : MethodId} {args : Array Value} {below : List Frame} {meth : Method} {c : Code} {D : va_G} {cy : Nat → ClassId} {b z : Nat} {tx : TX} (C0 : CallFix p m c cX12_anyVersion 2 s args TB RX12) (hr : meth.sig.returnType = (some .int)) (hlk : meth.locks = false) (hT : TxR tx s) {k : Int32 → sSt → Prop} : ∀ (t0 : Int32) (t1 : Int32) (S : sSt) (H : Heap) (locs : List Loc) (ls : Array Slot) , B_X12_anyVersion_15 t0 t1 S k → RelM D cy b z tx S s H → va_S (gA b 12 z) s.heap H locs → lv_has ls 2 [] → W p l e rm_X12_anyVersion s m args below meth c H locs 0 0 (MQ below (PiM D cy b z tx k) args s 0 0 (gA b 12 z)) (F0 m 15 ls [.int t1, .int t0]) := by
  intro t0 t1 S H locs ls h hR hS hl
  have hx := C0.1
  have hb := C0.2.1
  unfold B_X12_anyVersion_15 at h
  refine qM_Si (As := [.int t0, .int t1]) (rest := []) C0 (c_X12_jobAt l h) (va_cwS 2 C0.2.2.2.2 (tbS mM0_7_74 ⟨mM0_7_75, mM0_1_11, mM0_7_76⟩) rfl rfl rfl (by decide +kernel) ⟨Nat.le_of_ble_eq_true rfl, Nat.le_of_ble_eq_true rfl⟩) hR hT hS rfl hl.1 rfl (Nat.le_of_ble_eq_true rfl) dX12_anyVersion_15 ⟨Nat.zero_le _, Nat.zero_le _⟩ (fun r4 S5 H locs h hR hS => ?_)
  exact rtM_i C0 hr hlk hR hS h dX12_anyVersion_18
def F_X12_anyVersion (a1 : Int32) (S : sSt) (k : Int32 → sSt → Prop) : Prop := F_X12_isIn a1 S (fun r1 S2 => ((r1 = 0 → B_X12_anyVersion_15 a1 25 S2 k) ∧ (¬ r1 = 0 → B_X12_anyVersion_15 a1 3 S2 k)))
set_option maxHeartbeats 4000000 in
set_option maxRecDepth 100000 in
theorem c_X12_anyVersion (l : Launch) {D : va_G} {cy : Nat → ClassId} {b z : Nat} {tx : TX} {a1 : Int32} {S : sSt} {k : Int32 → sSt → Prop} (h : F_X12_anyVersion a1 S k) : Met l yX12_anyVersion (Cond.code yX12_anyVersion cX12_anyVersion 2 (some .int) :: TB) rm_X12_anyVersion (va_Pc [.ref (b + adM 0 0), .int a1] (fun U => RelM D cy b z tx S U U.heap ∧ TxR tx U)) (PiM D cy b z tx k) 0 0 (gA b 12 z) := by
  refine Met.ofW (cc := cX12_anyVersion) (maxL := 2) (ret := (some .int)) (by decide) rfl ?_
  intro p e s m args below meth c s₁ B hml hv
  obtain ⟨rfl, hR, hT⟩ := hv
  have C0 : CallFix p m c cX12_anyVersion 2 s _ TB RX12 := ⟨B.exec, B.bytes, hml, findClass_of_methodNamed B.named, fun w hw => atoms_spec B.pre w (List.mem_cons_of_mem _ hw)⟩
  have hr := B.returns
  have hlk := B.notSynchronized
  have hx := C0.1
  have hb := C0.2.1
  have hS : va_S (gA b 12 z) s.heap s.heap [] := va_S.rf
  have hl := lv_entry ([.ref (b + adM 0 0), .int a1]) (n := 2) (Nat.le_of_ble_eq_true rfl)
  rw [lg_entry_eq]
  generalize (lg_sl ([.ref (b + adM 0 0), .int a1]) ++ List.replicate (2 - (lg_sl ([.ref (b + adM 0 0), .int a1])).length) Slot.unset).toArray = ls at hl ⊢
  have hl : lv_has ls 2 [(0, .ref (b + adM 0 0)), (1, .int a1)] := hl
  show W p l e rm_X12_anyVersion s m _ below meth c s.heap [] 0 0 (MQ below (PiM D cy b z tx k) _ s 0 0 (gA b 12 z)) _
  unfold F_X12_anyVersion at h
  refine lv_iload_n hx hb dX12_anyVersion_0 rfl (lv_at hl 1 rfl) ?_
  refine lv_aload_n hx hb dX12_anyVersion_1 rfl (lv_at hl 0 rfl) ?_
  refine lv_iload_n hx hb dX12_anyVersion_2 rfl (lv_at hl 1 rfl) ?_
  refine qM_Vi (As := [.int a1]) (rest := [.int a1]) C0 (c_X12_isIn l h) (cwV 1 C0.2.2.2.2 (tbV mM0_8_122 ⟨mM0_8_124, mpM0_4_13, mM0_1_11, mM0_8_125⟩) rfl rfl rfl (by decide +kernel) ⟨Nat.le_of_ble_eq_true rfl, Nat.le_of_ble_eq_true rfl⟩) (rcM_0 hR Nat.zero_lt_one) hR hT hS rfl hl.1 rfl (Nat.le_of_ble_eq_true rfl) dX12_anyVersion_3 ⟨Nat.zero_le _, Nat.zero_le _⟩ (fun r1 S2 H locs h hR hS => ?_)
  refine lv_if_eq (tgt := 13) hx hb dX12_anyVersion_6 (by decide) (fun c3 => ?_) (fun c3 => ?_)
  · have h := h.1 c3
    refine lv_bipush (v := 25) hx hb dX12_anyVersion_13 (by decide) ?_
    exact Bw_X12_anyVersion_15 C0 hr hlk hT a1 25 S2 _ _ _ h hR hS (lv_sub hl [] rfl)
  · have h := h.2 c3
    refine lv_iconst (v := 3) hx hb dX12_anyVersion_9 (by decide) ?_
    refine lv_goto (tgt := 15) hx hb dX12_anyVersion_10 (by decide) ?_
    exact Bw_X12_anyVersion_15 C0 hr hlk hT a1 3 S2 _ _ _ h hR hS (lv_sub hl [] rfl)

def rm_X12_copies : Room := { frames := 0, cells := 0, slots := 0, locals := 0 }
def Bb_X12_copies_3 (kk3 : Int32 → Int32 → Int32 → Int32 → sSt → Prop) (a1 : Int32) (a2 : Int32) (a3 : Int32) (a4 : Int32) (S : sSt) (k : sSt → Prop) : Prop := ((a3 ≤ a4 → k S) ∧ (¬ a3 ≤ a4 → ix (a1 + a4) 10421 (fun j2 => ix (a2 + a4) 10421 (fun j3 => ∀ S4, S4 = uI S 1 0 j3 (S.1 1 0 j2) → ∀ x5 : Int32, x5 = a4 + 1 → kk3 a1 a2 a3 x5 S4))))
set_option maxHeartbeats 4000000 in
set_option maxRecDepth 100000 in
theorem Bbw_X12_copies_3 {p : Program} {l : Launch} {e : Env} {s : State} {m : MethodId} {args : Array Value} {below : List Frame} {meth : Method} {c : Code} {D : va_G} {cy : Nat → ClassId} {b z : Nat} {tx : TX} (C0 : CallFix p m c cX12_copies 5 s args TB RX12) (hr : meth.sig.returnType = none) (hlk : meth.locks = false) (hT : TxR tx s) {k : sSt → Prop} {kk3 : Int32 → Int32 → Int32 → Int32 → sSt → Prop} (ih3 : ∀ (a1 : Int32) (a2 : Int32) (a3 : Int32) (a4 : Int32) (S : sSt) (H : Heap) (locs : List Loc) (ls : Array Slot) , kk3 a1 a2 a3 a4 S → RelM D cy b z tx S s H → va_S (gA b 12 z) s.heap H locs → lv_has ls 5 [(0, .ref (b + adM 0 0)), (1, .int a1), (2, .int a2), (3, .int a3), (4, .int a4)] → W p l e rm_X12_copies s m args below meth c H locs 0 0 (MQ below (PvM D cy b z tx k) args s 0 0 (gA b 12 z)) (F0 m 3 ls [])) : ∀ (a1 : Int32) (a2 : Int32) (a3 : Int32) (a4 : Int32) (S : sSt) (H : Heap) (locs : List Loc) (ls : Array Slot) , Bb_X12_copies_3 kk3 a1 a2 a3 a4 S k → RelM D cy b z tx S s H → va_S (gA b 12 z) s.heap H locs → lv_has ls 5 [(0, .ref (b + adM 0 0)), (1, .int a1), (2, .int a2), (3, .int a3), (4, .int a4)] → W p l e rm_X12_copies s m args below meth c H locs 0 0 (MQ below (PvM D cy b z tx k) args s 0 0 (gA b 12 z)) (F0 m 3 ls []) := by
  intro a1 a2 a3 a4 S H locs ls h hR hS hl
  have hx := C0.1
  have hb := C0.2.1
  unfold Bb_X12_copies_3 at h
  refine lv_iload hx hb dX12_copies_3 (lv_at hl 4 rfl) ?_
  refine lv_iload_n hx hb dX12_copies_5 rfl (lv_at hl 3 rfl) ?_
  refine lv_icmp_ge (tgt := 33) hx hb dX12_copies_6 (by decide) (fun c1 => ?_) (fun c1 => ?_)
  · have h := h.1 c1
    exact rtM_v C0 hr hlk hR hS h dX12_copies_33
  · have h := h.2 c1
    refine lv_aload_n hx hb dX12_copies_9 rfl (lv_at hl 0 rfl) ?_
    refine gM_0_2 C0 hR Nat.zero_lt_one tbs_wsX120 mM0_7_79 dX12_copies_10 ?_
    refine lv_iload_n hx hb dX12_copies_13 rfl (lv_at hl 2 rfl) ?_
    refine lv_iload hx hb dX12_copies_14 (lv_at hl 4 rfl) ?_
    refine lv_iadd hx hb dX12_copies_16 ?_
    refine lv_aload_n hx hb dX12_copies_17 rfl (lv_at hl 0 rfl) ?_
    refine gM_0_2 C0 hR Nat.zero_lt_one tbs_wsX120 mM0_7_79 dX12_copies_18 ?_
    refine lv_iload_n hx hb dX12_copies_21 rfl (lv_at hl 1 rfl) ?_
    refine lv_iload hx hb dX12_copies_22 (lv_at hl 4 rfl) ?_
    refine lv_iadd hx hb dX12_copies_24 ?_
    obtain ⟨j2, hj2, ej2, h⟩ := h
    refine lM_1 C0 hR Nat.zero_lt_one hj2 ej2 dX12_copies_25 ?_
    obtain ⟨j3, hj3, ej3, h⟩ := h
    refine sM_1 C0 hR hS Nat.zero_lt_one hj3 ej3 dX12_copies_26 (fun S4 eS4 H locs hR hS => ?_)
    have h := h S4 eS4
    obtain ⟨x5, ex5⟩ : ∃ x5 : Int32, x5 = a4 + 1 := ⟨_, rfl⟩
    have h := h x5 ex5
    refine w_iinc (v0 := 1) (lv' := [(4, .int x5), (0, .ref (b + adM 0 0)), (1, .int a1), (2, .int a2), (3, .int a3)]) C0 dX12_copies_27 hl (k := 4) rfl (by decide) (by decide) x5 ex5 rfl (fun ls hl => ?_)
    refine lv_goto (tgt := 3) hx hb dX12_copies_30 (by decide) ?_
    exact ih3 a1 a2 a3 x5 S4 _ _ _  h hR hS (lv_sub hl [1, 2, 3, 4, 0] rfl)
def B_X12_copies_3 (n9 : Nat) (a1 : Int32) (a2 : Int32) (a3 : Int32) (a4 : Int32) (S : sSt) (k : sSt → Prop) : Prop := (Nat.rec (motive := fun _ => Int32 → Int32 → Int32 → Int32 → sSt → Prop) (fun _ _ _ _ _ => False) (fun _ r9 => fun a1 a2 a3 a4 S => Bb_X12_copies_3 r9 a1 a2 a3 a4 S k) n9 : Int32 → Int32 → Int32 → Int32 → sSt → Prop) a1 a2 a3 a4 S
theorem B_X12_copies_3_s (n9 : Nat) (a1 : Int32) (a2 : Int32) (a3 : Int32) (a4 : Int32) (S : sSt) (k : sSt → Prop) : B_X12_copies_3 (n9 + 1) a1 a2 a3 a4 S k = Bb_X12_copies_3 (fun a1 a2 a3 a4 S => B_X12_copies_3 n9 a1 a2 a3 a4 S k) a1 a2 a3 a4 S k := rfl
set_option maxHeartbeats 4000000 in
set_option maxRecDepth 100000 in
theorem Bw_X12_copies_3 {p : Program} {l : Launch} {e : Env} {s : State} {m : MethodId} {args : Array Value} {below : List Frame} {meth : Method} {c : Code} {D : va_G} {cy : Nat → ClassId} {b z : Nat} {tx : TX} (C0 : CallFix p m c cX12_copies 5 s args TB RX12) (hr : meth.sig.returnType = none) (hlk : meth.locks = false) (hT : TxR tx s) {k : sSt → Prop} : ∀ (n9 : Nat), ∀ (a1 : Int32) (a2 : Int32) (a3 : Int32) (a4 : Int32) (S : sSt) (H : Heap) (locs : List Loc) (ls : Array Slot) , B_X12_copies_3 n9 a1 a2 a3 a4 S k → RelM D cy b z tx S s H → va_S (gA b 12 z) s.heap H locs → lv_has ls 5 [(0, .ref (b + adM 0 0)), (1, .int a1), (2, .int a2), (3, .int a3), (4, .int a4)] → W p l e rm_X12_copies s m args below meth c H locs 0 0 (MQ below (PvM D cy b z tx k) args s 0 0 (gA b 12 z)) (F0 m 3 ls []) := by
  intro n9
  induction n9 with
  | zero => intro a1 a2 a3 a4 S H locs ls h; exact h.elim
  | succ n9 ih =>
    intro a1 a2 a3 a4 S H locs ls h hR hS hl
    exact Bbw_X12_copies_3 C0 hr hlk hT ih a1 a2 a3 a4 S H locs ls h hR hS hl
def F_X12_copies (a1 : Int32) (a2 : Int32) (a3 : Int32) (S : sSt) (k : sSt → Prop) : Prop := B_X12_copies_3 fuel a1 a2 a3 0 S k
set_option maxHeartbeats 4000000 in
set_option maxRecDepth 100000 in
theorem c_X12_copies (l : Launch) {D : va_G} {cy : Nat → ClassId} {b z : Nat} {tx : TX} {a1 : Int32} {a2 : Int32} {a3 : Int32} {S : sSt} {k : sSt → Prop} (h : F_X12_copies a1 a2 a3 S k) : Met l yX12_copies (Cond.code yX12_copies cX12_copies 5 none :: TB) rm_X12_copies (va_Pc [.ref (b + adM 0 0), .int a1, .int a2, .int a3] (fun U => RelM D cy b z tx S U U.heap ∧ TxR tx U)) (PvM D cy b z tx k) 0 0 (gA b 12 z) := by
  refine Met.ofW (cc := cX12_copies) (maxL := 5) (ret := none) (by decide) rfl ?_
  intro p e s m args below meth c s₁ B hml hv
  obtain ⟨rfl, hR, hT⟩ := hv
  have C0 : CallFix p m c cX12_copies 5 s _ TB RX12 := ⟨B.exec, B.bytes, hml, findClass_of_methodNamed B.named, fun w hw => atoms_spec B.pre w (List.mem_cons_of_mem _ hw)⟩
  have hr := B.returns
  have hlk := B.notSynchronized
  have hx := C0.1
  have hb := C0.2.1
  have hS : va_S (gA b 12 z) s.heap s.heap [] := va_S.rf
  have hl := lv_entry ([.ref (b + adM 0 0), .int a1, .int a2, .int a3]) (n := 5) (Nat.le_of_ble_eq_true rfl)
  rw [lg_entry_eq]
  generalize (lg_sl ([.ref (b + adM 0 0), .int a1, .int a2, .int a3]) ++ List.replicate (5 - (lg_sl ([.ref (b + adM 0 0), .int a1, .int a2, .int a3])).length) Slot.unset).toArray = ls at hl ⊢
  have hl : lv_has ls 5 [(0, .ref (b + adM 0 0)), (1, .int a1), (2, .int a2), (3, .int a3)] := hl
  show W p l e rm_X12_copies s m _ below meth c s.heap [] 0 0 (MQ below (PvM D cy b z tx k) _ s 0 0 (gA b 12 z)) _
  unfold F_X12_copies at h
  refine lv_iconst (v := 0) hx hb dX12_copies_0 (by decide) ?_
  refine lv_istore (lv' := [(4, .int 0), (0, .ref (b + adM 0 0)), (1, .int a1), (2, .int a2), (3, .int a3)]) hx hb dX12_copies_1 hl (by decide) rfl (fun ls hl => ?_)
  exact Bw_X12_copies_3 C0 hr hlk hT fuel a1 a2 a3 0 S _ _ _ h hR hS (lv_sub hl [1, 2, 3, 4, 0] rfl)

def rm_X12_comes : Room := { frames := 2, cells := 0, slots := 0, locals := 42 }
def B_X12_comes_101 (a1 : Int32) (a3 : Int32) (a4 : Int32) (a5 : Int32) (a6 : Int32) (a7 : Int32) (t1 : Int32) (t2 : Int32) (S : sSt) (k : Int32 → sSt → Prop) : Prop := ix t1 10421 (fun j11 => ∀ S12, S12 = uI S 1 0 j11 t2 → F_X12_jobAt a7 2 S12 (fun r13 S14 => ix r13 10421 (fun j15 => ∀ S16, S16 = uI S14 1 0 j15 (-1) → F_X12_jobAt a7 a1 S16 (fun r17 S18 => ix (r17 + 0) 10421 (fun j19 => ∀ S20, S20 = uI S18 1 0 j19 a3 → ix (r17 + 1) 10421 (fun j21 => ∀ S22, S22 = uI S20 1 0 j21 a4 → ix (r17 + 2) 10421 (fun j23 => ∀ S24, S24 = uI S22 1 0 j23 a5 → ix (r17 + 4) 10421 (fun j25 => ∀ S26, S26 = uI S24 1 0 j25 (S24.1 1 0 3) → ix (r17 + 5) 10421 (fun j27 => ∀ S28, S28 = uI S26 1 0 j27 a6 → ix (r17 + 9) 10421 (fun j29 => ∀ S30, S30 = uI S28 1 0 j29 (-1) → ix (r17 + 11) 10421 (fun j31 => ∀ S32, S32 = uI S30 1 0 j31 (-1) → ix (r17 + 12) 10421 (fun j33 => ∀ S34, S34 = uI S32 1 0 j33 (-1) → ∀ S35, S35 = uI S34 1 0 6 ((S34.1 1 0 6) + 1) → k a7 S35))))))))))))
set_option maxHeartbeats 4000000 in
set_option maxRecDepth 100000 in
theorem Bw_X12_comes_101 {p : Program} {l : Launch} {e : Env} {s : State} {m : MethodId} {args : Array Value} {below : List Frame} {meth : Method} {c : Code} {D : va_G} {cy : Nat → ClassId} {b z : Nat} {tx : TX} (C0 : CallFix p m c cX12_comes 9 s args TB RX12) (hr : meth.sig.returnType = (some .int)) (hlk : meth.locks = false) (hT : TxR tx s) {k : Int32 → sSt → Prop} : ∀ (a1 : Int32) (a3 : Int32) (a4 : Int32) (a5 : Int32) (a6 : Int32) (a7 : Int32) (t1 : Int32) (t2 : Int32) (S : sSt) (H : Heap) (locs : List Loc) (ls : Array Slot) , B_X12_comes_101 a1 a3 a4 a5 a6 a7 t1 t2 S k → RelM D cy b z tx S s H → va_S (gA b 12 z) s.heap H locs → lv_has ls 9 [(0, .ref (b + adM 0 0)), (1, .int a1), (3, .int a3), (4, .int a4), (5, .int a5), (6, .int a6), (7, .int a7)] → W p l e rm_X12_comes s m args below meth c H locs 0 0 (MQ below (PiM D cy b z tx k) args s 0 0 (gA b 12 z)) (F0 m 101 ls [.int t2, .int t1, .ref (b + adM 1 0)]) := by
  intro a1 a3 a4 a5 a6 a7 t1 t2 S H locs ls h hR hS hl
  have hx := C0.1
  have hb := C0.2.1
  unfold B_X12_comes_101 at h
  obtain ⟨j11, hj11, ej11, h⟩ := h
  refine sM_1 C0 hR hS Nat.zero_lt_one hj11 ej11 dX12_comes_101 (fun S12 eS12 H locs hR hS => ?_)
  have h := h S12 eS12
  refine lv_aload_n hx hb dX12_comes_102 rfl (lv_at hl 0 rfl) ?_
  refine gM_0_2 C0 hR Nat.zero_lt_one tbs_wsX120 mM0_7_79 dX12_comes_103 ?_
  refine lv_iload hx hb dX12_comes_106 (lv_at hl 6 rfl) ?_
  refine lv_iconst (v := 2) hx hb dX12_comes_108 (by decide) ?_
  refine qM_Si (As := [.int a7, .int 2]) (rest := [.ref (b + adM 1 0)]) C0 (c_X12_jobAt l h) (va_cwS 2 C0.2.2.2.2 (tbS mM0_7_74 ⟨mM0_7_75, mM0_1_11, mM0_7_76⟩) rfl rfl rfl (by decide +kernel) ⟨Nat.le_of_ble_eq_true rfl, Nat.le_of_ble_eq_true rfl⟩) hR hT hS rfl hl.1 rfl (Nat.le_of_ble_eq_true rfl) dX12_comes_109 ⟨Nat.zero_le _, Nat.zero_le _⟩ (fun r13 S14 H locs h hR hS => ?_)
  refine lv_iconst (v := (-1)) hx hb dX12_comes_112 (by decide) ?_
  obtain ⟨j15, hj15, ej15, h⟩ := h
  refine sM_1 C0 hR hS Nat.zero_lt_one hj15 ej15 dX12_comes_113 (fun S16 eS16 H locs hR hS => ?_)
  have h := h S16 eS16
  refine lv_iload hx hb dX12_comes_114 (lv_at hl 6 rfl) ?_
  refine lv_iload_n hx hb dX12_comes_116 rfl (lv_at hl 1 rfl) ?_
  refine qM_Si (As := [.int a7, .int a1]) (rest := []) C0 (c_X12_jobAt l h) (va_cwS 2 C0.2.2.2.2 (tbS mM0_7_74 ⟨mM0_7_75, mM0_1_11, mM0_7_76⟩) rfl rfl rfl (by decide +kernel) ⟨Nat.le_of_ble_eq_true rfl, Nat.le_of_ble_eq_true rfl⟩) hR hT hS rfl hl.1 rfl (Nat.le_of_ble_eq_true rfl) dX12_comes_117 ⟨Nat.zero_le _, Nat.zero_le _⟩ (fun r17 S18 H locs h hR hS => ?_)
  refine lv_istore (lv' := [(8, .int r17), (0, .ref (b + adM 0 0)), (1, .int a1), (3, .int a3), (4, .int a4), (5, .int a5), (6, .int a6), (7, .int a7)]) hx hb dX12_comes_120 hl (by decide) rfl (fun ls hl => ?_)
  refine lv_aload_n hx hb dX12_comes_122 rfl (lv_at hl 1 rfl) ?_
  refine gM_0_2 C0 hR Nat.zero_lt_one tbs_wsX120 mM0_7_79 dX12_comes_123 ?_
  refine lv_iload hx hb dX12_comes_126 (lv_at hl 0 rfl) ?_
  refine lv_iconst (v := 0) hx hb dX12_comes_128 (by decide) ?_
  refine lv_iadd hx hb dX12_comes_129 ?_
  refine lv_iload_n hx hb dX12_comes_130 rfl (lv_at hl 3 rfl) ?_
  obtain ⟨j19, hj19, ej19, h⟩ := h
  refine sM_1 C0 hR hS Nat.zero_lt_one hj19 ej19 dX12_comes_131 (fun S20 eS20 H locs hR hS => ?_)
  have h := h S20 eS20
  refine lv_aload_n hx hb dX12_comes_132 rfl (lv_at hl 1 rfl) ?_
  refine gM_0_2 C0 hR Nat.zero_lt_one tbs_wsX120 mM0_7_79 dX12_comes_133 ?_
  refine lv_iload hx hb dX12_comes_136 (lv_at hl 0 rfl) ?_
  refine lv_iconst (v := 1) hx hb dX12_comes_138 (by decide) ?_
  refine lv_iadd hx hb dX12_comes_139 ?_
  refine lv_iload hx hb dX12_comes_140 (lv_at hl 4 rfl) ?_
  obtain ⟨j21, hj21, ej21, h⟩ := h
  refine sM_1 C0 hR hS Nat.zero_lt_one hj21 ej21 dX12_comes_142 (fun S22 eS22 H locs hR hS => ?_)
  have h := h S22 eS22
  refine lv_aload_n hx hb dX12_comes_143 rfl (lv_at hl 1 rfl) ?_
  refine gM_0_2 C0 hR Nat.zero_lt_one tbs_wsX120 mM0_7_79 dX12_comes_144 ?_
  refine lv_iload hx hb dX12_comes_147 (lv_at hl 0 rfl) ?_
  refine lv_iconst (v := 2) hx hb dX12_comes_149 (by decide) ?_
  refine lv_iadd hx hb dX12_comes_150 ?_
  refine lv_iload hx hb dX12_comes_151 (lv_at hl 5 rfl) ?_
  obtain ⟨j23, hj23, ej23, h⟩ := h
  refine sM_1 C0 hR hS Nat.zero_lt_one hj23 ej23 dX12_comes_153 (fun S24 eS24 H locs hR hS => ?_)
  have h := h S24 eS24
  refine lv_aload_n hx hb dX12_comes_154 rfl (lv_at hl 1 rfl) ?_
  refine gM_0_2 C0 hR Nat.zero_lt_one tbs_wsX120 mM0_7_79 dX12_comes_155 ?_
  refine lv_iload hx hb dX12_comes_158 (lv_at hl 0 rfl) ?_
  refine lv_iconst (v := 4) hx hb dX12_comes_160 (by decide) ?_
  refine lv_iadd hx hb dX12_comes_161 ?_
  refine lv_aload_n hx hb dX12_comes_162 rfl (lv_at hl 1 rfl) ?_
  refine gM_0_2 C0 hR Nat.zero_lt_one tbs_wsX120 mM0_7_79 dX12_comes_163 ?_
  refine lv_iconst (v := 3) hx hb dX12_comes_166 (by decide) ?_
  refine lM_1 C0 hR Nat.zero_lt_one (by decide) rfl dX12_comes_167 ?_
  obtain ⟨j25, hj25, ej25, h⟩ := h
  refine sM_1 C0 hR hS Nat.zero_lt_one hj25 ej25 dX12_comes_168 (fun S26 eS26 H locs hR hS => ?_)
  have h := h S26 eS26
  refine lv_aload_n hx hb dX12_comes_169 rfl (lv_at hl 1 rfl) ?_
  refine gM_0_2 C0 hR Nat.zero_lt_one tbs_wsX120 mM0_7_79 dX12_comes_170 ?_
  refine lv_iload hx hb dX12_comes_173 (lv_at hl 0 rfl) ?_
  refine lv_iconst (v := 5) hx hb dX12_comes_175 (by decide) ?_
  refine lv_iadd hx hb dX12_comes_176 ?_
  refine lv_iload hx hb dX12_comes_177 (lv_at hl 6 rfl) ?_
  obtain ⟨j27, hj27, ej27, h⟩ := h
  refine sM_1 C0 hR hS Nat.zero_lt_one hj27 ej27 dX12_comes_179 (fun S28 eS28 H locs hR hS => ?_)
  have h := h S28 eS28
  refine lv_aload_n hx hb dX12_comes_180 rfl (lv_at hl 1 rfl) ?_
  refine gM_0_2 C0 hR Nat.zero_lt_one tbs_wsX120 mM0_7_79 dX12_comes_181 ?_
  refine lv_iload hx hb dX12_comes_184 (lv_at hl 0 rfl) ?_
  refine lv_bipush (v := 9) hx hb dX12_comes_186 (by decide) ?_
  refine lv_iadd hx hb dX12_comes_188 ?_
  refine lv_iconst (v := (-1)) hx hb dX12_comes_189 (by decide) ?_
  obtain ⟨j29, hj29, ej29, h⟩ := h
  refine sM_1 C0 hR hS Nat.zero_lt_one hj29 ej29 dX12_comes_190 (fun S30 eS30 H locs hR hS => ?_)
  have h := h S30 eS30
  refine lv_aload_n hx hb dX12_comes_191 rfl (lv_at hl 1 rfl) ?_
  refine gM_0_2 C0 hR Nat.zero_lt_one tbs_wsX120 mM0_7_79 dX12_comes_192 ?_
  refine lv_iload hx hb dX12_comes_195 (lv_at hl 0 rfl) ?_
  refine lv_bipush (v := 11) hx hb dX12_comes_197 (by decide) ?_
  refine lv_iadd hx hb dX12_comes_199 ?_
  refine lv_iconst (v := (-1)) hx hb dX12_comes_200 (by decide) ?_
  obtain ⟨j31, hj31, ej31, h⟩ := h
  refine sM_1 C0 hR hS Nat.zero_lt_one hj31 ej31 dX12_comes_201 (fun S32 eS32 H locs hR hS => ?_)
  have h := h S32 eS32
  refine lv_aload_n hx hb dX12_comes_202 rfl (lv_at hl 1 rfl) ?_
  refine gM_0_2 C0 hR Nat.zero_lt_one tbs_wsX120 mM0_7_79 dX12_comes_203 ?_
  refine lv_iload hx hb dX12_comes_206 (lv_at hl 0 rfl) ?_
  refine lv_bipush (v := 12) hx hb dX12_comes_208 (by decide) ?_
  refine lv_iadd hx hb dX12_comes_210 ?_
  refine lv_iconst (v := (-1)) hx hb dX12_comes_211 (by decide) ?_
  obtain ⟨j33, hj33, ej33, h⟩ := h
  refine sM_1 C0 hR hS Nat.zero_lt_one hj33 ej33 dX12_comes_212 (fun S34 eS34 H locs hR hS => ?_)
  have h := h S34 eS34
  refine lv_aload_n hx hb dX12_comes_213 rfl (lv_at hl 1 rfl) ?_
  refine gM_0_2 C0 hR Nat.zero_lt_one tbs_wsX120 mM0_7_79 dX12_comes_214 ?_
  refine lv_bipush (v := 6) hx hb dX12_comes_217 (by decide) ?_
  refine lv_dup2_11 hx hb dX12_comes_219 rfl rfl ?_
  refine lM_1 C0 hR Nat.zero_lt_one (by decide) rfl dX12_comes_220 ?_
  refine lv_iconst (v := 1) hx hb dX12_comes_221 (by decide) ?_
  refine lv_iadd hx hb dX12_comes_222 ?_
  refine sM_1 C0 hR hS Nat.zero_lt_one (by decide) rfl dX12_comes_223 (fun S35 eS35 H locs hR hS => ?_)
  have h := h S35 eS35
  refine lv_iload hx hb dX12_comes_224 (lv_at hl 7 rfl) ?_
  exact rtM_i C0 hr hlk hR hS h dX12_comes_226
def Bb_X12_comes_38 (kk38 : Int32 → Int32 → Int32 → Int32 → Int32 → Int32 → Int32 → Int32 → sSt → Prop) (a1 : Int32) (a2 : Int32) (a3 : Int32) (a4 : Int32) (a5 : Int32) (a6 : Int32) (a7 : Int32) (a8 : Int32) (S : sSt) (k : Int32 → sSt → Prop) : Prop := ((47 ≤ a8 → F_X12_jobAt a7 0 S (fun r4 S5 => ix r4 10421 (fun j6 => ∀ S7, S7 = uI S5 1 0 j6 (S5.1 1 0 6) → F_X12_jobAt a7 1 S7 (fun r8 S9 => ((a2 = 0 → B_X12_comes_101 a1 a3 a4 a5 a6 a7 r8 0 S9 k) ∧ (¬ a2 = 0 → B_X12_comes_101 a1 a3 a4 a5 a6 a7 r8 1 S9 k)))))) ∧ (¬ 47 ≤ a8 → F_X12_jobAt a7 a8 S (fun r36 S37 => ix r36 10421 (fun j38 => ∀ S39, S39 = uI S37 1 0 j38 0 → ∀ x40 : Int32, x40 = a8 + 1 → kk38 a1 a2 a3 a4 a5 a6 a7 x40 S39))))
set_option maxHeartbeats 4000000 in
set_option maxRecDepth 100000 in
theorem Bbw_X12_comes_38 {p : Program} {l : Launch} {e : Env} {s : State} {m : MethodId} {args : Array Value} {below : List Frame} {meth : Method} {c : Code} {D : va_G} {cy : Nat → ClassId} {b z : Nat} {tx : TX} (C0 : CallFix p m c cX12_comes 9 s args TB RX12) (hr : meth.sig.returnType = (some .int)) (hlk : meth.locks = false) (hT : TxR tx s) {k : Int32 → sSt → Prop} {kk38 : Int32 → Int32 → Int32 → Int32 → Int32 → Int32 → Int32 → Int32 → sSt → Prop} (ih38 : ∀ (a1 : Int32) (a2 : Int32) (a3 : Int32) (a4 : Int32) (a5 : Int32) (a6 : Int32) (a7 : Int32) (a8 : Int32) (S : sSt) (H : Heap) (locs : List Loc) (ls : Array Slot) , kk38 a1 a2 a3 a4 a5 a6 a7 a8 S → RelM D cy b z tx S s H → va_S (gA b 12 z) s.heap H locs → lv_has ls 9 [(0, .ref (b + adM 0 0)), (1, .int a1), (2, .int a2), (3, .int a3), (4, .int a4), (5, .int a5), (6, .int a6), (7, .int a7), (8, .int a8)] → W p l e rm_X12_comes s m args below meth c H locs 0 0 (MQ below (PiM D cy b z tx k) args s 0 0 (gA b 12 z)) (F0 m 38 ls [])) : ∀ (a1 : Int32) (a2 : Int32) (a3 : Int32) (a4 : Int32) (a5 : Int32) (a6 : Int32) (a7 : Int32) (a8 : Int32) (S : sSt) (H : Heap) (locs : List Loc) (ls : Array Slot) , Bb_X12_comes_38 kk38 a1 a2 a3 a4 a5 a6 a7 a8 S k → RelM D cy b z tx S s H → va_S (gA b 12 z) s.heap H locs → lv_has ls 9 [(0, .ref (b + adM 0 0)), (1, .int a1), (2, .int a2), (3, .int a3), (4, .int a4), (5, .int a5), (6, .int a6), (7, .int a7), (8, .int a8)] → W p l e rm_X12_comes s m args below meth c H locs 0 0 (MQ below (PiM D cy b z tx k) args s 0 0 (gA b 12 z)) (F0 m 38 ls []) := by
  intro a1 a2 a3 a4 a5 a6 a7 a8 S H locs ls h hR hS hl
  have hx := C0.1
  have hb := C0.2.1
  unfold Bb_X12_comes_38 at h
  refine lv_iload hx hb dX12_comes_38 (lv_at hl 8 rfl) ?_
  refine lv_bipush (v := 47) hx hb dX12_comes_40 (by decide) ?_
  refine lv_icmp_ge (tgt := 64) hx hb dX12_comes_42 (by decide) (fun c3 => ?_) (fun c3 => ?_)
  · have h := h.1 c3
    refine lv_aload_n hx hb dX12_comes_64 rfl (lv_at hl 0 rfl) ?_
    refine gM_0_2 C0 hR Nat.zero_lt_one tbs_wsX120 mM0_7_79 dX12_comes_65 ?_
    refine lv_iload hx hb dX12_comes_68 (lv_at hl 7 rfl) ?_
    refine lv_iconst (v := 0) hx hb dX12_comes_70 (by decide) ?_
    refine qM_Si (As := [.int a7, .int 0]) (rest := [.ref (b + adM 1 0)]) C0 (c_X12_jobAt l h) (va_cwS 2 C0.2.2.2.2 (tbS mM0_7_74 ⟨mM0_7_75, mM0_1_11, mM0_7_76⟩) rfl rfl rfl (by decide +kernel) ⟨Nat.le_of_ble_eq_true rfl, Nat.le_of_ble_eq_true rfl⟩) hR hT hS rfl hl.1 rfl (Nat.le_of_ble_eq_true rfl) dX12_comes_71 ⟨Nat.zero_le _, Nat.zero_le _⟩ (fun r4 S5 H locs h hR hS => ?_)
    refine lv_aload_n hx hb dX12_comes_74 rfl (lv_at hl 0 rfl) ?_
    refine gM_0_2 C0 hR Nat.zero_lt_one tbs_wsX120 mM0_7_79 dX12_comes_75 ?_
    refine lv_bipush (v := 6) hx hb dX12_comes_78 (by decide) ?_
    refine lM_1 C0 hR Nat.zero_lt_one (by decide) rfl dX12_comes_80 ?_
    obtain ⟨j6, hj6, ej6, h⟩ := h
    refine sM_1 C0 hR hS Nat.zero_lt_one hj6 ej6 dX12_comes_81 (fun S7 eS7 H locs hR hS => ?_)
    have h := h S7 eS7
    refine lv_aload_n hx hb dX12_comes_82 rfl (lv_at hl 0 rfl) ?_
    refine gM_0_2 C0 hR Nat.zero_lt_one tbs_wsX120 mM0_7_79 dX12_comes_83 ?_
    refine lv_iload hx hb dX12_comes_86 (lv_at hl 7 rfl) ?_
    refine lv_iconst (v := 1) hx hb dX12_comes_88 (by decide) ?_
    refine qM_Si (As := [.int a7, .int 1]) (rest := [.ref (b + adM 1 0)]) C0 (c_X12_jobAt l h) (va_cwS 2 C0.2.2.2.2 (tbS mM0_7_74 ⟨mM0_7_75, mM0_1_11, mM0_7_76⟩) rfl rfl rfl (by decide +kernel) ⟨Nat.le_of_ble_eq_true rfl, Nat.le_of_ble_eq_true rfl⟩) hR hT hS rfl hl.1 rfl (Nat.le_of_ble_eq_true rfl) dX12_comes_89 ⟨Nat.zero_le _, Nat.zero_le _⟩ (fun r8 S9 H locs h hR hS => ?_)
    refine lv_iload_n hx hb dX12_comes_92 rfl (lv_at hl 2 rfl) ?_
    refine lv_if_eq (tgt := 100) hx hb dX12_comes_93 (by decide) (fun c10 => ?_) (fun c10 => ?_)
    · have h := h.1 c10
      refine lv_iconst (v := 0) hx hb dX12_comes_100 (by decide) ?_
      exact Bw_X12_comes_101 C0 hr hlk hT a1 a3 a4 a5 a6 a7 r8 0 S9 _ _ _ h hR hS (lv_sub hl [0, 1, 3, 4, 5, 6, 7] rfl)
    · have h := h.2 c10
      refine lv_iconst (v := 1) hx hb dX12_comes_96 (by decide) ?_
      refine lv_goto (tgt := 101) hx hb dX12_comes_97 (by decide) ?_
      exact Bw_X12_comes_101 C0 hr hlk hT a1 a3 a4 a5 a6 a7 r8 1 S9 _ _ _ h hR hS (lv_sub hl [0, 1, 3, 4, 5, 6, 7] rfl)
  · have h := h.2 c3
    refine lv_aload_n hx hb dX12_comes_45 rfl (lv_at hl 0 rfl) ?_
    refine gM_0_2 C0 hR Nat.zero_lt_one tbs_wsX120 mM0_7_79 dX12_comes_46 ?_
    refine lv_iload hx hb dX12_comes_49 (lv_at hl 7 rfl) ?_
    refine lv_iload hx hb dX12_comes_51 (lv_at hl 8 rfl) ?_
    refine qM_Si (As := [.int a7, .int a8]) (rest := [.ref (b + adM 1 0)]) C0 (c_X12_jobAt l h) (va_cwS 2 C0.2.2.2.2 (tbS mM0_7_74 ⟨mM0_7_75, mM0_1_11, mM0_7_76⟩) rfl rfl rfl (by decide +kernel) ⟨Nat.le_of_ble_eq_true rfl, Nat.le_of_ble_eq_true rfl⟩) hR hT hS rfl hl.1 rfl (Nat.le_of_ble_eq_true rfl) dX12_comes_53 ⟨Nat.zero_le _, Nat.zero_le _⟩ (fun r36 S37 H locs h hR hS => ?_)
    refine lv_iconst (v := 0) hx hb dX12_comes_56 (by decide) ?_
    obtain ⟨j38, hj38, ej38, h⟩ := h
    refine sM_1 C0 hR hS Nat.zero_lt_one hj38 ej38 dX12_comes_57 (fun S39 eS39 H locs hR hS => ?_)
    have h := h S39 eS39
    obtain ⟨x40, ex40⟩ : ∃ x40 : Int32, x40 = a8 + 1 := ⟨_, rfl⟩
    have h := h x40 ex40
    refine w_iinc (v0 := 1) (lv' := [(8, .int x40), (0, .ref (b + adM 0 0)), (1, .int a1), (2, .int a2), (3, .int a3), (4, .int a4), (5, .int a5), (6, .int a6), (7, .int a7)]) C0 dX12_comes_58 hl (k := 8) rfl (by decide) (by decide) x40 ex40 rfl (fun ls hl => ?_)
    refine lv_goto (tgt := 38) hx hb dX12_comes_61 (by decide) ?_
    exact ih38 a1 a2 a3 a4 a5 a6 a7 x40 S39 _ _ _  h hR hS (lv_sub hl [1, 2, 3, 4, 5, 6, 7, 8, 0] rfl)
def B_X12_comes_38 (n9 : Nat) (a1 : Int32) (a2 : Int32) (a3 : Int32) (a4 : Int32) (a5 : Int32) (a6 : Int32) (a7 : Int32) (a8 : Int32) (S : sSt) (k : Int32 → sSt → Prop) : Prop := (Nat.rec (motive := fun _ => Int32 → Int32 → Int32 → Int32 → Int32 → Int32 → Int32 → Int32 → sSt → Prop) (fun _ _ _ _ _ _ _ _ _ => False) (fun _ r9 => fun a1 a2 a3 a4 a5 a6 a7 a8 S => Bb_X12_comes_38 r9 a1 a2 a3 a4 a5 a6 a7 a8 S k) n9 : Int32 → Int32 → Int32 → Int32 → Int32 → Int32 → Int32 → Int32 → sSt → Prop) a1 a2 a3 a4 a5 a6 a7 a8 S
theorem B_X12_comes_38_s (n9 : Nat) (a1 : Int32) (a2 : Int32) (a3 : Int32) (a4 : Int32) (a5 : Int32) (a6 : Int32) (a7 : Int32) (a8 : Int32) (S : sSt) (k : Int32 → sSt → Prop) : B_X12_comes_38 (n9 + 1) a1 a2 a3 a4 a5 a6 a7 a8 S k = Bb_X12_comes_38 (fun a1 a2 a3 a4 a5 a6 a7 a8 S => B_X12_comes_38 n9 a1 a2 a3 a4 a5 a6 a7 a8 S k) a1 a2 a3 a4 a5 a6 a7 a8 S k := rfl
set_option maxHeartbeats 4000000 in
set_option maxRecDepth 100000 in
theorem Bw_X12_comes_38 {p : Program} {l : Launch} {e : Env} {s : State} {m : MethodId} {args : Array Value} {below : List Frame} {meth : Method} {c : Code} {D : va_G} {cy : Nat → ClassId} {b z : Nat} {tx : TX} (C0 : CallFix p m c cX12_comes 9 s args TB RX12) (hr : meth.sig.returnType = (some .int)) (hlk : meth.locks = false) (hT : TxR tx s) {k : Int32 → sSt → Prop} : ∀ (n9 : Nat), ∀ (a1 : Int32) (a2 : Int32) (a3 : Int32) (a4 : Int32) (a5 : Int32) (a6 : Int32) (a7 : Int32) (a8 : Int32) (S : sSt) (H : Heap) (locs : List Loc) (ls : Array Slot) , B_X12_comes_38 n9 a1 a2 a3 a4 a5 a6 a7 a8 S k → RelM D cy b z tx S s H → va_S (gA b 12 z) s.heap H locs → lv_has ls 9 [(0, .ref (b + adM 0 0)), (1, .int a1), (2, .int a2), (3, .int a3), (4, .int a4), (5, .int a5), (6, .int a6), (7, .int a7), (8, .int a8)] → W p l e rm_X12_comes s m args below meth c H locs 0 0 (MQ below (PiM D cy b z tx k) args s 0 0 (gA b 12 z)) (F0 m 38 ls []) := by
  intro n9
  induction n9 with
  | zero => intro a1 a2 a3 a4 a5 a6 a7 a8 S H locs ls h; exact h.elim
  | succ n9 ih =>
    intro a1 a2 a3 a4 a5 a6 a7 a8 S H locs ls h hR hS hl
    exact Bbw_X12_comes_38 C0 hr hlk hT ih a1 a2 a3 a4 a5 a6 a7 a8 S H locs ls h hR hS hl
def B_X12_comes_26 (a1 : Int32) (a2 : Int32) (a3 : Int32) (a4 : Int32) (a5 : Int32) (a6 : Int32) (a7 : Int32) (S : sSt) (k : Int32 → sSt → Prop) : Prop := ((¬ a7 = 24 → B_X12_comes_38 fuel a1 a2 a3 a4 a5 a6 a7 0 S k) ∧ (a7 = 24 → k (-1) S))
set_option maxHeartbeats 4000000 in
set_option maxRecDepth 100000 in
theorem Bw_X12_comes_26 {p : Program} {l : Launch} {e : Env} {s : State} {m : MethodId} {args : Array Value} {below : List Frame} {meth : Method} {c : Code} {D : va_G} {cy : Nat → ClassId} {b z : Nat} {tx : TX} (C0 : CallFix p m c cX12_comes 9 s args TB RX12) (hr : meth.sig.returnType = (some .int)) (hlk : meth.locks = false) (hT : TxR tx s) {k : Int32 → sSt → Prop} : ∀ (a1 : Int32) (a2 : Int32) (a3 : Int32) (a4 : Int32) (a5 : Int32) (a6 : Int32) (a7 : Int32) (S : sSt) (H : Heap) (locs : List Loc) (ls : Array Slot) , B_X12_comes_26 a1 a2 a3 a4 a5 a6 a7 S k → RelM D cy b z tx S s H → va_S (gA b 12 z) s.heap H locs → lv_has ls 9 [(0, .ref (b + adM 0 0)), (1, .int a1), (2, .int a2), (3, .int a3), (4, .int a4), (5, .int a5), (6, .int a6), (7, .int a7)] → W p l e rm_X12_comes s m args below meth c H locs 0 0 (MQ below (PiM D cy b z tx k) args s 0 0 (gA b 12 z)) (F0 m 26 ls []) := by
  intro a1 a2 a3 a4 a5 a6 a7 S H locs ls h hR hS hl
  have hx := C0.1
  have hb := C0.2.1
  unfold B_X12_comes_26 at h
  refine lv_iload hx hb dX12_comes_26 (lv_at hl 7 rfl) ?_
  refine lv_bipush (v := 24) hx hb dX12_comes_28 (by decide) ?_
  refine lv_icmp_ne (tgt := 35) hx hb dX12_comes_30 (by decide) (fun c2 => ?_) (fun c2 => ?_)
  · have h := h.1 c2
    refine lv_iconst (v := 0) hx hb dX12_comes_35 (by decide) ?_
    refine lv_istore (lv' := [(8, .int 0), (0, .ref (b + adM 0 0)), (1, .int a1), (2, .int a2), (3, .int a3), (4, .int a4), (5, .int a5), (6, .int a6), (7, .int a7)]) hx hb dX12_comes_36 hl (by decide) rfl (fun ls hl => ?_)
    exact Bw_X12_comes_38 C0 hr hlk hT fuel a1 a2 a3 a4 a5 a6 a7 0 S _ _ _ h hR hS (lv_sub hl [1, 2, 3, 4, 5, 6, 7, 8, 0] rfl)
  · have h := h.2 c2
    refine lv_iconst (v := (-1)) hx hb dX12_comes_33 (by decide) ?_
    exact rtM_i C0 hr hlk hR hS h dX12_comes_34
def Bb_X12_comes_3 (kk3 : Int32 → Int32 → Int32 → Int32 → Int32 → Int32 → Int32 → sSt → Prop) (a1 : Int32) (a2 : Int32) (a3 : Int32) (a4 : Int32) (a5 : Int32) (a6 : Int32) (a7 : Int32) (S : sSt) (k : Int32 → sSt → Prop) : Prop := ((24 ≤ a7 → B_X12_comes_26 a1 a2 a3 a4 a5 a6 a7 S k) ∧ (¬ 24 ≤ a7 → F_X12_numberOf a7 S (fun r41 S42 => ((r41 = (-1) → B_X12_comes_26 a1 a2 a3 a4 a5 a6 a7 S42 k) ∧ (¬ r41 = (-1) → ∀ x44 : Int32, x44 = a7 + 1 → kk3 a1 a2 a3 a4 a5 a6 x44 S42)))))
set_option maxHeartbeats 4000000 in
set_option maxRecDepth 100000 in
theorem Bbw_X12_comes_3 {p : Program} {l : Launch} {e : Env} {s : State} {m : MethodId} {args : Array Value} {below : List Frame} {meth : Method} {c : Code} {D : va_G} {cy : Nat → ClassId} {b z : Nat} {tx : TX} (C0 : CallFix p m c cX12_comes 9 s args TB RX12) (hr : meth.sig.returnType = (some .int)) (hlk : meth.locks = false) (hT : TxR tx s) {k : Int32 → sSt → Prop} {kk3 : Int32 → Int32 → Int32 → Int32 → Int32 → Int32 → Int32 → sSt → Prop} (ih3 : ∀ (a1 : Int32) (a2 : Int32) (a3 : Int32) (a4 : Int32) (a5 : Int32) (a6 : Int32) (a7 : Int32) (S : sSt) (H : Heap) (locs : List Loc) (ls : Array Slot) , kk3 a1 a2 a3 a4 a5 a6 a7 S → RelM D cy b z tx S s H → va_S (gA b 12 z) s.heap H locs → lv_has ls 9 [(0, .ref (b + adM 0 0)), (1, .int a1), (2, .int a2), (3, .int a3), (4, .int a4), (5, .int a5), (6, .int a6), (7, .int a7)] → W p l e rm_X12_comes s m args below meth c H locs 0 0 (MQ below (PiM D cy b z tx k) args s 0 0 (gA b 12 z)) (F0 m 3 ls [])) : ∀ (a1 : Int32) (a2 : Int32) (a3 : Int32) (a4 : Int32) (a5 : Int32) (a6 : Int32) (a7 : Int32) (S : sSt) (H : Heap) (locs : List Loc) (ls : Array Slot) , Bb_X12_comes_3 kk3 a1 a2 a3 a4 a5 a6 a7 S k → RelM D cy b z tx S s H → va_S (gA b 12 z) s.heap H locs → lv_has ls 9 [(0, .ref (b + adM 0 0)), (1, .int a1), (2, .int a2), (3, .int a3), (4, .int a4), (5, .int a5), (6, .int a6), (7, .int a7)] → W p l e rm_X12_comes s m args below meth c H locs 0 0 (MQ below (PiM D cy b z tx k) args s 0 0 (gA b 12 z)) (F0 m 3 ls []) := by
  intro a1 a2 a3 a4 a5 a6 a7 S H locs ls h hR hS hl
  have hx := C0.1
  have hb := C0.2.1
  unfold Bb_X12_comes_3 at h
  refine lv_iload hx hb dX12_comes_3 (lv_at hl 7 rfl) ?_
  refine lv_bipush (v := 24) hx hb dX12_comes_5 (by decide) ?_
  refine lv_icmp_ge (tgt := 26) hx hb dX12_comes_7 (by decide) (fun c1 => ?_) (fun c1 => ?_)
  · have h := h.1 c1
    exact Bw_X12_comes_26 C0 hr hlk hT a1 a2 a3 a4 a5 a6 a7 S _ _ _ h hR hS (lv_sub hl [0, 1, 2, 3, 4, 5, 6, 7] rfl)
  · have h := h.2 c1
    refine lv_aload_n hx hb dX12_comes_10 rfl (lv_at hl 0 rfl) ?_
    refine lv_iload hx hb dX12_comes_11 (lv_at hl 7 rfl) ?_
    refine qM_Vi (As := [.int a7]) (rest := []) C0 (c_X12_numberOf l h) (cwV 1 C0.2.2.2.2 (tbV mM0_7_202 ⟨mM0_7_204, mpM0_3_3, mM0_1_11, mM0_7_205⟩) rfl rfl rfl (by decide +kernel) ⟨Nat.le_of_ble_eq_true rfl, Nat.le_of_ble_eq_true rfl⟩) (rcM_0 hR Nat.zero_lt_one) hR hT hS rfl hl.1 rfl (Nat.le_of_ble_eq_true rfl) dX12_comes_13 ⟨Nat.zero_le _, Nat.zero_le _⟩ (fun r41 S42 H locs h hR hS => ?_)
    refine lv_iconst (v := (-1)) hx hb dX12_comes_16 (by decide) ?_
    refine lv_icmp_eq (tgt := 26) hx hb dX12_comes_17 (by decide) (fun c43 => ?_) (fun c43 => ?_)
    · have h := h.1 c43
      exact Bw_X12_comes_26 C0 hr hlk hT a1 a2 a3 a4 a5 a6 a7 S42 _ _ _ h hR hS (lv_sub hl [0, 1, 2, 3, 4, 5, 6, 7] rfl)
    · have h := h.2 c43
      obtain ⟨x44, ex44⟩ : ∃ x44 : Int32, x44 = a7 + 1 := ⟨_, rfl⟩
      have h := h x44 ex44
      refine w_iinc (v0 := 1) (lv' := [(7, .int x44), (0, .ref (b + adM 0 0)), (1, .int a1), (2, .int a2), (3, .int a3), (4, .int a4), (5, .int a5), (6, .int a6)]) C0 dX12_comes_20 hl (k := 7) rfl (by decide) (by decide) x44 ex44 rfl (fun ls hl => ?_)
      refine lv_goto (tgt := 3) hx hb dX12_comes_23 (by decide) ?_
      exact ih3 a1 a2 a3 a4 a5 a6 x44 S42 _ _ _  h hR hS (lv_sub hl [1, 2, 3, 4, 5, 6, 7, 0] rfl)
def B_X12_comes_3 (n9 : Nat) (a1 : Int32) (a2 : Int32) (a3 : Int32) (a4 : Int32) (a5 : Int32) (a6 : Int32) (a7 : Int32) (S : sSt) (k : Int32 → sSt → Prop) : Prop := (Nat.rec (motive := fun _ => Int32 → Int32 → Int32 → Int32 → Int32 → Int32 → Int32 → sSt → Prop) (fun _ _ _ _ _ _ _ _ => False) (fun _ r9 => fun a1 a2 a3 a4 a5 a6 a7 S => Bb_X12_comes_3 r9 a1 a2 a3 a4 a5 a6 a7 S k) n9 : Int32 → Int32 → Int32 → Int32 → Int32 → Int32 → Int32 → sSt → Prop) a1 a2 a3 a4 a5 a6 a7 S
theorem B_X12_comes_3_s (n9 : Nat) (a1 : Int32) (a2 : Int32) (a3 : Int32) (a4 : Int32) (a5 : Int32) (a6 : Int32) (a7 : Int32) (S : sSt) (k : Int32 → sSt → Prop) : B_X12_comes_3 (n9 + 1) a1 a2 a3 a4 a5 a6 a7 S k = Bb_X12_comes_3 (fun a1 a2 a3 a4 a5 a6 a7 S => B_X12_comes_3 n9 a1 a2 a3 a4 a5 a6 a7 S k) a1 a2 a3 a4 a5 a6 a7 S k := rfl
set_option maxHeartbeats 4000000 in
set_option maxRecDepth 100000 in
theorem Bw_X12_comes_3 {p : Program} {l : Launch} {e : Env} {s : State} {m : MethodId} {args : Array Value} {below : List Frame} {meth : Method} {c : Code} {D : va_G} {cy : Nat → ClassId} {b z : Nat} {tx : TX} (C0 : CallFix p m c cX12_comes 9 s args TB RX12) (hr : meth.sig.returnType = (some .int)) (hlk : meth.locks = false) (hT : TxR tx s) {k : Int32 → sSt → Prop} : ∀ (n9 : Nat), ∀ (a1 : Int32) (a2 : Int32) (a3 : Int32) (a4 : Int32) (a5 : Int32) (a6 : Int32) (a7 : Int32) (S : sSt) (H : Heap) (locs : List Loc) (ls : Array Slot) , B_X12_comes_3 n9 a1 a2 a3 a4 a5 a6 a7 S k → RelM D cy b z tx S s H → va_S (gA b 12 z) s.heap H locs → lv_has ls 9 [(0, .ref (b + adM 0 0)), (1, .int a1), (2, .int a2), (3, .int a3), (4, .int a4), (5, .int a5), (6, .int a6), (7, .int a7)] → W p l e rm_X12_comes s m args below meth c H locs 0 0 (MQ below (PiM D cy b z tx k) args s 0 0 (gA b 12 z)) (F0 m 3 ls []) := by
  intro n9
  induction n9 with
  | zero => intro a1 a2 a3 a4 a5 a6 a7 S H locs ls h; exact h.elim
  | succ n9 ih =>
    intro a1 a2 a3 a4 a5 a6 a7 S H locs ls h hR hS hl
    exact Bbw_X12_comes_3 C0 hr hlk hT ih a1 a2 a3 a4 a5 a6 a7 S H locs ls h hR hS hl
def F_X12_comes (a1 : Int32) (a2 : Int32) (a3 : Int32) (a4 : Int32) (a5 : Int32) (a6 : Int32) (S : sSt) (k : Int32 → sSt → Prop) : Prop := B_X12_comes_3 fuel a1 a2 a3 a4 a5 a6 0 S k
set_option maxHeartbeats 4000000 in
set_option maxRecDepth 100000 in
theorem c_X12_comes (l : Launch) {D : va_G} {cy : Nat → ClassId} {b z : Nat} {tx : TX} {a1 : Int32} {a2 : Int32} {a3 : Int32} {a4 : Int32} {a5 : Int32} {a6 : Int32} {S : sSt} {k : Int32 → sSt → Prop} (h : F_X12_comes a1 a2 a3 a4 a5 a6 S k) : Met l yX12_comes (Cond.code yX12_comes cX12_comes 9 (some .int) :: TB) rm_X12_comes (va_Pc [.ref (b + adM 0 0), .int a1, .int a2, .int a3, .int a4, .int a5, .int a6] (fun U => RelM D cy b z tx S U U.heap ∧ TxR tx U)) (PiM D cy b z tx k) 0 0 (gA b 12 z) := by
  refine Met.ofW (cc := cX12_comes) (maxL := 9) (ret := (some .int)) (by decide) rfl ?_
  intro p e s m args below meth c s₁ B hml hv
  obtain ⟨rfl, hR, hT⟩ := hv
  have C0 : CallFix p m c cX12_comes 9 s _ TB RX12 := ⟨B.exec, B.bytes, hml, findClass_of_methodNamed B.named, fun w hw => atoms_spec B.pre w (List.mem_cons_of_mem _ hw)⟩
  have hr := B.returns
  have hlk := B.notSynchronized
  have hx := C0.1
  have hb := C0.2.1
  have hS : va_S (gA b 12 z) s.heap s.heap [] := va_S.rf
  have hl := lv_entry ([.ref (b + adM 0 0), .int a1, .int a2, .int a3, .int a4, .int a5, .int a6]) (n := 9) (Nat.le_of_ble_eq_true rfl)
  rw [lg_entry_eq]
  generalize (lg_sl ([.ref (b + adM 0 0), .int a1, .int a2, .int a3, .int a4, .int a5, .int a6]) ++ List.replicate (9 - (lg_sl ([.ref (b + adM 0 0), .int a1, .int a2, .int a3, .int a4, .int a5, .int a6])).length) Slot.unset).toArray = ls at hl ⊢
  have hl : lv_has ls 9 [(0, .ref (b + adM 0 0)), (1, .int a1), (2, .int a2), (3, .int a3), (4, .int a4), (5, .int a5), (6, .int a6)] := hl
  show W p l e rm_X12_comes s m _ below meth c s.heap [] 0 0 (MQ below (PiM D cy b z tx k) _ s 0 0 (gA b 12 z)) _
  unfold F_X12_comes at h
  refine lv_iconst (v := 0) hx hb dX12_comes_0 (by decide) ?_
  refine lv_istore (lv' := [(7, .int 0), (0, .ref (b + adM 0 0)), (1, .int a1), (2, .int a2), (3, .int a3), (4, .int a4), (5, .int a5), (6, .int a6)]) hx hb dX12_comes_1 hl (by decide) rfl (fun ls hl => ?_)
  exact Bw_X12_comes_3 C0 hr hlk hT fuel a1 a2 a3 a4 a5 a6 0 S _ _ _ h hR hS (lv_sub hl [1, 2, 3, 4, 5, 6, 7, 0] rfl)
