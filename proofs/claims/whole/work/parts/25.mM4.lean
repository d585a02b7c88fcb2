theorem mM4_8_87 : Cond.methodLink RX12 251 yX12_isOpen ∈ TB := tbT_8 _ (List.mem_of_getElem? (i := 87) rfl) rfl
theorem mM4_8_90 : Cond.code yX12_isOpen cX12_isOpen 2 (some .boolean) ∈ TB := tbT_8 _ (List.mem_of_getElem? (i := 90) rfl) rfl
theorem mM4_8_89 : Cond.instanceMethod yX12_isOpen ∈ TB := tbT_8 _ (List.mem_of_getElem? (i := 89) rfl) rfl
theorem mpM4_4_7 : Cond.selects RX12 yX12_isOpen yX12_isOpen ∈ TB := tbP_4 (yX12_isOpen, 19) (List.mem_of_getElem? (i := 7) rfl)
theorem mM4_1_11 : Cond.initialized RX12 ∈ TB := tbT_1 _ (List.mem_of_getElem? (i := 11) rfl) rfl
theorem mM4_8_130 : Cond.methodLink RX12 273 yX12_isCommitted ∈ TB := tbT_8 _ (List.mem_of_getElem? (i := 130) rfl) rfl
theorem mM4_8_133 : Cond.code yX12_isCommitted cX12_isCommitted 4 (some .int) ∈ TB := tbT_8 _ (List.mem_of_getElem? (i := 133) rfl) rfl
theorem mM4_8_132 : Cond.instanceMethod yX12_isCommitted ∈ TB := tbT_8 _ (List.mem_of_getElem? (i := 132) rfl) rfl
theorem mpM4_4_14 : Cond.selects RX12 yX12_isCommitted yX12_isCommitted ∈ TB := tbP_4 (yX12_isCommitted, 19) (List.mem_of_getElem? (i := 14) rfl)
theorem mM4_7_78 : Cond.fieldLink RX12 116 "ClaimTableModel" "why" "I" ∈ TB := tbT_7 _ (List.mem_of_getElem? (i := 78) rfl) rfl
theorem mM4_8_25 : Cond.methodLink RX12 199 yX12_throwsIf ∈ TB := tbT_8 _ (List.mem_of_getElem? (i := 25) rfl) rfl
theorem mM4_8_28 : Cond.code yX12_throwsIf cX12_throwsIf 3 (some .boolean) ∈ TB := tbT_8 _ (List.mem_of_getElem? (i := 28) rfl) rfl
theorem mM4_8_27 : Cond.instanceMethod yX12_throwsIf ∈ TB := tbT_8 _ (List.mem_of_getElem? (i := 27) rfl) rfl
theorem mpM4_3_13 : Cond.selects RX12 yX12_throwsIf yX12_throwsIf ∈ TB := tbP_3 (yX12_throwsIf, 19) (List.mem_of_getElem? (i := 13) rfl)
theorem mM4_7_77 : Cond.fieldLink RX12 3 "ClaimTableModel" "thrown" "I" ∈ TB := tbT_7 _ (List.mem_of_getElem? (i := 77) rfl) rfl
theorem mM4_8_33 : Cond.methodLink RX12 245 yX12_noSession ∈ TB := tbT_8 _ (List.mem_of_getElem? (i := 33) rfl) rfl
theorem mM4_8_36 : Cond.code yX12_noSession cX12_noSession 2 (some .boolean) ∈ TB := tbT_8 _ (List.mem_of_getElem? (i := 36) rfl) rfl
theorem mM4_8_35 : Cond.instanceMethod yX12_noSession ∈ TB := tbT_8 _ (List.mem_of_getElem? (i := 35) rfl) rfl
theorem mpM4_3_14 : Cond.selects RX12 yX12_noSession yX12_noSession ∈ TB := tbP_3 (yX12_noSession, 19) (List.mem_of_getElem? (i := 14) rfl)
theorem mM4_8_91 : Cond.methodLink RX12 276 yX12_refuses ∈ TB := tbT_8 _ (List.mem_of_getElem? (i := 91) rfl) rfl
theorem mM4_8_94 : Cond.code yX12_refuses cX12_refuses 3 (some .boolean) ∈ TB := tbT_8 _ (List.mem_of_getElem? (i := 94) rfl) rfl
theorem mM4_8_93 : Cond.instanceMethod yX12_refuses ∈ TB := tbT_8 _ (List.mem_of_getElem? (i := 93) rfl) rfl
theorem mpM4_4_8 : Cond.selects RX12 yX12_refuses yX12_refuses ∈ TB := tbP_4 (yX12_refuses, 19) (List.mem_of_getElem? (i := 8) rfl)
theorem mM4_7_79 : Cond.fieldLink RX12 13 "ClaimTableModel" "world" "[I" ∈ TB := tbT_7 _ (List.mem_of_getElem? (i := 79) rfl) rfl
theorem mM4_7_233 : Cond.methodLink RX12 63 yX12_sessionAt ∈ TB := tbT_7 _ (List.mem_of_getElem? (i := 233) rfl) rfl
theorem mM4_7_235 : Cond.code yX12_sessionAt cX12_sessionAt 2 (some .int) ∈ TB := tbT_7 _ (List.mem_of_getElem? (i := 235) rfl) rfl
theorem mM4_7_234 : Cond.static yX12_sessionAt ∈ TB := tbT_7 _ (List.mem_of_getElem? (i := 234) rfl) rfl
theorem mM4_8_95 : Cond.methodLink RX12 279 yX12_opened ∈ TB := tbT_8 _ (List.mem_of_getElem? (i := 95) rfl) rfl
theorem mM4_8_98 : Cond.code yX12_opened cX12_opened 3 (some .int) ∈ TB := tbT_8 _ (List.mem_of_getElem? (i := 98) rfl) rfl
theorem mM4_8_97 : Cond.instanceMethod yX12_opened ∈ TB := tbT_8 _ (List.mem_of_getElem? (i := 97) rfl) rfl
theorem mpM4_4_9 : Cond.selects RX12 yX12_opened yX12_opened ∈ TB := tbP_4 (yX12_opened, 19) (List.mem_of_getElem? (i := 9) rfl)
theorem mM4_8_103 : Cond.methodLink RX12 282 yX12_saveAt ∈ TB := tbT_8 _ (List.mem_of_getElem? (i := 103) rfl) rfl
theorem mM4_8_105 : Cond.code yX12_saveAt cX12_saveAt 3 (some .int) ∈ TB := tbT_8 _ (List.mem_of_getElem? (i := 105) rfl) rfl
theorem mM4_8_104 : Cond.static yX12_saveAt ∈ TB := tbT_8 _ (List.mem_of_getElem? (i := 104) rfl) rfl
theorem mM4_7_202 : Cond.methodLink RX12 59 yX12_numberOf ∈ TB := tbT_7 _ (List.mem_of_getElem? (i := 202) rfl) rfl
theorem mM4_7_205 : Cond.code yX12_numberOf cX12_numberOf 2 (some .int) ∈ TB := tbT_7 _ (List.mem_of_getElem? (i := 205) rfl) rfl
theorem mM4_7_204 : Cond.instanceMethod yX12_numberOf ∈ TB := tbT_7 _ (List.mem_of_getElem? (i := 204) rfl) rfl
theorem mpM4_3_3 : Cond.selects RX12 yX12_numberOf yX12_numberOf ∈ TB := tbP_3 (yX12_numberOf, 19) (List.mem_of_getElem? (i := 3) rfl)
theorem mM4_7_74 : Cond.methodLink RX12 51 yX12_jobAt ∈ TB := tbT_7 _ (List.mem_of_getElem? (i := 74) rfl) rfl
theorem mM4_7_76 : Cond.code yX12_jobAt cX12_jobAt 2 (some .int) ∈ TB := tbT_7 _ (List.mem_of_getElem? (i := 76) rfl) rfl
theorem mM4_7_75 : Cond.static yX12_jobAt ∈ TB := tbT_7 _ (List.mem_of_getElem? (i := 75) rfl) rfl
theorem mM4_8_110 : Cond.methodLink RX12 254 yX12_copies ∈ TB := tbT_8 _ (List.mem_of_getElem? (i := 110) rfl) rfl
theorem mM4_8_113 : Cond.code yX12_copies cX12_copies 5 none ∈ TB := tbT_8 _ (List.mem_of_getElem? (i := 113) rfl) rfl
theorem mM4_8_112 : Cond.instanceMethod yX12_copies ∈ TB := tbT_8 _ (List.mem_of_getElem? (i := 112) rfl) rfl
theorem mpM4_4_11 : Cond.selects RX12 yX12_copies yX12_copies ∈ TB := tbP_4 (yX12_copies, 19) (List.mem_of_getElem? (i := 11) rfl)
theorem mM4_8_106 : Cond.methodLink RX12 70 yX12_lockerOf ∈ TB := tbT_8 _ (List.mem_of_getElem? (i := 106) rfl) rfl
theorem mM4_8_109 : Cond.code yX12_lockerOf cX12_lockerOf 2 (some .int) ∈ TB := tbT_8 _ (List.mem_of_getElem? (i := 109) rfl) rfl
theorem mM4_8_108 : Cond.instanceMethod yX12_lockerOf ∈ TB := tbT_8 _ (List.mem_of_getElem? (i := 108) rfl) rfl
theorem mpM4_4_10 : Cond.selects RX12 yX12_lockerOf yX12_lockerOf ∈ TB := tbP_4 (yX12_lockerOf, 19) (List.mem_of_getElem? (i := 10) rfl)
theorem mM4_8_37 : Cond.methodLink RX12 66 yX12_in ∈ TB := tbT_8 _ (List.mem_of_getElem? (i := 37) rfl) rfl
theorem mM4_8_39 : Cond.code yX12_in cX12_in 3 (some .boolean) ∈ TB := tbT_8 _ (List.mem_of_getElem? (i := 39) rfl) rfl
theorem mM4_8_38 : Cond.static yX12_in ∈ TB := tbT_8 _ (List.mem_of_getElem? (i := 38) rfl) rfl
theorem mM4_8_118 : Cond.methodLink RX12 266 yX12_frees ∈ TB := tbT_8 _ (List.mem_of_getElem? (i := 118) rfl) rfl
theorem mM4_8_121 : Cond.code yX12_frees cX12_frees 2 none ∈ TB := tbT_8 _ (List.mem_of_getElem? (i := 121) rfl) rfl
theorem mM4_8_120 : Cond.instanceMethod yX12_frees ∈ TB := tbT_8 _ (List.mem_of_getElem? (i := 120) rfl) rfl
theorem mpM4_4_12 : Cond.selects RX12 yX12_frees yX12_frees ∈ TB := tbP_4 (yX12_frees, 19) (List.mem_of_getElem? (i := 12) rfl)
theorem mM4_8_147 : Cond.methodLink RX12 286 yX12_lockedBy ∈ TB := tbT_8 _ (List.mem_of_getElem? (i := 147) rfl) rfl
theorem mM4_8_150 : Cond.code yX12_lockedBy cX12_lockedBy 4 (some .int) ∈ TB := tbT_8 _ (List.mem_of_getElem? (i := 150) rfl) rfl
theorem mM4_8_149 : Cond.instanceMethod yX12_lockedBy ∈ TB := tbT_8 _ (List.mem_of_getElem? (i := 149) rfl) rfl
theorem mpM4_5_1 : Cond.selects RX12 yX12_lockedBy yX12_lockedBy ∈ TB := tbP_5 (yX12_lockedBy, 19) (List.mem_of_getElem? (i := 1) rfl)
theorem mM4_8_183 : Cond.methodLink RX12 289 yX12_anyVersion ∈ TB := tbT_8 _ (List.mem_of_getElem? (i := 183) rfl) rfl
theorem mM4_8_186 : Cond.code yX12_anyVersion cX12_anyVersion 2 (some .int) ∈ TB := tbT_8 _ (List.mem_of_getElem? (i := 186) rfl) rfl
theorem mM4_8_185 : Cond.instanceMethod yX12_anyVersion ∈ TB := tbT_8 _ (List.mem_of_getElem? (i := 185) rfl) rfl
theorem mpM4_5_9 : Cond.selects RX12 yX12_anyVersion yX12_anyVersion ∈ TB := tbP_5 (yX12_anyVersion, 19) (List.mem_of_getElem? (i := 9) rfl)
theorem mM4_8_187 : Cond.methodLink RX12 292 yX12_isOf ∈ TB := tbT_8 _ (List.mem_of_getElem? (i := 187) rfl) rfl
theorem mM4_8_190 : Cond.code yX12_isOf cX12_isOf 3 (some .boolean) ∈ TB := tbT_8 _ (List.mem_of_getElem? (i := 190) rfl) rfl
theorem mM4_8_189 : Cond.instanceMethod yX12_isOf ∈ TB := tbT_8 _ (List.mem_of_getElem? (i := 189) rfl) rfl
theorem mpM4_5_10 : Cond.selects RX12 yX12_isOf yX12_isOf ∈ TB := tbP_5 (yX12_isOf, 19) (List.mem_of_getElem? (i := 10) rfl)
theorem mM4_8_167 : Cond.methodLink RX12 295 yX12_seen ∈ TB := tbT_8 _ (List.mem_of_getElem? (i := 167) rfl) rfl
theorem mM4_8_170 : Cond.code yX12_seen cX12_seen 3 (some .int) ∈ TB := tbT_8 _ (List.mem_of_getElem? (i := 170) rfl) rfl
theorem mM4_8_169 : Cond.instanceMethod yX12_seen ∈ TB := tbT_8 _ (List.mem_of_getElem? (i := 169) rfl) rfl
theorem mpM4_5_5 : Cond.selects RX12 yX12_seen yX12_seen ∈ TB := tbP_5 (yX12_seen, 19) (List.mem_of_getElem? (i := 5) rfl)
theorem mM4_8_171 : Cond.methodLink RX12 298 yX12_isState ∈ TB := tbT_8 _ (List.mem_of_getElem? (i := 171) rfl) rfl
theorem mM4_8_174 : Cond.code yX12_isState cX12_isState 3 (some .boolean) ∈ TB := tbT_8 _ (List.mem_of_getElem? (i := 174) rfl) rfl
theorem mM4_8_173 : Cond.instanceMethod yX12_isState ∈ TB := tbT_8 _ (List.mem_of_getElem? (i := 173) rfl) rfl
theorem mpM4_5_6 : Cond.selects RX12 yX12_isState yX12_isState ∈ TB := tbP_5 (yX12_isState, 19) (List.mem_of_getElem? (i := 6) rfl)
def rm_X12_isDone : Room := { frames := 5, cells := 0, slots := 0, locals := 107 }
def F_X12_isDone (a1 : Int32) (S : sSt) (k : sSt → Prop) : Prop := F_X12_isOpen a1 S (fun r1 S2 => ((¬ r1 = 0 → k S2) ∧ (r1 = 0 → F_X12_isCommitted a1 S2 (fun r4 S5 => k S5))))
set_option maxHeartbeats 4000000 in
set_option maxRecDepth 100000 in
theorem c_X12_isDone (l : Launch) {D : va_G} {cy : Nat → ClassId} {b z : Nat} {tx : TX} {a1 : Int32} {S : sSt} {k : sSt → Prop} (h : F_X12_isDone a1 S k) : Met l yX12_isDone (Cond.code yX12_isDone cX12_isDone 2 none :: TB) rm_X12_isDone (va_Pc [.ref (b + adM 0 0), .int a1] (fun U => RelM D cy b z tx S U U.heap ∧ TxR tx U)) (PvM D cy b z tx k) 0 0 (gA b 12 z) := by
  refine Met.ofW (cc := cX12_isDone) (maxL := 2) (ret := none) (by decide) rfl ?_
  intro p e s m args below meth c s₁ B hml hv
  obtain ⟨rfl, hR, hT⟩ := hv
  have C0 : CallFix p m c cX12_isDone 2 s _ TB RX12 := ⟨B.exec, B.bytes, hml, findClass_of_methodNamed B.named, fun w hw => atoms_spec B.pre w (List.mem_cons_of_mem _ hw)⟩
  have hr := B.returns
  have hlk := B.notSynchronized
  have hx := C0.1
  have hb := C0.2.1
  have hS : va_S (gA b 12 z) s.heap s.heap [] := va_S.rf
  have hl := lv_entry ([.ref (b + adM 0 0), .int a1]) (n := 2) (Nat.le_of_ble_eq_true rfl)
  rw [lg_entry_eq]
  generalize (lg_sl ([.ref (b + adM 0 0), .int a1]) ++ List.replicate (2 - (lg_sl ([.ref (b + adM 0 0), .int a1])).length) Slot.unset).toArray = ls at hl ⊢
  have hl : lv_has ls 2 [(0, .ref (b + adM 0 0)), (1, .int a1)] := hl
  show W p l e rm_X12_isDone s m _ below meth c s.heap [] 0 0 (MQ below (PvM D cy b z tx k) _ s 0 0 (gA b 12 z)) _
  unfold F_X12_isDone at h
  refine lv_aload_n hx hb dX12_isDone_0 rfl (lv_at hl 0 rfl) ?_
  refine lv_iload_n hx hb dX12_isDone_1 rfl (lv_at hl 1 rfl) ?_
  refine qM_Vi (As := [.int a1]) (rest := []) C0 (c_X12_isOpen l h) (cwV 1 C0.2.2.2.2 (tbV mM4_8_87 ⟨mM4_8_89, mpM4_4_7, mM4_1_11, mM4_8_90⟩) rfl rfl rfl (by decide +kernel) ⟨Nat.le_of_ble_eq_true rfl, Nat.le_of_ble_eq_true rfl⟩) (rcM_0 hR Nat.zero_lt_one) hR hT hS rfl hl.1 rfl (Nat.le_of_ble_eq_true rfl) dX12_isDone_2 ⟨Nat.zero_le _, Nat.zero_le _⟩ (fun r1 S2 H locs h hR hS => ?_)
  refine lv_if_ne (tgt := 14) hx hb dX12_isDone_5 (by decide) (fun c3 => ?_) (fun c3 => ?_)
  · have h := h.1 c3
    exact rtM_v C0 hr hlk hR hS h dX12_isDone_14
  · have h := h.2 c3
    refine lv_aload_n hx hb dX12_isDone_8 rfl (lv_at hl 0 rfl) ?_
    refine lv_iload_n hx hb dX12_isDone_9 rfl (lv_at hl 1 rfl) ?_
    refine qM_Vi (As := [.int a1]) (rest := []) C0 (c_X12_isCommitted l h) (cwV 1 C0.2.2.2.2 (tbV mM4_8_130 ⟨mM4_8_132, mpM4_4_14, mM4_1_11, mM4_8_133⟩) rfl rfl rfl (by decide +kernel) ⟨Nat.le_of_ble_eq_true rfl, Nat.le_of_ble_eq_true rfl⟩) (rcM_0 hR Nat.zero_lt_one) hR hT hS rfl hl.1 rfl (Nat.le_of_ble_eq_true rfl) dX12_isDone_10 ⟨Nat.zero_le _, Nat.zero_le _⟩ (fun r4 S5 H locs h hR hS => ?_)
    refine lv_pop hx hb dX12_isDone_13 rfl ?_
    exact rtM_v C0 hr hlk hR hS h dX12_isDone_14

def rm_X12_refuses : Room := { frames := 1, cells := 0, slots := 0, locals := 22 }
def B_X12_refuses_15 (a2 : Int32) (t1 : Int32) (S : sSt) (k : Int32 → sSt → Prop) : Prop := F_X12_throwsIf t1 a2 S (fun r3 S4 => bz r3 (k r3 S4))
set_option maxHeartbeats 4000000 in
set_option maxRecDepth 100000 in
theorem Bw_X12_refuses_15 {p : Program} {l : Launch} {e : Env} {s : State} {m : MethodId} {args : Array Value} {below : List Frame} {meth : Method} {c : Code} {D : va_G} {cy : Nat → ClassId} {b z : Nat} {tx : TX} (C0 : CallFix p m c cX12_refuses 3 s args TB RX12) (hr : meth.sig.returnType = (some .boolean)) (hlk : meth.locks = false) (hT : TxR tx s) {k : Int32 → sSt → Prop} : ∀ (a2 : Int32) (t1 : Int32) (S : sSt) (H : Heap) (locs : List Loc) (ls : Array Slot) , B_X12_refuses_15 a2 t1 S k → RelM D cy b z tx S s H → va_S (gA b 12 z) s.heap H locs → lv_has ls 3 [(2, .int a2)] → W p l e rm_X12_refuses s m args below meth c H locs 0 0 (MQ below (PiM D cy b z tx k) args s 0 0 (gA b 12 z)) (F0 m 15 ls [.int t1, .ref (b + adM 0 0)]) := by
  intro a2 t1 S H locs ls h hR hS hl
  have hx := C0.1
  have hb := C0.2.1
  unfold B_X12_refuses_15 at h
  refine lv_iload_n hx hb dX12_refuses_15 rfl (lv_at hl 0 rfl) ?_
  refine qM_Vi (As := [.int t1, .int a2]) (rest := []) C0 (c_X12_throwsIf l h) (cwV 2 C0.2.2.2.2 (tbV mM4_8_25 ⟨mM4_8_27, mpM4_3_13, mM4_1_11, mM4_8_28⟩) rfl rfl rfl (by decide +kernel) ⟨Nat.le_of_ble_eq_true rfl, Nat.le_of_ble_eq_true rfl⟩) (rcM_0 hR Nat.zero_lt_one) hR hT hS rfl hl.1 rfl (Nat.le_of_ble_eq_true rfl) dX12_refuses_16 ⟨Nat.zero_le _, Nat.zero_le _⟩ (fun r3 S4 H locs h hR hS => ?_)
  exact rtM_z C0 hr hlk hR hS h.1 h.2 dX12_refuses_19
def F_X12_refuses (a1 : Int32) (a2 : Int32) (S : sSt) (k : Int32 → sSt → Prop) : Prop := ∀ S1, S1 = uI S 0 0 1 a1 → ((a1 = 0 → B_X12_refuses_15 a2 0 S1 k) ∧ (¬ a1 = 0 → B_X12_refuses_15 a2 1 S1 k))
set_option maxHeartbeats 4000000 in
set_option maxRecDepth 100000 in
theorem c_X12_refuses (l : Launch) {D : va_G} {cy : Nat → ClassId} {b z : Nat} {tx : TX} {a1 : Int32} {a2 : Int32} {S : sSt} {k : Int32 → sSt → Prop} (h : F_X12_refuses a1 a2 S k) : Met l yX12_refuses (Cond.code yX12_refuses cX12_refuses 3 (some .boolean) :: TB) rm_X12_refuses (va_Pc [.ref (b + adM 0 0), .int a1, .int a2] (fun U => RelM D cy b z tx S U U.heap ∧ TxR tx U)) (PiM D cy b z tx k) 0 0 (gA b 12 z) := by
  refine Met.ofW (cc := cX12_refuses) (maxL := 3) (ret := (some .boolean)) (by decide) rfl ?_
  intro p e s m args below meth c s₁ B hml hv
  obtain ⟨rfl, hR, hT⟩ := hv
  have C0 : CallFix p m c cX12_refuses 3 s _ TB RX12 := ⟨B.exec, B.bytes, hml, findClass_of_methodNamed B.named, fun w hw => atoms_spec B.pre w (List.mem_cons_of_mem _ hw)⟩
  have hr := B.returns
  have hlk := B.notSynchronized
  have hx := C0.1
  have hb := C0.2.1
  have hS : va_S (gA b 12 z) s.heap s.heap [] := va_S.rf
  have hl := lv_entry ([.ref (b + adM 0 0), .int a1, .int a2]) (n := 3) (Nat.le_of_ble_eq_true rfl)
  rw [lg_entry_eq]
  generalize (lg_sl ([.ref (b + adM 0 0), .int a1, .int a2]) ++ List.replicate (3 - (lg_sl ([.ref (b + adM 0 0), .int a1, .int a2])).length) Slot.unset).toArray = ls at hl ⊢
  have hl : lv_has ls 3 [(0, .ref (b + adM 0 0)), (1, .int a1), (2, .int a2)] := hl
  show W p l e rm_X12_refuses s m _ below meth c s.heap [] 0 0 (MQ below (PiM D cy b z tx k) _ s 0 0 (gA b 12 z)) _
  unfold F_X12_refuses at h
  refine lv_aload_n hx hb dX12_refuses_0 rfl (lv_at hl 0 rfl) ?_
  refine lv_iload_n hx hb dX12_refuses_1 rfl (lv_at hl 1 rfl) ?_
  refine pM_0_1 C0 hR hS Nat.zero_lt_one tbs_wsX120 mM4_7_78 dX12_refuses_2 (fun S1 eS1 H locs hR hS => ?_)
  have h := h S1 eS1
  refine lv_aload_n hx hb dX12_refuses_5 rfl (lv_at hl 0 rfl) ?_
  refine lv_iload_n hx hb dX12_refuses_6 rfl (lv_at hl 1 rfl) ?_
  refine lv_if_eq (tgt := 14) hx hb dX12_refuses_7 (by decide) (fun c2 => ?_) (fun c2 => ?_)
  · have h := h.1 c2
    refine lv_iconst (v := 0) hx hb dX12_refuses_14 (by decide) ?_
    exact Bw_X12_refuses_15 C0 hr hlk hT a2 0 S1 _ _ _ h hR hS (lv_sub hl [2] rfl)
  · have h := h.2 c2
    refine lv_iconst (v := 1) hx hb dX12_refuses_10 (by decide) ?_
    refine lv_goto (tgt := 15) hx hb dX12_refuses_11 (by decide) ?_
    exact Bw_X12_refuses_15 C0 hr hlk hT a2 1 S1 _ _ _ h hR hS (lv_sub hl [2] rfl)

def rm_X12_begin : Room := { frames := 3, cells := 0, slots := 0, locals := 64 }
def B_X12_begin_32 (a1 : Int32) (t1 : Int32) (S : sSt) (k : Int32 → sSt → Prop) : Prop := F_X12_refuses t1 2 S (fun r10 S11 => ((r10 = 0 → F_X12_sessionAt a1 2 S11 (fun r13 S14 => ix r13 10421 (fun j15 => ∀ S16, S16 = uI S14 1 0 j15 1 → F_X12_sessionAt a1 3 S16 (fun r17 S18 => ix r17 10421 (fun j19 => ∀ S20, S20 = uI S18 1 0 j19 0 → F_X12_opened S20 (fun r21 S22 => k r21 S22)))))) ∧ (¬ r10 = 0 → k 0 S11)))
set_option maxHeartbeats 4000000 in
set_option maxRecDepth 100000 in
theorem Bw_X12_begin_32 {p : Program} {l : Launch} {e : Env} {s : State} {m : MethodId} {args : Array Value} {below : List Frame} {meth : Method} {c : Code} {D : va_G} {cy : Nat → ClassId} {b z : Nat} {tx : TX} (C0 : CallFix p m c cX12_begin 2 s args TB RX12) (hr : meth.sig.returnType = (some .int)) (hlk : meth.locks = false) (hT : TxR tx s) {k : Int32 → sSt → Prop} : ∀ (a1 : Int32) (t1 : Int32) (S : sSt) (H : Heap) (locs : List Loc) (ls : Array Slot) , B_X12_begin_32 a1 t1 S k → RelM D cy b z tx S s H → va_S (gA b 12 z) s.heap H locs → lv_has ls 2 [(0, .ref (b + adM 0 0)), (1, .int a1)] → W p l e rm_X12_begin s m args below meth c H locs 0 0 (MQ below (PiM D cy b z tx k) args s 0 0 (gA b 12 z)) (F0 m 32 ls [.int t1, .ref (b + adM 0 0)]) := by
  intro a1 t1 S H locs ls h hR hS hl
  have hx := C0.1
  have hb := C0.2.1
  unfold B_X12_begin_32 at h
  refine lv_iconst (v := 2) hx hb dX12_begin_32 (by decide) ?_
  refine qM_Vi (As := [.int t1, .int 2]) (rest := []) C0 (c_X12_refuses l h) (cwV 2 C0.2.2.2.2 (tbV mM4_8_91 ⟨mM4_8_93, mpM4_4_8, mM4_1_11, mM4_8_94⟩) rfl rfl rfl (by decide +kernel) ⟨Nat.le_of_ble_eq_true rfl, Nat.le_of_ble_eq_true rfl⟩) (rcM_0 hR Nat.zero_lt_one) hR hT hS rfl hl.1 rfl (Nat.le_of_ble_eq_true rfl) dX12_begin_33 ⟨Nat.zero_le _, Nat.zero_le _⟩ (fun r10 S11 H locs h hR hS => ?_)
  refine lv_if_eq (tgt := 41) hx hb dX12_begin_36 (by decide) (fun c12 => ?_) (fun c12 => ?_)
  · have h := h.1 c12
    refine lv_aload_n hx hb dX12_begin_41 rfl (lv_at hl 0 rfl) ?_
    refine gM_0_2 C0 hR Nat.zero_lt_one tbs_wsX120 mM4_7_79 dX12_begin_42 ?_
    refine lv_iload_n hx hb dX12_begin_45 rfl (lv_at hl 1 rfl) ?_
    refine lv_iconst (v := 2) hx hb dX12_begin_46 (by decide) ?_
    refine qM_Si (As := [.int a1, .int 2]) (rest := [.ref (b + adM 1 0)]) C0 (c_X12_sessionAt l h) (va_cwS 2 C0.2.2.2.2 (tbS mM4_7_233 ⟨mM4_7_234, mM4_1_11, mM4_7_235⟩) rfl rfl rfl (by decide +kernel) ⟨Nat.le_of_ble_eq_true rfl, Nat.le_of_ble_eq_true rfl⟩) hR hT hS rfl hl.1 rfl (Nat.le_of_ble_eq_true rfl) dX12_begin_47 ⟨Nat.zero_le _, Nat.zero_le _⟩ (fun r13 S14 H locs h hR hS => ?_)
    refine lv_iconst (v := 1) hx hb dX12_begin_50 (by decide) ?_
    obtain ⟨j15, hj15, ej15, h⟩ := h
    refine sM_1 C0 hR hS Nat.zero_lt_one hj15 ej15 dX12_begin_51 (fun S16 eS16 H locs hR hS => ?_)
    have h := h S16 eS16
    refine lv_aload_n hx hb dX12_begin_52 rfl (lv_at hl 0 rfl) ?_
    refine gM_0_2 C0 hR Nat.zero_lt_one tbs_wsX120 mM4_7_79 dX12_begin_53 ?_
    refine lv_iload_n hx hb dX12_begin_56 rfl (lv_at hl 1 rfl) ?_
    refine lv_iconst (v := 3) hx hb dX12_begin_57 (by decide) ?_
    refine qM_Si (As := [.int a1, .int 3]) (rest := [.ref (b + adM 1 0)]) C0 (c_X12_sessionAt l h) (va_cwS 2 C0.2.2.2.2 (tbS mM4_7_233 ⟨mM4_7_234, mM4_1_11, mM4_7_235⟩) rfl rfl rfl (by decide +kernel) ⟨Nat.le_of_ble_eq_true rfl, Nat.le_of_ble_eq_true rfl⟩) hR hT hS rfl hl.1 rfl (Nat.le_of_ble_eq_true rfl) dX12_begin_58 ⟨Nat.zero_le _, Nat.zero_le _⟩ (fun r17 S18 H locs h hR hS => ?_)
    refine lv_iconst (v := 0) hx hb dX12_begin_61 (by decide) ?_
    obtain ⟨j19, hj19, ej19, h⟩ := h
    refine sM_1 C0 hR hS Nat.zero_lt_one hj19 ej19 dX12_begin_62 (fun S20 eS20 H locs hR hS => ?_)
    have h := h S20 eS20
    refine lv_aload_n hx hb dX12_begin_63 rfl (lv_at hl 0 rfl) ?_
    refine qM_Vi (As := []) (rest := []) C0 (c_X12_opened l h) (cwV 0 C0.2.2.2.2 (tbV mM4_8_95 ⟨mM4_8_97, mpM4_4_9, mM4_1_11, mM4_8_98⟩) rfl rfl rfl (by decide +kernel) ⟨Nat.le_of_ble_eq_true rfl, Nat.le_of_ble_eq_true rfl⟩) (rcM_0 hR Nat.zero_lt_one) hR hT hS rfl hl.1 rfl (Nat.le_of_ble_eq_true rfl) dX12_begin_64 ⟨Nat.zero_le _, Nat.zero_le _⟩ (fun r21 S22 H locs h hR hS => ?_)
    exact rtM_i C0 hr hlk hR hS h dX12_begin_67
  · have h := h.2 c12
    refine lv_iconst (v := 0) hx hb dX12_begin_39 (by decide) ?_
    exact rtM_i C0 hr hlk hR hS h dX12_begin_40
def F_X12_begin (a1 : Int32) (S : sSt) (k : Int32 → sSt → Prop) : Prop := ∀ S1, S1 = uI S 0 0 0 0 → F_X12_noSession a1 S1 (fun r2 S3 => F_X12_throwsIf r2 1 S3 (fun r4 S5 => ((¬ r4 = 0 → k 0 S5) ∧ (r4 = 0 → F_X12_isOpen a1 S5 (fun r7 S8 => ((r7 = 0 → B_X12_begin_32 a1 0 S8 k) ∧ (¬ r7 = 0 → B_X12_begin_32 a1 1 S8 k)))))))
set_option maxHeartbeats 4000000 in
set_option maxRecDepth 100000 in
theorem c_X12_begin (l : Launch) {D : va_G} {cy : Nat → ClassId} {b z : Nat} {tx : TX} {a1 : Int32} {S : sSt} {k : Int32 → sSt → Prop} (h : F_X12_begin a1 S k) : Met l yX12_begin (Cond.code yX12_begin cX12_begin 2 (some .int) :: TB) rm_X12_begin (va_Pc [.ref (b + adM 0 0), .int a1] (fun U => RelM D cy b z tx S U U.heap ∧ TxR tx U)) (PiM D cy b z tx k) 0 0 (gA b 12 z) := by
  refine Met.ofW (cc := cX12_begin) (maxL := 2) (ret := (some .int)) (by decide) rfl ?_
  intro p e s m args below meth c s₁ B hml hv
  obtain ⟨rfl, hR, hT⟩ := hv
  have C0 : CallFix p m c cX12_begin 2 s _ TB RX12 := ⟨B.exec, B.bytes, hml, findClass_of_methodNamed B.named, fun w hw => atoms_spec B.pre w (List.mem_cons_of_mem _ hw)⟩
  have hr := B.returns
  have hlk := B.notSynchronized
  have hx := C0.1
  have hb := C0.2.1
  have hS : va_S (gA b 12 z) s.heap s.heap [] := va_S.rf
  have hl := lv_entry ([.ref (b + adM 0 0), .int a1]) (n := 2) (Nat.le_of_ble_eq_true rfl)
  rw [lg_entry_eq]
  generalize (lg_sl ([.ref (b + adM 0 0), .int a1]) ++ List.replicate (2 - (lg_sl ([.ref (b + adM 0 0), .int a1])).length) Slot.unset).toArray = ls at hl ⊢
  have hl : lv_has ls 2 [(0, .ref (b + adM 0 0)), (1, .int a1)] := hl
  show W p l e rm_X12_begin s m _ below meth c s.heap [] 0 0 (MQ below (PiM D cy b z tx k) _ s 0 0 (gA b 12 z)) _
  unfold F_X12_begin at h
  refine lv_aload_n hx hb dX12_begin_0 rfl (lv_at hl 0 rfl) ?_
  refine lv_iconst (v := 0) hx hb dX12_begin_1 (by decide) ?_
  refine pM_0_0 C0 hR hS Nat.zero_lt_one tbs_wsX120 mM4_7_77 dX12_begin_2 (fun S1 eS1 H locs hR hS => ?_)
  have h := h S1 eS1
  refine lv_aload_n hx hb dX12_begin_5 rfl (lv_at hl 0 rfl) ?_
  refine lv_aload_n hx hb dX12_begin_6 rfl (lv_at hl 0 rfl) ?_
  refine lv_iload_n hx hb dX12_begin_7 rfl (lv_at hl 1 rfl) ?_
  refine qM_Vi (As := [.int a1]) (rest := [.ref (b + adM 0 0)]) C0 (c_X12_noSession l h) (cwV 1 C0.2.2.2.2 (tbV mM4_8_33 ⟨mM4_8_35, mpM4_3_14, mM4_1_11, mM4_8_36⟩) rfl rfl rfl (by decide +kernel) ⟨Nat.le_of_ble_eq_true rfl, Nat.le_of_ble_eq_true rfl⟩) (rcM_0 hR Nat.zero_lt_one) hR hT hS rfl hl.1 rfl (Nat.le_of_ble_eq_true rfl) dX12_begin_8 ⟨Nat.zero_le _, Nat.zero_le _⟩ (fun r2 S3 H locs h hR hS => ?_)
  refine lv_iconst (v := 1) hx hb dX12_begin_11 (by decide) ?_
  refine qM_Vi (As := [.int r2, .int 1]) (rest := []) C0 (c_X12_throwsIf l h) (cwV 2 C0.2.2.2.2 (tbV mM4_8_25 ⟨mM4_8_27, mpM4_3_13, mM4_1_11, mM4_8_28⟩) rfl rfl rfl (by decide +kernel) ⟨Nat.le_of_ble_eq_true rfl, Nat.le_of_ble_eq_true rfl⟩) (rcM_0 hR Nat.zero_lt_one) hR hT hS rfl hl.1 rfl (Nat.le_of_ble_eq_true rfl) dX12_begin_12 ⟨Nat.zero_le _, Nat.zero_le _⟩ (fun r4 S5 H locs h hR hS => ?_)
  refine lv_if_ne (tgt := 39) hx hb dX12_begin_15 (by decide) (fun c6 => ?_) (fun c6 => ?_)
  · have h := h.1 c6
    refine lv_iconst (v := 0) hx hb dX12_begin_39 (by decide) ?_
    exact rtM_i C0 hr hlk hR hS h dX12_begin_40
  · have h := h.2 c6
    refine lv_aload_n hx hb dX12_begin_18 rfl (lv_at hl 0 rfl) ?_
    refine lv_aload_n hx hb dX12_begin_19 rfl (lv_at hl 0 rfl) ?_
    refine lv_iload_n hx hb dX12_begin_20 rfl (lv_at hl 1 rfl) ?_
    refine qM_Vi (As := [.int a1]) (rest := [.ref (b + adM 0 0)]) C0 (c_X12_isOpen l h) (cwV 1 C0.2.2.2.2 (tbV mM4_8_87 ⟨mM4_8_89, mpM4_4_7, mM4_1_11, mM4_8_90⟩) rfl rfl rfl (by decide +kernel) ⟨Nat.le_of_ble_eq_true rfl, Nat.le_of_ble_eq_true rfl⟩) (rcM_0 hR Nat.zero_lt_one) hR hT hS rfl hl.1 rfl (Nat.le_of_ble_eq_true rfl) dX12_begin_21 ⟨Nat.zero_le _, Nat.zero_le _⟩ (fun r7 S8 H locs h hR hS => ?_)
    refine lv_if_eq (tgt := 31) hx hb dX12_begin_24 (by decide) (fun c9 => ?_) (fun c9 => ?_)
    · have h := h.1 c9
      refine lv_iconst (v := 0) hx hb dX12_begin_31 (by decide) ?_
      exact Bw_X12_begin_32 C0 hr hlk hT a1 0 S8 _ _ _ h hR hS (lv_sub hl [0, 1] rfl)
    · have h := h.2 c9
      refine lv_iconst (v := 1) hx hb dX12_begin_27 (by decide) ?_
      refine lv_goto (tgt := 32) hx hb dX12_begin_28 (by decide) ?_
      exact Bw_X12_begin_32 C0 hr hlk hT a1 1 S8 _ _ _ h hR hS (lv_sub hl [0, 1] rfl)

def rm_X12_saveAt : Room := { frames := 0, cells := 0, slots := 0, locals := 0 }
def F_X12_saveAt (a0 : Int32) (a1 : Int32) (a2 : Int32) (S : sSt) (k : Int32 → sSt → Prop) : Prop := k ((1589 + (552 * ((4 * a0) + a1))) + (23 * a2)) S
set_option maxHeartbeats 4000000 in
set_option maxRecDepth 100000 in
theorem c_X12_saveAt (l : Launch) {D : va_G} {cy : Nat → ClassId} {b z : Nat} {tx : TX} {a0 : Int32} {a1 : Int32} {a2 : Int32} {S : sSt} {k : Int32 → sSt → Prop} (h : F_X12_saveAt a0 a1 a2 S k) : Met l yX12_saveAt (Cond.code yX12_saveAt cX12_saveAt 3 (some .int) :: TB) rm_X12_saveAt (va_Pc [.int a0, .int a1, .int a2] (fun U => RelM D cy b z tx S U U.heap ∧ TxR tx U)) (PiM D cy b z tx k) 0 0 (gA b 12 z) := by
  refine Met.ofW (cc := cX12_saveAt) (maxL := 3) (ret := (some .int)) (by decide) rfl ?_
  intro p e s m args below meth c s₁ B hml hv
  obtain ⟨rfl, hR, hT⟩ := hv
  have C0 : CallFix p m c cX12_saveAt 3 s _ TB RX12 := ⟨B.exec, B.bytes, hml, findClass_of_methodNamed B.named, fun w hw => atoms_spec B.pre w (List.mem_cons_of_mem _ hw)⟩
  have hr := B.returns
  have hlk := B.notSynchronized
  have hx := C0.1
  have hb := C0.2.1
  have hS : va_S (gA b 12 z) s.heap s.heap [] := va_S.rf
  have hl := lv_entry ([.int a0, .int a1, .int a2]) (n := 3) (Nat.le_of_ble_eq_true rfl)
  rw [lg_entry_eq]
  generalize (lg_sl ([.int a0, .int a1, .int a2]) ++ List.replicate (3 - (lg_sl ([.int a0, .int a1, .int a2])).length) Slot.unset).toArray = ls at hl ⊢
  have hl : lv_has ls 3 [(0, .int a0), (1, .int a1), (2, .int a2)] := hl
  show W p l e rm_X12_saveAt s m _ below meth c s.heap [] 0 0 (MQ below (PiM D cy b z tx k) _ s 0 0 (gA b 12 z)) _
  unfold F_X12_saveAt at h
  refine lv_sipush (v := 1589) hx hb dX12_saveAt_0 (by decide) ?_
  refine lv_sipush (v := 552) hx hb dX12_saveAt_3 (by decide) ?_
  refine lv_iconst (v := 4) hx hb dX12_saveAt_6 (by decide) ?_
  refine lv_iload_n hx hb dX12_saveAt_7 rfl (lv_at hl 0 rfl) ?_
  refine lv_imul hx hb dX12_saveAt_8 ?_
  refine lv_iload_n hx hb dX12_saveAt_9 rfl (lv_at hl 1 rfl) ?_
  refine lv_iadd hx hb dX12_saveAt_10 ?_
  refine lv_imul hx hb dX12_saveAt_11 ?_
  refine lv_iadd hx hb dX12_saveAt_12 ?_
  refine lv_bipush (v := 23) hx hb dX12_saveAt_13 (by decide) ?_
  refine lv_iload_n hx hb dX12_saveAt_15 rfl (lv_at hl 2 rfl) ?_
  refine lv_imul hx hb dX12_saveAt_16 ?_
  refine lv_iadd hx hb dX12_saveAt_17 ?_
  exact rtM_i C0 hr hlk hR hS h dX12_saveAt_18

def rm_X12_save : Room := { frames := 2, cells := 0, slots := 0, locals := 44 }
def B_X12_save_107 (kk68 : Int32 → Int32 → Int32 → sSt → Prop) (a1 : Int32) (a2 : Int32) (a3 : Int32) (t1 : Int32) (t2 : Int32) (S : sSt) (k : Int32 → sSt → Prop) : Prop := ix t1 10421 (fun j27 => ∀ S28, S28 = uI S 1 0 j27 t2 → F_X12_jobAt a3 25 S28 (fun r29 S30 => F_X12_saveAt a1 a2 a3 S30 (fun r31 S32 => F_X12_copies r29 (r31 + 1) 22 S32 (fun S34 => ∀ x35 : Int32, x35 = a3 + 1 → kk68 a1 a2 x35 S34))))
set_option maxHeartbeats 4000000 in
set_option maxRecDepth 100000 in
theorem Bw_X12_save_107 {p : Program} {l : Launch} {e : Env} {s : State} {m : MethodId} {args : Array Value} {below : List Frame} {meth : Method} {c : Code} {D : va_G} {cy : Nat → ClassId} {b z : Nat} {tx : TX} (C0 : CallFix p m c cX12_save 4 s args TB RX12) (hr : meth.sig.returnType = (some .int)) (hlk : meth.locks = false) (hT : TxR tx s) {k : Int32 → sSt → Prop} {kk68 : Int32 → Int32 → Int32 → sSt → Prop} (ih68 : ∀ (a1 : Int32) (a2 : Int32) (a3 : Int32) (S : sSt) (H : Heap) (locs : List Loc) (ls : Array Slot) , kk68 a1 a2 a3 S → RelM D cy b z tx S s H → va_S (gA b 12 z) s.heap H locs → lv_has ls 4 [(0, .ref (b + adM 0 0)), (1, .int a1), (2, .int a2), (3, .int a3)] → W p l e rm_X12_save s m args below meth c H locs 0 0 (MQ below (PiM D cy b z tx k) args s 0 0 (gA b 12 z)) (F0 m 68 ls [])) : ∀ (a1 : Int32) (a2 : Int32) (a3 : Int32) (t1 : Int32) (t2 : Int32) (S : sSt) (H : Heap) (locs : List Loc) (ls : Array Slot) , B_X12_save_107 kk68 a1 a2 a3 t1 t2 S k → RelM D cy b z tx S s H → va_S (gA b 12 z) s.heap H locs → lv_has ls 4 [(0, .ref (b + adM 0 0)), (1, .int a1), (2, .int a2), (3, .int a3)] → W p l e rm_X12_save s m args below meth c H locs 0 0 (MQ below (PiM D cy b z tx k) args s 0 0 (gA b 12 z)) (F0 m 107 ls [.int t2, .int t1, .ref (b + adM 1 0)]) := by
  intro a1 a2 a3 t1 t2 S H locs ls h hR hS hl
  have hx := C0.1
  have hb := C0.2.1
  unfold B_X12_save_107 at h
  obtain ⟨j27, hj27, ej27, h⟩ := h
  refine sM_1 C0 hR hS Nat.zero_lt_one hj27 ej27 dX12_save_107 (fun S28 eS28 H locs hR hS => ?_)
  have h := h S28 eS28
  refine lv_aload_n hx hb dX12_save_108 rfl (lv_at hl 0 rfl) ?_
  refine lv_iload_n hx hb dX12_save_109 rfl (lv_at hl 3 rfl) ?_
  refine lv_bipush (v := 25) hx hb dX12_save_110 (by decide) ?_
  refine qM_Si (As := [.int a3, .int 25]) (rest := [.ref (b + adM 0 0)]) C0 (c_X12_jobAt l h) (va_cwS 2 C0.2.2.2.2 (tbS mM4_7_74 ⟨mM4_7_75, mM4_1_11, mM4_7_76⟩) rfl rfl rfl (by decide +kernel) ⟨Nat.le_of_ble_eq_true rfl, Nat.le_of_ble_eq_true rfl⟩) hR hT hS rfl hl.1 rfl (Nat.le_of_ble_eq_true rfl) dX12_save_112 ⟨Nat.zero_le _, Nat.zero_le _⟩ (fun r29 S30 H locs h hR hS => ?_)
  refine lv_iload_n hx hb dX12_save_115 rfl (lv_at hl 1 rfl) ?_
  refine lv_iload_n hx hb dX12_save_116 rfl (lv_at hl 2 rfl) ?_
  refine lv_iload_n hx hb dX12_save_117 rfl (lv_at hl 3 rfl) ?_
  refine qM_Si (As := [.int a1, .int a2, .int a3]) (rest := [.int r29, .ref (b + adM 0 0)]) C0 (c_X12_saveAt l h) (va_cwS 3 C0.2.2.2.2 (tbS mM4_8_103 ⟨mM4_8_104, mM4_1_11, mM4_8_105⟩) rfl rfl rfl (by decide +kernel) ⟨Nat.le_of_ble_eq_true rfl, Nat.le_of_ble_eq_true rfl⟩) hR hT hS rfl hl.1 rfl (Nat.le_of_ble_eq_true rfl) dX12_save_118 ⟨Nat.zero_le _, Nat.zero_le _⟩ (fun r31 S32 H locs h hR hS => ?_)
  refine lv_iconst (v := 1) hx hb dX12_save_121 (by decide) ?_
  refine lv_iadd hx hb dX12_save_122 ?_
  refine lv_bipush (v := 22) hx hb dX12_save_123 (by decide) ?_
  refine qM_Vv (As := [.int r29, .int (r31 + 1), .int 22]) (rest := []) C0 (c_X12_copies l h) (cwV 3 C0.2.2.2.2 (tbV mM4_8_110 ⟨mM4_8_112, mpM4_4_11, mM4_1_11, mM4_8_113⟩) rfl rfl rfl (by decide +kernel) ⟨Nat.le_of_ble_eq_true rfl, Nat.le_of_ble_eq_true rfl⟩) (rcM_0 hR Nat.zero_lt_one) hR hT hS rfl hl.1 rfl (Nat.le_of_ble_eq_true rfl) dX12_save_125 ⟨Nat.zero_le _, Nat.zero_le _⟩ (fun S34 H locs h hR hS => ?_)
  obtain ⟨x35, ex35⟩ : ∃ x35 : Int32, x35 = a3 + 1 := ⟨_, rfl⟩
  have h := h x35 ex35
  refine w_iinc (v0 := 1) (lv' := [(3, .int x35), (0, .ref (b + adM 0 0)), (1, .int a1), (2, .int a2)]) C0 dX12_save_128 hl (k := 3) rfl (by decide) (by decide) x35 ex35 rfl (fun ls hl => ?_)
  refine lv_goto (tgt := 68) hx hb dX12_save_131 (by decide) ?_
  exact ih68 a1 a2 x35 S34 _ _ _  h hR hS (lv_sub hl [1, 2, 3, 0] rfl)
def B_X12_save_106 (kk68 : Int32 → Int32 → Int32 → sSt → Prop) (a1 : Int32) (a2 : Int32) (a3 : Int32) (t1 : Int32) (S : sSt) (k : Int32 → sSt → Prop) : Prop := B_X12_save_107 kk68 a1 a2 a3 t1 0 S k
set_option maxHeartbeats 4000000 in
set_option maxRecDepth 100000 in
theorem Bw_X12_save_106 {p : Program} {l : Launch} {e : Env} {s : State} {m : MethodId} {args : Array Value} {below : List Frame} {meth : Method} {c : Code} {D : va_G} {cy : Nat → ClassId} {b z : Nat} {tx : TX} (C0 : CallFix p m c cX12_save 4 s args TB RX12) (hr : meth.sig.returnType = (some .int)) (hlk : meth.locks = false) (hT : TxR tx s) {k : Int32 → sSt → Prop} {kk68 : Int32 → Int32 → Int32 → sSt → Prop} (ih68 : ∀ (a1 : Int32) (a2 : Int32) (a3 : Int32) (S : sSt) (H : Heap) (locs : List Loc) (ls : Array Slot) , kk68 a1 a2 a3 S → RelM D cy b z tx S s H → va_S (gA b 12 z) s.heap H locs → lv_has ls 4 [(0, .ref (b + adM 0 0)), (1, .int a1), (2, .int a2), (3, .int a3)] → W p l e rm_X12_save s m args below meth c H locs 0 0 (MQ below (PiM D cy b z tx k) args s 0 0 (gA b 12 z)) (F0 m 68 ls [])) : ∀ (a1 : Int32) (a2 : Int32) (a3 : Int32) (t1 : Int32) (S : sSt) (H : Heap) (locs : List Loc) (ls : Array Slot) , B_X12_save_106 kk68 a1 a2 a3 t1 S k → RelM D cy b z tx S s H → va_S (gA b 12 z) s.heap H locs → lv_has ls 4 [(0, .ref (b + adM 0 0)), (1, .int a1), (2, .int a2), (3, .int a3)] → W p l e rm_X12_save s m args below meth c H locs 0 0 (MQ below (PiM D cy b z tx k) args s 0 0 (gA b 12 z)) (F0 m 106 ls [.int t1, .ref (b + adM 1 0)]) := by
  intro a1 a2 a3 t1 S H locs ls h hR hS hl
  have hx := C0.1
  have hb := C0.2.1
  unfold B_X12_save_106 at h
  refine lv_iconst (v := 0) hx hb dX12_save_106 (by decide) ?_
  exact Bw_X12_save_107 C0 hr hlk hT ih68 a1 a2 a3 t1 0 S _ _ _ h hR hS (lv_sub hl [0, 1, 2, 3] rfl)
def Bb_X12_save_68 (kk68 : Int32 → Int32 → Int32 → sSt → Prop) (a1 : Int32) (a2 : Int32) (a3 : Int32) (S : sSt) (k : Int32 → sSt → Prop) : Prop := ((24 ≤ a3 → F_X12_sessionAt a1 3 S (fun r18 S19 => ix r18 10421 (fun j20 => ∀ S21, S21 = uI S19 1 0 j20 (a2 + 1) → k a2 S21))) ∧ (¬ 24 ≤ a3 → F_X12_saveAt a1 a2 a3 S (fun r22 S23 => F_X12_numberOf a3 S23 (fun r24 S25 => ((r24 = (-1) → B_X12_save_106 kk68 a1 a2 a3 r22 S25 k) ∧ (¬ r24 = (-1) → F_X12_lockerOf a3 S25 (fun r36 S37 => ((¬ r36 = a1 → B_X12_save_106 kk68 a1 a2 a3 r22 S37 k) ∧ (r36 = a1 → B_X12_save_107 kk68 a1 a2 a3 r22 1 S37 k)))))))))
set_option maxHeartbeats 4000000 in
set_option maxRecDepth 100000 in
theorem Bbw_X12_save_68 {p : Program} {l : Launch} {e : Env} {s : State} {m : MethodId} {args : Array Value} {below : List Frame} {meth : Method} {c : Code} {D : va_G} {cy : Nat → ClassId} {b z : Nat} {tx : TX} (C0 : CallFix p m c cX12_save 4 s args TB RX12) (hr : meth.sig.returnType = (some .int)) (hlk : meth.locks = false) (hT : TxR tx s) {k : Int32 → sSt → Prop} {kk68 : Int32 → Int32 → Int32 → sSt → Prop} (ih68 : ∀ (a1 : Int32) (a2 : Int32) (a3 : Int32) (S : sSt) (H : Heap) (locs : List Loc) (ls : Array Slot) , kk68 a1 a2 a3 S → RelM D cy b z tx S s H → va_S (gA b 12 z) s.heap H locs → lv_has ls 4 [(0, .ref (b + adM 0 0)), (1, .int a1), (2, .int a2), (3, .int a3)] → W p l e rm_X12_save s m args below meth c H locs 0 0 (MQ below (PiM D cy b z tx k) args s 0 0 (gA b 12 z)) (F0 m 68 ls [])) : ∀ (a1 : Int32) (a2 : Int32) (a3 : Int32) (S : sSt) (H : Heap) (locs : List Loc) (ls : Array Slot) , Bb_X12_save_68 kk68 a1 a2 a3 S k → RelM D cy b z tx S s H → va_S (gA b 12 z) s.heap H locs → lv_has ls 4 [(0, .ref (b + adM 0 0)), (1, .int a1), (2, .int a2), (3, .int a3)] → W p l e rm_X12_save s m args below meth c H locs 0 0 (MQ below (PiM D cy b z tx k) args s 0 0 (gA b 12 z)) (F0 m 68 ls []) := by
  intro a1 a2 a3 S H locs ls h hR hS hl
  have hx := C0.1
  have hb := C0.2.1
  unfold Bb_X12_save_68 at h
  refine lv_iload_n hx hb dX12_save_68 rfl (lv_at hl 3 rfl) ?_
  refine lv_bipush (v := 24) hx hb dX12_save_69 (by decide) ?_
  refine lv_icmp_ge (tgt := 134) hx hb dX12_save_71 (by decide) (fun c17 => ?_) (fun c17 => ?_)
  · have h := h.1 c17
    refine lv_aload_n hx hb dX12_save_134 rfl (lv_at hl 0 rfl) ?_
    refine gM_0_2 C0 hR Nat.zero_lt_one tbs_wsX120 mM4_7_79 dX12_save_135 ?_
    refine lv_iload_n hx hb dX12_save_138 rfl (lv_at hl 1 rfl) ?_
    refine lv_iconst (v := 3) hx hb dX12_save_139 (by decide) ?_
    refine qM_Si (As := [.int a1, .int 3]) (rest := [.ref (b + adM 1 0)]) C0 (c_X12_sessionAt l h) (va_cwS 2 C0.2.2.2.2 (tbS mM4_7_233 ⟨mM4_7_234, mM4_1_11, mM4_7_235⟩) rfl rfl rfl (by decide +kernel) ⟨Nat.le_of_ble_eq_true rfl, Nat.le_of_ble_eq_true rfl⟩) hR hT hS rfl hl.1 rfl (Nat.le_of_ble_eq_true rfl) dX12_save_140 ⟨Nat.zero_le _, Nat.zero_le _⟩ (fun r18 S19 H locs h hR hS => ?_)
    refine lv_iload_n hx hb dX12_save_143 rfl (lv_at hl 2 rfl) ?_
    refine lv_iconst (v := 1) hx hb dX12_save_144 (by decide) ?_
    refine lv_iadd hx hb dX12_save_145 ?_
    obtain ⟨j20, hj20, ej20, h⟩ := h
    refine sM_1 C0 hR hS Nat.zero_lt_one hj20 ej20 dX12_save_146 (fun S21 eS21 H locs hR hS => ?_)
    have h := h S21 eS21
    refine lv_iload_n hx hb dX12_save_147 rfl (lv_at hl 2 rfl) ?_
    exact rtM_i C0 hr hlk hR hS h dX12_save_148
  · have h := h.2 c17
    refine lv_aload_n hx hb dX12_save_74 rfl (lv_at hl 0 rfl) ?_
    refine gM_0_2 C0 hR Nat.zero_lt_one tbs_wsX120 mM4_7_79 dX12_save_75 ?_
    refine lv_iload_n hx hb dX12_save_78 rfl (lv_at hl 1 rfl) ?_
    refine lv_iload_n hx hb dX12_save_79 rfl (lv_at hl 2 rfl) ?_
    refine lv_iload_n hx hb dX12_save_80 rfl (lv_at hl 3 rfl) ?_
    refine qM_Si (As := [.int a1, .int a2, .int a3]) (rest := [.ref (b + adM 1 0)]) C0 (c_X12_saveAt l h) (va_cwS 3 C0.2.2.2.2 (tbS mM4_8_103 ⟨mM4_8_104, mM4_1_11, mM4_8_105⟩) rfl rfl rfl (by decide +kernel) ⟨Nat.le_of_ble_eq_true rfl, Nat.le_of_ble_eq_true rfl⟩) hR hT hS rfl hl.1 rfl (Nat.le_of_ble_eq_true rfl) dX12_save_81 ⟨Nat.zero_le _, Nat.zero_le _⟩ (fun r22 S23 H locs h hR hS => ?_)
    refine lv_aload_n hx hb dX12_save_84 rfl (lv_at hl 0 rfl) ?_
    refine lv_iload_n hx hb dX12_save_85 rfl (lv_at hl 3 rfl) ?_
    refine qM_Vi (As := [.int a3]) (rest := [.int r22, .ref (b + adM 1 0)]) C0 (c_X12_numberOf l h) (cwV 1 C0.2.2.2.2 (tbV mM4_7_202 ⟨mM4_7_204, mpM4_3_3, mM4_1_11, mM4_7_205⟩) rfl rfl rfl (by decide +kernel) ⟨Nat.le_of_ble_eq_true rfl, Nat.le_of_ble_eq_true rfl⟩) (rcM_0 hR Nat.zero_lt_one) hR hT hS rfl hl.1 rfl (Nat.le_of_ble_eq_true rfl) dX12_save_86 ⟨Nat.zero_le _, Nat.zero_le _⟩ (fun r24 S25 H locs h hR hS => ?_)
    refine lv_iconst (v := (-1)) hx hb dX12_save_89 (by decide) ?_
    refine lv_icmp_eq (tgt := 106) hx hb dX12_save_90 (by decide) (fun c26 => ?_) (fun c26 => ?_)
    · have h := h.1 c26
      exact Bw_X12_save_106 C0 hr hlk hT ih68 a1 a2 a3 r22 S25 _ _ _ h hR hS (lv_sub hl [0, 1, 2, 3] rfl)
    · have h := h.2 c26
      refine lv_aload_n hx hb dX12_save_93 rfl (lv_at hl 0 rfl) ?_
      refine lv_iload_n hx hb dX12_save_94 rfl (lv_at hl 3 rfl) ?_
      refine qM_Vi (As := [.int a3]) (rest := [.int r22, .ref (b + adM 1 0)]) C0 (c_X12_lockerOf l h) (cwV 1 C0.2.2.2.2 (tbV mM4_8_106 ⟨mM4_8_108, mpM4_4_10, mM4_1_11, mM4_8_109⟩) rfl rfl rfl (by decide +kernel) ⟨Nat.le_of_ble_eq_true rfl, Nat.le_of_ble_eq_true rfl⟩) (rcM_0 hR Nat.zero_lt_one) hR hT hS rfl hl.1 rfl (Nat.le_of_ble_eq_true rfl) dX12_save_95 ⟨Nat.zero_le _, Nat.zero_le _⟩ (fun r36 S37 H locs h hR hS => ?_)
      refine lv_iload_n hx hb dX12_save_98 rfl (lv_at hl 1 rfl) ?_
      refine lv_icmp_ne (tgt := 106) hx hb dX12_save_99 (by decide) (fun c38 => ?_) (fun c38 => ?_)
      · have h := h.1 c38
        exact Bw_X12_save_106 C0 hr hlk hT ih68 a1 a2 a3 r22 S37 _ _ _ h hR hS (lv_sub hl [0, 1, 2, 3] rfl)
      · have h := h.2 c38
        refine lv_iconst (v := 1) hx hb dX12_save_102 (by decide) ?_
        refine lv_goto (tgt := 107) hx hb dX12_save_103 (by decide) ?_
        exact Bw_X12_save_107 C0 hr hlk hT ih68 a1 a2 a3 r22 1 S37 _ _ _ h hR hS (lv_sub hl [0, 1, 2, 3] rfl)
def B_X12_save_68 (n9 : Nat) (a1 : Int32) (a2 : Int32) (a3 : Int32) (S : sSt) (k : Int32 → sSt → Prop) : Prop := (Nat.rec (motive := fun _ => Int32 → Int32 → Int32 → sSt → Prop) (fun _ _ _ _ => False) (fun _ r9 => fun a1 a2 a3 S => Bb_X12_save_68 r9 a1 a2 a3 S k) n9 : Int32 → Int32 → Int32 → sSt → Prop) a1 a2 a3 S
theorem B_X12_save_68_s (n9 : Nat) (a1 : Int32) (a2 : Int32) (a3 : Int32) (S : sSt) (k : Int32 → sSt → Prop) : B_X12_save_68 (n9 + 1) a1 a2 a3 S k = Bb_X12_save_68 (fun a1 a2 a3 S => B_X12_save_68 n9 a1 a2 a3 S k) a1 a2 a3 S k := rfl
set_option maxHeartbeats 4000000 in
set_option maxRecDepth 100000 in
theorem Bw_X12_save_68 {p : Program} {l : Launch} {e : Env} {s : State} {m : MethodId} {args : Array Value} {below : List Frame} {meth : Method} {c : Code} {D : va_G} {cy : Nat → ClassId} {b z : Nat} {tx : TX} (C0 : CallFix p m c cX12_save 4 s args TB RX12) (hr : meth.sig.returnType = (some .int)) (hlk : meth.locks = false) (hT : TxR tx s) {k : Int32 → sSt → Prop} : ∀ (n9 : Nat), ∀ (a1 : Int32) (a2 : Int32) (a3 : Int32) (S : sSt) (H : Heap) (locs : List Loc) (ls : Array Slot) , B_X12_save_68 n9 a1 a2 a3 S k → RelM D cy b z tx S s H → va_S (gA b 12 z) s.heap H locs → lv_has ls 4 [(0, .ref (b + adM 0 0)), (1, .int a1), (2, .int a2), (3, .int a3)] → W p l e rm_X12_save s m args below meth c H locs 0 0 (MQ below (PiM D cy b z tx k) args s 0 0 (gA b 12 z)) (F0 m 68 ls []) := by
  intro n9
  induction n9 with
  | zero => intro a1 a2 a3 S H locs ls h; exact h.elim
  | succ n9 ih =>
    intro a1 a2 a3 S H locs ls h hR hS hl
    exact Bbw_X12_save_68 C0 hr hlk hT ih a1 a2 a3 S H locs ls h hR hS hl
def B_X12_save_46 (a1 : Int32) (t1 : Int32) (S : sSt) (k : Int32 → sSt → Prop) : Prop := F_X12_refuses t1 2 S (fun r10 S11 => ((r10 = 0 → F_X12_sessionAt a1 3 S11 (fun r13 S14 => ix r13 10421 (fun j15 => ∀ x16 : Int32, x16 = (S14.1 1 0 j15) → B_X12_save_68 fuel a1 x16 0 S14 k))) ∧ (¬ r10 = 0 → k 0 S11)))
set_option maxHeartbeats 4000000 in
set_option maxRecDepth 100000 in
theorem Bw_X12_save_46 {p : Program} {l : Launch} {e : Env} {s : State} {m : MethodId} {args : Array Value} {below : List Frame} {meth : Method} {c : Code} {D : va_G} {cy : Nat → ClassId} {b z : Nat} {tx : TX} (C0 : CallFix p m c cX12_save 4 s args TB RX12) (hr : meth.sig.returnType = (some .int)) (hlk : meth.locks = false) (hT : TxR tx s) {k : Int32 → sSt → Prop} : ∀ (a1 : Int32) (t1 : Int32) (S : sSt) (H : Heap) (locs : List Loc) (ls : Array Slot) , B_X12_save_46 a1 t1 S k → RelM D cy b z tx S s H → va_S (gA b 12 z) s.heap H locs → lv_has ls 4 [(0, .ref (b + adM 0 0)), (1, .int a1)] → W p l e rm_X12_save s m args below meth c H locs 0 0 (MQ below (PiM D cy b z tx k) args s 0 0 (gA b 12 z)) (F0 m 46 ls [.int t1, .ref (b + adM 0 0)]) := by
  intro a1 t1 S H locs ls h hR hS hl
  have hx := C0.1
  have hb := C0.2.1
  unfold B_X12_save_46 at h
  refine lv_iconst (v := 2) hx hb dX12_save_46 (by decide) ?_
  refine qM_Vi (As := [.int t1, .int 2]) (rest := []) C0 (c_X12_refuses l h) (cwV 2 C0.2.2.2.2 (tbV mM4_8_91 ⟨mM4_8_93, mpM4_4_8, mM4_1_11, mM4_8_94⟩) rfl rfl rfl (by decide +kernel) ⟨Nat.le_of_ble_eq_true rfl, Nat.le_of_ble_eq_true rfl⟩) (rcM_0 hR Nat.zero_lt_one) hR hT hS rfl hl.1 rfl (Nat.le_of_ble_eq_true rfl) dX12_save_47 ⟨Nat.zero_le _, Nat.zero_le _⟩ (fun r10 S11 H locs h hR hS => ?_)
  refine lv_if_eq (tgt := 55) hx hb dX12_save_50 (by decide) (fun c12 => ?_) (fun c12 => ?_)
  · have h := h.1 c12
    refine lv_aload_n hx hb dX12_save_55 rfl (lv_at hl 0 rfl) ?_
    refine gM_0_2 C0 hR Nat.zero_lt_one tbs_wsX120 mM4_7_79 dX12_save_56 ?_
    refine lv_iload_n hx hb dX12_save_59 rfl (lv_at hl 1 rfl) ?_
    refine lv_iconst (v := 3) hx hb dX12_save_60 (by decide) ?_
    refine qM_Si (As := [.int a1, .int 3]) (rest := [.ref (b + adM 1 0)]) C0 (c_X12_sessionAt l h) (va_cwS 2 C0.2.2.2.2 (tbS mM4_7_233 ⟨mM4_7_234, mM4_1_11, mM4_7_235⟩) rfl rfl rfl (by decide +kernel) ⟨Nat.le_of_ble_eq_true rfl, Nat.le_of_ble_eq_true rfl⟩) hR hT hS rfl hl.1 rfl (Nat.le_of_ble_eq_true rfl) dX12_save_61 ⟨Nat.zero_le _, Nat.zero_le _⟩ (fun r13 S14 H locs h hR hS => ?_)
    obtain ⟨j15, hj15, ej15, h⟩ := h
    refine lM_1 C0 hR Nat.zero_lt_one hj15 ej15 dX12_save_64 ?_
    refine lv_topi (fun x16 ex16 => ?_)
    have h := h x16 ex16
    refine lv_istore_n (lv' := [(2, .int x16), (0, .ref (b + adM 0 0)), (1, .int a1)]) hx hb dX12_save_65 rfl hl (by decide) rfl (fun ls hl => ?_)
    refine lv_iconst (v := 0) hx hb dX12_save_66 (by decide) ?_
    refine lv_istore_n (lv' := [(3, .int 0), (2, .int x16), (0, .ref (b + adM 0 0)), (1, .int a1)]) hx hb dX12_save_67 rfl hl (by decide) rfl (fun ls hl => ?_)
    exact Bw_X12_save_68 C0 hr hlk hT fuel a1 x16 0 S14 _ _ _ h hR hS (lv_sub hl [2, 3, 1, 0] rfl)
  · have h := h.2 c12
    refine lv_iconst (v := 0) hx hb dX12_save_53 (by decide) ?_
    exact rtM_i C0 hr hlk hR hS h dX12_save_54
def B_X12_save_41 (a1 : Int32) (S : sSt) (k : Int32 → sSt → Prop) : Prop := B_X12_save_46 a1 1 S k
set_option maxHeartbeats 4000000 in
set_option maxRecDepth 100000 in
theorem Bw_X12_save_41 {p : Program} {l : Launch} {e : Env} {s : State} {m : MethodId} {args : Array Value} {below : List Frame} {meth : Method} {c : Code} {D : va_G} {cy : Nat → ClassId} {b z : Nat} {tx : TX} (C0 : CallFix p m c cX12_save 4 s args TB RX12) (hr : meth.sig.returnType = (some .int)) (hlk : meth.locks = false) (hT : TxR tx s) {k : Int32 → sSt → Prop} : ∀ (a1 : Int32) (S : sSt) (H : Heap) (locs : List Loc) (ls : Array Slot) , B_X12_save_41 a1 S k → RelM D cy b z tx S s H → va_S (gA b 12 z) s.heap H locs → lv_has ls 4 [(0, .ref (b + adM 0 0)), (1, .int a1)] → W p l e rm_X12_save s m args below meth c H locs 0 0 (MQ below (PiM D cy b z tx k) args s 0 0 (gA b 12 z)) (F0 m 41 ls [.ref (b + adM 0 0)]) := by
  intro a1 S H locs ls h hR hS hl
  have hx := C0.1
  have hb := C0.2.1
  unfold B_X12_save_41 at h
  refine lv_iconst (v := 1) hx hb dX12_save_41 (by decide) ?_
  refine lv_goto (tgt := 46) hx hb dX12_save_42 (by decide) ?_
  exact Bw_X12_save_46 C0 hr hlk hT a1 1 S _ _ _ h hR hS (lv_sub hl [0, 1] rfl)
def F_X12_save (a1 : Int32) (S : sSt) (k : Int32 → sSt → Prop) : Prop := ∀ S1, S1 = uI S 0 0 0 0 → F_X12_noSession a1 S1 (fun r2 S3 => F_X12_throwsIf r2 1 S3 (fun r4 S5 => ((¬ r4 = 0 → k 0 S5) ∧ (r4 = 0 → F_X12_isOpen a1 S5 (fun r7 S8 => ((r7 = 0 → B_X12_save_41 a1 S8 k) ∧ (¬ r7 = 0 → F_X12_sessionAt a1 3 S8 (fun r39 S40 => ix r39 10421 (fun j41 => ((¬ (S40.1 1 0 j41) = 4 → B_X12_save_46 a1 0 S40 k) ∧ ((S40.1 1 0 j41) = 4 → B_X12_save_41 a1 S40 k)))))))))))
set_option maxHeartbeats 4000000 in
set_option maxRecDepth 100000 in
theorem c_X12_save (l : Launch) {D : va_G} {cy : Nat → ClassId} {b z : Nat} {tx : TX} {a1 : Int32} {S : sSt} {k : Int32 → sSt → Prop} (h : F_X12_save a1 S k) : Met l yX12_save (Cond.code yX12_save cX12_save 4 (some .int) :: TB) rm_X12_save (va_Pc [.ref (b + adM 0 0), .int a1] (fun U => RelM D cy b z tx S U U.heap ∧ TxR tx U)) (PiM D cy b z tx k) 0 0 (gA b 12 z) := by
  refine Met.ofW (cc := cX12_save) (maxL := 4) (ret := (some .int)) (by decide) rfl ?_
  intro p e s m args below meth c s₁ B hml hv
  obtain ⟨rfl, hR, hT⟩ := hv
  have C0 : CallFix p m c cX12_save 4 s _ TB RX12 := ⟨B.exec, B.bytes, hml, findClass_of_methodNamed B.named, fun w hw => atoms_spec B.pre w (List.mem_cons_of_mem _ hw)⟩
  have hr := B.returns
  have hlk := B.notSynchronized
  have hx := C0.1
  have hb := C0.2.1
  have hS : va_S (gA b 12 z) s.heap s.heap [] := va_S.rf
  have hl := lv_entry ([.ref (b + adM 0 0), .int a1]) (n := 4) (Nat.le_of_ble_eq_true rfl)
  rw [lg_entry_eq]
  generalize (lg_sl ([.ref (b + adM 0 0), .int a1]) ++ List.replicate (4 - (lg_sl ([.ref (b + adM 0 0), .int a1])).length) Slot.unset).toArray = ls at hl ⊢
  have hl : lv_has ls 4 [(0, .ref (b + adM 0 0)), (1, .int a1)] := hl
  show W p l e rm_X12_save s m _ below meth c s.heap [] 0 0 (MQ below (PiM D cy b z tx k) _ s 0 0 (gA b 12 z)) _
  unfold F_X12_save at h
  refine lv_aload_n hx hb dX12_save_0 rfl (lv_at hl 0 rfl) ?_
  refine lv_iconst (v := 0) hx hb dX12_save_1 (by decide) ?_
  refine pM_0_0 C0 hR hS Nat.zero_lt_one tbs_wsX120 mM4_7_77 dX12_save_2 (fun S1 eS1 H locs hR hS => ?_)
  have h := h S1 eS1
  refine lv_aload_n hx hb dX12_save_5 rfl (lv_at hl 0 rfl) ?_
  refine lv_aload_n hx hb dX12_save_6 rfl (lv_at hl 0 rfl) ?_
  refine lv_iload_n hx hb dX12_save_7 rfl (lv_at hl 1 rfl) ?_
  refine qM_Vi (As := [.int a1]) (rest := [.ref (b + adM 0 0)]) C0 (c_X12_noSession l h) (cwV 1 C0.2.2.2.2 (tbV mM4_8_33 ⟨mM4_8_35, mpM4_3_14, mM4_1_11, mM4_8_36⟩) rfl rfl rfl (by decide +kernel) ⟨Nat.le_of_ble_eq_true rfl, Nat.le_of_ble_eq_true rfl⟩) (rcM_0 hR Nat.zero_lt_one) hR hT hS rfl hl.1 rfl (Nat.le_of_ble_eq_true rfl) dX12_save_8 ⟨Nat.zero_le _, Nat.zero_le _⟩ (fun r2 S3 H locs h hR hS => ?_)
  refine lv_iconst (v := 1) hx hb dX12_save_11 (by decide) ?_
  refine qM_Vi (As := [.int r2, .int 1]) (rest := []) C0 (c_X12_throwsIf l h) (cwV 2 C0.2.2.2.2 (tbV mM4_8_25 ⟨mM4_8_27, mpM4_3_13, mM4_1_11, mM4_8_28⟩) rfl rfl rfl (by decide +kernel) ⟨Nat.le_of_ble_eq_true rfl, Nat.le_of_ble_eq_true rfl⟩) (rcM_0 hR Nat.zero_lt_one) hR hT hS rfl hl.1 rfl (Nat.le_of_ble_eq_true rfl) dX12_save_12 ⟨Nat.zero_le _, Nat.zero_le _⟩ (fun r4 S5 H locs h hR hS => ?_)
  refine lv_if_ne (tgt := 53) hx hb dX12_save_15 (by decide) (fun c6 => ?_) (fun c6 => ?_)
  · have h := h.1 c6
    refine lv_iconst (v := 0) hx hb dX12_save_53 (by decide) ?_
    exact rtM_i C0 hr hlk hR hS h dX12_save_54
  · have h := h.2 c6
    refine lv_aload_n hx hb dX12_save_18 rfl (lv_at hl 0 rfl) ?_
    refine lv_aload_n hx hb dX12_save_19 rfl (lv_at hl 0 rfl) ?_
    refine lv_iload_n hx hb dX12_save_20 rfl (lv_at hl 1 rfl) ?_
    refine qM_Vi (As := [.int a1]) (rest := [.ref (b + adM 0 0)]) C0 (c_X12_isOpen l h) (cwV 1 C0.2.2.2.2 (tbV mM4_8_87 ⟨mM4_8_89, mpM4_4_7, mM4_1_11, mM4_8_90⟩) rfl rfl rfl (by decide +kernel) ⟨Nat.le_of_ble_eq_true rfl, Nat.le_of_ble_eq_true rfl⟩) (rcM_0 hR Nat.zero_lt_one) hR hT hS rfl hl.1 rfl (Nat.le_of_ble_eq_true rfl) dX12_save_21 ⟨Nat.zero_le _, Nat.zero_le _⟩ (fun r7 S8 H locs h hR hS => ?_)
    refine lv_if_eq (tgt := 41) hx hb dX12_save_24 (by decide) (fun c9 => ?_) (fun c9 => ?_)
    · have h := h.1 c9
      exact Bw_X12_save_41 C0 hr hlk hT a1 S8 _ _ _ h hR hS (lv_sub hl [0, 1] rfl)
    · have h := h.2 c9
      refine lv_aload_n hx hb dX12_save_27 rfl (lv_at hl 0 rfl) ?_
      refine gM_0_2 C0 hR Nat.zero_lt_one tbs_wsX120 mM4_7_79 dX12_save_28 ?_
      refine lv_iload_n hx hb dX12_save_31 rfl (lv_at hl 1 rfl) ?_
      refine lv_iconst (v := 3) hx hb dX12_save_32 (by decide) ?_
      refine qM_Si (As := [.int a1, .int 3]) (rest := [.ref (b + adM 1 0), .ref (b + adM 0 0)]) C0 (c_X12_sessionAt l h) (va_cwS 2 C0.2.2.2.2 (tbS mM4_7_233 ⟨mM4_7_234, mM4_1_11, mM4_7_235⟩) rfl rfl rfl (by decide +kernel) ⟨Nat.le_of_ble_eq_true rfl, Nat.le_of_ble_eq_true rfl⟩) hR hT hS rfl hl.1 rfl (Nat.le_of_ble_eq_true rfl) dX12_save_33 ⟨Nat.zero_le _, Nat.zero_le _⟩ (fun r39 S40 H locs h hR hS => ?_)
      obtain ⟨j41, hj41, ej41, h⟩ := h
      refine lM_1 C0 hR Nat.zero_lt_one hj41 ej41 dX12_save_36 ?_
      refine lv_iconst (v := 4) hx hb dX12_save_37 (by decide) ?_
      refine lv_icmp_ne (tgt := 45) hx hb dX12_save_38 (by decide) (fun c42 => ?_) (fun c42 => ?_)
      · have h := h.1 c42
        refine lv_iconst (v := 0) hx hb dX12_save_45 (by decide) ?_
        exact Bw_X12_save_46 C0 hr hlk hT a1 0 S40 _ _ _ h hR hS (lv_sub hl [0, 1] rfl)
      · have h := h.2 c42
        exact Bw_X12_save_41 C0 hr hlk hT a1 S40 _ _ _ h hR hS (lv_sub hl [0, 1] rfl)

def rm_X12_undo : Room := { frames := 4, cells := 0, slots := 0, locals := 84 }
def B_X12_undo_162 (kk82 : Int32 → Int32 → Int32 → Int32 → sSt → Prop) (a1 : Int32) (a2 : Int32) (a3 : Int32) (a4 : Int32) (S : sSt) (k : Int32 → sSt → Prop) : Prop := ∀ x28 : Int32, x28 = a4 + 1 → kk82 a1 a2 a3 x28 S
set_option maxHeartbeats 4000000 in
set_option maxRecDepth 100000 in
theorem Bw_X12_undo_162 {p : Program} {l : Launch} {e : Env} {s : State} {m : MethodId} {args : Array Value} {below : List Frame} {meth : Method} {c : Code} {D : va_G} {cy : Nat → ClassId} {b z : Nat} {tx : TX} (C0 : CallFix p m c cX12_undo 5 s args TB RX12) (hr : meth.sig.returnType = (some .int)) (hlk : meth.locks = false) (hT : TxR tx s) {k : Int32 → sSt → Prop} {kk82 : Int32 → Int32 → Int32 → Int32 → sSt → Prop} (ih82 : ∀ (a1 : Int32) (a2 : Int32) (a3 : Int32) (a4 : Int32) (S : sSt) (H : Heap) (locs : List Loc) (ls : Array Slot) , kk82 a1 a2 a3 a4 S → RelM D cy b z tx S s H → va_S (gA b 12 z) s.heap H locs → lv_has ls 5 [(0, .ref (b + adM 0 0)), (1, .int a1), (2, .int a2), (3, .int a3), (4, .int a4)] → W p l e rm_X12_undo s m args below meth c H locs 0 0 (MQ below (PiM D cy b z tx k) args s 0 0 (gA b 12 z)) (F0 m 82 ls [])) : ∀ (a1 : Int32) (a2 : Int32) (a3 : Int32) (a4 : Int32) (S : sSt) (H : Heap) (locs : List Loc) (ls : Array Slot) , B_X12_undo_162 kk82 a1 a2 a3 a4 S k → RelM D cy b z tx S s H → va_S (gA b 12 z) s.heap H locs → lv_has ls 5 [(0, .ref (b + adM 0 0)), (1, .int a1), (2, .int a2), (3, .int a3), (4, .int a4)] → W p l e rm_X12_undo s m args below meth c H locs 0 0 (MQ below (PiM D cy b z tx k) args s 0 0 (gA b 12 z)) (F0 m 162 ls []) := by
  intro a1 a2 a3 a4 S H locs ls h hR hS hl
  have hx := C0.1
  have hb := C0.2.1
  unfold B_X12_undo_162 at h
  obtain ⟨x28, ex28⟩ : ∃ x28 : Int32, x28 = a4 + 1 := ⟨_, rfl⟩
  have h := h x28 ex28
  refine w_iinc (v0 := 1) (lv' := [(4, .int x28), (0, .ref (b + adM 0 0)), (1, .int a1), (2, .int a2), (3, .int a3)]) C0 dX12_undo_162 hl (k := 4) rfl (by decide) (by decide) x28 ex28 rfl (fun ls hl => ?_)
  refine lv_goto (tgt := 82) hx hb dX12_undo_165 (by decide) ?_
  exact ih82 a1 a2 a3 x28 S _ _ _  h hR hS (lv_sub hl [1, 2, 3, 4, 0] rfl)
def Bb_X12_undo_82 (kk82 : Int32 → Int32 → Int32 → Int32 → sSt → Prop) (a1 : Int32) (a2 : Int32) (a3 : Int32) (a4 : Int32) (S : sSt) (k : Int32 → sSt → Prop) : Prop := ((24 ≤ a4 → F_X12_sessionAt a1 3 S (fun r21 S22 => ix r21 10421 (fun j23 => ∀ S24, S24 = uI S22 1 0 j23 (a2 + 1) → k a3 S24))) ∧ (¬ 24 ≤ a4 → F_X12_numberOf a4 S (fun r25 S26 => ((r25 = (-1) → B_X12_undo_162 kk82 a1 a2 a3 a4 S26 k) ∧ (¬ r25 = (-1) → F_X12_lockerOf a4 S26 (fun r29 S30 => ((r29 = a1 → F_X12_saveAt a1 a2 a4 S30 (fun r32 S33 => ix r32 10421 (fun j34 => ((¬ (S33.1 1 0 j34) = 1 → F_X12_frees a4 S33 (fun S37 => ∀ x38 : Int32, x38 = a3 + 1 → B_X12_undo_162 kk82 a1 a2 x38 a4 S37 k)) ∧ ((S33.1 1 0 j34) = 1 → F_X12_saveAt a1 a2 a4 S33 (fun r39 S40 => F_X12_jobAt a4 25 S40 (fun r41 S42 => F_X12_copies (r39 + 1) r41 22 S42 (fun S44 => B_X12_undo_162 kk82 a1 a2 a3 a4 S44 k)))))))) ∧ (¬ r29 = a1 → B_X12_undo_162 kk82 a1 a2 a3 a4 S30 k))))))))
set_option maxHeartbeats 4000000 in
set_option maxRecDepth 100000 in
theorem Bbw_X12_undo_82 {p : Program} {l : Launch} {e : Env} {s : State} {m : MethodId} {args : Array Value} {below : List Frame} {meth : Method} {c : Code} {D : va_G} {cy : Nat → ClassId} {b z : Nat} {tx : TX} (C0 : CallFix p m c cX12_undo 5 s args TB RX12) (hr : meth.sig.returnType = (some .int)) (hlk : meth.locks = false) (hT : TxR tx s) {k : Int32 → sSt → Prop} {kk82 : Int32 → Int32 → Int32 → Int32 → sSt → Prop} (ih82 : ∀ (a1 : Int32) (a2 : Int32) (a3 : Int32) (a4 : Int32) (S : sSt) (H : Heap) (locs : List Loc) (ls : Array Slot) , kk82 a1 a2 a3 a4 S → RelM D cy b z tx S s H → va_S (gA b 12 z) s.heap H locs → lv_has ls 5 [(0, .ref (b + adM 0 0)), (1, .int a1), (2, .int a2), (3, .int a3), (4, .int a4)] → W p l e rm_X12_undo s m args below meth c H locs 0 0 (MQ below (PiM D cy b z tx k) args s 0 0 (gA b 12 z)) (F0 m 82 ls [])) : ∀ (a1 : Int32) (a2 : Int32) (a3 : Int32) (a4 : Int32) (S : sSt) (H : Heap) (locs : List Loc) (ls : Array Slot) , Bb_X12_undo_82 kk82 a1 a2 a3 a4 S k → RelM D cy b z tx S s H → va_S (gA b 12 z) s.heap H locs → lv_has ls 5 [(0, .ref (b + adM 0 0)), (1, .int a1), (2, .int a2), (3, .int a3), (4, .int a4)] → W p l e rm_X12_undo s m args below meth c H locs 0 0 (MQ below (PiM D cy b z tx k) args s 0 0 (gA b 12 z)) (F0 m 82 ls []) := by
  intro a1 a2 a3 a4 S H locs ls h hR hS hl
  have hx := C0.1
  have hb := C0.2.1
  unfold Bb_X12_undo_82 at h
  refine lv_iload hx hb dX12_undo_82 (lv_at hl 4 rfl) ?_
  refine lv_bipush (v := 24) hx hb dX12_undo_84 (by decide) ?_
  refine lv_icmp_ge (tgt := 168) hx hb dX12_undo_86 (by decide) (fun c20 => ?_) (fun c20 => ?_)
  · have h := h.1 c20
    refine lv_aload_n hx hb dX12_undo_168 rfl (lv_at hl 0 rfl) ?_
    refine gM_0_2 C0 hR Nat.zero_lt_one tbs_wsX120 mM4_7_79 dX12_undo_169 ?_
    refine lv_iload_n hx hb dX12_undo_172 rfl (lv_at hl 1 rfl) ?_
    refine lv_iconst (v := 3) hx hb dX12_undo_173 (by decide) ?_
    refine qM_Si (As := [.int a1, .int 3]) (rest := [.ref (b + adM 1 0)]) C0 (c_X12_sessionAt l h) (va_cwS 2 C0.2.2.2.2 (tbS mM4_7_233 ⟨mM4_7_234, mM4_1_11, mM4_7_235⟩) rfl rfl rfl (by decide +kernel) ⟨Nat.le_of_ble_eq_true rfl, Nat.le_of_ble_eq_true rfl⟩) hR hT hS rfl hl.1 rfl (Nat.le_of_ble_eq_true rfl) dX12_undo_174 ⟨Nat.zero_le _, Nat.zero_le _⟩ (fun r21 S22 H locs h hR hS => ?_)
    refine lv_iload_n hx hb dX12_undo_177 rfl (lv_at hl 2 rfl) ?_
    refine lv_iconst (v := 1) hx hb dX12_undo_178 (by decide) ?_
    refine lv_iadd hx hb dX12_undo_179 ?_
    obtain ⟨j23, hj23, ej23, h⟩ := h
    refine sM_1 C0 hR hS Nat.zero_lt_one hj23 ej23 dX12_undo_180 (fun S24 eS24 H locs hR hS => ?_)
    have h := h S24 eS24
    refine lv_iload_n hx hb dX12_undo_181 rfl (lv_at hl 3 rfl) ?_
    exact rtM_i C0 hr hlk hR hS h dX12_undo_182
  · have h := h.2 c20
    refine lv_aload_n hx hb dX12_undo_89 rfl (lv_at hl 0 rfl) ?_
    refine lv_iload hx hb dX12_undo_90 (lv_at hl 4 rfl) ?_
    refine qM_Vi (As := [.int a4]) (rest := []) C0 (c_X12_numberOf l h) (cwV 1 C0.2.2.2.2 (tbV mM4_7_202 ⟨mM4_7_204, mpM4_3_3, mM4_1_11, mM4_7_205⟩) rfl rfl rfl (by decide +kernel) ⟨Nat.le_of_ble_eq_true rfl, Nat.le_of_ble_eq_true rfl⟩) (rcM_0 hR Nat.zero_lt_one) hR hT hS rfl hl.1 rfl (Nat.le_of_ble_eq_true rfl) dX12_undo_92 ⟨Nat.zero_le _, Nat.zero_le _⟩ (fun r25 S26 H locs h hR hS => ?_)
    refine lv_iconst (v := (-1)) hx hb dX12_undo_95 (by decide) ?_
    refine lv_icmp_eq (tgt := 162) hx hb dX12_undo_96 (by decide) (fun c27 => ?_) (fun c27 => ?_)
    · have h := h.1 c27
      exact Bw_X12_undo_162 C0 hr hlk hT ih82 a1 a2 a3 a4 S26 _ _ _ h hR hS (lv_sub hl [0, 1, 2, 3, 4] rfl)
    · have h := h.2 c27
      refine lv_aload_n hx hb dX12_undo_99 rfl (lv_at hl 0 rfl) ?_
      refine lv_iload hx hb dX12_undo_100 (lv_at hl 4 rfl) ?_
      refine qM_Vi (As := [.int a4]) (rest := []) C0 (c_X12_lockerOf l h) (cwV 1 C0.2.2.2.2 (tbV mM4_8_106 ⟨mM4_8_108, mpM4_4_10, mM4_1_11, mM4_8_109⟩) rfl rfl rfl (by decide +kernel) ⟨Nat.le_of_ble_eq_true rfl, Nat.le_of_ble_eq_true rfl⟩) (rcM_0 hR Nat.zero_lt_one) hR hT hS rfl hl.1 rfl (Nat.le_of_ble_eq_true rfl) dX12_undo_102 ⟨Nat.zero_le _, Nat.zero_le _⟩ (fun r29 S30 H locs h hR hS => ?_)
      refine lv_iload_n hx hb dX12_undo_105 rfl (lv_at hl 1 rfl) ?_
      refine lv_icmp_eq (tgt := 112) hx hb dX12_undo_106 (by decide) (fun c31 => ?_) (fun c31 => ?_)
      · have h := h.1 c31
        refine lv_aload_n hx hb dX12_undo_112 rfl (lv_at hl 0 rfl) ?_
        refine gM_0_2 C0 hR Nat.zero_lt_one tbs_wsX120 mM4_7_79 dX12_undo_113 ?_
        refine lv_iload_n hx hb dX12_undo_116 rfl (lv_at hl 1 rfl) ?_
        refine lv_iload_n hx hb dX12_undo_117 rfl (lv_at hl 2 rfl) ?_
        refine lv_iload hx hb dX12_undo_118 (lv_at hl 4 rfl) ?_
        refine qM_Si (As := [.int a1, .int a2, .int a4]) (rest := [.ref (b + adM 1 0)]) C0 (c_X12_saveAt l h) (va_cwS 3 C0.2.2.2.2 (tbS mM4_8_103 ⟨mM4_8_104, mM4_1_11, mM4_8_105⟩) rfl rfl rfl (by decide +kernel) ⟨Nat.le_of_ble_eq_true rfl, Nat.le_of_ble_eq_true rfl⟩) hR hT hS rfl hl.1 rfl (Nat.le_of_ble_eq_true rfl) dX12_undo_120 ⟨Nat.zero_le _, Nat.zero_le _⟩ (fun r32 S33 H locs h hR hS => ?_)
        obtain ⟨j34, hj34, ej34, h⟩ := h
        refine lM_1 C0 hR Nat.zero_lt_one hj34 ej34 dX12_undo_123 ?_
        refine lv_iconst (v := 1) hx hb dX12_undo_124 (by decide) ?_
        refine lv_icmp_ne (tgt := 153) hx hb dX12_undo_125 (by decide) (fun c35 => ?_) (fun c35 => ?_)
        · have h := h.1 c35
          refine lv_aload_n hx hb dX12_undo_153 rfl (lv_at hl 0 rfl) ?_
          refine lv_iload hx hb dX12_undo_154 (lv_at hl 4 rfl) ?_
          refine qM_Vv (As := [.int a4]) (rest := []) C0 (c_X12_frees l h) (cwV 1 C0.2.2.2.2 (tbV mM4_8_118 ⟨mM4_8_120, mpM4_4_12, mM4_1_11, mM4_8_121⟩) rfl rfl rfl (by decide +kernel) ⟨Nat.le_of_ble_eq_true rfl, Nat.le_of_ble_eq_true rfl⟩) (rcM_0 hR Nat.zero_lt_one) hR hT hS rfl hl.1 rfl (Nat.le_of_ble_eq_true rfl) dX12_undo_156 ⟨Nat.zero_le _, Nat.zero_le _⟩ (fun S37 H locs h hR hS => ?_)
          obtain ⟨x38, ex38⟩ : ∃ x38 : Int32, x38 = a3 + 1 := ⟨_, rfl⟩
          have h := h x38 ex38
          refine w_iinc (v0 := 1) (lv' := [(3, .int x38), (0, .ref (b + adM 0 0)), (1, .int a1), (2, .int a2), (4, .int a4)]) C0 dX12_undo_159 hl (k := 3) rfl (by decide) (by decide) x38 ex38 rfl (fun ls hl => ?_)
          exact Bw_X12_undo_162 C0 hr hlk hT ih82 a1 a2 x38 a4 S37 _ _ _ h hR hS (lv_sub hl [1, 2, 3, 0, 4] rfl)
        · have h := h.2 c35
          refine lv_aload_n hx hb dX12_undo_128 rfl (lv_at hl 0 rfl) ?_
          refine lv_iload_n hx hb dX12_undo_129 rfl (lv_at hl 1 rfl) ?_
          refine lv_iload_n hx hb dX12_undo_130 rfl (lv_at hl 2 rfl) ?_
          refine lv_iload hx hb dX12_undo_131 (lv_at hl 4 rfl) ?_
          refine qM_Si (As := [.int a1, .int a2, .int a4]) (rest := [.ref (b + adM 0 0)]) C0 (c_X12_saveAt l h) (va_cwS 3 C0.2.2.2.2 (tbS mM4_8_103 ⟨mM4_8_104, mM4_1_11, mM4_8_105⟩) rfl rfl rfl (by decide +kernel) ⟨Nat.le_of_ble_eq_true rfl, Nat.le_of_ble_eq_true rfl⟩) hR hT hS rfl hl.1 rfl (Nat.le_of_ble_eq_true rfl) dX12_undo_133 ⟨Nat.zero_le _, Nat.zero_le _⟩ (fun r39 S40 H locs h hR hS => ?_)
          refine lv_iconst (v := 1) hx hb dX12_undo_136 (by decide) ?_
          refine lv_iadd hx hb dX12_undo_137 ?_
          refine lv_iload hx hb dX12_undo_138 (lv_at hl 4 rfl) ?_
          refine lv_bipush (v := 25) hx hb dX12_undo_140 (by decide) ?_
          refine qM_Si (As := [.int a4, .int 25]) (rest := [.int (r39 + 1), .ref (b + adM 0 0)]) C0 (c_X12_jobAt l h) (va_cwS 2 C0.2.2.2.2 (tbS mM4_7_74 ⟨mM4_7_75, mM4_1_11, mM4_7_76⟩) rfl rfl rfl (by decide +kernel) ⟨Nat.le_of_ble_eq_true rfl, Nat.le_of_ble_eq_true rfl⟩) hR hT hS rfl hl.1 rfl (Nat.le_of_ble_eq_true rfl) dX12_undo_142 ⟨Nat.zero_le _, Nat.zero_le _⟩ (fun r41 S42 H locs h hR hS => ?_)
          refine lv_bipush (v := 22) hx hb dX12_undo_145 (by decide) ?_
          refine qM_Vv (As := [.int (r39 + 1), .int r41, .int 22]) (rest := []) C0 (c_X12_copies l h) (cwV 3 C0.2.2.2.2 (tbV mM4_8_110 ⟨mM4_8_112, mpM4_4_11, mM4_1_11, mM4_8_113⟩) rfl rfl rfl (by decide +kernel) ⟨Nat.le_of_ble_eq_true rfl, Nat.le_of_ble_eq_true rfl⟩) (rcM_0 hR Nat.zero_lt_one) hR hT hS rfl hl.1 rfl (Nat.le_of_ble_eq_true rfl) dX12_undo_147 ⟨Nat.zero_le _, Nat.zero_le _⟩ (fun S44 H locs h hR hS => ?_)
          refine lv_goto (tgt := 162) hx hb dX12_undo_150 (by decide) ?_
          exact Bw_X12_undo_162 C0 hr hlk hT ih82 a1 a2 a3 a4 S44 _ _ _ h hR hS (lv_sub hl [0, 1, 2, 3, 4] rfl)
      · have h := h.2 c31
        refine lv_goto (tgt := 162) hx hb dX12_undo_109 (by decide) ?_
        exact Bw_X12_undo_162 C0 hr hlk hT ih82 a1 a2 a3 a4 S30 _ _ _ h hR hS (lv_sub hl [0, 1, 2, 3, 4] rfl)
def B_X12_undo_82 (n9 : Nat) (a1 : Int32) (a2 : Int32) (a3 : Int32) (a4 : Int32) (S : sSt) (k : Int32 → sSt → Prop) : Prop := (Nat.rec (motive := fun _ => Int32 → Int32 → Int32 → Int32 → sSt → Prop) (fun _ _ _ _ _ => False) (fun _ r9 => fun a1 a2 a3 a4 S => Bb_X12_undo_82 r9 a1 a2 a3 a4 S k) n9 : Int32 → Int32 → Int32 → Int32 → sSt → Prop) a1 a2 a3 a4 S
theorem B_X12_undo_82_s (n9 : Nat) (a1 : Int32) (a2 : Int32) (a3 : Int32) (a4 : Int32) (S : sSt) (k : Int32 → sSt → Prop) : B_X12_undo_82 (n9 + 1) a1 a2 a3 a4 S k = Bb_X12_undo_82 (fun a1 a2 a3 a4 S => B_X12_undo_82 n9 a1 a2 a3 a4 S k) a1 a2 a3 a4 S k := rfl
set_option maxHeartbeats 4000000 in
set_option maxRecDepth 100000 in
theorem Bw_X12_undo_82 {p : Program} {l : Launch} {e : Env} {s : State} {m : MethodId} {args : Array Value} {below : List Frame} {meth : Method} {c : Code} {D : va_G} {cy : Nat → ClassId} {b z : Nat} {tx : TX} (C0 : CallFix p m c cX12_undo 5 s args TB RX12) (hr : meth.sig.returnType = (some .int)) (hlk : meth.locks = false) (hT : TxR tx s) {k : Int32 → sSt → Prop} : ∀ (n9 : Nat), ∀ (a1 : Int32) (a2 : Int32) (a3 : Int32) (a4 : Int32) (S : sSt) (H : Heap) (locs : List Loc) (ls : Array Slot) , B_X12_undo_82 n9 a1 a2 a3 a4 S k → RelM D cy b z tx S s H → va_S (gA b 12 z) s.heap H locs → lv_has ls 5 [(0, .ref (b + adM 0 0)), (1, .int a1), (2, .int a2), (3, .int a3), (4, .int a4)] → W p l e rm_X12_undo s m args below meth c H locs 0 0 (MQ below (PiM D cy b z tx k) args s 0 0 (gA b 12 z)) (F0 m 82 ls []) := by
  intro n9
  induction n9 with
  | zero => intro a1 a2 a3 a4 S H locs ls h; exact h.elim
  | succ n9 ih =>
    intro a1 a2 a3 a4 S H locs ls h hR hS hl
    exact Bbw_X12_undo_82 C0 hr hlk hT ih a1 a2 a3 a4 S H locs ls h hR hS hl
def B_X12_undo_63 (a1 : Int32) (a2 : Int32) (t1 : Int32) (S : sSt) (k : Int32 → sSt → Prop) : Prop := F_X12_throwsIf t1 3 S (fun r16 S17 => ((r16 = 0 → ∀ S19, S19 = uI S17 0 0 1 0 → B_X12_undo_82 fuel a1 a2 0 0 S19 k) ∧ (¬ r16 = 0 → k 0 S17)))
set_option maxHeartbeats 4000000 in
set_option maxRecDepth 100000 in
theorem Bw_X12_undo_63 {p : Program} {l : Launch} {e : Env} {s : State} {m : MethodId} {args : Array Value} {below : List Frame} {meth : Method} {c : Code} {D : va_G} {cy : Nat → ClassId} {b z : Nat} {tx : TX} (C0 : CallFix p m c cX12_undo 5 s args TB RX12) (hr : meth.sig.returnType = (some .int)) (hlk : meth.locks = false) (hT : TxR tx s) {k : Int32 → sSt → Prop} : ∀ (a1 : Int32) (a2 : Int32) (t1 : Int32) (S : sSt) (H : Heap) (locs : List Loc) (ls : Array Slot) , B_X12_undo_63 a1 a2 t1 S k → RelM D cy b z tx S s H → va_S (gA b 12 z) s.heap H locs → lv_has ls 5 [(0, .ref (b + adM 0 0)), (1, .int a1), (2, .int a2)] → W p l e rm_X12_undo s m args below meth c H locs 0 0 (MQ below (PiM D cy b z tx k) args s 0 0 (gA b 12 z)) (F0 m 63 ls [.int t1, .ref (b + adM 0 0)]) := by
  intro a1 a2 t1 S H locs ls h hR hS hl
  have hx := C0.1
  have hb := C0.2.1
  unfold B_X12_undo_63 at h
  refine lv_iconst (v := 3) hx hb dX12_undo_63 (by decide) ?_
  refine qM_Vi (As := [.int t1, .int 3]) (rest := []) C0 (c_X12_throwsIf l h) (cwV 2 C0.2.2.2.2 (tbV mM4_8_25 ⟨mM4_8_27, mpM4_3_13, mM4_1_11, mM4_8_28⟩) rfl rfl rfl (by decide +kernel) ⟨Nat.le_of_ble_eq_true rfl, Nat.le_of_ble_eq_true rfl⟩) (rcM_0 hR Nat.zero_lt_one) hR hT hS rfl hl.1 rfl (Nat.le_of_ble_eq_true rfl) dX12_undo_64 ⟨Nat.zero_le _, Nat.zero_le _⟩ (fun r16 S17 H locs h hR hS => ?_)
  refine lv_if_eq (tgt := 72) hx hb dX12_undo_67 (by decide) (fun c18 => ?_) (fun c18 => ?_)
  · have h := h.1 c18
    refine lv_aload_n hx hb dX12_undo_72 rfl (lv_at hl 0 rfl) ?_
    refine lv_iconst (v := 0) hx hb dX12_undo_73 (by decide) ?_
    refine pM_0_1 C0 hR hS Nat.zero_lt_one tbs_wsX120 mM4_7_78 dX12_undo_74 (fun S19 eS19 H locs hR hS => ?_)
    have h := h S19 eS19
    refine lv_iconst (v := 0) hx hb dX12_undo_77 (by decide) ?_
    refine lv_istore_n (lv' := [(3, .int 0), (0, .ref (b + adM 0 0)), (1, .int a1), (2, .int a2)]) hx hb dX12_undo_78 rfl hl (by decide) rfl (fun ls hl => ?_)
    refine lv_iconst (v := 0) hx hb dX12_undo_79 (by decide) ?_
    refine lv_istore (lv' := [(4, .int 0), (3, .int 0), (0, .ref (b + adM 0 0)), (1, .int a1), (2, .int a2)]) hx hb dX12_undo_80 hl (by decide) rfl (fun ls hl => ?_)
    exact Bw_X12_undo_82 C0 hr hlk hT fuel a1 a2 0 0 S19 _ _ _ h hR hS (lv_sub hl [2, 3, 4, 1, 0] rfl)
  · have h := h.2 c18
    refine lv_iconst (v := 0) hx hb dX12_undo_70 (by decide) ?_
    exact rtM_i C0 hr hlk hR hS h dX12_undo_71
def F_X12_undo (a1 : Int32) (a2 : Int32) (S : sSt) (k : Int32 → sSt → Prop) : Prop := ∀ S1, S1 = uI S 0 0 0 0 → F_X12_noSession a1 S1 (fun r2 S3 => F_X12_throwsIf r2 1 S3 (fun r4 S5 => ((r4 = 0 → F_X12_isOpen a1 S5 (fun r7 S8 => ((¬ r7 = 0 → F_X12_sessionAt a1 3 S8 (fun r10 S11 => ix r10 10421 (fun j12 => F_X12_in a2 0 ((S11.1 1 0 j12) - 1) S11 (fun r13 S14 => ((¬ r13 = 0 → B_X12_undo_63 a1 a2 0 S14 k) ∧ (r13 = 0 → B_X12_undo_63 a1 a2 1 S14 k)))))) ∧ (r7 = 0 → F_X12_refuses 1 2 S8 (fun r45 S46 => k 0 S46))))) ∧ (¬ r4 = 0 → k 0 S5))))
set_option maxHeartbeats 4000000 in
set_option maxRecDepth 100000 in
theorem c_X12_undo (l : Launch) {D : va_G} {cy : Nat → ClassId} {b z : Nat} {tx : TX} {a1 : Int32} {a2 : Int32} {S : sSt} {k : Int32 → sSt → Prop} (h : F_X12_undo a1 a2 S k) : Met l yX12_undo (Cond.code yX12_undo cX12_undo 5 (some .int) :: TB) rm_X12_undo (va_Pc [.ref (b + adM 0 0), .int a1, .int a2] (fun U => RelM D cy b z tx S U U.heap ∧ TxR tx U)) (PiM D cy b z tx k) 0 0 (gA b 12 z) := by
  refine Met.ofW (cc := cX12_undo) (maxL := 5) (ret := (some .int)) (by decide) rfl ?_
  intro p e s m args below meth c s₁ B hml hv
  obtain ⟨rfl, hR, hT⟩ := hv
  have C0 : CallFix p m c cX12_undo 5 s _ TB RX12 := ⟨B.exec, B.bytes, hml, findClass_of_methodNamed B.named, fun w hw => atoms_spec B.pre w (List.mem_cons_of_mem _ hw)⟩
  have hr := B.returns
  have hlk := B.notSynchronized
  have hx := C0.1
  have hb := C0.2.1
  have hS : va_S (gA b 12 z) s.heap s.heap [] := va_S.rf
  have hl := lv_entry ([.ref (b + adM 0 0), .int a1, .int a2]) (n := 5) (Nat.le_of_ble_eq_true rfl)
  rw [lg_entry_eq]
  generalize (lg_sl ([.ref (b + adM 0 0), .int a1, .int a2]) ++ List.replicate (5 - (lg_sl ([.ref (b + adM 0 0), .int a1, .int a2])).length) Slot.unset).toArray = ls at hl ⊢
  have hl : lv_has ls 5 [(0, .ref (b + adM 0 0)), (1, .int a1), (2, .int a2)] := hl
  show W p l e rm_X12_undo s m _ below meth c s.heap [] 0 0 (MQ below (PiM D cy b z tx k) _ s 0 0 (gA b 12 z)) _
  unfold F_X12_undo at h
  refine lv_aload_n hx hb dX12_undo_0 rfl (lv_at hl 0 rfl) ?_
  refine lv_iconst (v := 0) hx hb dX12_undo_1 (by decide) ?_
  refine pM_0_0 C0 hR hS Nat.zero_lt_one tbs_wsX120 mM4_7_77 dX12_undo_2 (fun S1 eS1 H locs hR hS => ?_)
  have h := h S1 eS1
  refine lv_aload_n hx hb dX12_undo_5 rfl (lv_at hl 0 rfl) ?_
  refine lv_aload_n hx hb dX12_undo_6 rfl (lv_at hl 0 rfl) ?_
  refine lv_iload_n hx hb dX12_undo_7 rfl (lv_at hl 1 rfl) ?_
  refine qM_Vi (As := [.int a1]) (rest := [.ref (b + adM 0 0)]) C0 (c_X12_noSession l h) (cwV 1 C0.2.2.2.2 (tbV mM4_8_33 ⟨mM4_8_35, mpM4_3_14, mM4_1_11, mM4_8_36⟩) rfl rfl rfl (by decide +kernel) ⟨Nat.le_of_ble_eq_true rfl, Nat.le_of_ble_eq_true rfl⟩) (rcM_0 hR Nat.zero_lt_one) hR hT hS rfl hl.1 rfl (Nat.le_of_ble_eq_true rfl) dX12_undo_8 ⟨Nat.zero_le _, Nat.zero_le _⟩ (fun r2 S3 H locs h hR hS => ?_)
  refine lv_iconst (v := 1) hx hb dX12_undo_11 (by decide) ?_
  refine qM_Vi (As := [.int r2, .int 1]) (rest := []) C0 (c_X12_throwsIf l h) (cwV 2 C0.2.2.2.2 (tbV mM4_8_25 ⟨mM4_8_27, mpM4_3_13, mM4_1_11, mM4_8_28⟩) rfl rfl rfl (by decide +kernel) ⟨Nat.le_of_ble_eq_true rfl, Nat.le_of_ble_eq_true rfl⟩) (rcM_0 hR Nat.zero_lt_one) hR hT hS rfl hl.1 rfl (Nat.le_of_ble_eq_true rfl) dX12_undo_12 ⟨Nat.zero_le _, Nat.zero_le _⟩ (fun r4 S5 H locs h hR hS => ?_)
  refine lv_if_eq (tgt := 20) hx hb dX12_undo_15 (by decide) (fun c6 => ?_) (fun c6 => ?_)
  · have h := h.1 c6
    refine lv_aload_n hx hb dX12_undo_20 rfl (lv_at hl 0 rfl) ?_
    refine lv_iload_n hx hb dX12_undo_21 rfl (lv_at hl 1 rfl) ?_
    refine qM_Vi (As := [.int a1]) (rest := []) C0 (c_X12_isOpen l h) (cwV 1 C0.2.2.2.2 (tbV mM4_8_87 ⟨mM4_8_89, mpM4_4_7, mM4_1_11, mM4_8_90⟩) rfl rfl rfl (by decide +kernel) ⟨Nat.le_of_ble_eq_true rfl, Nat.le_of_ble_eq_true rfl⟩) (rcM_0 hR Nat.zero_lt_one) hR hT hS rfl hl.1 rfl (Nat.le_of_ble_eq_true rfl) dX12_undo_22 ⟨Nat.zero_le _, Nat.zero_le _⟩ (fun r7 S8 H locs h hR hS => ?_)
    refine lv_if_ne (tgt := 37) hx hb dX12_undo_25 (by decide) (fun c9 => ?_) (fun c9 => ?_)
    · have h := h.1 c9
      refine lv_aload_n hx hb dX12_undo_37 rfl (lv_at hl 0 rfl) ?_
      refine lv_iload_n hx hb dX12_undo_38 rfl (lv_at hl 2 rfl) ?_
      refine lv_iconst (v := 0) hx hb dX12_undo_39 (by decide) ?_
      refine lv_aload_n hx hb dX12_undo_40 rfl (lv_at hl 0 rfl) ?_
      refine gM_0_2 C0 hR Nat.zero_lt_one tbs_wsX120 mM4_7_79 dX12_undo_41 ?_
      refine lv_iload_n hx hb dX12_undo_44 rfl (lv_at hl 1 rfl) ?_
      refine lv_iconst (v := 3) hx hb dX12_undo_45 (by decide) ?_
      refine qM_Si (As := [.int a1, .int 3]) (rest := [.ref (b + adM 1 0), .int 0, .int a2, .ref (b + adM 0 0)]) C0 (c_X12_sessionAt l h) (va_cwS 2 C0.2.2.2.2 (tbS mM4_7_233 ⟨mM4_7_234, mM4_1_11, mM4_7_235⟩) rfl rfl rfl (by decide +kernel) ⟨Nat.le_of_ble_eq_true rfl, Nat.le_of_ble_eq_true rfl⟩) hR hT hS rfl hl.1 rfl (Nat.le_of_ble_eq_true rfl) dX12_undo_46 ⟨Nat.zero_le _, Nat.zero_le _⟩ (fun r10 S11 H locs h hR hS => ?_)
      obtain ⟨j12, hj12, ej12, h⟩ := h
      refine lM_1 C0 hR Nat.zero_lt_one hj12 ej12 dX12_undo_49 ?_
      refine lv_iconst (v := 1) hx hb dX12_undo_50 (by decide) ?_
      refine lv_isub hx hb dX12_undo_51 ?_
      refine qM_Si (As := [.int a2, .int 0, .int ((S11.1 1 0 j12) - 1)]) (rest := [.ref (b + adM 0 0)]) C0 (c_X12_in l h) (va_cwS 3 C0.2.2.2.2 (tbS mM4_8_37 ⟨mM4_8_38, mM4_1_11, mM4_8_39⟩) rfl rfl rfl (by decide +kernel) ⟨Nat.le_of_ble_eq_true rfl, Nat.le_of_ble_eq_true rfl⟩) hR hT hS rfl hl.1 rfl (Nat.le_of_ble_eq_true rfl) dX12_undo_52 ⟨Nat.zero_le _, Nat.zero_le _⟩ (fun r13 S14 H locs h hR hS => ?_)
      refine lv_if_ne (tgt := 62) hx hb dX12_undo_55 (by decide) (fun c15 => ?_) (fun c15 => ?_)
      · have h := h.1 c15
        refine lv_iconst (v := 0) hx hb dX12_undo_62 (by decide) ?_
        exact Bw_X12_undo_63 C0 hr hlk hT a1 a2 0 S14 _ _ _ h hR hS (lv_sub hl [0, 1, 2] rfl)
      · have h := h.2 c15
        refine lv_iconst (v := 1) hx hb dX12_undo_58 (by decide) ?_
        refine lv_goto (tgt := 63) hx hb dX12_undo_59 (by decide) ?_
        exact Bw_X12_undo_63 C0 hr hlk hT a1 a2 1 S14 _ _ _ h hR hS (lv_sub hl [0, 1, 2] rfl)
    · have h := h.2 c9
      refine lv_aload_n hx hb dX12_undo_28 rfl (lv_at hl 0 rfl) ?_
      refine lv_iconst (v := 1) hx hb dX12_undo_29 (by decide) ?_
      refine lv_iconst (v := 2) hx hb dX12_undo_30 (by decide) ?_
      refine qM_Vi (As := [.int 1, .int 2]) (rest := []) C0 (c_X12_refuses l h) (cwV 2 C0.2.2.2.2 (tbV mM4_8_91 ⟨mM4_8_93, mpM4_4_8, mM4_1_11, mM4_8_94⟩) rfl rfl rfl (by decide +kernel) ⟨Nat.le_of_ble_eq_true rfl, Nat.le_of_ble_eq_true rfl⟩) (rcM_0 hR Nat.zero_lt_one) hR hT hS rfl hl.1 rfl (Nat.le_of_ble_eq_true rfl) dX12_undo_31 ⟨Nat.zero_le _, Nat.zero_le _⟩ (fun r45 S46 H locs h hR hS => ?_)
      refine lv_pop hx hb dX12_undo_34 rfl ?_
      refine lv_iconst (v := 0) hx hb dX12_undo_35 (by decide) ?_
      exact rtM_i C0 hr hlk hR hS h dX12_undo_36
  · have h := h.2 c6
    refine lv_iconst (v := 0) hx hb dX12_undo_18 (by decide) ?_
    exact rtM_i C0 hr hlk hR hS h dX12_undo_19

def rm_X12_commit : Room := { frames := 5, cells := 0, slots := 0, locals := 107 }
def B_X12_commit_32 (a1 : Int32) (t1 : Int32) (S : sSt) (k : Int32 → sSt → Prop) : Prop := F_X12_refuses t1 2 S (fun r10 S11 => ((r10 = 0 → F_X12_isCommitted a1 S11 (fun r13 S14 => k r13 S14)) ∧ (¬ r10 = 0 → k 0 S11)))
set_option maxHeartbeats 4000000 in
set_option maxRecDepth 100000 in
theorem Bw_X12_commit_32 {p : Program} {l : Launch} {e : Env} {s : State} {m : MethodId} {args : Array Value} {below : List Frame} {meth : Method} {c : Code} {D : va_G} {cy : Nat → ClassId} {b z : Nat} {tx : TX} (C0 : CallFix p m c cX12_commit 2 s args TB RX12) (hr : meth.sig.returnType = (some .int)) (hlk : meth.locks = false) (hT : TxR tx s) {k : Int32 → sSt → Prop} : ∀ (a1 : Int32) (t1 : Int32) (S : sSt) (H : Heap) (locs : List Loc) (ls : Array Slot) , B_X12_commit_32 a1 t1 S k → RelM D cy b z tx S s H → va_S (gA b 12 z) s.heap H locs → lv_has ls 2 [(0, .ref (b + adM 0 0)), (1, .int a1)] → W p l e rm_X12_commit s m args below meth c H locs 0 0 (MQ below (PiM D cy b z tx k) args s 0 0 (gA b 12 z)) (F0 m 32 ls [.int t1, .ref (b + adM 0 0)]) := by
  intro a1 t1 S H locs ls h hR hS hl
  have hx := C0.1
  have hb := C0.2.1
  unfold B_X12_commit_32 at h
  refine lv_iconst (v := 2) hx hb dX12_commit_32 (by decide) ?_
  refine qM_Vi (As := [.int t1, .int 2]) (rest := []) C0 (c_X12_refuses l h) (cwV 2 C0.2.2.2.2 (tbV mM4_8_91 ⟨mM4_8_93, mpM4_4_8, mM4_1_11, mM4_8_94⟩) rfl rfl rfl (by decide +kernel) ⟨Nat.le_of_ble_eq_true rfl, Nat.le_of_ble_eq_true rfl⟩) (rcM_0 hR Nat.zero_lt_one) hR hT hS rfl hl.1 rfl (Nat.le_of_ble_eq_true rfl) dX12_commit_33 ⟨Nat.zero_le _, Nat.zero_le _⟩ (fun r10 S11 H locs h hR hS => ?_)
  refine lv_if_eq (tgt := 41) hx hb dX12_commit_36 (by decide) (fun c12 => ?_) (fun c12 => ?_)
  · have h := h.1 c12
    refine lv_aload_n hx hb dX12_commit_41 rfl (lv_at hl 0 rfl) ?_
    refine lv_iload_n hx hb dX12_commit_42 rfl (lv_at hl 1 rfl) ?_
    refine qM_Vi (As := [.int a1]) (rest := []) C0 (c_X12_isCommitted l h) (cwV 1 C0.2.2.2.2 (tbV mM4_8_130 ⟨mM4_8_132, mpM4_4_14, mM4_1_11, mM4_8_133⟩) rfl rfl rfl (by decide +kernel) ⟨Nat.le_of_ble_eq_true rfl, Nat.le_of_ble_eq_true rfl⟩) (rcM_0 hR Nat.zero_lt_one) hR hT hS rfl hl.1 rfl (Nat.le_of_ble_eq_true rfl) dX12_commit_43 ⟨Nat.zero_le _, Nat.zero_le _⟩ (fun r13 S14 H locs h hR hS => ?_)
    exact rtM_i C0 hr hlk hR hS h dX12_commit_46
  · have h := h.2 c12
    refine lv_iconst (v := 0) hx hb dX12_commit_39 (by decide) ?_
    exact rtM_i C0 hr hlk hR hS h dX12_commit_40
def F_X12_commit (a1 : Int32) (S : sSt) (k : Int32 → sSt → Prop) : Prop := ∀ S1, S1 = uI S 0 0 0 0 → F_X12_noSession a1 S1 (fun r2 S3 => F_X12_throwsIf r2 1 S3 (fun r4 S5 => ((¬ r4 = 0 → k 0 S5) ∧ (r4 = 0 → F_X12_isOpen a1 S5 (fun r7 S8 => ((r7 = 0 → B_X12_commit_32 a1 1 S8 k) ∧ (¬ r7 = 0 → B_X12_commit_32 a1 0 S8 k)))))))
set_option maxHeartbeats 4000000 in
set_option maxRecDepth 100000 in
theorem c_X12_commit (l : Launch) {D : va_G} {cy : Nat → ClassId} {b z : Nat} {tx : TX} {a1 : Int32} {S : sSt} {k : Int32 → sSt → Prop} (h : F_X12_commit a1 S k) : Met l yX12_commit (Cond.code yX12_commit cX12_commit 2 (some .int) :: TB) rm_X12_commit (va_Pc [.ref (b + adM 0 0), .int a1] (fun U => RelM D cy b z tx S U U.heap ∧ TxR tx U)) (PiM D cy b z tx k) 0 0 (gA b 12 z) := by
  refine Met.ofW (cc := cX12_commit) (maxL := 2) (ret := (some .int)) (by decide) rfl ?_
  intro p e s m args below meth c s₁ B hml hv
  obtain ⟨rfl, hR, hT⟩ := hv
  have C0 : CallFix p m c cX12_commit 2 s _ TB RX12 := ⟨B.exec, B.bytes, hml, findClass_of_methodNamed B.named, fun w hw => atoms_spec B.pre w (List.mem_cons_of_mem _ hw)⟩
  have hr := B.returns
  have hlk := B.notSynchronized
  have hx := C0.1
  have hb := C0.2.1
  have hS : va_S (gA b 12 z) s.heap s.heap [] := va_S.rf
  have hl := lv_entry ([.ref (b + adM 0 0), .int a1]) (n := 2) (Nat.le_of_ble_eq_true rfl)
  rw [lg_entry_eq]
  generalize (lg_sl ([.ref (b + adM 0 0), .int a1]) ++ List.replicate (2 - (lg_sl ([.ref (b + adM 0 0), .int a1])).length) Slot.unset).toArray = ls at hl ⊢
  have hl : lv_has ls 2 [(0, .ref (b + adM 0 0)), (1, .int a1)] := hl
  show W p l e rm_X12_commit s m _ below meth c s.heap [] 0 0 (MQ below (PiM D cy b z tx k) _ s 0 0 (gA b 12 z)) _
  unfold F_X12_commit at h
  refine lv_aload_n hx hb dX12_commit_0 rfl (lv_at hl 0 rfl) ?_
  refine lv_iconst (v := 0) hx hb dX12_commit_1 (by decide) ?_
  refine pM_0_0 C0 hR hS Nat.zero_lt_one tbs_wsX120 mM4_7_77 dX12_commit_2 (fun S1 eS1 H locs hR hS => ?_)
  have h := h S1 eS1
  refine lv_aload_n hx hb dX12_commit_5 rfl (lv_at hl 0 rfl) ?_
  refine lv_aload_n hx hb dX12_commit_6 rfl (lv_at hl 0 rfl) ?_
  refine lv_iload_n hx hb dX12_commit_7 rfl (lv_at hl 1 rfl) ?_
  refine qM_Vi (As := [.int a1]) (rest := [.ref (b + adM 0 0)]) C0 (c_X12_noSession l h) (cwV 1 C0.2.2.2.2 (tbV mM4_8_33 ⟨mM4_8_35, mpM4_3_14, mM4_1_11, mM4_8_36⟩) rfl rfl rfl (by decide +kernel) ⟨Nat.le_of_ble_eq_true rfl, Nat.le_of_ble_eq_true rfl⟩) (rcM_0 hR Nat.zero_lt_one) hR hT hS rfl hl.1 rfl (Nat.le_of_ble_eq_true rfl) dX12_commit_8 ⟨Nat.zero_le _, Nat.zero_le _⟩ (fun r2 S3 H locs h hR hS => ?_)
  refine lv_iconst (v := 1) hx hb dX12_commit_11 (by decide) ?_
  refine qM_Vi (As := [.int r2, .int 1]) (rest := []) C0 (c_X12_throwsIf l h) (cwV 2 C0.2.2.2.2 (tbV mM4_8_25 ⟨mM4_8_27, mpM4_3_13, mM4_1_11, mM4_8_28⟩) rfl rfl rfl (by decide +kernel) ⟨Nat.le_of_ble_eq_true rfl, Nat.le_of_ble_eq_true rfl⟩) (rcM_0 hR Nat.zero_lt_one) hR hT hS rfl hl.1 rfl (Nat.le_of_ble_eq_true rfl) dX12_commit_12 ⟨Nat.zero_le _, Nat.zero_le _⟩ (fun r4 S5 H locs h hR hS => ?_)
  refine lv_if_ne (tgt := 39) hx hb dX12_commit_15 (by decide) (fun c6 => ?_) (fun c6 => ?_)
  · have h := h.1 c6
    refine lv_iconst (v := 0) hx hb dX12_commit_39 (by decide) ?_
    exact rtM_i C0 hr hlk hR hS h dX12_commit_40
  · have h := h.2 c6
    refine lv_aload_n hx hb dX12_commit_18 rfl (lv_at hl 0 rfl) ?_
    refine lv_aload_n hx hb dX12_commit_19 rfl (lv_at hl 0 rfl) ?_
    refine lv_iload_n hx hb dX12_commit_20 rfl (lv_at hl 1 rfl) ?_
    refine qM_Vi (As := [.int a1]) (rest := [.ref (b + adM 0 0)]) C0 (c_X12_isOpen l h) (cwV 1 C0.2.2.2.2 (tbV mM4_8_87 ⟨mM4_8_89, mpM4_4_7, mM4_1_11, mM4_8_90⟩) rfl rfl rfl (by decide +kernel) ⟨Nat.le_of_ble_eq_true rfl, Nat.le_of_ble_eq_true rfl⟩) (rcM_0 hR Nat.zero_lt_one) hR hT hS rfl hl.1 rfl (Nat.le_of_ble_eq_true rfl) dX12_commit_21 ⟨Nat.zero_le _, Nat.zero_le _⟩ (fun r7 S8 H locs h hR hS => ?_)
    refine lv_if_eq (tgt := 31) hx hb dX12_commit_24 (by decide) (fun c9 => ?_) (fun c9 => ?_)
    · have h := h.1 c9
      refine lv_iconst (v := 1) hx hb dX12_commit_31 (by decide) ?_
      exact Bw_X12_commit_32 C0 hr hlk hT a1 1 S8 _ _ _ h hR hS (lv_sub hl [0, 1] rfl)
    · have h := h.2 c9
      refine lv_iconst (v := 0) hx hb dX12_commit_27 (by decide) ?_
      refine lv_goto (tgt := 32) hx hb dX12_commit_28 (by decide) ?_
      exact Bw_X12_commit_32 C0 hr hlk hT a1 0 S8 _ _ _ h hR hS (lv_sub hl [0, 1] rfl)

def rm_X12_roll : Room := { frames := 4, cells := 0, slots := 0, locals := 84 }
def B_X12_roll_78 (kk49 : Int32 → Int32 → Int32 → sSt → Prop) (a1 : Int32) (a2 : Int32) (a3 : Int32) (S : sSt) (k : Int32 → sSt → Prop) : Prop := ∀ x27 : Int32, x27 = a3 + 1 → kk49 a1 a2 x27 S
set_option maxHeartbeats 4000000 in
set_option maxRecDepth 100000 in
theorem Bw_X12_roll_78 {p : Program} {l : Launch} {e : Env} {s : State} {m : MethodId} {args : Array Value} {below : List Frame} {meth : Method} {c : Code} {D : va_G} {cy : Nat → ClassId} {b z : Nat} {tx : TX} (C0 : CallFix p m c cX12_roll 4 s args TB RX12) (hr : meth.sig.returnType = (some .int)) (hlk : meth.locks = false) (hT : TxR tx s) {k : Int32 → sSt → Prop} {kk49 : Int32 → Int32 → Int32 → sSt → Prop} (ih49 : ∀ (a1 : Int32) (a2 : Int32) (a3 : Int32) (S : sSt) (H : Heap) (locs : List Loc) (ls : Array Slot) , kk49 a1 a2 a3 S → RelM D cy b z tx S s H → va_S (gA b 12 z) s.heap H locs → lv_has ls 4 [(0, .ref (b + adM 0 0)), (1, .int a1), (2, .int a2), (3, .int a3)] → W p l e rm_X12_roll s m args below meth c H locs 0 0 (MQ below (PiM D cy b z tx k) args s 0 0 (gA b 12 z)) (F0 m 49 ls [])) : ∀ (a1 : Int32) (a2 : Int32) (a3 : Int32) (S : sSt) (H : Heap) (locs : List Loc) (ls : Array Slot) , B_X12_roll_78 kk49 a1 a2 a3 S k → RelM D cy b z tx S s H → va_S (gA b 12 z) s.heap H locs → lv_has ls 4 [(0, .ref (b + adM 0 0)), (1, .int a1), (2, .int a2), (3, .int a3)] → W p l e rm_X12_roll s m args below meth c H locs 0 0 (MQ below (PiM D cy b z tx k) args s 0 0 (gA b 12 z)) (F0 m 78 ls []) := by
  intro a1 a2 a3 S H locs ls h hR hS hl
  have hx := C0.1
  have hb := C0.2.1
  unfold B_X12_roll_78 at h
  obtain ⟨x27, ex27⟩ : ∃ x27 : Int32, x27 = a3 + 1 := ⟨_, rfl⟩
  have h := h x27 ex27
  refine w_iinc (v0 := 1) (lv' := [(3, .int x27), (0, .ref (b + adM 0 0)), (1, .int a1), (2, .int a2)]) C0 dX12_roll_78 hl (k := 3) rfl (by decide) (by decide) x27 ex27 rfl (fun ls hl => ?_)
  refine lv_goto (tgt := 49) hx hb dX12_roll_81 (by decide) ?_
  exact ih49 a1 a2 x27 S _ _ _  h hR hS (lv_sub hl [1, 2, 3, 0] rfl)
def Bb_X12_roll_49 (kk49 : Int32 → Int32 → Int32 → sSt → Prop) (a1 : Int32) (a2 : Int32) (a3 : Int32) (S : sSt) (k : Int32 → sSt → Prop) : Prop := ((24 ≤ a3 → F_X12_sessionAt a1 2 S (fun r16 S17 => ix r16 10421 (fun j18 => ∀ S19, S19 = uI S17 1 0 j18 0 → F_X12_sessionAt a1 3 S19 (fun r20 S21 => ix r20 10421 (fun j22 => ∀ S23, S23 = uI S21 1 0 j22 0 → k a2 S23))))) ∧ (¬ 24 ≤ a3 → F_X12_numberOf a3 S (fun r24 S25 => ((r24 = (-1) → B_X12_roll_78 kk49 a1 a2 a3 S25 k) ∧ (¬ r24 = (-1) → F_X12_lockerOf a3 S25 (fun r28 S29 => ((¬ r28 = a1 → B_X12_roll_78 kk49 a1 a2 a3 S29 k) ∧ (r28 = a1 → F_X12_frees a3 S29 (fun S32 => B_X12_roll_78 kk49 a1 a2 a3 S32 k)))))))))
set_option maxHeartbeats 4000000 in
set_option maxRecDepth 100000 in
theorem Bbw_X12_roll_49 {p : Program} {l : Launch} {e : Env} {s : State} {m : MethodId} {args : Array Value} {below : List Frame} {meth : Method} {c : Code} {D : va_G} {cy : Nat → ClassId} {b z : Nat} {tx : TX} (C0 : CallFix p m c cX12_roll 4 s args TB RX12) (hr : meth.sig.returnType = (some .int)) (hlk : meth.locks = false) (hT : TxR tx s) {k : Int32 → sSt → Prop} {kk49 : Int32 → Int32 → Int32 → sSt → Prop} (ih49 : ∀ (a1 : Int32) (a2 : Int32) (a3 : Int32) (S : sSt) (H : Heap) (locs : List Loc) (ls : Array Slot) , kk49 a1 a2 a3 S → RelM D cy b z tx S s H → va_S (gA b 12 z) s.heap H locs → lv_has ls 4 [(0, .ref (b + adM 0 0)), (1, .int a1), (2, .int a2), (3, .int a3)] → W p l e rm_X12_roll s m args below meth c H locs 0 0 (MQ below (PiM D cy b z tx k) args s 0 0 (gA b 12 z)) (F0 m 49 ls [])) : ∀ (a1 : Int32) (a2 : Int32) (a3 : Int32) (S : sSt) (H : Heap) (locs : List Loc) (ls : Array Slot) , Bb_X12_roll_49 kk49 a1 a2 a3 S k → RelM D cy b z tx S s H → va_S (gA b 12 z) s.heap H locs → lv_has ls 4 [(0, .ref (b + adM 0 0)), (1, .int a1), (2, .int a2), (3, .int a3)] → W p l e rm_X12_roll s m args below meth c H locs 0 0 (MQ below (PiM D cy b z tx k) args s 0 0 (gA b 12 z)) (F0 m 49 ls []) := by
  intro a1 a2 a3 S H locs ls h hR hS hl
  have hx := C0.1
  have hb := C0.2.1
  unfold Bb_X12_roll_49 at h
  refine lv_iload_n hx hb dX12_roll_49 rfl (lv_at hl 3 rfl) ?_
  refine lv_bipush (v := 24) hx hb dX12_roll_50 (by decide) ?_
  refine lv_icmp_ge (tgt := 84) hx hb dX12_roll_52 (by decide) (fun c15 => ?_) (fun c15 => ?_)
  · have h := h.1 c15
    refine lv_aload_n hx hb dX12_roll_84 rfl (lv_at hl 0 rfl) ?_
    refine gM_0_2 C0 hR Nat.zero_lt_one tbs_wsX120 mM4_7_79 dX12_roll_85 ?_
    refine lv_iload_n hx hb dX12_roll_88 rfl (lv_at hl 1 rfl) ?_
    refine lv_iconst (v := 2) hx hb dX12_roll_89 (by decide) ?_
    refine qM_Si (As := [.int a1, .int 2]) (rest := [.ref (b + adM 1 0)]) C0 (c_X12_sessionAt l h) (va_cwS 2 C0.2.2.2.2 (tbS mM4_7_233 ⟨mM4_7_234, mM4_1_11, mM4_7_235⟩) rfl rfl rfl (by decide +kernel) ⟨Nat.le_of_ble_eq_true rfl, Nat.le_of_ble_eq_true rfl⟩) hR hT hS rfl hl.1 rfl (Nat.le_of_ble_eq_true rfl) dX12_roll_90 ⟨Nat.zero_le _, Nat.zero_le _⟩ (fun r16 S17 H locs h hR hS => ?_)
    refine lv_iconst (v := 0) hx hb dX12_roll_93 (by decide) ?_
    obtain ⟨j18, hj18, ej18, h⟩ := h
    refine sM_1 C0 hR hS Nat.zero_lt_one hj18 ej18 dX12_roll_94 (fun S19 eS19 H locs hR hS => ?_)
    have h := h S19 eS19
    refine lv_aload_n hx hb dX12_roll_95 rfl (lv_at hl 0 rfl) ?_
    refine gM_0_2 C0 hR Nat.zero_lt_one tbs_wsX120 mM4_7_79 dX12_roll_96 ?_
    refine lv_iload_n hx hb dX12_roll_99 rfl (lv_at hl 1 rfl) ?_
    refine lv_iconst (v := 3) hx hb dX12_roll_100 (by decide) ?_
    refine qM_Si (As := [.int a1, .int 3]) (rest := [.ref (b + adM 1 0)]) C0 (c_X12_sessionAt l h) (va_cwS 2 C0.2.2.2.2 (tbS mM4_7_233 ⟨mM4_7_234, mM4_1_11, mM4_7_235⟩) rfl rfl rfl (by decide +kernel) ⟨Nat.le_of_ble_eq_true rfl, Nat.le_of_ble_eq_true rfl⟩) hR hT hS rfl hl.1 rfl (Nat.le_of_ble_eq_true rfl) dX12_roll_101 ⟨Nat.zero_le _, Nat.zero_le _⟩ (fun r20 S21 H locs h hR hS => ?_)
    refine lv_iconst (v := 0) hx hb dX12_roll_104 (by decide) ?_
    obtain ⟨j22, hj22, ej22, h⟩ := h
    refine sM_1 C0 hR hS Nat.zero_lt_one hj22 ej22 dX12_roll_105 (fun S23 eS23 H locs hR hS => ?_)
    have h := h S23 eS23
    refine lv_iload_n hx hb dX12_roll_106 rfl (lv_at hl 2 rfl) ?_
    exact rtM_i C0 hr hlk hR hS h dX12_roll_107
  · have h := h.2 c15
    refine lv_aload_n hx hb dX12_roll_55 rfl (lv_at hl 0 rfl) ?_
    refine lv_iload_n hx hb dX12_roll_56 rfl (lv_at hl 3 rfl) ?_
    refine qM_Vi (As := [.int a3]) (rest := []) C0 (c_X12_numberOf l h) (cwV 1 C0.2.2.2.2 (tbV mM4_7_202 ⟨mM4_7_204, mpM4_3_3, mM4_1_11, mM4_7_205⟩) rfl rfl rfl (by decide +kernel) ⟨Nat.le_of_ble_eq_true rfl, Nat.le_of_ble_eq_true rfl⟩) (rcM_0 hR Nat.zero_lt_one) hR hT hS rfl hl.1 rfl (Nat.le_of_ble_eq_true rfl) dX12_roll_57 ⟨Nat.zero_le _, Nat.zero_le _⟩ (fun r24 S25 H locs h hR hS => ?_)
    refine lv_iconst (v := (-1)) hx hb dX12_roll_60 (by decide) ?_
    refine lv_icmp_eq (tgt := 78) hx hb dX12_roll_61 (by decide) (fun c26 => ?_) (fun c26 => ?_)
    · have h := h.1 c26
      exact Bw_X12_roll_78 C0 hr hlk hT ih49 a1 a2 a3 S25 _ _ _ h hR hS (lv_sub hl [0, 1, 2, 3] rfl)
    · have h := h.2 c26
      refine lv_aload_n hx hb dX12_roll_64 rfl (lv_at hl 0 rfl) ?_
      refine lv_iload_n hx hb dX12_roll_65 rfl (lv_at hl 3 rfl) ?_
      refine qM_Vi (As := [.int a3]) (rest := []) C0 (c_X12_lockerOf l h) (cwV 1 C0.2.2.2.2 (tbV mM4_8_106 ⟨mM4_8_108, mpM4_4_10, mM4_1_11, mM4_8_109⟩) rfl rfl rfl (by decide +kernel) ⟨Nat.le_of_ble_eq_true rfl, Nat.le_of_ble_eq_true rfl⟩) (rcM_0 hR Nat.zero_lt_one) hR hT hS rfl hl.1 rfl (Nat.le_of_ble_eq_true rfl) dX12_roll_66 ⟨Nat.zero_le _, Nat.zero_le _⟩ (fun r28 S29 H locs h hR hS => ?_)
      refine lv_iload_n hx hb dX12_roll_69 rfl (lv_at hl 1 rfl) ?_
      refine lv_icmp_ne (tgt := 78) hx hb dX12_roll_70 (by decide) (fun c30 => ?_) (fun c30 => ?_)
      · have h := h.1 c30
        exact Bw_X12_roll_78 C0 hr hlk hT ih49 a1 a2 a3 S29 _ _ _ h hR hS (lv_sub hl [0, 1, 2, 3] rfl)
      · have h := h.2 c30
        refine lv_aload_n hx hb dX12_roll_73 rfl (lv_at hl 0 rfl) ?_
        refine lv_iload_n hx hb dX12_roll_74 rfl (lv_at hl 3 rfl) ?_
        refine qM_Vv (As := [.int a3]) (rest := []) C0 (c_X12_frees l h) (cwV 1 C0.2.2.2.2 (tbV mM4_8_118 ⟨mM4_8_120, mpM4_4_12, mM4_1_11, mM4_8_121⟩) rfl rfl rfl (by decide +kernel) ⟨Nat.le_of_ble_eq_true rfl, Nat.le_of_ble_eq_true rfl⟩) (rcM_0 hR Nat.zero_lt_one) hR hT hS rfl hl.1 rfl (Nat.le_of_ble_eq_true rfl) dX12_roll_75 ⟨Nat.zero_le _, Nat.zero_le _⟩ (fun S32 H locs h hR hS => ?_)
        exact Bw_X12_roll_78 C0 hr hlk hT ih49 a1 a2 a3 S32 _ _ _ h hR hS (lv_sub hl [0, 1, 2, 3] rfl)
def B_X12_roll_49 (n9 : Nat) (a1 : Int32) (a2 : Int32) (a3 : Int32) (S : sSt) (k : Int32 → sSt → Prop) : Prop := (Nat.rec (motive := fun _ => Int32 → Int32 → Int32 → sSt → Prop) (fun _ _ _ _ => False) (fun _ r9 => fun a1 a2 a3 S => Bb_X12_roll_49 r9 a1 a2 a3 S k) n9 : Int32 → Int32 → Int32 → sSt → Prop) a1 a2 a3 S
theorem B_X12_roll_49_s (n9 : Nat) (a1 : Int32) (a2 : Int32) (a3 : Int32) (S : sSt) (k : Int32 → sSt → Prop) : B_X12_roll_49 (n9 + 1) a1 a2 a3 S k = Bb_X12_roll_49 (fun a1 a2 a3 S => B_X12_roll_49 n9 a1 a2 a3 S k) a1 a2 a3 S k := rfl
set_option maxHeartbeats 4000000 in
set_option maxRecDepth 100000 in
theorem Bw_X12_roll_49 {p : Program} {l : Launch} {e : Env} {s : State} {m : MethodId} {args : Array Value} {below : List Frame} {meth : Method} {c : Code} {D : va_G} {cy : Nat → ClassId} {b z : Nat} {tx : TX} (C0 : CallFix p m c cX12_roll 4 s args TB RX12) (hr : meth.sig.returnType = (some .int)) (hlk : meth.locks = false) (hT : TxR tx s) {k : Int32 → sSt → Prop} : ∀ (n9 : Nat), ∀ (a1 : Int32) (a2 : Int32) (a3 : Int32) (S : sSt) (H : Heap) (locs : List Loc) (ls : Array Slot) , B_X12_roll_49 n9 a1 a2 a3 S k → RelM D cy b z tx S s H → va_S (gA b 12 z) s.heap H locs → lv_has ls 4 [(0, .ref (b + adM 0 0)), (1, .int a1), (2, .int a2), (3, .int a3)] → W p l e rm_X12_roll s m args below meth c H locs 0 0 (MQ below (PiM D cy b z tx k) args s 0 0 (gA b 12 z)) (F0 m 49 ls []) := by
  intro n9
  induction n9 with
  | zero => intro a1 a2 a3 S H locs ls h; exact h.elim
  | succ n9 ih =>
    intro a1 a2 a3 S H locs ls h hR hS hl
    exact Bbw_X12_roll_49 C0 hr hlk hT ih a1 a2 a3 S H locs ls h hR hS hl
def B_X12_roll_32 (a1 : Int32) (t1 : Int32) (S : sSt) (k : Int32 → sSt → Prop) : Prop := F_X12_refuses t1 2 S (fun r10 S11 => ((r10 = 0 → F_X12_lockedBy a1 S11 (fun r13 S14 => B_X12_roll_49 fuel a1 r13 0 S14 k)) ∧ (¬ r10 = 0 → k 0 S11)))
set_option maxHeartbeats 4000000 in
set_option maxRecDepth 100000 in
theorem Bw_X12_roll_32 {p : Program} {l : Launch} {e : Env} {s : State} {m : MethodId} {args : Array Value} {below : List Frame} {meth : Method} {c : Code} {D : va_G} {cy : Nat → ClassId} {b z : Nat} {tx : TX} (C0 : CallFix p m c cX12_roll 4 s args TB RX12) (hr : meth.sig.returnType = (some .int)) (hlk : meth.locks = false) (hT : TxR tx s) {k : Int32 → sSt → Prop} : ∀ (a1 : Int32) (t1 : Int32) (S : sSt) (H : Heap) (locs : List Loc) (ls : Array Slot) , B_X12_roll_32 a1 t1 S k → RelM D cy b z tx S s H → va_S (gA b 12 z) s.heap H locs → lv_has ls 4 [(0, .ref (b + adM 0 0)), (1, .int a1)] → W p l e rm_X12_roll s m args below meth c H locs 0 0 (MQ below (PiM D cy b z tx k) args s 0 0 (gA b 12 z)) (F0 m 32 ls [.int t1, .ref (b + adM 0 0)]) := by
  intro a1 t1 S H locs ls h hR hS hl
  have hx := C0.1
  have hb := C0.2.1
  unfold B_X12_roll_32 at h
  refine lv_iconst (v := 2) hx hb dX12_roll_32 (by decide) ?_
  refine qM_Vi (As := [.int t1, .int 2]) (rest := []) C0 (c_X12_refuses l h) (cwV 2 C0.2.2.2.2 (tbV mM4_8_91 ⟨mM4_8_93, mpM4_4_8, mM4_1_11, mM4_8_94⟩) rfl rfl rfl (by decide +kernel) ⟨Nat.le_of_ble_eq_true rfl, Nat.le_of_ble_eq_true rfl⟩) (rcM_0 hR Nat.zero_lt_one) hR hT hS rfl hl.1 rfl (Nat.le_of_ble_eq_true rfl) dX12_roll_33 ⟨Nat.zero_le _, Nat.zero_le _⟩ (fun r10 S11 H locs h hR hS => ?_)
  refine lv_if_eq (tgt := 41) hx hb dX12_roll_36 (by decide) (fun c12 => ?_) (fun c12 => ?_)
  · have h := h.1 c12
    refine lv_aload_n hx hb dX12_roll_41 rfl (lv_at hl 0 rfl) ?_
    refine lv_iload_n hx hb dX12_roll_42 rfl (lv_at hl 1 rfl) ?_
    refine qM_Vi (As := [.int a1]) (rest := []) C0 (c_X12_lockedBy l h) (cwV 1 C0.2.2.2.2 (tbV mM4_8_147 ⟨mM4_8_149, mpM4_5_1, mM4_1_11, mM4_8_150⟩) rfl rfl rfl (by decide +kernel) ⟨Nat.le_of_ble_eq_true rfl, Nat.le_of_ble_eq_true rfl⟩) (rcM_0 hR Nat.zero_lt_one) hR hT hS rfl hl.1 rfl (Nat.le_of_ble_eq_true rfl) dX12_roll_43 ⟨Nat.zero_le _, Nat.zero_le _⟩ (fun r13 S14 H locs h hR hS => ?_)
    refine lv_istore_n (lv' := [(2, .int r13), (0, .ref (b + adM 0 0)), (1, .int a1)]) hx hb dX12_roll_46 rfl hl (by decide) rfl (fun ls hl => ?_)
    refine lv_iconst (v := 0) hx hb dX12_roll_47 (by decide) ?_
    refine lv_istore_n (lv' := [(3, .int 0), (2, .int r13), (0, .ref (b + adM 0 0)), (1, .int a1)]) hx hb dX12_roll_48 rfl hl (by decide) rfl (fun ls hl => ?_)
    exact Bw_X12_roll_49 C0 hr hlk hT fuel a1 r13 0 S14 _ _ _ h hR hS (lv_sub hl [2, 3, 1, 0] rfl)
  · have h := h.2 c12
    refine lv_iconst (v := 0) hx hb dX12_roll_39 (by decide) ?_
    exact rtM_i C0 hr hlk hR hS h dX12_roll_40
def F_X12_roll (a1 : Int32) (S : sSt) (k : Int32 → sSt → Prop) : Prop := ∀ S1, S1 = uI S 0 0 0 0 → F_X12_noSession a1 S1 (fun r2 S3 => F_X12_throwsIf r2 1 S3 (fun r4 S5 => ((¬ r4 = 0 → k 0 S5) ∧ (r4 = 0 → F_X12_isOpen a1 S5 (fun r7 S8 => ((r7 = 0 → B_X12_roll_32 a1 1 S8 k) ∧ (¬ r7 = 0 → B_X12_roll_32 a1 0 S8 k)))))))
set_option maxHeartbeats 4000000 in
set_option maxRecDepth 100000 in
theorem c_X12_roll (l : Launch) {D : va_G} {cy : Nat → ClassId} {b z : Nat} {tx : TX} {a1 : Int32} {S : sSt} {k : Int32 → sSt → Prop} (h : F_X12_roll a1 S k) : Met l yX12_roll (Cond.code yX12_roll cX12_roll 4 (some .int) :: TB) rm_X12_roll (va_Pc [.ref (b + adM 0 0), .int a1] (fun U => RelM D cy b z tx S U U.heap ∧ TxR tx U)) (PiM D cy b z tx k) 0 0 (gA b 12 z) := by
  refine Met.ofW (cc := cX12_roll) (maxL := 4) (ret := (some .int)) (by decide) rfl ?_
  intro p e s m args below meth c s₁ B hml hv
  obtain ⟨rfl, hR, hT⟩ := hv
  have C0 : CallFix p m c cX12_roll 4 s _ TB RX12 := ⟨B.exec, B.bytes, hml, findClass_of_methodNamed B.named, fun w hw => atoms_spec B.pre w (List.mem_cons_of_mem _ hw)⟩
  have hr := B.returns
  have hlk := B.notSynchronized
  have hx := C0.1
  have hb := C0.2.1
  have hS : va_S (gA b 12 z) s.heap s.heap [] := va_S.rf
  have hl := lv_entry ([.ref (b + adM 0 0), .int a1]) (n := 4) (Nat.le_of_ble_eq_true rfl)
  rw [lg_entry_eq]
  generalize (lg_sl ([.ref (b + adM 0 0), .int a1]) ++ List.replicate (4 - (lg_sl ([.ref (b + adM 0 0), .int a1])).length) Slot.unset).toArray = ls at hl ⊢
  have hl : lv_has ls 4 [(0, .ref (b + adM 0 0)), (1, .int a1)] := hl
  show W p l e rm_X12_roll s m _ below meth c s.heap [] 0 0 (MQ below (PiM D cy b z tx k) _ s 0 0 (gA b 12 z)) _
  unfold F_X12_roll at h
  refine lv_aload_n hx hb dX12_roll_0 rfl (lv_at hl 0 rfl) ?_
  refine lv_iconst (v := 0) hx hb dX12_roll_1 (by decide) ?_
  refine pM_0_0 C0 hR hS Nat.zero_lt_one tbs_wsX120 mM4_7_77 dX12_roll_2 (fun S1 eS1 H locs hR hS => ?_)
  have h := h S1 eS1
  refine lv_aload_n hx hb dX12_roll_5 rfl (lv_at hl 0 rfl) ?_
  refine lv_aload_n hx hb dX12_roll_6 rfl (lv_at hl 0 rfl) ?_
  refine lv_iload_n hx hb dX12_roll_7 rfl (lv_at hl 1 rfl) ?_
  refine qM_Vi (As := [.int a1]) (rest := [.ref (b + adM 0 0)]) C0 (c_X12_noSession l h) (cwV 1 C0.2.2.2.2 (tbV mM4_8_33 ⟨mM4_8_35, mpM4_3_14, mM4_1_11, mM4_8_36⟩) rfl rfl rfl (by decide +kernel) ⟨Nat.le_of_ble_eq_true rfl, Nat.le_of_ble_eq_true rfl⟩) (rcM_0 hR Nat.zero_lt_one) hR hT hS rfl hl.1 rfl (Nat.le_of_ble_eq_true rfl) dX12_roll_8 ⟨Nat.zero_le _, Nat.zero_le _⟩ (fun r2 S3 H locs h hR hS => ?_)
  refine lv_iconst (v := 1) hx hb dX12_roll_11 (by decide) ?_
  refine qM_Vi (As := [.int r2, .int 1]) (rest := []) C0 (c_X12_throwsIf l h) (cwV 2 C0.2.2.2.2 (tbV mM4_8_25 ⟨mM4_8_27, mpM4_3_13, mM4_1_11, mM4_8_28⟩) rfl rfl rfl (by decide +kernel) ⟨Nat.le_of_ble_eq_true rfl, Nat.le_of_ble_eq_true rfl⟩) (rcM_0 hR Nat.zero_lt_one) hR hT hS rfl hl.1 rfl (Nat.le_of_ble_eq_true rfl) dX12_roll_12 ⟨Nat.zero_le _, Nat.zero_le _⟩ (fun r4 S5 H locs h hR hS => ?_)
  refine lv_if_ne (tgt := 39) hx hb dX12_roll_15 (by decide) (fun c6 => ?_) (fun c6 => ?_)
  · have h := h.1 c6
    refine lv_iconst (v := 0) hx hb dX12_roll_39 (by decide) ?_
    exact rtM_i C0 hr hlk hR hS h dX12_roll_40
  · have h := h.2 c6
    refine lv_aload_n hx hb dX12_roll_18 rfl (lv_at hl 0 rfl) ?_
    refine lv_aload_n hx hb dX12_roll_19 rfl (lv_at hl 0 rfl) ?_
    refine lv_iload_n hx hb dX12_roll_20 rfl (lv_at hl 1 rfl) ?_
    refine qM_Vi (As := [.int a1]) (rest := [.ref (b + adM 0 0)]) C0 (c_X12_isOpen l h) (cwV 1 C0.2.2.2.2 (tbV mM4_8_87 ⟨mM4_8_89, mpM4_4_7, mM4_1_11, mM4_8_90⟩) rfl rfl rfl (by decide +kernel) ⟨Nat.le_of_ble_eq_true rfl, Nat.le_of_ble_eq_true rfl⟩) (rcM_0 hR Nat.zero_lt_one) hR hT hS rfl hl.1 rfl (Nat.le_of_ble_eq_true rfl) dX12_roll_21 ⟨Nat.zero_le _, Nat.zero_le _⟩ (fun r7 S8 H locs h hR hS => ?_)
    refine lv_if_eq (tgt := 31) hx hb dX12_roll_24 (by decide) (fun c9 => ?_) (fun c9 => ?_)
    · have h := h.1 c9
      refine lv_iconst (v := 1) hx hb dX12_roll_31 (by decide) ?_
      exact Bw_X12_roll_32 C0 hr hlk hT a1 1 S8 _ _ _ h hR hS (lv_sub hl [0, 1] rfl)
    · have h := h.2 c9
      refine lv_iconst (v := 0) hx hb dX12_roll_27 (by decide) ?_
      refine lv_goto (tgt := 32) hx hb dX12_roll_28 (by decide) ?_
      exact Bw_X12_roll_32 C0 hr hlk hT a1 0 S8 _ _ _ h hR hS (lv_sub hl [0, 1] rfl)

def rm_X12_isOf : Room := { frames := 4, cells := 0, slots := 0, locals := 84 }
def F_X12_isOf (a1 : Int32) (a2 : Int32) (S : sSt) (k : Int32 → sSt → Prop) : Prop := F_X12_numberOf a1 S (fun r1 S2 => ((r1 = (-1) → k 0 S2) ∧ (¬ r1 = (-1) → F_X12_anyVersion a1 S2 (fun r4 S5 => ix (r4 + 0) 10421 (fun j6 => ((¬ (S5.1 1 0 j6) = a2 → k 0 S5) ∧ ((S5.1 1 0 j6) = a2 → k 1 S5)))))))
set_option maxHeartbeats 4000000 in
set_option maxRecDepth 100000 in
theorem c_X12_isOf (l : Launch) {D : va_G} {cy : Nat → ClassId} {b z : Nat} {tx : TX} {a1 : Int32} {a2 : Int32} {S : sSt} {k : Int32 → sSt → Prop} (h : F_X12_isOf a1 a2 S k) : Met l yX12_isOf (Cond.code yX12_isOf cX12_isOf 3 (some .boolean) :: TB) rm_X12_isOf (va_Pc [.ref (b + adM 0 0), .int a1, .int a2] (fun U => RelM D cy b z tx S U U.heap ∧ TxR tx U)) (PiM D cy b z tx k) 0 0 (gA b 12 z) := by
  refine Met.ofW (cc := cX12_isOf) (maxL := 3) (ret := (some .boolean)) (by decide) rfl ?_
  intro p e s m args below meth c s₁ B hml hv
  obtain ⟨rfl, hR, hT⟩ := hv
  have C0 : CallFix p m c cX12_isOf 3 s _ TB RX12 := ⟨B.exec, B.bytes, hml, findClass_of_methodNamed B.named, fun w hw => atoms_spec B.pre w (List.mem_cons_of_mem _ hw)⟩
  have hr := B.returns
  have hlk := B.notSynchronized
  have hx := C0.1
  have hb := C0.2.1
  have hS : va_S (gA b 12 z) s.heap s.heap [] := va_S.rf
  have hl := lv_entry ([.ref (b + adM 0 0), .int a1, .int a2]) (n := 3) (Nat.le_of_ble_eq_true rfl)
  rw [lg_entry_eq]
  generalize (lg_sl ([.ref (b + adM 0 0), .int a1, .int a2]) ++ List.replicate (3 - (lg_sl ([.ref (b + adM 0 0), .int a1, .int a2])).length) Slot.unset).toArray = ls at hl ⊢
  have hl : lv_has ls 3 [(0, .ref (b + adM 0 0)), (1, .int a1), (2, .int a2)] := hl
  show W p l e rm_X12_isOf s m _ below meth c s.heap [] 0 0 (MQ below (PiM D cy b z tx k) _ s 0 0 (gA b 12 z)) _
  unfold F_X12_isOf at h
  refine lv_aload_n hx hb dX12_isOf_0 rfl (lv_at hl 0 rfl) ?_
  refine lv_iload_n hx hb dX12_isOf_1 rfl (lv_at hl 1 rfl) ?_
  refine qM_Vi (As := [.int a1]) (rest := []) C0 (c_X12_numberOf l h) (cwV 1 C0.2.2.2.2 (tbV mM4_7_202 ⟨mM4_7_204, mpM4_3_3, mM4_1_11, mM4_7_205⟩) rfl rfl rfl (by decide +kernel) ⟨Nat.le_of_ble_eq_true rfl, Nat.le_of_ble_eq_true rfl⟩) (rcM_0 hR Nat.zero_lt_one) hR hT hS rfl hl.1 rfl (Nat.le_of_ble_eq_true rfl) dX12_isOf_2 ⟨Nat.zero_le _, Nat.zero_le _⟩ (fun r1 S2 H locs h hR hS => ?_)
  refine lv_iconst (v := (-1)) hx hb dX12_isOf_5 (by decide) ?_
  refine lv_icmp_eq (tgt := 29) hx hb dX12_isOf_6 (by decide) (fun c3 => ?_) (fun c3 => ?_)
  · have h := h.1 c3
    refine lv_iconst (v := 0) hx hb dX12_isOf_29 (by decide) ?_
    exact rtM_z C0 hr hlk hR hS (by decide) h dX12_isOf_30
  · have h := h.2 c3
    refine lv_aload_n hx hb dX12_isOf_9 rfl (lv_at hl 0 rfl) ?_
    refine gM_0_2 C0 hR Nat.zero_lt_one tbs_wsX120 mM4_7_79 dX12_isOf_10 ?_
    refine lv_aload_n hx hb dX12_isOf_13 rfl (lv_at hl 0 rfl) ?_
    refine lv_iload_n hx hb dX12_isOf_14 rfl (lv_at hl 1 rfl) ?_
    refine qM_Vi (As := [.int a1]) (rest := [.ref (b + adM 1 0)]) C0 (c_X12_anyVersion l h) (cwV 1 C0.2.2.2.2 (tbV mM4_8_183 ⟨mM4_8_185, mpM4_5_9, mM4_1_11, mM4_8_186⟩) rfl rfl rfl (by decide +kernel) ⟨Nat.le_of_ble_eq_true rfl, Nat.le_of_ble_eq_true rfl⟩) (rcM_0 hR Nat.zero_lt_one) hR hT hS rfl hl.1 rfl (Nat.le_of_ble_eq_true rfl) dX12_isOf_15 ⟨Nat.zero_le _, Nat.zero_le _⟩ (fun r4 S5 H locs h hR hS => ?_)
    refine lv_iconst (v := 0) hx hb dX12_isOf_18 (by decide) ?_
    refine lv_iadd hx hb dX12_isOf_19 ?_
    obtain ⟨j6, hj6, ej6, h⟩ := h
    refine lM_1 C0 hR Nat.zero_lt_one hj6 ej6 dX12_isOf_20 ?_
    refine lv_iload_n hx hb dX12_isOf_21 rfl (lv_at hl 2 rfl) ?_
    refine lv_icmp_ne (tgt := 29) hx hb dX12_isOf_22 (by decide) (fun c7 => ?_) (fun c7 => ?_)
    · have h := h.1 c7
      refine lv_iconst (v := 0) hx hb dX12_isOf_29 (by decide) ?_
      exact rtM_z C0 hr hlk hR hS (by decide) h dX12_isOf_30
    · have h := h.2 c7
      refine lv_iconst (v := 1) hx hb dX12_isOf_25 (by decide) ?_
      refine lv_goto (tgt := 30) hx hb dX12_isOf_26 (by decide) ?_
      exact rtM_z C0 hr hlk hR hS (by decide) h dX12_isOf_30

def rm_X12_isState : Room := { frames := 0, cells := 0, slots := 0, locals := 0 }
def F_X12_isState (a1 : Int32) (a2 : Int32) (S : sSt) (k : Int32 → sSt → Prop) : Prop := ((a1 = (-1) → k 0 S) ∧ (¬ a1 = (-1) → ix (a1 + 3) 10421 (fun j2 => ((¬ (S.1 1 0 j2) = a2 → k 0 S) ∧ ((S.1 1 0 j2) = a2 → k 1 S)))))
set_option maxHeartbeats 4000000 in
set_option maxRecDepth 100000 in
theorem c_X12_isState (l : Launch) {D : va_G} {cy : Nat → ClassId} {b z : Nat} {tx : TX} {a1 : Int32} {a2 : Int32} {S : sSt} {k : Int32 → sSt → Prop} (h : F_X12_isState a1 a2 S k) : Met l yX12_isState (Cond.code yX12_isState cX12_isState 3 (some .boolean) :: TB) rm_X12_isState (va_Pc [.ref (b + adM 0 0), .int a1, .int a2] (fun U => RelM D cy b z tx S U U.heap ∧ TxR tx U)) (PiM D cy b z tx k) 0 0 (gA b 12 z) := by
  refine Met.ofW (cc := cX12_isState) (maxL := 3) (ret := (some .boolean)) (by decide) rfl ?_
  intro p e s m args below meth c s₁ B hml hv
  obtain ⟨rfl, hR, hT⟩ := hv
  have C0 : CallFix p m c cX12_isState 3 s _ TB RX12 := ⟨B.exec, B.bytes, hml, findClass_of_methodNamed B.named, fun w hw => atoms_spec B.pre w (List.mem_cons_of_mem _ hw)⟩
  have hr := B.returns
  have hlk := B.notSynchronized
  have hx := C0.1
  have hb := C0.2.1
  have hS : va_S (gA b 12 z) s.heap s.heap [] := va_S.rf
  have hl := lv_entry ([.ref (b + adM 0 0), .int a1, .int a2]) (n := 3) (Nat.le_of_ble_eq_true rfl)
  rw [lg_entry_eq]
  generalize (lg_sl ([.ref (b + adM 0 0), .int a1, .int a2]) ++ List.replicate (3 - (lg_sl ([.ref (b + adM 0 0), .int a1, .int a2])).length) Slot.unset).toArray = ls at hl ⊢
  have hl : lv_has ls 3 [(0, .ref (b + adM 0 0)), (1, .int a1), (2, .int a2)] := hl
  show W p l e rm_X12_isState s m _ below meth c s.heap [] 0 0 (MQ below (PiM D cy b z tx k) _ s 0 0 (gA b 12 z)) _
  unfold F_X12_isState at h
  refine lv_iload_n hx hb dX12_isState_0 rfl (lv_at hl 1 rfl) ?_
  refine lv_iconst (v := (-1)) hx hb dX12_isState_1 (by decide) ?_
  refine lv_icmp_eq (tgt := 21) hx hb dX12_isState_2 (by decide) (fun c1 => ?_) (fun c1 => ?_)
  · have h := h.1 c1
    refine lv_iconst (v := 0) hx hb dX12_isState_21 (by decide) ?_
    exact rtM_z C0 hr hlk hR hS (by decide) h dX12_isState_22
  · have h := h.2 c1
    refine lv_aload_n hx hb dX12_isState_5 rfl (lv_at hl 0 rfl) ?_
    refine gM_0_2 C0 hR Nat.zero_lt_one tbs_wsX120 mM4_7_79 dX12_isState_6 ?_
    refine lv_iload_n hx hb dX12_isState_9 rfl (lv_at hl 1 rfl) ?_
    refine lv_iconst (v := 3) hx hb dX12_isState_10 (by decide) ?_
    refine lv_iadd hx hb dX12_isState_11 ?_
    obtain ⟨j2, hj2, ej2, h⟩ := h
    refine lM_1 C0 hR Nat.zero_lt_one hj2 ej2 dX12_isState_12 ?_
    refine lv_iload_n hx hb dX12_isState_13 rfl (lv_at hl 2 rfl) ?_
    refine lv_icmp_ne (tgt := 21) hx hb dX12_isState_14 (by decide) (fun c3 => ?_) (fun c3 => ?_)
    · have h := h.1 c3
      refine lv_iconst (v := 0) hx hb dX12_isState_21 (by decide) ?_
      exact rtM_z C0 hr hlk hR hS (by decide) h dX12_isState_22
    · have h := h.2 c3
      refine lv_iconst (v := 1) hx hb dX12_isState_17 (by decide) ?_
      refine lv_goto (tgt := 22) hx hb dX12_isState_18 (by decide) ?_
      exact rtM_z C0 hr hlk hR hS (by decide) h dX12_isState_22

def rm_X12_hasLesser : Room := { frames := 5, cells := 0, slots := 0, locals := 106 }
def B_X12_hasLesser_75 (kk19 : Int32 → Int32 → Int32 → Int32 → Int32 → sSt → Prop) (a1 : Int32) (a2 : Int32) (a4 : Int32) (a5 : Int32) (t0 : Int32) (S : sSt) (k : Int32 → sSt → Prop) : Prop := ∀ x10 : Int32, x10 = a5 + 1 → kk19 a1 a2 t0 a4 x10 S
set_option maxHeartbeats 4000000 in
set_option maxRecDepth 100000 in
theorem Bw_X12_hasLesser_75 {p : Program} {l : Launch} {e : Env} {s : State} {m : MethodId} {args : Array Value} {below : List Frame} {meth : Method} {c : Code} {D : va_G} {cy : Nat → ClassId} {b z : Nat} {tx : TX} (C0 : CallFix p m c cX12_hasLesser 6 s args TB RX12) (hr : meth.sig.returnType = (some .boolean)) (hlk : meth.locks = false) (hT : TxR tx s) {k : Int32 → sSt → Prop} {kk19 : Int32 → Int32 → Int32 → Int32 → Int32 → sSt → Prop} (ih19 : ∀ (a1 : Int32) (a2 : Int32) (a3 : Int32) (a4 : Int32) (a5 : Int32) (S : sSt) (H : Heap) (locs : List Loc) (ls : Array Slot) , kk19 a1 a2 a3 a4 a5 S → RelM D cy b z tx S s H → va_S (gA b 12 z) s.heap H locs → lv_has ls 6 [(0, .ref (b + adM 0 0)), (1, .int a1), (2, .int a2), (3, .int a3), (4, .int a4), (5, .int a5)] → W p l e rm_X12_hasLesser s m args below meth c H locs 0 0 (MQ below (PiM D cy b z tx k) args s 0 0 (gA b 12 z)) (F0 m 19 ls [])) : ∀ (a1 : Int32) (a2 : Int32) (a4 : Int32) (a5 : Int32) (t0 : Int32) (S : sSt) (H : Heap) (locs : List Loc) (ls : Array Slot) , B_X12_hasLesser_75 kk19 a1 a2 a4 a5 t0 S k → RelM D cy b z tx S s H → va_S (gA b 12 z) s.heap H locs → lv_has ls 6 [(0, .ref (b + adM 0 0)), (1, .int a1), (2, .int a2), (4, .int a4), (5, .int a5)] → W p l e rm_X12_hasLesser s m args below meth c H locs 0 0 (MQ below (PiM D cy b z tx k) args s 0 0 (gA b 12 z)) (F0 m 75 ls [.int t0]) := by
  intro a1 a2 a4 a5 t0 S H locs ls h hR hS hl
  have hx := C0.1
  have hb := C0.2.1
  unfold B_X12_hasLesser_75 at h
  refine lv_istore_n (lv' := [(3, .int t0), (0, .ref (b + adM 0 0)), (1, .int a1), (2, .int a2), (4, .int a4), (5, .int a5)]) hx hb dX12_hasLesser_75 rfl hl (by decide) rfl (fun ls hl => ?_)
  obtain ⟨x10, ex10⟩ : ∃ x10 : Int32, x10 = a5 + 1 := ⟨_, rfl⟩
  have h := h x10 ex10
  refine w_iinc (v0 := 1) (lv' := [(5, .int x10), (3, .int t0), (0, .ref (b + adM 0 0)), (1, .int a1), (2, .int a2), (4, .int a4)]) C0 dX12_hasLesser_76 hl (k := 5) rfl (by decide) (by decide) x10 ex10 rfl (fun ls hl => ?_)
  refine lv_goto (tgt := 19) hx hb dX12_hasLesser_79 (by decide) ?_
  exact ih19 a1 a2 t0 a4 x10 S _ _ _  h hR hS (lv_sub hl [2, 3, 4, 1, 5, 0] rfl)
def B_X12_hasLesser_74 (kk19 : Int32 → Int32 → Int32 → Int32 → Int32 → sSt → Prop) (a1 : Int32) (a2 : Int32) (a4 : Int32) (a5 : Int32) (S : sSt) (k : Int32 → sSt → Prop) : Prop := B_X12_hasLesser_75 kk19 a1 a2 a4 a5 0 S k
set_option maxHeartbeats 4000000 in
set_option maxRecDepth 100000 in
theorem Bw_X12_hasLesser_74 {p : Program} {l : Launch} {e : Env} {s : State} {m : MethodId} {args : Array Value} {below : List Frame} {meth : Method} {c : Code} {D : va_G} {cy : Nat → ClassId} {b z : Nat} {tx : TX} (C0 : CallFix p m c cX12_hasLesser 6 s args TB RX12) (hr : meth.sig.returnType = (some .boolean)) (hlk : meth.locks = false) (hT : TxR tx s) {k : Int32 → sSt → Prop} {kk19 : Int32 → Int32 → Int32 → Int32 → Int32 → sSt → Prop} (ih19 : ∀ (a1 : Int32) (a2 : Int32) (a3 : Int32) (a4 : Int32) (a5 : Int32) (S : sSt) (H : Heap) (locs : List Loc) (ls : Array Slot) , kk19 a1 a2 a3 a4 a5 S → RelM D cy b z tx S s H → va_S (gA b 12 z) s.heap H locs → lv_has ls 6 [(0, .ref (b + adM 0 0)), (1, .int a1), (2, .int a2), (3, .int a3), (4, .int a4), (5, .int a5)] → W p l e rm_X12_hasLesser s m args below meth c H locs 0 0 (MQ below (PiM D cy b z tx k) args s 0 0 (gA b 12 z)) (F0 m 19 ls [])) : ∀ (a1 : Int32) (a2 : Int32) (a4 : Int32) (a5 : Int32) (S : sSt) (H : Heap) (locs : List Loc) (ls : Array Slot) , B_X12_hasLesser_74 kk19 a1 a2 a4 a5 S k → RelM D cy b z tx S s H → va_S (gA b 12 z) s.heap H locs → lv_has ls 6 [(0, .ref (b + adM 0 0)), (1, .int a1), (2, .int a2), (4, .int a4), (5, .int a5)] → W p l e rm_X12_hasLesser s m args below meth c H locs 0 0 (MQ below (PiM D cy b z tx k) args s 0 0 (gA b 12 z)) (F0 m 74 ls []) := by
  intro a1 a2 a4 a5 S H locs ls h hR hS hl
  have hx := C0.1
  have hb := C0.2.1
  unfold B_X12_hasLesser_74 at h
  refine lv_iconst (v := 0) hx hb dX12_hasLesser_74 (by decide) ?_
  exact Bw_X12_hasLesser_75 C0 hr hlk hT ih19 a1 a2 a4 a5 0 S _ _ _ h hR hS (lv_sub hl [0, 1, 2, 3, 4] rfl)
def Bb_X12_hasLesser_19 (kk19 : Int32 → Int32 → Int32 → Int32 → Int32 → sSt → Prop) (a1 : Int32) (a2 : Int32) (a3 : Int32) (a4 : Int32) (a5 : Int32) (S : sSt) (k : Int32 → sSt → Prop) : Prop := ((24 ≤ a5 → bz a3 (k a3 S)) ∧ (¬ 24 ≤ a5 → ((¬ a3 = 0 → bz a3 (k a3 S)) ∧ (a3 = 0 → F_X12_isOf a5 a4 S (fun r7 S8 => ((r7 = 0 → B_X12_hasLesser_74 kk19 a1 a2 a4 a5 S8 k) ∧ (¬ r7 = 0 → F_X12_numberOf a5 S8 (fun r11 S12 => F_X12_numberOf a1 S12 (fun r13 S14 => ((r13 ≤ r11 → B_X12_hasLesser_74 kk19 a1 a2 a4 a5 S14 k) ∧ (¬ r13 ≤ r11 → F_X12_seen a5 a2 S14 (fun r16 S17 => F_X12_isState r16 0 S17 (fun r18 S19 => ((r18 = 0 → B_X12_hasLesser_74 kk19 a1 a2 a4 a5 S19 k) ∧ (¬ r18 = 0 → B_X12_hasLesser_75 kk19 a1 a2 a4 a5 1 S19 k)))))))))))))))
set_option maxHeartbeats 4000000 in
set_option maxRecDepth 100000 in
theorem Bbw_X12_hasLesser_19 {p : Program} {l : Launch} {e : Env} {s : State} {m : MethodId} {args : Array Value} {below : List Frame} {meth : Method} {c : Code} {D : va_G} {cy : Nat → ClassId} {b z : Nat} {tx : TX} (C0 : CallFix p m c cX12_hasLesser 6 s args TB RX12) (hr : meth.sig.returnType = (some .boolean)) (hlk : meth.locks = false) (hT : TxR tx s) {k : Int32 → sSt → Prop} {kk19 : Int32 → Int32 → Int32 → Int32 → Int32 → sSt → Prop} (ih19 : ∀ (a1 : Int32) (a2 : Int32) (a3 : Int32) (a4 : Int32) (a5 : Int32) (S : sSt) (H : Heap) (locs : List Loc) (ls : Array Slot) , kk19 a1 a2 a3 a4 a5 S → RelM D cy b z tx S s H → va_S (gA b 12 z) s.heap H locs → lv_has ls 6 [(0, .ref (b + adM 0 0)), (1, .int a1), (2, .int a2), (3, .int a3), (4, .int a4), (5, .int a5)] → W p l e rm_X12_hasLesser s m args below meth c H locs 0 0 (MQ below (PiM D cy b z tx k) args s 0 0 (gA b 12 z)) (F0 m 19 ls [])) : ∀ (a1 : Int32) (a2 : Int32) (a3 : Int32) (a4 : Int32) (a5 : Int32) (S : sSt) (H : Heap) (locs : List Loc) (ls : Array Slot) , Bb_X12_hasLesser_19 kk19 a1 a2 a3 a4 a5 S k → RelM D cy b z tx S s H → va_S (gA b 12 z) s.heap H locs → lv_has ls 6 [(0, .ref (b + adM 0 0)), (1, .int a1), (2, .int a2), (3, .int a3), (4, .int a4), (5, .int a5)] → W p l e rm_X12_hasLesser s m args below meth c H locs 0 0 (MQ below (PiM D cy b z tx k) args s 0 0 (gA b 12 z)) (F0 m 19 ls []) := by
  intro a1 a2 a3 a4 a5 S H locs ls h hR hS hl
  have hx := C0.1
  have hb := C0.2.1
  unfold Bb_X12_hasLesser_19 at h
  refine lv_iload hx hb dX12_hasLesser_19 (lv_at hl 5 rfl) ?_
  refine lv_bipush (v := 24) hx hb dX12_hasLesser_21 (by decide) ?_
  refine lv_icmp_ge (tgt := 82) hx hb dX12_hasLesser_23 (by decide) (fun c5 => ?_) (fun c5 => ?_)
  · have h := h.1 c5
    refine lv_iload_n hx hb dX12_hasLesser_82 rfl (lv_at hl 3 rfl) ?_
    exact rtM_z C0 hr hlk hR hS h.1 h.2 dX12_hasLesser_83
  · have h := h.2 c5
    refine lv_iload_n hx hb dX12_hasLesser_26 rfl (lv_at hl 3 rfl) ?_
    refine lv_if_ne (tgt := 82) hx hb dX12_hasLesser_27 (by decide) (fun c6 => ?_) (fun c6 => ?_)
    · have h := h.1 c6
      refine lv_iload_n hx hb dX12_hasLesser_82 rfl (lv_at hl 3 rfl) ?_
      exact rtM_z C0 hr hlk hR hS h.1 h.2 dX12_hasLesser_83
    · have h := h.2 c6
      refine lv_aload_n hx hb dX12_hasLesser_30 rfl (lv_at hl 0 rfl) ?_
      refine lv_iload hx hb dX12_hasLesser_31 (lv_at hl 5 rfl) ?_
      refine lv_iload hx hb dX12_hasLesser_33 (lv_at hl 4 rfl) ?_
      refine qM_Vi (As := [.int a5, .int a4]) (rest := []) C0 (c_X12_isOf l h) (cwV 2 C0.2.2.2.2 (tbV mM4_8_187 ⟨mM4_8_189, mpM4_5_10, mM4_1_11, mM4_8_190⟩) rfl rfl rfl (by decide +kernel) ⟨Nat.le_of_ble_eq_true rfl, Nat.le_of_ble_eq_true rfl⟩) (rcM_0 hR Nat.zero_lt_one) hR hT hS rfl hl.1 rfl (Nat.le_of_ble_eq_true rfl) dX12_hasLesser_35 ⟨Nat.zero_le _, Nat.zero_le _⟩ (fun r7 S8 H locs h hR hS => ?_)
      refine lv_if_eq (tgt := 74) hx hb dX12_hasLesser_38 (by decide) (fun c9 => ?_) (fun c9 => ?_)
      · have h := h.1 c9
        exact Bw_X12_hasLesser_74 C0 hr hlk hT ih19 a1 a2 a4 a5 S8 _ _ _ h hR hS (lv_sub hl [0, 1, 2, 4, 5] rfl)
      · have h := h.2 c9
        refine lv_aload_n hx hb dX12_hasLesser_41 rfl (lv_at hl 0 rfl) ?_
        refine lv_iload hx hb dX12_hasLesser_42 (lv_at hl 5 rfl) ?_
        refine qM_Vi (As := [.int a5]) (rest := []) C0 (c_X12_numberOf l h) (cwV 1 C0.2.2.2.2 (tbV mM4_7_202 ⟨mM4_7_204, mpM4_3_3, mM4_1_11, mM4_7_205⟩) rfl rfl rfl (by decide +kernel) ⟨Nat.le_of_ble_eq_true rfl, Nat.le_of_ble_eq_true rfl⟩) (rcM_0 hR Nat.zero_lt_one) hR hT hS rfl hl.1 rfl (Nat.le_of_ble_eq_true rfl) dX12_hasLesser_44 ⟨Nat.zero_le _, Nat.zero_le _⟩ (fun r11 S12 H locs h hR hS => ?_)
        refine lv_aload_n hx hb dX12_hasLesser_47 rfl (lv_at hl 0 rfl) ?_
        refine lv_iload_n hx hb dX12_hasLesser_48 rfl (lv_at hl 1 rfl) ?_
        refine qM_Vi (As := [.int a1]) (rest := [.int r11]) C0 (c_X12_numberOf l h) (cwV 1 C0.2.2.2.2 (tbV mM4_7_202 ⟨mM4_7_204, mpM4_3_3, mM4_1_11, mM4_7_205⟩) rfl rfl rfl (by decide +kernel) ⟨Nat.le_of_ble_eq_true rfl, Nat.le_of_ble_eq_true rfl⟩) (rcM_0 hR Nat.zero_lt_one) hR hT hS rfl hl.1 rfl (Nat.le_of_ble_eq_true rfl) dX12_hasLesser_49 ⟨Nat.zero_le _, Nat.zero_le _⟩ (fun r13 S14 H locs h hR hS => ?_)
        refine lv_icmp_ge (tgt := 74) hx hb dX12_hasLesser_52 (by decide) (fun c15 => ?_) (fun c15 => ?_)
        · have h := h.1 c15
          exact Bw_X12_hasLesser_74 C0 hr hlk hT ih19 a1 a2 a4 a5 S14 _ _ _ h hR hS (lv_sub hl [0, 1, 2, 4, 5] rfl)
        · have h := h.2 c15
          refine lv_aload_n hx hb dX12_hasLesser_55 rfl (lv_at hl 0 rfl) ?_
          refine lv_aload_n hx hb dX12_hasLesser_56 rfl (lv_at hl 0 rfl) ?_
          refine lv_iload hx hb dX12_hasLesser_57 (lv_at hl 5 rfl) ?_
          refine lv_iload_n hx hb dX12_hasLesser_59 rfl (lv_at hl 2 rfl) ?_
          refine qM_Vi (As := [.int a5, .int a2]) (rest := [.ref (b + adM 0 0)]) C0 (c_X12_seen l h) (cwV 2 C0.2.2.2.2 (tbV mM4_8_167 ⟨mM4_8_169, mpM4_5_5, mM4_1_11, mM4_8_170⟩) rfl rfl rfl (by decide +kernel) ⟨Nat.le_of_ble_eq_true rfl, Nat.le_of_ble_eq_true rfl⟩) (rcM_0 hR Nat.zero_lt_one) hR hT hS rfl hl.1 rfl (Nat.le_of_ble_eq_true rfl) dX12_hasLesser_60 ⟨Nat.zero_le _, Nat.zero_le _⟩ (fun r16 S17 H locs h hR hS => ?_)
          refine lv_iconst (v := 0) hx hb dX12_hasLesser_63 (by decide) ?_
          refine qM_Vi (As := [.int r16, .int 0]) (rest := []) C0 (c_X12_isState l h) (cwV 2 C0.2.2.2.2 (tbV mM4_8_171 ⟨mM4_8_173, mpM4_5_6, mM4_1_11, mM4_8_174⟩) rfl rfl rfl (by decide +kernel) ⟨Nat.le_of_ble_eq_true rfl, Nat.le_of_ble_eq_true rfl⟩) (rcM_0 hR Nat.zero_lt_one) hR hT hS rfl hl.1 rfl (Nat.le_of_ble_eq_true rfl) dX12_hasLesser_64 ⟨Nat.zero_le _, Nat.zero_le _⟩ (fun r18 S19 H locs h hR hS => ?_)
          refine lv_if_eq (tgt := 74) hx hb dX12_hasLesser_67 (by decide) (fun c20 => ?_) (fun c20 => ?_)
          · have h := h.1 c20
            exact Bw_X12_hasLesser_74 C0 hr hlk hT ih19 a1 a2 a4 a5 S19 _ _ _ h hR hS (lv_sub hl [0, 1, 2, 4, 5] rfl)
          · have h := h.2 c20
            refine lv_iconst (v := 1) hx hb dX12_hasLesser_70 (by decide) ?_
            refine lv_goto (tgt := 75) hx hb dX12_hasLesser_71 (by decide) ?_
            exact Bw_X12_hasLesser_75 C0 hr hlk hT ih19 a1 a2 a4 a5 1 S19 _ _ _ h hR hS (lv_sub hl [0, 1, 2, 4, 5] rfl)
def B_X12_hasLesser_19 (n9 : Nat) (a1 : Int32) (a2 : Int32) (a3 : Int32) (a4 : Int32) (a5 : Int32) (S : sSt) (k : Int32 → sSt → Prop) : Prop := (Nat.rec (motive := fun _ => Int32 → Int32 → Int32 → Int32 → Int32 → sSt → Prop) (fun _ _ _ _ _ _ => False) (fun _ r9 => fun a1 a2 a3 a4 a5 S => Bb_X12_hasLesser_19 r9 a1 a2 a3 a4 a5 S k) n9 : Int32 → Int32 → Int32 → Int32 → Int32 → sSt → Prop) a1 a2 a3 a4 a5 S
theorem B_X12_hasLesser_19_s (n9 : Nat) (a1 : Int32) (a2 : Int32) (a3 : Int32) (a4 : Int32) (a5 : Int32) (S : sSt) (k : Int32 → sSt → Prop) : B_X12_hasLesser_19 (n9 + 1) a1 a2 a3 a4 a5 S k = Bb_X12_hasLesser_19 (fun a1 a2 a3 a4 a5 S => B_X12_hasLesser_19 n9 a1 a2 a3 a4 a5 S k) a1 a2 a3 a4 a5 S k := rfl
set_option maxHeartbeats 4000000 in
set_option maxRecDepth 100000 in
theorem Bw_X12_hasLesser_19 {p : Program} {l : Launch} {e : Env} {s : State} {m : MethodId} {args : Array Value} {below : List Frame} {meth : Method} {c : Code} {D : va_G} {cy : Nat → ClassId} {b z : Nat} {tx : TX} (C0 : CallFix p m c cX12_hasLesser 6 s args TB RX12) (hr : meth.sig.returnType = (some .boolean)) (hlk : meth.locks = false) (hT : TxR tx s) {k : Int32 → sSt → Prop} : ∀ (n9 : Nat), ∀ (a1 : Int32) (a2 : Int32) (a3 : Int32) (a4 : Int32) (a5 : Int32) (S : sSt) (H : Heap) (locs : List Loc) (ls : Array Slot) , B_X12_hasLesser_19 n9 a1 a2 a3 a4 a5 S k → RelM D cy b z tx S s H → va_S (gA b 12 z) s.heap H locs → lv_has ls 6 [(0, .ref (b + adM 0 0)), (1, .int a1), (2, .int a2), (3, .int a3), (4, .int a4), (5, .int a5)] → W p l e rm_X12_hasLesser s m args below meth c H locs 0 0 (MQ below (PiM D cy b z tx k) args s 0 0 (gA b 12 z)) (F0 m 19 ls []) := by
  intro n9
  induction n9 with
  | zero => intro a1 a2 a3 a4 a5 S H locs ls h; exact h.elim
  | succ n9 ih =>
    intro a1 a2 a3 a4 a5 S H locs ls h hR hS hl
    exact Bbw_X12_hasLesser_19 C0 hr hlk hT ih a1 a2 a3 a4 a5 S H locs ls h hR hS hl
def F_X12_hasLesser (a1 : Int32) (a2 : Int32) (S : sSt) (k : Int32 → sSt → Prop) : Prop := F_X12_anyVersion a1 S (fun r1 S2 => ix (r1 + 0) 10421 (fun j3 => ∀ x4 : Int32, x4 = (S2.1 1 0 j3) → B_X12_hasLesser_19 fuel a1 a2 0 x4 0 S2 k))
set_option maxHeartbeats 4000000 in
set_option maxRecDepth 100000 in
theorem c_X12_hasLesser (l : Launch) {D : va_G} {cy : Nat → ClassId} {b z : Nat} {tx : TX} {a1 : Int32} {a2 : Int32} {S : sSt} {k : Int32 → sSt → Prop} (h : F_X12_hasLesser a1 a2 S k) : Met l yX12_hasLesser (Cond.code yX12_hasLesser cX12_hasLesser 6 (some .boolean) :: TB) rm_X12_hasLesser (va_Pc [.ref (b + adM 0 0), .int a1, .int a2] (fun U => RelM D cy b z tx S U U.heap ∧ TxR tx U)) (PiM D cy b z tx k) 0 0 (gA b 12 z) := by
  refine Met.ofW (cc := cX12_hasLesser) (maxL := 6) (ret := (some .boolean)) (by decide) rfl ?_
  intro p e s m args below meth c s₁ B hml hv
  obtain ⟨rfl, hR, hT⟩ := hv
  have C0 : CallFix p m c cX12_hasLesser 6 s _ TB RX12 := ⟨B.exec, B.bytes, hml, findClass_of_methodNamed B.named, fun w hw => atoms_spec B.pre w (List.mem_cons_of_mem _ hw)⟩
  have hr := B.returns
  have hlk := B.notSynchronized
  have hx := C0.1
  have hb := C0.2.1
  have hS : va_S (gA b 12 z) s.heap s.heap [] := va_S.rf
  have hl := lv_entry ([.ref (b + adM 0 0), .int a1, .int a2]) (n := 6) (Nat.le_of_ble_eq_true rfl)
  rw [lg_entry_eq]
  generalize (lg_sl ([.ref (b + adM 0 0), .int a1, .int a2]) ++ List.replicate (6 - (lg_sl ([.ref (b + adM 0 0), .int a1, .int a2])).length) Slot.unset).toArray = ls at hl ⊢
  have hl : lv_has ls 6 [(0, .ref (b + adM 0 0)), (1, .int a1), (2, .int a2)] := hl
  show W p l e rm_X12_hasLesser s m _ below meth c s.heap [] 0 0 (MQ below (PiM D cy b z tx k) _ s 0 0 (gA b 12 z)) _
  unfold F_X12_hasLesser at h
  refine lv_iconst (v := 0) hx hb dX12_hasLesser_0 (by decide) ?_
  refine lv_istore_n (lv' := [(3, .int 0), (0, .ref (b + adM 0 0)), (1, .int a1), (2, .int a2)]) hx hb dX12_hasLesser_1 rfl hl (by decide) rfl (fun ls hl => ?_)
  refine lv_aload_n hx hb dX12_hasLesser_2 rfl (lv_at hl 1 rfl) ?_
  refine gM_0_2 C0 hR Nat.zero_lt_one tbs_wsX120 mM4_7_79 dX12_hasLesser_3 ?_
  refine lv_aload_n hx hb dX12_hasLesser_6 rfl (lv_at hl 1 rfl) ?_
  refine lv_iload_n hx hb dX12_hasLesser_7 rfl (lv_at hl 2 rfl) ?_
  refine qM_Vi (As := [.int a1]) (rest := [.ref (b + adM 1 0)]) C0 (c_X12_anyVersion l h) (cwV 1 C0.2.2.2.2 (tbV mM4_8_183 ⟨mM4_8_185, mpM4_5_9, mM4_1_11, mM4_8_186⟩) rfl rfl rfl (by decide +kernel) ⟨Nat.le_of_ble_eq_true rfl, Nat.le_of_ble_eq_true rfl⟩) (rcM_0 hR Nat.zero_lt_one) hR hT hS rfl hl.1 rfl (Nat.le_of_ble_eq_true rfl) dX12_hasLesser_8 ⟨Nat.zero_le _, Nat.zero_le _⟩ (fun r1 S2 H locs h hR hS => ?_)
  refine lv_iconst (v := 0) hx hb dX12_hasLesser_11 (by decide) ?_
  refine lv_iadd hx hb dX12_hasLesser_12 ?_
  obtain ⟨j3, hj3, ej3, h⟩ := h
  refine lM_1 C0 hR Nat.zero_lt_one hj3 ej3 dX12_hasLesser_13 ?_
  refine lv_topi (fun x4 ex4 => ?_)
  have h := h x4 ex4
  refine lv_istore (lv' := [(4, .int x4), (3, .int 0), (0, .ref (b + adM 0 0)), (1, .int a1), (2, .int a2)]) hx hb dX12_hasLesser_14 hl (by decide) rfl (fun ls hl => ?_)
  refine lv_iconst (v := 0) hx hb dX12_hasLesser_16 (by decide) ?_
  refine lv_istore (lv' := [(5, .int 0), (4, .int x4), (3, .int 0), (0, .ref (b + adM 0 0)), (1, .int a1), (2, .int a2)]) hx hb dX12_hasLesser_17 hl (by decide) rfl (fun ls hl => ?_)
  exact Bw_X12_hasLesser_19 C0 hr hlk hT fuel a1 a2 0 x4 0 S2 _ _ _ h hR hS (lv_sub hl [3, 4, 5, 2, 1, 0] rfl)
