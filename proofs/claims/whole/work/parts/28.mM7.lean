theorem mM7_7_77 : Cond.fieldLink RX12 3 "ClaimTableModel" "thrown" "I" ∈ TB := tbT_7 _ (List.mem_of_getElem? (i := 77) rfl) rfl
theorem mM7_8_33 : Cond.methodLink RX12 245 yX12_noSession ∈ TB := tbT_8 _ (List.mem_of_getElem? (i := 33) rfl) rfl
theorem mM7_8_36 : Cond.code yX12_noSession cX12_noSession 2 (some .boolean) ∈ TB := tbT_8 _ (List.mem_of_getElem? (i := 36) rfl) rfl
theorem mM7_8_35 : Cond.instanceMethod yX12_noSession ∈ TB := tbT_8 _ (List.mem_of_getElem? (i := 35) rfl) rfl
theorem mpM7_3_14 : Cond.selects RX12 yX12_noSession yX12_noSession ∈ TB := tbP_3 (yX12_noSession, 19) (List.mem_of_getElem? (i := 14) rfl)
theorem mM7_1_11 : Cond.initialized RX12 ∈ TB := tbT_1 _ (List.mem_of_getElem? (i := 11) rfl) rfl
theorem mM7_8_25 : Cond.methodLink RX12 199 yX12_throwsIf ∈ TB := tbT_8 _ (List.mem_of_getElem? (i := 25) rfl) rfl
theorem mM7_8_28 : Cond.code yX12_throwsIf cX12_throwsIf 3 (some .boolean) ∈ TB := tbT_8 _ (List.mem_of_getElem? (i := 28) rfl) rfl
theorem mM7_8_27 : Cond.instanceMethod yX12_throwsIf ∈ TB := tbT_8 _ (List.mem_of_getElem? (i := 27) rfl) rfl
theorem mpM7_3_13 : Cond.selects RX12 yX12_throwsIf yX12_throwsIf ∈ TB := tbP_3 (yX12_throwsIf, 19) (List.mem_of_getElem? (i := 13) rfl)
theorem mM7_8_37 : Cond.methodLink RX12 66 yX12_in ∈ TB := tbT_8 _ (List.mem_of_getElem? (i := 37) rfl) rfl
theorem mM7_8_39 : Cond.code yX12_in cX12_in 3 (some .boolean) ∈ TB := tbT_8 _ (List.mem_of_getElem? (i := 39) rfl) rfl
theorem mM7_8_38 : Cond.static yX12_in ∈ TB := tbT_8 _ (List.mem_of_getElem? (i := 38) rfl) rfl
theorem mM7_7_198 : Cond.methodLink RX12 119 yX12_jobsLying ∈ TB := tbT_7 _ (List.mem_of_getElem? (i := 198) rfl) rfl
theorem mM7_7_201 : Cond.code yX12_jobsLying cX12_jobsLying 3 (some .int) ∈ TB := tbT_7 _ (List.mem_of_getElem? (i := 201) rfl) rfl
theorem mM7_7_200 : Cond.instanceMethod yX12_jobsLying ∈ TB := tbT_7 _ (List.mem_of_getElem? (i := 200) rfl) rfl
theorem mpM7_3_2 : Cond.selects RX12 yX12_jobsLying yX12_jobsLying ∈ TB := tbP_3 (yX12_jobsLying, 19) (List.mem_of_getElem? (i := 2) rfl)
theorem mM7_7_79 : Cond.fieldLink RX12 13 "ClaimTableModel" "world" "[I" ∈ TB := tbT_7 _ (List.mem_of_getElem? (i := 79) rfl) rfl
theorem mM7_7_222 : Cond.methodLink RX12 136 yX12_comes ∈ TB := tbT_7 _ (List.mem_of_getElem? (i := 222) rfl) rfl
theorem mM7_7_225 : Cond.code yX12_comes cX12_comes 9 (some .int) ∈ TB := tbT_7 _ (List.mem_of_getElem? (i := 225) rfl) rfl
theorem mM7_7_224 : Cond.instanceMethod yX12_comes ∈ TB := tbT_7 _ (List.mem_of_getElem? (i := 224) rfl) rfl
theorem mpM7_3_7 : Cond.selects RX12 yX12_comes yX12_comes ∈ TB := tbP_3 (yX12_comes, 19) (List.mem_of_getElem? (i := 7) rfl)
theorem mM7_7_74 : Cond.methodLink RX12 51 yX12_jobAt ∈ TB := tbT_7 _ (List.mem_of_getElem? (i := 74) rfl) rfl
theorem mM7_7_76 : Cond.code yX12_jobAt cX12_jobAt 2 (some .int) ∈ TB := tbT_7 _ (List.mem_of_getElem? (i := 76) rfl) rfl
theorem mM7_7_75 : Cond.static yX12_jobAt ∈ TB := tbT_7 _ (List.mem_of_getElem? (i := 75) rfl) rfl
theorem mM7_7_202 : Cond.methodLink RX12 59 yX12_numberOf ∈ TB := tbT_7 _ (List.mem_of_getElem? (i := 202) rfl) rfl
theorem mM7_7_205 : Cond.code yX12_numberOf cX12_numberOf 2 (some .int) ∈ TB := tbT_7 _ (List.mem_of_getElem? (i := 205) rfl) rfl
theorem mM7_7_204 : Cond.instanceMethod yX12_numberOf ∈ TB := tbT_7 _ (List.mem_of_getElem? (i := 204) rfl) rfl
theorem mpM7_3_3 : Cond.selects RX12 yX12_numberOf yX12_numberOf ∈ TB := tbP_3 (yX12_numberOf, 19) (List.mem_of_getElem? (i := 3) rfl)
theorem mM7_8_211 : Cond.methodLink RX12 331 yX12_isDone ∈ TB := tbT_8 _ (List.mem_of_getElem? (i := 211) rfl) rfl
theorem mM7_8_214 : Cond.code yX12_isDone cX12_isDone 2 none ∈ TB := tbT_8 _ (List.mem_of_getElem? (i := 214) rfl) rfl
theorem mM7_8_213 : Cond.instanceMethod yX12_isDone ∈ TB := tbT_8 _ (List.mem_of_getElem? (i := 213) rfl) rfl
theorem mpM7_6_0 : Cond.selects RX12 yX12_isDone yX12_isDone ∈ TB := tbP_6 (yX12_isDone, 19) (List.mem_of_getElem? (i := 0) rfl)
theorem mM7_8_122 : Cond.methodLink RX12 73 yX12_isIn ∈ TB := tbT_8 _ (List.mem_of_getElem? (i := 122) rfl) rfl
theorem mM7_8_125 : Cond.code yX12_isIn cX12_isIn 2 (some .boolean) ∈ TB := tbT_8 _ (List.mem_of_getElem? (i := 125) rfl) rfl
theorem mM7_8_124 : Cond.instanceMethod yX12_isIn ∈ TB := tbT_8 _ (List.mem_of_getElem? (i := 124) rfl) rfl
theorem mpM7_4_13 : Cond.selects RX12 yX12_isIn yX12_isIn ∈ TB := tbP_4 (yX12_isIn, 19) (List.mem_of_getElem? (i := 13) rfl)
theorem mM7_8_106 : Cond.methodLink RX12 70 yX12_lockerOf ∈ TB := tbT_8 _ (List.mem_of_getElem? (i := 106) rfl) rfl
theorem mM7_8_109 : Cond.code yX12_lockerOf cX12_lockerOf 2 (some .int) ∈ TB := tbT_8 _ (List.mem_of_getElem? (i := 109) rfl) rfl
theorem mM7_8_108 : Cond.instanceMethod yX12_lockerOf ∈ TB := tbT_8 _ (List.mem_of_getElem? (i := 108) rfl) rfl
theorem mpM7_4_10 : Cond.selects RX12 yX12_lockerOf yX12_lockerOf ∈ TB := tbP_4 (yX12_lockerOf, 19) (List.mem_of_getElem? (i := 10) rfl)
theorem mM7_8_13 : Cond.methodLink RX12 153 yX12_planAt ∈ TB := tbT_8 _ (List.mem_of_getElem? (i := 13) rfl) rfl
theorem mM7_8_15 : Cond.code yX12_planAt cX12_planAt 2 (some .int) ∈ TB := tbT_8 _ (List.mem_of_getElem? (i := 15) rfl) rfl
theorem mM7_8_14 : Cond.static yX12_planAt ∈ TB := tbT_8 _ (List.mem_of_getElem? (i := 14) rfl) rfl
theorem mM7_8_16 : Cond.methodLink RX12 156 yX12_slotNow ∈ TB := tbT_8 _ (List.mem_of_getElem? (i := 16) rfl) rfl
theorem mM7_8_19 : Cond.code yX12_slotNow cX12_slotNow 3 (some .int) ∈ TB := tbT_8 _ (List.mem_of_getElem? (i := 19) rfl) rfl
theorem mM7_8_18 : Cond.instanceMethod yX12_slotNow ∈ TB := tbT_8 _ (List.mem_of_getElem? (i := 18) rfl) rfl
theorem mpM7_3_12 : Cond.selects RX12 yX12_slotNow yX12_slotNow ∈ TB := tbP_3 (yX12_slotNow, 19) (List.mem_of_getElem? (i := 12) rfl)
theorem mM7_9_53 : Cond.methodLink RX12 359 yX12_fires ∈ TB := tbT_9 _ (List.mem_of_getElem? (i := 53) rfl) rfl
theorem mM7_9_56 : Cond.code yX12_fires cX12_fires 4 (some .boolean) ∈ TB := tbT_9 _ (List.mem_of_getElem? (i := 56) rfl) rfl
theorem mM7_9_55 : Cond.instanceMethod yX12_fires ∈ TB := tbT_9 _ (List.mem_of_getElem? (i := 55) rfl) rfl
theorem mpM7_6_11 : Cond.selects RX12 yX12_fires yX12_fires ∈ TB := tbP_6 (yX12_fires, 19) (List.mem_of_getElem? (i := 11) rfl)
theorem mM7_9_49 : Cond.methodLink RX12 356 yX12_timeOf ∈ TB := tbT_9 _ (List.mem_of_getElem? (i := 49) rfl) rfl
theorem mM7_9_52 : Cond.code yX12_timeOf cX12_timeOf 3 (some .int) ∈ TB := tbT_9 _ (List.mem_of_getElem? (i := 52) rfl) rfl
theorem mM7_9_51 : Cond.instanceMethod yX12_timeOf ∈ TB := tbT_9 _ (List.mem_of_getElem? (i := 51) rfl) rfl
theorem mpM7_6_10 : Cond.selects RX12 yX12_timeOf yX12_timeOf ∈ TB := tbP_6 (yX12_timeOf, 19) (List.mem_of_getElem? (i := 10) rfl)
theorem mM7_9_48 : Cond.methodLink RX12 353 Lib.Math.max.name ∈ TB := tbT_9 _ (List.mem_of_getElem? (i := 48) rfl) rfl
theorem mM7_3_47 : Cond.static Lib.Math.max.name ∈ TB := tbT_3 _ (List.mem_of_getElem? (i := 47) rfl) rfl
theorem mM7_1_25 : Cond.initialized "java/lang/Math" ∈ TB := tbT_1 _ (List.mem_of_getElem? (i := 25) rfl) rfl
theorem mM7_3_48 : Cond.code Lib.Math.max.name Lib.Math.max.code 2 (some .int) ∈ TB := tbT_3 _ (List.mem_of_getElem? (i := 48) rfl) rfl
theorem mM7_9_44 : Cond.methodLink RX12 362 yX12_looks ∈ TB := tbT_9 _ (List.mem_of_getElem? (i := 44) rfl) rfl
theorem mM7_9_47 : Cond.code yX12_looks cX12_looks 8 (some .int) ∈ TB := tbT_9 _ (List.mem_of_getElem? (i := 47) rfl) rfl
theorem mM7_9_46 : Cond.instanceMethod yX12_looks ∈ TB := tbT_9 _ (List.mem_of_getElem? (i := 46) rfl) rfl
theorem mpM7_6_9 : Cond.selects RX12 yX12_looks yX12_looks ∈ TB := tbP_6 (yX12_looks, 19) (List.mem_of_getElem? (i := 9) rfl)
theorem mM7_8_142 : Cond.methodLink RX12 258 Lib.Math.min.name ∈ TB := tbT_8 _ (List.mem_of_getElem? (i := 142) rfl) rfl
theorem mM7_5_67 : Cond.static Lib.Math.min.name ∈ TB := tbT_5 _ (List.mem_of_getElem? (i := 67) rfl) rfl
theorem mM7_5_68 : Cond.code Lib.Math.min.name Lib.Math.min.code 2 (some .int) ∈ TB := tbT_5 _ (List.mem_of_getElem? (i := 68) rfl) rfl
theorem mM7_9_40 : Cond.methodLink RX12 365 yX12_allLook ∈ TB := tbT_9 _ (List.mem_of_getElem? (i := 40) rfl) rfl
theorem mM7_9_43 : Cond.code yX12_allLook cX12_allLook 3 (some .int) ∈ TB := tbT_9 _ (List.mem_of_getElem? (i := 43) rfl) rfl
theorem mM7_9_42 : Cond.instanceMethod yX12_allLook ∈ TB := tbT_9 _ (List.mem_of_getElem? (i := 42) rfl) rfl
theorem mpM7_6_8 : Cond.selects RX12 yX12_allLook yX12_allLook ∈ TB := tbP_6 (yX12_allLook, 19) (List.mem_of_getElem? (i := 8) rfl)
theorem mM7_9_36 : Cond.methodLink RX12 368 yX12_goesOn ∈ TB := tbT_9 _ (List.mem_of_getElem? (i := 36) rfl) rfl
theorem mM7_9_39 : Cond.code yX12_goesOn cX12_goesOn 4 (some .int) ∈ TB := tbT_9 _ (List.mem_of_getElem? (i := 39) rfl) rfl
theorem mM7_9_38 : Cond.instanceMethod yX12_goesOn ∈ TB := tbT_9 _ (List.mem_of_getElem? (i := 38) rfl) rfl
theorem mpM7_6_7 : Cond.selects RX12 yX12_goesOn yX12_goesOn ∈ TB := tbP_6 (yX12_goesOn, 19) (List.mem_of_getElem? (i := 7) rfl)
theorem mM7_9_61 : Cond.methodLink RX12 371 yX12_jumps ∈ TB := tbT_9 _ (List.mem_of_getElem? (i := 61) rfl) rfl
theorem mM7_9_64 : Cond.code yX12_jumps cX12_jumps 2 (some .int) ∈ TB := tbT_9 _ (List.mem_of_getElem? (i := 64) rfl) rfl
theorem mM7_9_63 : Cond.instanceMethod yX12_jumps ∈ TB := tbT_9 _ (List.mem_of_getElem? (i := 63) rfl) rfl
theorem mpM7_6_12 : Cond.selects RX12 yX12_jumps yX12_jumps ∈ TB := tbP_6 (yX12_jumps, 19) (List.mem_of_getElem? (i := 12) rfl)
theorem mM7_9_69 : Cond.methodLink RX12 374 yX12_keepsAll ∈ TB := tbT_9 _ (List.mem_of_getElem? (i := 69) rfl) rfl
theorem mM7_9_72 : Cond.code yX12_keepsAll cX12_keepsAll 2 none ∈ TB := tbT_9 _ (List.mem_of_getElem? (i := 72) rfl) rfl
theorem mM7_9_71 : Cond.instanceMethod yX12_keepsAll ∈ TB := tbT_9 _ (List.mem_of_getElem? (i := 71) rfl) rfl
theorem mpM7_6_13 : Cond.selects RX12 yX12_keepsAll yX12_keepsAll ∈ TB := tbP_6 (yX12_keepsAll, 19) (List.mem_of_getElem? (i := 13) rfl)
theorem mM7_9_73 : Cond.methodLink RX12 377 yX12_bringsBack ∈ TB := tbT_9 _ (List.mem_of_getElem? (i := 73) rfl) rfl
theorem mM7_9_76 : Cond.code yX12_bringsBack cX12_bringsBack 2 none ∈ TB := tbT_9 _ (List.mem_of_getElem? (i := 76) rfl) rfl
theorem mM7_9_75 : Cond.instanceMethod yX12_bringsBack ∈ TB := tbT_9 _ (List.mem_of_getElem? (i := 75) rfl) rfl
theorem mpM7_6_14 : Cond.selects RX12 yX12_bringsBack yX12_bringsBack ∈ TB := tbP_6 (yX12_bringsBack, 19) (List.mem_of_getElem? (i := 14) rfl)
theorem mM7_8_223 : Cond.methodLink RX12 337 yX12_jobFor ∈ TB := tbT_8 _ (List.mem_of_getElem? (i := 223) rfl) rfl
theorem mM7_8_226 : Cond.code yX12_jobFor cX12_jobFor 5 (some .int) ∈ TB := tbT_8 _ (List.mem_of_getElem? (i := 226) rfl) rfl
theorem mM7_8_225 : Cond.instanceMethod yX12_jobFor ∈ TB := tbT_8 _ (List.mem_of_getElem? (i := 225) rfl) rfl
theorem mpM7_6_2 : Cond.selects RX12 yX12_jobFor yX12_jobFor ∈ TB := tbP_6 (yX12_jobFor, 19) (List.mem_of_getElem? (i := 2) rfl)
theorem mM7_8_167 : Cond.methodLink RX12 295 yX12_seen ∈ TB := tbT_8 _ (List.mem_of_getElem? (i := 167) rfl) rfl
theorem mM7_8_170 : Cond.code yX12_seen cX12_seen 3 (some .int) ∈ TB := tbT_8 _ (List.mem_of_getElem? (i := 170) rfl) rfl
theorem mM7_8_169 : Cond.instanceMethod yX12_seen ∈ TB := tbT_8 _ (List.mem_of_getElem? (i := 169) rfl) rfl
theorem mpM7_5_5 : Cond.selects RX12 yX12_seen yX12_seen ∈ TB := tbP_5 (yX12_seen, 19) (List.mem_of_getElem? (i := 5) rfl)
def rm_X12_bring : Room := { frames := 6, cells := 0, slots := 0, locals := 128 }
def B_X12_bring_84 (a1 : Int32) (a2 : Int32) (a3 : Int32) (a4 : Int32) (t1 : Int32) (S : sSt) (k : Int32 → sSt → Prop) : Prop := F_X12_throwsIf t1 3 S (fun r17 S18 => ((r17 = 0 → F_X12_comes 25 0 a2 a3 a4 (S18.1 1 0 3) S18 (fun r20 S21 => F_X12_jobAt r20 2 S21 (fun r22 S23 => ix r22 10421 (fun j24 => ∀ S25, S25 = uI S23 1 0 j24 a1 → F_X12_numberOf r20 S25 (fun r26 S27 => F_X12_isDone a1 S27 (fun S29 => k r26 S29)))))) ∧ (¬ r17 = 0 → k 0 S18)))
set_option maxHeartbeats 4000000 in
set_option maxRecDepth 100000 in
theorem Bw_X12_bring_84 {p : Program} {l : Launch} {e : Env} {s : State} {m : MethodId} {args : Array Value} {below : List Frame} {meth : Method} {c : Code} {D : va_G} {cy : Nat → ClassId} {b z : Nat} {tx : TX} (C0 : CallFix p m c cX12_bring 7 s args TB RX12) (hr : meth.sig.returnType = (some .int)) (hlk : meth.locks = false) (hT : TxR tx s) {k : Int32 → sSt → Prop} : ∀ (a1 : Int32) (a2 : Int32) (a3 : Int32) (a4 : Int32) (t1 : Int32) (S : sSt) (H : Heap) (locs : List Loc) (ls : Array Slot) , B_X12_bring_84 a1 a2 a3 a4 t1 S k → RelM D cy b z tx S s H → va_S (gA b 12 z) s.heap H locs → lv_has ls 7 [(0, .ref (b + adM 0 0)), (1, .int a1), (2, .int a2), (3, .int a3), (4, .int a4)] → W p l e rm_X12_bring s m args below meth c H locs 0 0 (MQ below (PiM D cy b z tx k) args s 0 0 (gA b 12 z)) (F0 m 84 ls [.int t1, .ref (b + adM 0 0)]) := by
  intro a1 a2 a3 a4 t1 S H locs ls h hR hS hl
  have hx := C0.1
  have hb := C0.2.1
  unfold B_X12_bring_84 at h
  refine lv_iconst (v := 3) hx hb dX12_bring_84 (by decide) ?_
  refine qM_Vi (As := [.int t1, .int 3]) (rest := []) C0 (c_X12_throwsIf l h) (cwV 2 C0.2.2.2.2 (tbV mM7_8_25 ⟨mM7_8_27, mpM7_3_13, mM7_1_11, mM7_8_28⟩) rfl rfl rfl (by decide +kernel) ⟨Nat.le_of_ble_eq_true rfl, Nat.le_of_ble_eq_true rfl⟩) (rcM_0 hR Nat.zero_lt_one) hR hT hS rfl hl.1 rfl (Nat.le_of_ble_eq_true rfl) dX12_bring_85 ⟨Nat.zero_le _, Nat.zero_le _⟩ (fun r17 S18 H locs h hR hS => ?_)
  refine lv_if_eq (tgt := 93) hx hb dX12_bring_88 (by decide) (fun c19 => ?_) (fun c19 => ?_)
  · have h := h.1 c19
    refine lv_aload_n hx hb dX12_bring_93 rfl (lv_at hl 0 rfl) ?_
    refine lv_bipush (v := 25) hx hb dX12_bring_94 (by decide) ?_
    refine lv_iconst (v := 0) hx hb dX12_bring_96 (by decide) ?_
    refine lv_iload_n hx hb dX12_bring_97 rfl (lv_at hl 2 rfl) ?_
    refine lv_iload_n hx hb dX12_bring_98 rfl (lv_at hl 3 rfl) ?_
    refine lv_iload hx hb dX12_bring_99 (lv_at hl 4 rfl) ?_
    refine lv_aload_n hx hb dX12_bring_101 rfl (lv_at hl 0 rfl) ?_
    refine gM_0_2 C0 hR Nat.zero_lt_one tbs_wsX120 mM7_7_79 dX12_bring_102 ?_
    refine lv_iconst (v := 3) hx hb dX12_bring_105 (by decide) ?_
    refine lM_1 C0 hR Nat.zero_lt_one (by decide) rfl dX12_bring_106 ?_
    refine qM_Vi (As := [.int 25, .int 0, .int a2, .int a3, .int a4, .int (S18.1 1 0 3)]) (rest := []) C0 (c_X12_comes l h) (cwV 6 C0.2.2.2.2 (tbV mM7_7_222 ⟨mM7_7_224, mpM7_3_7, mM7_1_11, mM7_7_225⟩) rfl rfl rfl (by decide +kernel) ⟨Nat.le_of_ble_eq_true rfl, Nat.le_of_ble_eq_true rfl⟩) (rcM_0 hR Nat.zero_lt_one) hR hT hS rfl hl.1 rfl (Nat.le_of_ble_eq_true rfl) dX12_bring_107 ⟨Nat.zero_le _, Nat.zero_le _⟩ (fun r20 S21 H locs h hR hS => ?_)
    refine lv_istore (lv' := [(5, .int r20), (0, .ref (b + adM 0 0)), (1, .int a1), (2, .int a2), (3, .int a3), (4, .int a4)]) hx hb dX12_bring_110 hl (by decide) rfl (fun ls hl => ?_)
    refine lv_aload_n hx hb dX12_bring_112 rfl (lv_at hl 1 rfl) ?_
    refine gM_0_2 C0 hR Nat.zero_lt_one tbs_wsX120 mM7_7_79 dX12_bring_113 ?_
    refine lv_iload hx hb dX12_bring_116 (lv_at hl 0 rfl) ?_
    refine lv_iconst (v := 2) hx hb dX12_bring_118 (by decide) ?_
    refine qM_Si (As := [.int r20, .int 2]) (rest := [.ref (b + adM 1 0)]) C0 (c_X12_jobAt l h) (va_cwS 2 C0.2.2.2.2 (tbS mM7_7_74 ⟨mM7_7_75, mM7_1_11, mM7_7_76⟩) rfl rfl rfl (by decide +kernel) ⟨Nat.le_of_ble_eq_true rfl, Nat.le_of_ble_eq_true rfl⟩) hR hT hS rfl hl.1 rfl (Nat.le_of_ble_eq_true rfl) dX12_bring_119 ⟨Nat.zero_le _, Nat.zero_le _⟩ (fun r22 S23 H locs h hR hS => ?_)
    refine lv_iload_n hx hb dX12_bring_122 rfl (lv_at hl 2 rfl) ?_
    obtain ⟨j24, hj24, ej24, h⟩ := h
    refine sM_1 C0 hR hS Nat.zero_lt_one hj24 ej24 dX12_bring_123 (fun S25 eS25 H locs hR hS => ?_)
    have h := h S25 eS25
    refine lv_aload_n hx hb dX12_bring_124 rfl (lv_at hl 1 rfl) ?_
    refine lv_iload hx hb dX12_bring_125 (lv_at hl 0 rfl) ?_
    refine qM_Vi (As := [.int r20]) (rest := []) C0 (c_X12_numberOf l h) (cwV 1 C0.2.2.2.2 (tbV mM7_7_202 ⟨mM7_7_204, mpM7_3_3, mM7_1_11, mM7_7_205⟩) rfl rfl rfl (by decide +kernel) ⟨Nat.le_of_ble_eq_true rfl, Nat.le_of_ble_eq_true rfl⟩) (rcM_0 hR Nat.zero_lt_one) hR hT hS rfl hl.1 rfl (Nat.le_of_ble_eq_true rfl) dX12_bring_127 ⟨Nat.zero_le _, Nat.zero_le _⟩ (fun r26 S27 H locs h hR hS => ?_)
    refine lv_istore (lv' := [(6, .int r26), (5, .int r20), (0, .ref (b + adM 0 0)), (1, .int a1), (2, .int a2), (3, .int a3), (4, .int a4)]) hx hb dX12_bring_130 hl (by decide) rfl (fun ls hl => ?_)
    refine lv_aload_n hx hb dX12_bring_132 rfl (lv_at hl 2 rfl) ?_
    refine lv_iload_n hx hb dX12_bring_133 rfl (lv_at hl 3 rfl) ?_
    refine qM_Vv (As := [.int a1]) (rest := []) C0 (c_X12_isDone l h) (cwV 1 C0.2.2.2.2 (tbV mM7_8_211 ⟨mM7_8_213, mpM7_6_0, mM7_1_11, mM7_8_214⟩) rfl rfl rfl (by decide +kernel) ⟨Nat.le_of_ble_eq_true rfl, Nat.le_of_ble_eq_true rfl⟩) (rcM_0 hR Nat.zero_lt_one) hR hT hS rfl hl.1 rfl (Nat.le_of_ble_eq_true rfl) dX12_bring_134 ⟨Nat.zero_le _, Nat.zero_le _⟩ (fun S29 H locs h hR hS => ?_)
    refine lv_iload hx hb dX12_bring_137 (lv_at hl 0 rfl) ?_
    exact rtM_i C0 hr hlk hR hS h dX12_bring_139
  · have h := h.2 c19
    refine lv_iconst (v := 0) hx hb dX12_bring_91 (by decide) ?_
    exact rtM_i C0 hr hlk hR hS h dX12_bring_92
def B_X12_bring_62 (a1 : Int32) (a2 : Int32) (a3 : Int32) (a4 : Int32) (t1 : Int32) (S : sSt) (k : Int32 → sSt → Prop) : Prop := F_X12_throwsIf t1 2 S (fun r11 S12 => ((¬ r11 = 0 → k 0 S12) ∧ (r11 = 0 → F_X12_jobsLying S12 (fun r14 S15 => ((¬ r14 = 24 → B_X12_bring_84 a1 a2 a3 a4 0 S15 k) ∧ (r14 = 24 → B_X12_bring_84 a1 a2 a3 a4 1 S15 k))))))
set_option maxHeartbeats 4000000 in
set_option maxRecDepth 100000 in
theorem Bw_X12_bring_62 {p : Program} {l : Launch} {e : Env} {s : State} {m : MethodId} {args : Array Value} {below : List Frame} {meth : Method} {c : Code} {D : va_G} {cy : Nat → ClassId} {b z : Nat} {tx : TX} (C0 : CallFix p m c cX12_bring 7 s args TB RX12) (hr : meth.sig.returnType = (some .int)) (hlk : meth.locks = false) (hT : TxR tx s) {k : Int32 → sSt → Prop} : ∀ (a1 : Int32) (a2 : Int32) (a3 : Int32) (a4 : Int32) (t1 : Int32) (S : sSt) (H : Heap) (locs : List Loc) (ls : Array Slot) , B_X12_bring_62 a1 a2 a3 a4 t1 S k → RelM D cy b z tx S s H → va_S (gA b 12 z) s.heap H locs → lv_has ls 7 [(0, .ref (b + adM 0 0)), (1, .int a1), (2, .int a2), (3, .int a3), (4, .int a4)] → W p l e rm_X12_bring s m args below meth c H locs 0 0 (MQ below (PiM D cy b z tx k) args s 0 0 (gA b 12 z)) (F0 m 62 ls [.int t1, .ref (b + adM 0 0)]) := by
  intro a1 a2 a3 a4 t1 S H locs ls h hR hS hl
  have hx := C0.1
  have hb := C0.2.1
  unfold B_X12_bring_62 at h
  refine lv_iconst (v := 2) hx hb dX12_bring_62 (by decide) ?_
  refine qM_Vi (As := [.int t1, .int 2]) (rest := []) C0 (c_X12_throwsIf l h) (cwV 2 C0.2.2.2.2 (tbV mM7_8_25 ⟨mM7_8_27, mpM7_3_13, mM7_1_11, mM7_8_28⟩) rfl rfl rfl (by decide +kernel) ⟨Nat.le_of_ble_eq_true rfl, Nat.le_of_ble_eq_true rfl⟩) (rcM_0 hR Nat.zero_lt_one) hR hT hS rfl hl.1 rfl (Nat.le_of_ble_eq_true rfl) dX12_bring_63 ⟨Nat.zero_le _, Nat.zero_le _⟩ (fun r11 S12 H locs h hR hS => ?_)
  refine lv_if_ne (tgt := 91) hx hb dX12_bring_66 (by decide) (fun c13 => ?_) (fun c13 => ?_)
  · have h := h.1 c13
    refine lv_iconst (v := 0) hx hb dX12_bring_91 (by decide) ?_
    exact rtM_i C0 hr hlk hR hS h dX12_bring_92
  · have h := h.2 c13
    refine lv_aload_n hx hb dX12_bring_69 rfl (lv_at hl 0 rfl) ?_
    refine lv_aload_n hx hb dX12_bring_70 rfl (lv_at hl 0 rfl) ?_
    refine qM_Vi (As := []) (rest := [.ref (b + adM 0 0)]) C0 (c_X12_jobsLying l h) (cwV 0 C0.2.2.2.2 (tbV mM7_7_198 ⟨mM7_7_200, mpM7_3_2, mM7_1_11, mM7_7_201⟩) rfl rfl rfl (by decide +kernel) ⟨Nat.le_of_ble_eq_true rfl, Nat.le_of_ble_eq_true rfl⟩) (rcM_0 hR Nat.zero_lt_one) hR hT hS rfl hl.1 rfl (Nat.le_of_ble_eq_true rfl) dX12_bring_71 ⟨Nat.zero_le _, Nat.zero_le _⟩ (fun r14 S15 H locs h hR hS => ?_)
    refine lv_bipush (v := 24) hx hb dX12_bring_74 (by decide) ?_
    refine lv_icmp_ne (tgt := 83) hx hb dX12_bring_76 (by decide) (fun c16 => ?_) (fun c16 => ?_)
    · have h := h.1 c16
      refine lv_iconst (v := 0) hx hb dX12_bring_83 (by decide) ?_
      exact Bw_X12_bring_84 C0 hr hlk hT a1 a2 a3 a4 0 S15 _ _ _ h hR hS (lv_sub hl [0, 1, 2, 3, 4] rfl)
    · have h := h.2 c16
      refine lv_iconst (v := 1) hx hb dX12_bring_79 (by decide) ?_
      refine lv_goto (tgt := 84) hx hb dX12_bring_80 (by decide) ?_
      exact Bw_X12_bring_84 C0 hr hlk hT a1 a2 a3 a4 1 S15 _ _ _ h hR hS (lv_sub hl [0, 1, 2, 3, 4] rfl)
def B_X12_bring_57 (a1 : Int32) (a2 : Int32) (a3 : Int32) (a4 : Int32) (S : sSt) (k : Int32 → sSt → Prop) : Prop := B_X12_bring_62 a1 a2 a3 a4 1 S k
set_option maxHeartbeats 4000000 in
set_option maxRecDepth 100000 in
theorem Bw_X12_bring_57 {p : Program} {l : Launch} {e : Env} {s : State} {m : MethodId} {args : Array Value} {below : List Frame} {meth : Method} {c : Code} {D : va_G} {cy : Nat → ClassId} {b z : Nat} {tx : TX} (C0 : CallFix p m c cX12_bring 7 s args TB RX12) (hr : meth.sig.returnType = (some .int)) (hlk : meth.locks = false) (hT : TxR tx s) {k : Int32 → sSt → Prop} : ∀ (a1 : Int32) (a2 : Int32) (a3 : Int32) (a4 : Int32) (S : sSt) (H : Heap) (locs : List Loc) (ls : Array Slot) , B_X12_bring_57 a1 a2 a3 a4 S k → RelM D cy b z tx S s H → va_S (gA b 12 z) s.heap H locs → lv_has ls 7 [(0, .ref (b + adM 0 0)), (1, .int a1), (2, .int a2), (3, .int a3), (4, .int a4)] → W p l e rm_X12_bring s m args below meth c H locs 0 0 (MQ below (PiM D cy b z tx k) args s 0 0 (gA b 12 z)) (F0 m 57 ls [.ref (b + adM 0 0)]) := by
  intro a1 a2 a3 a4 S H locs ls h hR hS hl
  have hx := C0.1
  have hb := C0.2.1
  unfold B_X12_bring_57 at h
  refine lv_iconst (v := 1) hx hb dX12_bring_57 (by decide) ?_
  refine lv_goto (tgt := 62) hx hb dX12_bring_58 (by decide) ?_
  exact Bw_X12_bring_62 C0 hr hlk hT a1 a2 a3 a4 1 S _ _ _ h hR hS (lv_sub hl [0, 1, 2, 3, 4] rfl)
def B_X12_bring_28 (a1 : Int32) (a2 : Int32) (a3 : Int32) (a4 : Int32) (t1 : Int32) (S : sSt) (k : Int32 → sSt → Prop) : Prop := F_X12_throwsIf t1 1 S (fun r5 S6 => ((¬ r5 = 0 → k 0 S6) ∧ (r5 = 0 → F_X12_in a3 0 9 S6 (fun r8 S9 => ((r8 = 0 → B_X12_bring_57 a1 a2 a3 a4 S9 k) ∧ (¬ r8 = 0 → F_X12_in a4 1 9 S9 (fun r30 S31 => ((¬ r30 = 0 → B_X12_bring_62 a1 a2 a3 a4 0 S31 k) ∧ (r30 = 0 → B_X12_bring_57 a1 a2 a3 a4 S31 k)))))))))
set_option maxHeartbeats 4000000 in
set_option maxRecDepth 100000 in
theorem Bw_X12_bring_28 {p : Program} {l : Launch} {e : Env} {s : State} {m : MethodId} {args : Array Value} {below : List Frame} {meth : Method} {c : Code} {D : va_G} {cy : Nat → ClassId} {b z : Nat} {tx : TX} (C0 : CallFix p m c cX12_bring 7 s args TB RX12) (hr : meth.sig.returnType = (some .int)) (hlk : meth.locks = false) (hT : TxR tx s) {k : Int32 → sSt → Prop} : ∀ (a1 : Int32) (a2 : Int32) (a3 : Int32) (a4 : Int32) (t1 : Int32) (S : sSt) (H : Heap) (locs : List Loc) (ls : Array Slot) , B_X12_bring_28 a1 a2 a3 a4 t1 S k → RelM D cy b z tx S s H → va_S (gA b 12 z) s.heap H locs → lv_has ls 7 [(0, .ref (b + adM 0 0)), (1, .int a1), (2, .int a2), (3, .int a3), (4, .int a4)] → W p l e rm_X12_bring s m args below meth c H locs 0 0 (MQ below (PiM D cy b z tx k) args s 0 0 (gA b 12 z)) (F0 m 28 ls [.int t1, .ref (b + adM 0 0)]) := by
  intro a1 a2 a3 a4 t1 S H locs ls h hR hS hl
  have hx := C0.1
  have hb := C0.2.1
  unfold B_X12_bring_28 at h
  refine lv_iconst (v := 1) hx hb dX12_bring_28 (by decide) ?_
  refine qM_Vi (As := [.int t1, .int 1]) (rest := []) C0 (c_X12_throwsIf l h) (cwV 2 C0.2.2.2.2 (tbV mM7_8_25 ⟨mM7_8_27, mpM7_3_13, mM7_1_11, mM7_8_28⟩) rfl rfl rfl (by decide +kernel) ⟨Nat.le_of_ble_eq_true rfl, Nat.le_of_ble_eq_true rfl⟩) (rcM_0 hR Nat.zero_lt_one) hR hT hS rfl hl.1 rfl (Nat.le_of_ble_eq_true rfl) dX12_bring_29 ⟨Nat.zero_le _, Nat.zero_le _⟩ (fun r5 S6 H locs h hR hS => ?_)
  refine lv_if_ne (tgt := 91) hx hb dX12_bring_32 (by decide) (fun c7 => ?_) (fun c7 => ?_)
  · have h := h.1 c7
    refine lv_iconst (v := 0) hx hb dX12_bring_91 (by decide) ?_
    exact rtM_i C0 hr hlk hR hS h dX12_bring_92
  · have h := h.2 c7
    refine lv_aload_n hx hb dX12_bring_35 rfl (lv_at hl 0 rfl) ?_
    refine lv_iload_n hx hb dX12_bring_36 rfl (lv_at hl 3 rfl) ?_
    refine lv_iconst (v := 0) hx hb dX12_bring_37 (by decide) ?_
    refine lv_bipush (v := 9) hx hb dX12_bring_38 (by decide) ?_
    refine qM_Si (As := [.int a3, .int 0, .int 9]) (rest := [.ref (b + adM 0 0)]) C0 (c_X12_in l h) (va_cwS 3 C0.2.2.2.2 (tbS mM7_8_37 ⟨mM7_8_38, mM7_1_11, mM7_8_39⟩) rfl rfl rfl (by decide +kernel) ⟨Nat.le_of_ble_eq_true rfl, Nat.le_of_ble_eq_true rfl⟩) hR hT hS rfl hl.1 rfl (Nat.le_of_ble_eq_true rfl) dX12_bring_40 ⟨Nat.zero_le _, Nat.zero_le _⟩ (fun r8 S9 H locs h hR hS => ?_)
    refine lv_if_eq (tgt := 57) hx hb dX12_bring_43 (by decide) (fun c10 => ?_) (fun c10 => ?_)
    · have h := h.1 c10
      exact Bw_X12_bring_57 C0 hr hlk hT a1 a2 a3 a4 S9 _ _ _ h hR hS (lv_sub hl [0, 1, 2, 3, 4] rfl)
    · have h := h.2 c10
      refine lv_iload hx hb dX12_bring_46 (lv_at hl 4 rfl) ?_
      refine lv_iconst (v := 1) hx hb dX12_bring_48 (by decide) ?_
      refine lv_bipush (v := 9) hx hb dX12_bring_49 (by decide) ?_
      refine qM_Si (As := [.int a4, .int 1, .int 9]) (rest := [.ref (b + adM 0 0)]) C0 (c_X12_in l h) (va_cwS 3 C0.2.2.2.2 (tbS mM7_8_37 ⟨mM7_8_38, mM7_1_11, mM7_8_39⟩) rfl rfl rfl (by decide +kernel) ⟨Nat.le_of_ble_eq_true rfl, Nat.le_of_ble_eq_true rfl⟩) hR hT hS rfl hl.1 rfl (Nat.le_of_ble_eq_true rfl) dX12_bring_51 ⟨Nat.zero_le _, Nat.zero_le _⟩ (fun r30 S31 H locs h hR hS => ?_)
      refine lv_if_ne (tgt := 61) hx hb dX12_bring_54 (by decide) (fun c32 => ?_) (fun c32 => ?_)
      · have h := h.1 c32
        refine lv_iconst (v := 0) hx hb dX12_bring_61 (by decide) ?_
        exact Bw_X12_bring_62 C0 hr hlk hT a1 a2 a3 a4 0 S31 _ _ _ h hR hS (lv_sub hl [0, 1, 2, 3, 4] rfl)
      · have h := h.2 c32
        exact Bw_X12_bring_57 C0 hr hlk hT a1 a2 a3 a4 S31 _ _ _ h hR hS (lv_sub hl [0, 1, 2, 3, 4] rfl)
def B_X12_bring_23 (a1 : Int32) (a2 : Int32) (a3 : Int32) (a4 : Int32) (S : sSt) (k : Int32 → sSt → Prop) : Prop := B_X12_bring_28 a1 a2 a3 a4 1 S k
set_option maxHeartbeats 4000000 in
set_option maxRecDepth 100000 in
theorem Bw_X12_bring_23 {p : Program} {l : Launch} {e : Env} {s : State} {m : MethodId} {args : Array Value} {below : List Frame} {meth : Method} {c : Code} {D : va_G} {cy : Nat → ClassId} {b z : Nat} {tx : TX} (C0 : CallFix p m c cX12_bring 7 s args TB RX12) (hr : meth.sig.returnType = (some .int)) (hlk : meth.locks = false) (hT : TxR tx s) {k : Int32 → sSt → Prop} : ∀ (a1 : Int32) (a2 : Int32) (a3 : Int32) (a4 : Int32) (S : sSt) (H : Heap) (locs : List Loc) (ls : Array Slot) , B_X12_bring_23 a1 a2 a3 a4 S k → RelM D cy b z tx S s H → va_S (gA b 12 z) s.heap H locs → lv_has ls 7 [(0, .ref (b + adM 0 0)), (1, .int a1), (2, .int a2), (3, .int a3), (4, .int a4)] → W p l e rm_X12_bring s m args below meth c H locs 0 0 (MQ below (PiM D cy b z tx k) args s 0 0 (gA b 12 z)) (F0 m 23 ls [.ref (b + adM 0 0)]) := by
  intro a1 a2 a3 a4 S H locs ls h hR hS hl
  have hx := C0.1
  have hb := C0.2.1
  unfold B_X12_bring_23 at h
  refine lv_iconst (v := 1) hx hb dX12_bring_23 (by decide) ?_
  refine lv_goto (tgt := 28) hx hb dX12_bring_24 (by decide) ?_
  exact Bw_X12_bring_28 C0 hr hlk hT a1 a2 a3 a4 1 S _ _ _ h hR hS (lv_sub hl [0, 1, 2, 3, 4] rfl)
def F_X12_bring (a1 : Int32) (a2 : Int32) (a3 : Int32) (a4 : Int32) (S : sSt) (k : Int32 → sSt → Prop) : Prop := ∀ S1, S1 = uI S 0 0 0 0 → F_X12_noSession a1 S1 (fun r2 S3 => ((¬ r2 = 0 → B_X12_bring_23 a1 a2 a3 a4 S3 k) ∧ (r2 = 0 → F_X12_in a2 0 5 S3 (fun r33 S34 => ((¬ r33 = 0 → B_X12_bring_28 a1 a2 a3 a4 0 S34 k) ∧ (r33 = 0 → B_X12_bring_23 a1 a2 a3 a4 S34 k))))))
set_option maxHeartbeats 4000000 in
set_option maxRecDepth 100000 in
theorem c_X12_bring (l : Launch) {D : va_G} {cy : Nat → ClassId} {b z : Nat} {tx : TX} {a1 : Int32} {a2 : Int32} {a3 : Int32} {a4 : Int32} {S : sSt} {k : Int32 → sSt → Prop} (h : F_X12_bring a1 a2 a3 a4 S k) : Met l yX12_bring (Cond.code yX12_bring cX12_bring 7 (some .int) :: TB) rm_X12_bring (va_Pc [.ref (b + adM 0 0), .int a1, .int a2, .int a3, .int a4] (fun U => RelM D cy b z tx S U U.heap ∧ TxR tx U)) (PiM D cy b z tx k) 0 0 (gA b 12 z) := by
  refine Met.ofW (cc := cX12_bring) (maxL := 7) (ret := (some .int)) (by decide) rfl ?_
  intro p e s m args below meth c s₁ B hml hv
  obtain ⟨rfl, hR, hT⟩ := hv
  have C0 : CallFix p m c cX12_bring 7 s _ TB RX12 := ⟨B.exec, B.bytes, hml, findClass_of_methodNamed B.named, fun w hw => atoms_spec B.pre w (List.mem_cons_of_mem _ hw)⟩
  have hr := B.returns
  have hlk := B.notSynchronized
  have hx := C0.1
  have hb := C0.2.1
  have hS : va_S (gA b 12 z) s.heap s.heap [] := va_S.rf
  have hl := lv_entry ([.ref (b + adM 0 0), .int a1, .int a2, .int a3, .int a4]) (n := 7) (Nat.le_of_ble_eq_true rfl)
  rw [lg_entry_eq]
  generalize (lg_sl ([.ref (b + adM 0 0), .int a1, .int a2, .int a3, .int a4]) ++ List.replicate (7 - (lg_sl ([.ref (b + adM 0 0), .int a1, .int a2, .int a3, .int a4])).length) Slot.unset).toArray = ls at hl ⊢
  have hl : lv_has ls 7 [(0, .ref (b + adM 0 0)), (1, .int a1), (2, .int a2), (3, .int a3), (4, .int a4)] := hl
  show W p l e rm_X12_bring s m _ below meth c s.heap [] 0 0 (MQ below (PiM D cy b z tx k) _ s 0 0 (gA b 12 z)) _
  unfold F_X12_bring at h
  refine lv_aload_n hx hb dX12_bring_0 rfl (lv_at hl 0 rfl) ?_
  refine lv_iconst (v := 0) hx hb dX12_bring_1 (by decide) ?_
  refine pM_0_0 C0 hR hS Nat.zero_lt_one tbs_wsX120 mM7_7_77 dX12_bring_2 (fun S1 eS1 H locs hR hS => ?_)
  have h := h S1 eS1
  refine lv_aload_n hx hb dX12_bring_5 rfl (lv_at hl 0 rfl) ?_
  refine lv_aload_n hx hb dX12_bring_6 rfl (lv_at hl 0 rfl) ?_
  refine lv_iload_n hx hb dX12_bring_7 rfl (lv_at hl 1 rfl) ?_
  refine qM_Vi (As := [.int a1]) (rest := [.ref (b + adM 0 0)]) C0 (c_X12_noSession l h) (cwV 1 C0.2.2.2.2 (tbV mM7_8_33 ⟨mM7_8_35, mpM7_3_14, mM7_1_11, mM7_8_36⟩) rfl rfl rfl (by decide +kernel) ⟨Nat.le_of_ble_eq_true rfl, Nat.le_of_ble_eq_true rfl⟩) (rcM_0 hR Nat.zero_lt_one) hR hT hS rfl hl.1 rfl (Nat.le_of_ble_eq_true rfl) dX12_bring_8 ⟨Nat.zero_le _, Nat.zero_le _⟩ (fun r2 S3 H locs h hR hS => ?_)
  refine lv_if_ne (tgt := 23) hx hb dX12_bring_11 (by decide) (fun c4 => ?_) (fun c4 => ?_)
  · have h := h.1 c4
    exact Bw_X12_bring_23 C0 hr hlk hT a1 a2 a3 a4 S3 _ _ _ h hR hS (lv_sub hl [0, 1, 2, 3, 4] rfl)
  · have h := h.2 c4
    refine lv_iload_n hx hb dX12_bring_14 rfl (lv_at hl 2 rfl) ?_
    refine lv_iconst (v := 0) hx hb dX12_bring_15 (by decide) ?_
    refine lv_iconst (v := 5) hx hb dX12_bring_16 (by decide) ?_
    refine qM_Si (As := [.int a2, .int 0, .int 5]) (rest := [.ref (b + adM 0 0)]) C0 (c_X12_in l h) (va_cwS 3 C0.2.2.2.2 (tbS mM7_8_37 ⟨mM7_8_38, mM7_1_11, mM7_8_39⟩) rfl rfl rfl (by decide +kernel) ⟨Nat.le_of_ble_eq_true rfl, Nat.le_of_ble_eq_true rfl⟩) hR hT hS rfl hl.1 rfl (Nat.le_of_ble_eq_true rfl) dX12_bring_17 ⟨Nat.zero_le _, Nat.zero_le _⟩ (fun r33 S34 H locs h hR hS => ?_)
    refine lv_if_ne (tgt := 27) hx hb dX12_bring_20 (by decide) (fun c35 => ?_) (fun c35 => ?_)
    · have h := h.1 c35
      refine lv_iconst (v := 0) hx hb dX12_bring_27 (by decide) ?_
      exact Bw_X12_bring_28 C0 hr hlk hT a1 a2 a3 a4 0 S34 _ _ _ h hR hS (lv_sub hl [0, 1, 2, 3, 4] rfl)
    · have h := h.2 c35
      exact Bw_X12_bring_23 C0 hr hlk hT a1 a2 a3 a4 S34 _ _ _ h hR hS (lv_sub hl [0, 1, 2, 3, 4] rfl)

def rm_X12_sweep : Room := { frames := 3, cells := 0, slots := 0, locals := 63 }
def B_X12_sweep_65 (kk9 : Int32 → Int32 → sSt → Prop) (a1 : Int32) (a2 : Int32) (S : sSt) (k : Int32 → sSt → Prop) : Prop := ∀ x7 : Int32, x7 = a2 + 1 → kk9 a1 x7 S
set_option maxHeartbeats 4000000 in
set_option maxRecDepth 100000 in
theorem Bw_X12_sweep_65 {p : Program} {l : Launch} {e : Env} {s : State} {m : MethodId} {args : Array Value} {below : List Frame} {meth : Method} {c : Code} {D : va_G} {cy : Nat → ClassId} {b z : Nat} {tx : TX} (C0 : CallFix p m c cX12_sweep 3 s args TB RX12) (hr : meth.sig.returnType = (some .int)) (hlk : meth.locks = false) (hT : TxR tx s) {k : Int32 → sSt → Prop} {kk9 : Int32 → Int32 → sSt → Prop} (ih9 : ∀ (a1 : Int32) (a2 : Int32) (S : sSt) (H : Heap) (locs : List Loc) (ls : Array Slot) , kk9 a1 a2 S → RelM D cy b z tx S s H → va_S (gA b 12 z) s.heap H locs → lv_has ls 3 [(0, .ref (b + adM 0 0)), (1, .int a1), (2, .int a2)] → W p l e rm_X12_sweep s m args below meth c H locs 0 0 (MQ below (PiM D cy b z tx k) args s 0 0 (gA b 12 z)) (F0 m 9 ls [])) : ∀ (a1 : Int32) (a2 : Int32) (S : sSt) (H : Heap) (locs : List Loc) (ls : Array Slot) , B_X12_sweep_65 kk9 a1 a2 S k → RelM D cy b z tx S s H → va_S (gA b 12 z) s.heap H locs → lv_has ls 3 [(0, .ref (b + adM 0 0)), (1, .int a1), (2, .int a2)] → W p l e rm_X12_sweep s m args below meth c H locs 0 0 (MQ below (PiM D cy b z tx k) args s 0 0 (gA b 12 z)) (F0 m 65 ls []) := by
  intro a1 a2 S H locs ls h hR hS hl
  have hx := C0.1
  have hb := C0.2.1
  unfold B_X12_sweep_65 at h
  obtain ⟨x7, ex7⟩ : ∃ x7 : Int32, x7 = a2 + 1 := ⟨_, rfl⟩
  have h := h x7 ex7
  refine w_iinc (v0 := 1) (lv' := [(2, .int x7), (0, .ref (b + adM 0 0)), (1, .int a1)]) C0 dX12_sweep_65 hl (k := 2) rfl (by decide) (by decide) x7 ex7 rfl (fun ls hl => ?_)
  refine lv_goto (tgt := 9) hx hb dX12_sweep_68 (by decide) ?_
  exact ih9 a1 x7 S _ _ _  h hR hS (lv_sub hl [1, 2, 0] rfl)
def Bb_X12_sweep_9 (kk9 : Int32 → Int32 → sSt → Prop) (a1 : Int32) (a2 : Int32) (S : sSt) (k : Int32 → sSt → Prop) : Prop := ((24 ≤ a2 → ∀ S3, S3 = uI S 1 0 8 ((S.1 1 0 8) + a1) → k a1 S3) ∧ (¬ 24 ≤ a2 → F_X12_isIn a2 S (fun r4 S5 => ((r4 = 0 → B_X12_sweep_65 kk9 a1 a2 S5 k) ∧ (¬ r4 = 0 → F_X12_lockerOf a2 S5 (fun r8 S9 => ((¬ r8 = (-1) → B_X12_sweep_65 kk9 a1 a2 S9 k) ∧ (r8 = (-1) → F_X12_jobAt a2 3 S9 (fun r11 S12 => ix (r11 + 3) 10421 (fun j13 => (((S12.1 1 0 j13) = 2 → F_X12_jobAt a2 0 S12 (fun r15 S16 => ix r15 10421 (fun j17 => ∀ S18, S18 = uI S16 1 0 j17 (-1) → ∀ x19 : Int32, x19 = a1 + 1 → B_X12_sweep_65 kk9 x19 a2 S18 k))) ∧ (¬ (S12.1 1 0 j13) = 2 → B_X12_sweep_65 kk9 a1 a2 S12 k))))))))))))
set_option maxHeartbeats 4000000 in
set_option maxRecDepth 100000 in
theorem Bbw_X12_sweep_9 {p : Program} {l : Launch} {e : Env} {s : State} {m : MethodId} {args : Array Value} {below : List Frame} {meth : Method} {c : Code} {D : va_G} {cy : Nat → ClassId} {b z : Nat} {tx : TX} (C0 : CallFix p m c cX12_sweep 3 s args TB RX12) (hr : meth.sig.returnType = (some .int)) (hlk : meth.locks = false) (hT : TxR tx s) {k : Int32 → sSt → Prop} {kk9 : Int32 → Int32 → sSt → Prop} (ih9 : ∀ (a1 : Int32) (a2 : Int32) (S : sSt) (H : Heap) (locs : List Loc) (ls : Array Slot) , kk9 a1 a2 S → RelM D cy b z tx S s H → va_S (gA b 12 z) s.heap H locs → lv_has ls 3 [(0, .ref (b + adM 0 0)), (1, .int a1), (2, .int a2)] → W p l e rm_X12_sweep s m args below meth c H locs 0 0 (MQ below (PiM D cy b z tx k) args s 0 0 (gA b 12 z)) (F0 m 9 ls [])) : ∀ (a1 : Int32) (a2 : Int32) (S : sSt) (H : Heap) (locs : List Loc) (ls : Array Slot) , Bb_X12_sweep_9 kk9 a1 a2 S k → RelM D cy b z tx S s H → va_S (gA b 12 z) s.heap H locs → lv_has ls 3 [(0, .ref (b + adM 0 0)), (1, .int a1), (2, .int a2)] → W p l e rm_X12_sweep s m args below meth c H locs 0 0 (MQ below (PiM D cy b z tx k) args s 0 0 (gA b 12 z)) (F0 m 9 ls []) := by
  intro a1 a2 S H locs ls h hR hS hl
  have hx := C0.1
  have hb := C0.2.1
  unfold Bb_X12_sweep_9 at h
  refine lv_iload_n hx hb dX12_sweep_9 rfl (lv_at hl 2 rfl) ?_
  refine lv_bipush (v := 24) hx hb dX12_sweep_10 (by decide) ?_
  refine lv_icmp_ge (tgt := 71) hx hb dX12_sweep_12 (by decide) (fun c2 => ?_) (fun c2 => ?_)
  · have h := h.1 c2
    refine lv_aload_n hx hb dX12_sweep_71 rfl (lv_at hl 0 rfl) ?_
    refine gM_0_2 C0 hR Nat.zero_lt_one tbs_wsX120 mM7_7_79 dX12_sweep_72 ?_
    refine lv_bipush (v := 8) hx hb dX12_sweep_75 (by decide) ?_
    refine lv_dup2_11 hx hb dX12_sweep_77 rfl rfl ?_
    refine lM_1 C0 hR Nat.zero_lt_one (by decide) rfl dX12_sweep_78 ?_
    refine lv_iload_n hx hb dX12_sweep_79 rfl (lv_at hl 1 rfl) ?_
    refine lv_iadd hx hb dX12_sweep_80 ?_
    refine sM_1 C0 hR hS Nat.zero_lt_one (by decide) rfl dX12_sweep_81 (fun S3 eS3 H locs hR hS => ?_)
    have h := h S3 eS3
    refine lv_iload_n hx hb dX12_sweep_82 rfl (lv_at hl 1 rfl) ?_
    exact rtM_i C0 hr hlk hR hS h dX12_sweep_83
  · have h := h.2 c2
    refine lv_aload_n hx hb dX12_sweep_15 rfl (lv_at hl 0 rfl) ?_
    refine lv_iload_n hx hb dX12_sweep_16 rfl (lv_at hl 2 rfl) ?_
    refine qM_Vi (As := [.int a2]) (rest := []) C0 (c_X12_isIn l h) (cwV 1 C0.2.2.2.2 (tbV mM7_8_122 ⟨mM7_8_124, mpM7_4_13, mM7_1_11, mM7_8_125⟩) rfl rfl rfl (by decide +kernel) ⟨Nat.le_of_ble_eq_true rfl, Nat.le_of_ble_eq_true rfl⟩) (rcM_0 hR Nat.zero_lt_one) hR hT hS rfl hl.1 rfl (Nat.le_of_ble_eq_true rfl) dX12_sweep_17 ⟨Nat.zero_le _, Nat.zero_le _⟩ (fun r4 S5 H locs h hR hS => ?_)
    refine lv_if_eq (tgt := 65) hx hb dX12_sweep_20 (by decide) (fun c6 => ?_) (fun c6 => ?_)
    · have h := h.1 c6
      exact Bw_X12_sweep_65 C0 hr hlk hT ih9 a1 a2 S5 _ _ _ h hR hS (lv_sub hl [0, 1, 2] rfl)
    · have h := h.2 c6
      refine lv_aload_n hx hb dX12_sweep_23 rfl (lv_at hl 0 rfl) ?_
      refine lv_iload_n hx hb dX12_sweep_24 rfl (lv_at hl 2 rfl) ?_
      refine qM_Vi (As := [.int a2]) (rest := []) C0 (c_X12_lockerOf l h) (cwV 1 C0.2.2.2.2 (tbV mM7_8_106 ⟨mM7_8_108, mpM7_4_10, mM7_1_11, mM7_8_109⟩) rfl rfl rfl (by decide +kernel) ⟨Nat.le_of_ble_eq_true rfl, Nat.le_of_ble_eq_true rfl⟩) (rcM_0 hR Nat.zero_lt_one) hR hT hS rfl hl.1 rfl (Nat.le_of_ble_eq_true rfl) dX12_sweep_25 ⟨Nat.zero_le _, Nat.zero_le _⟩ (fun r8 S9 H locs h hR hS => ?_)
      refine lv_iconst (v := (-1)) hx hb dX12_sweep_28 (by decide) ?_
      refine lv_icmp_ne (tgt := 65) hx hb dX12_sweep_29 (by decide) (fun c10 => ?_) (fun c10 => ?_)
      · have h := h.1 c10
        exact Bw_X12_sweep_65 C0 hr hlk hT ih9 a1 a2 S9 _ _ _ h hR hS (lv_sub hl [0, 1, 2] rfl)
      · have h := h.2 c10
        refine lv_aload_n hx hb dX12_sweep_32 rfl (lv_at hl 0 rfl) ?_
        refine gM_0_2 C0 hR Nat.zero_lt_one tbs_wsX120 mM7_7_79 dX12_sweep_33 ?_
        refine lv_iload_n hx hb dX12_sweep_36 rfl (lv_at hl 2 rfl) ?_
        refine lv_iconst (v := 3) hx hb dX12_sweep_37 (by decide) ?_
        refine qM_Si (As := [.int a2, .int 3]) (rest := [.ref (b + adM 1 0)]) C0 (c_X12_jobAt l h) (va_cwS 2 C0.2.2.2.2 (tbS mM7_7_74 ⟨mM7_7_75, mM7_1_11, mM7_7_76⟩) rfl rfl rfl (by decide +kernel) ⟨Nat.le_of_ble_eq_true rfl, Nat.le_of_ble_eq_true rfl⟩) hR hT hS rfl hl.1 rfl (Nat.le_of_ble_eq_true rfl) dX12_sweep_38 ⟨Nat.zero_le _, Nat.zero_le _⟩ (fun r11 S12 H locs h hR hS => ?_)
        refine lv_iconst (v := 3) hx hb dX12_sweep_41 (by decide) ?_
        refine lv_iadd hx hb dX12_sweep_42 ?_
        obtain ⟨j13, hj13, ej13, h⟩ := h
        refine lM_1 C0 hR Nat.zero_lt_one hj13 ej13 dX12_sweep_43 ?_
        refine lv_iconst (v := 2) hx hb dX12_sweep_44 (by decide) ?_
        refine lv_icmp_eq (tgt := 51) hx hb dX12_sweep_45 (by decide) (fun c14 => ?_) (fun c14 => ?_)
        · have h := h.1 c14
          refine lv_aload_n hx hb dX12_sweep_51 rfl (lv_at hl 0 rfl) ?_
          refine gM_0_2 C0 hR Nat.zero_lt_one tbs_wsX120 mM7_7_79 dX12_sweep_52 ?_
          refine lv_iload_n hx hb dX12_sweep_55 rfl (lv_at hl 2 rfl) ?_
          refine lv_iconst (v := 0) hx hb dX12_sweep_56 (by decide) ?_
          refine qM_Si (As := [.int a2, .int 0]) (rest := [.ref (b + adM 1 0)]) C0 (c_X12_jobAt l h) (va_cwS 2 C0.2.2.2.2 (tbS mM7_7_74 ⟨mM7_7_75, mM7_1_11, mM7_7_76⟩) rfl rfl rfl (by decide +kernel) ⟨Nat.le_of_ble_eq_true rfl, Nat.le_of_ble_eq_true rfl⟩) hR hT hS rfl hl.1 rfl (Nat.le_of_ble_eq_true rfl) dX12_sweep_57 ⟨Nat.zero_le _, Nat.zero_le _⟩ (fun r15 S16 H locs h hR hS => ?_)
          refine lv_iconst (v := (-1)) hx hb dX12_sweep_60 (by decide) ?_
          obtain ⟨j17, hj17, ej17, h⟩ := h
          refine sM_1 C0 hR hS Nat.zero_lt_one hj17 ej17 dX12_sweep_61 (fun S18 eS18 H locs hR hS => ?_)
          have h := h S18 eS18
          obtain ⟨x19, ex19⟩ : ∃ x19 : Int32, x19 = a1 + 1 := ⟨_, rfl⟩
          have h := h x19 ex19
          refine w_iinc (v0 := 1) (lv' := [(1, .int x19), (0, .ref (b + adM 0 0)), (2, .int a2)]) C0 dX12_sweep_62 hl (k := 1) rfl (by decide) (by decide) x19 ex19 rfl (fun ls hl => ?_)
          exact Bw_X12_sweep_65 C0 hr hlk hT ih9 x19 a2 S18 _ _ _ h hR hS (lv_sub hl [1, 0, 2] rfl)
        · have h := h.2 c14
          refine lv_goto (tgt := 65) hx hb dX12_sweep_48 (by decide) ?_
          exact Bw_X12_sweep_65 C0 hr hlk hT ih9 a1 a2 S12 _ _ _ h hR hS (lv_sub hl [0, 1, 2] rfl)
def B_X12_sweep_9 (n9 : Nat) (a1 : Int32) (a2 : Int32) (S : sSt) (k : Int32 → sSt → Prop) : Prop := (Nat.rec (motive := fun _ => Int32 → Int32 → sSt → Prop) (fun _ _ _ => False) (fun _ r9 => fun a1 a2 S => Bb_X12_sweep_9 r9 a1 a2 S k) n9 : Int32 → Int32 → sSt → Prop) a1 a2 S
theorem B_X12_sweep_9_s (n9 : Nat) (a1 : Int32) (a2 : Int32) (S : sSt) (k : Int32 → sSt → Prop) : B_X12_sweep_9 (n9 + 1) a1 a2 S k = Bb_X12_sweep_9 (fun a1 a2 S => B_X12_sweep_9 n9 a1 a2 S k) a1 a2 S k := rfl
set_option maxHeartbeats 4000000 in
set_option maxRecDepth 100000 in
theorem Bw_X12_sweep_9 {p : Program} {l : Launch} {e : Env} {s : State} {m : MethodId} {args : Array Value} {below : List Frame} {meth : Method} {c : Code} {D : va_G} {cy : Nat → ClassId} {b z : Nat} {tx : TX} (C0 : CallFix p m c cX12_sweep 3 s args TB RX12) (hr : meth.sig.returnType = (some .int)) (hlk : meth.locks = false) (hT : TxR tx s) {k : Int32 → sSt → Prop} : ∀ (n9 : Nat), ∀ (a1 : Int32) (a2 : Int32) (S : sSt) (H : Heap) (locs : List Loc) (ls : Array Slot) , B_X12_sweep_9 n9 a1 a2 S k → RelM D cy b z tx S s H → va_S (gA b 12 z) s.heap H locs → lv_has ls 3 [(0, .ref (b + adM 0 0)), (1, .int a1), (2, .int a2)] → W p l e rm_X12_sweep s m args below meth c H locs 0 0 (MQ below (PiM D cy b z tx k) args s 0 0 (gA b 12 z)) (F0 m 9 ls []) := by
  intro n9
  induction n9 with
  | zero => intro a1 a2 S H locs ls h; exact h.elim
  | succ n9 ih =>
    intro a1 a2 S H locs ls h hR hS hl
    exact Bbw_X12_sweep_9 C0 hr hlk hT ih a1 a2 S H locs ls h hR hS hl
def F_X12_sweep (S : sSt) (k : Int32 → sSt → Prop) : Prop := ∀ S1, S1 = uI S 0 0 0 0 → B_X12_sweep_9 fuel 0 0 S1 k
set_option maxHeartbeats 4000000 in
set_option maxRecDepth 100000 in
theorem c_X12_sweep (l : Launch) {D : va_G} {cy : Nat → ClassId} {b z : Nat} {tx : TX} {S : sSt} {k : Int32 → sSt → Prop} (h : F_X12_sweep S k) : Met l yX12_sweep (Cond.code yX12_sweep cX12_sweep 3 (some .int) :: TB) rm_X12_sweep (va_Pc [.ref (b + adM 0 0)] (fun U => RelM D cy b z tx S U U.heap ∧ TxR tx U)) (PiM D cy b z tx k) 0 0 (gA b 12 z) := by
  refine Met.ofW (cc := cX12_sweep) (maxL := 3) (ret := (some .int)) (by decide) rfl ?_
  intro p e s m args below meth c s₁ B hml hv
  obtain ⟨rfl, hR, hT⟩ := hv
  have C0 : CallFix p m c cX12_sweep 3 s _ TB RX12 := ⟨B.exec, B.bytes, hml, findClass_of_methodNamed B.named, fun w hw => atoms_spec B.pre w (List.mem_cons_of_mem _ hw)⟩
  have hr := B.returns
  have hlk := B.notSynchronized
  have hx := C0.1
  have hb := C0.2.1
  have hS : va_S (gA b 12 z) s.heap s.heap [] := va_S.rf
  have hl := lv_entry ([.ref (b + adM 0 0)]) (n := 3) (Nat.le_of_ble_eq_true rfl)
  rw [lg_entry_eq]
  generalize (lg_sl ([.ref (b + adM 0 0)]) ++ List.replicate (3 - (lg_sl ([.ref (b + adM 0 0)])).length) Slot.unset).toArray = ls at hl ⊢
  have hl : lv_has ls 3 [(0, .ref (b + adM 0 0))] := hl
  show W p l e rm_X12_sweep s m _ below meth c s.heap [] 0 0 (MQ below (PiM D cy b z tx k) _ s 0 0 (gA b 12 z)) _
  unfold F_X12_sweep at h
  refine lv_aload_n hx hb dX12_sweep_0 rfl (lv_at hl 0 rfl) ?_
  refine lv_iconst (v := 0) hx hb dX12_sweep_1 (by decide) ?_
  refine pM_0_0 C0 hR hS Nat.zero_lt_one tbs_wsX120 mM7_7_77 dX12_sweep_2 (fun S1 eS1 H locs hR hS => ?_)
  have h := h S1 eS1
  refine lv_iconst (v := 0) hx hb dX12_sweep_5 (by decide) ?_
  refine lv_istore_n (lv' := [(1, .int 0), (0, .ref (b + adM 0 0))]) hx hb dX12_sweep_6 rfl hl (by decide) rfl (fun ls hl => ?_)
  refine lv_iconst (v := 0) hx hb dX12_sweep_7 (by decide) ?_
  refine lv_istore_n (lv' := [(2, .int 0), (1, .int 0), (0, .ref (b + adM 0 0))]) hx hb dX12_sweep_8 rfl hl (by decide) rfl (fun ls hl => ?_)
  exact Bw_X12_sweep_9 C0 hr hlk hT fuel 0 0 S1 _ _ _ h hR hS (lv_sub hl [2, 1, 0] rfl)

def rm_X12_timeOf : Room := { frames := 1, cells := 0, slots := 0, locals := 21 }
def F_X12_timeOf (a1 : Int32) (a2 : Int32) (S : sSt) (k : Int32 → sSt → Prop) : Prop := F_X12_planAt a1 1 S (fun r1 S2 => ix r1 10421 (fun j3 => F_X12_planAt a1 0 S2 (fun r4 S5 => ix r4 10421 (fun j6 => k ((S2.1 1 0 j3) + (a2 * (S5.1 1 0 j6))) S5))))
set_option maxHeartbeats 4000000 in
set_option maxRecDepth 100000 in
theorem c_X12_timeOf (l : Launch) {D : va_G} {cy : Nat → ClassId} {b z : Nat} {tx : TX} {a1 : Int32} {a2 : Int32} {S : sSt} {k : Int32 → sSt → Prop} (h : F_X12_timeOf a1 a2 S k) : Met l yX12_timeOf (Cond.code yX12_timeOf cX12_timeOf 3 (some .int) :: TB) rm_X12_timeOf (va_Pc [.ref (b + adM 0 0), .int a1, .int a2] (fun U => RelM D cy b z tx S U U.heap ∧ TxR tx U)) (PiM D cy b z tx k) 0 0 (gA b 12 z) := by
  refine Met.ofW (cc := cX12_timeOf) (maxL := 3) (ret := (some .int)) (by decide) rfl ?_
  intro p e s m args below meth c s₁ B hml hv
  obtain ⟨rfl, hR, hT⟩ := hv
  have C0 : CallFix p m c cX12_timeOf 3 s _ TB RX12 := ⟨B.exec, B.bytes, hml, findClass_of_methodNamed B.named, fun w hw => atoms_spec B.pre w (List.mem_cons_of_mem _ hw)⟩
  have hr := B.returns
  have hlk := B.notSynchronized
  have hx := C0.1
  have hb := C0.2.1
  have hS : va_S (gA b 12 z) s.heap s.heap [] := va_S.rf
  have hl := lv_entry ([.ref (b + adM 0 0), .int a1, .int a2]) (n := 3) (Nat.le_of_ble_eq_true rfl)
  rw [lg_entry_eq]
  generalize (lg_sl ([.ref (b + adM 0 0), .int a1, .int a2]) ++ List.replicate (3 - (lg_sl ([.ref (b + adM 0 0), .int a1, .int a2])).length) Slot.unset).toArray = ls at hl ⊢
  have hl : lv_has ls 3 [(0, .ref (b + adM 0 0)), (1, .int a1), (2, .int a2)] := hl
  show W p l e rm_X12_timeOf s m _ below meth c s.heap [] 0 0 (MQ below (PiM D cy b z tx k) _ s 0 0 (gA b 12 z)) _
  unfold F_X12_timeOf at h
  refine lv_aload_n hx hb dX12_timeOf_0 rfl (lv_at hl 0 rfl) ?_
  refine gM_0_2 C0 hR Nat.zero_lt_one tbs_wsX120 mM7_7_79 dX12_timeOf_1 ?_
  refine lv_iload_n hx hb dX12_timeOf_4 rfl (lv_at hl 1 rfl) ?_
  refine lv_iconst (v := 1) hx hb dX12_timeOf_5 (by decide) ?_
  refine qM_Si (As := [.int a1, .int 1]) (rest := [.ref (b + adM 1 0)]) C0 (c_X12_planAt l h) (va_cwS 2 C0.2.2.2.2 (tbS mM7_8_13 ⟨mM7_8_14, mM7_1_11, mM7_8_15⟩) rfl rfl rfl (by decide +kernel) ⟨Nat.le_of_ble_eq_true rfl, Nat.le_of_ble_eq_true rfl⟩) hR hT hS rfl hl.1 rfl (Nat.le_of_ble_eq_true rfl) dX12_timeOf_6 ⟨Nat.zero_le _, Nat.zero_le _⟩ (fun r1 S2 H locs h hR hS => ?_)
  obtain ⟨j3, hj3, ej3, h⟩ := h
  refine lM_1 C0 hR Nat.zero_lt_one hj3 ej3 dX12_timeOf_9 ?_
  refine lv_iload_n hx hb dX12_timeOf_10 rfl (lv_at hl 2 rfl) ?_
  refine lv_aload_n hx hb dX12_timeOf_11 rfl (lv_at hl 0 rfl) ?_
  refine gM_0_2 C0 hR Nat.zero_lt_one tbs_wsX120 mM7_7_79 dX12_timeOf_12 ?_
  refine lv_iload_n hx hb dX12_timeOf_15 rfl (lv_at hl 1 rfl) ?_
  refine lv_iconst (v := 0) hx hb dX12_timeOf_16 (by decide) ?_
  refine qM_Si (As := [.int a1, .int 0]) (rest := [.ref (b + adM 1 0), .int a2, .int (S2.1 1 0 j3)]) C0 (c_X12_planAt l h) (va_cwS 2 C0.2.2.2.2 (tbS mM7_8_13 ⟨mM7_8_14, mM7_1_11, mM7_8_15⟩) rfl rfl rfl (by decide +kernel) ⟨Nat.le_of_ble_eq_true rfl, Nat.le_of_ble_eq_true rfl⟩) hR hT hS rfl hl.1 rfl (Nat.le_of_ble_eq_true rfl) dX12_timeOf_17 ⟨Nat.zero_le _, Nat.zero_le _⟩ (fun r4 S5 H locs h hR hS => ?_)
  obtain ⟨j6, hj6, ej6, h⟩ := h
  refine lM_1 C0 hR Nat.zero_lt_one hj6 ej6 dX12_timeOf_20 ?_
  refine lv_imul hx hb dX12_timeOf_21 ?_
  refine lv_iadd hx hb dX12_timeOf_22 ?_
  exact rtM_i C0 hr hlk hR hS h dX12_timeOf_23

def rm_X12_fires : Room := { frames := 3, cells := 0, slots := 0, locals := 70 }
def F_X12_fires (a1 : Int32) (a2 : Int32) (S : sSt) (k : Int32 → sSt → Prop) : Prop := F_X12_planAt a1 2 S (fun r1 S2 => ix r1 10421 (fun j3 => F_X12_planAt a1 3 S2 (fun r4 S5 => ix r4 10421 (fun j6 => F_X12_planAt a1 4 S5 (fun r7 S8 => ix r7 10421 (fun j9 => F_X12_comes 3 1 (S2.1 1 0 j3) (S5.1 1 0 j6) (S8.1 1 0 j9) (S8.1 1 0 3) S8 (fun r10 S11 => ((¬ r10 = (-1) → F_X12_jobAt r10 3 S11 (fun r13 S14 => ix (r13 + 11) 10421 (fun j15 => ∀ S16, S16 = uI S14 1 0 j15 a1 → F_X12_jobAt r10 3 S16 (fun r17 S18 => ix (r17 + 12) 10421 (fun j19 => ∀ S20, S20 = uI S18 1 0 j19 a2 → k 1 S20))))) ∧ (r10 = (-1) → ∀ S21, S21 = uI S11 1 0 7 ((S11.1 1 0 7) + 1) → k 0 S21)))))))))
set_option maxHeartbeats 4000000 in
set_option maxRecDepth 100000 in
theorem c_X12_fires (l : Launch) {D : va_G} {cy : Nat → ClassId} {b z : Nat} {tx : TX} {a1 : Int32} {a2 : Int32} {S : sSt} {k : Int32 → sSt → Prop} (h : F_X12_fires a1 a2 S k) : Met l yX12_fires (Cond.code yX12_fires cX12_fires 4 (some .boolean) :: TB) rm_X12_fires (va_Pc [.ref (b + adM 0 0), .int a1, .int a2] (fun U => RelM D cy b z tx S U U.heap ∧ TxR tx U)) (PiM D cy b z tx k) 0 0 (gA b 12 z) := by
  refine Met.ofW (cc := cX12_fires) (maxL := 4) (ret := (some .boolean)) (by decide) rfl ?_
  intro p e s m args below meth c s₁ B hml hv
  obtain ⟨rfl, hR, hT⟩ := hv
  have C0 : CallFix p m c cX12_fires 4 s _ TB RX12 := ⟨B.exec, B.bytes, hml, findClass_of_methodNamed B.named, fun w hw => atoms_spec B.pre w (List.mem_cons_of_mem _ hw)⟩
  have hr := B.returns
  have hlk := B.notSynchronized
  have hx := C0.1
  have hb := C0.2.1
  have hS : va_S (gA b 12 z) s.heap s.heap [] := va_S.rf
  have hl := lv_entry ([.ref (b + adM 0 0), .int a1, .int a2]) (n := 4) (Nat.le_of_ble_eq_true rfl)
  rw [lg_entry_eq]
  generalize (lg_sl ([.ref (b + adM 0 0), .int a1, .int a2]) ++ List.replicate (4 - (lg_sl ([.ref (b + adM 0 0), .int a1, .int a2])).length) Slot.unset).toArray = ls at hl ⊢
  have hl : lv_has ls 4 [(0, .ref (b + adM 0 0)), (1, .int a1), (2, .int a2)] := hl
  show W p l e rm_X12_fires s m _ below meth c s.heap [] 0 0 (MQ below (PiM D cy b z tx k) _ s 0 0 (gA b 12 z)) _
  unfold F_X12_fires at h
  refine lv_aload_n hx hb dX12_fires_0 rfl (lv_at hl 0 rfl) ?_
  refine lv_iconst (v := 3) hx hb dX12_fires_1 (by decide) ?_
  refine lv_iconst (v := 1) hx hb dX12_fires_2 (by decide) ?_
  refine lv_aload_n hx hb dX12_fires_3 rfl (lv_at hl 0 rfl) ?_
  refine gM_0_2 C0 hR Nat.zero_lt_one tbs_wsX120 mM7_7_79 dX12_fires_4 ?_
  refine lv_iload_n hx hb dX12_fires_7 rfl (lv_at hl 1 rfl) ?_
  refine lv_iconst (v := 2) hx hb dX12_fires_8 (by decide) ?_
  refine qM_Si (As := [.int a1, .int 2]) (rest := [.ref (b + adM 1 0), .int 1, .int 3, .ref (b + adM 0 0)]) C0 (c_X12_planAt l h) (va_cwS 2 C0.2.2.2.2 (tbS mM7_8_13 ⟨mM7_8_14, mM7_1_11, mM7_8_15⟩) rfl rfl rfl (by decide +kernel) ⟨Nat.le_of_ble_eq_true rfl, Nat.le_of_ble_eq_true rfl⟩) hR hT hS rfl hl.1 rfl (Nat.le_of_ble_eq_true rfl) dX12_fires_9 ⟨Nat.zero_le _, Nat.zero_le _⟩ (fun r1 S2 H locs h hR hS => ?_)
  obtain ⟨j3, hj3, ej3, h⟩ := h
  refine lM_1 C0 hR Nat.zero_lt_one hj3 ej3 dX12_fires_12 ?_
  refine lv_aload_n hx hb dX12_fires_13 rfl (lv_at hl 0 rfl) ?_
  refine gM_0_2 C0 hR Nat.zero_lt_one tbs_wsX120 mM7_7_79 dX12_fires_14 ?_
  refine lv_iload_n hx hb dX12_fires_17 rfl (lv_at hl 1 rfl) ?_
  refine lv_iconst (v := 3) hx hb dX12_fires_18 (by decide) ?_
  refine qM_Si (As := [.int a1, .int 3]) (rest := [.ref (b + adM 1 0), .int (S2.1 1 0 j3), .int 1, .int 3, .ref (b + adM 0 0)]) C0 (c_X12_planAt l h) (va_cwS 2 C0.2.2.2.2 (tbS mM7_8_13 ⟨mM7_8_14, mM7_1_11, mM7_8_15⟩) rfl rfl rfl (by decide +kernel) ⟨Nat.le_of_ble_eq_true rfl, Nat.le_of_ble_eq_true rfl⟩) hR hT hS rfl hl.1 rfl (Nat.le_of_ble_eq_true rfl) dX12_fires_19 ⟨Nat.zero_le _, Nat.zero_le _⟩ (fun r4 S5 H locs h hR hS => ?_)
  obtain ⟨j6, hj6, ej6, h⟩ := h
  refine lM_1 C0 hR Nat.zero_lt_one hj6 ej6 dX12_fires_22 ?_
  refine lv_aload_n hx hb dX12_fires_23 rfl (lv_at hl 0 rfl) ?_
  refine gM_0_2 C0 hR Nat.zero_lt_one tbs_wsX120 mM7_7_79 dX12_fires_24 ?_
  refine lv_iload_n hx hb dX12_fires_27 rfl (lv_at hl 1 rfl) ?_
  refine lv_iconst (v := 4) hx hb dX12_fires_28 (by decide) ?_
  refine qM_Si (As := [.int a1, .int 4]) (rest := [.ref (b + adM 1 0), .int (S5.1 1 0 j6), .int (S2.1 1 0 j3), .int 1, .int 3, .ref (b + adM 0 0)]) C0 (c_X12_planAt l h) (va_cwS 2 C0.2.2.2.2 (tbS mM7_8_13 ⟨mM7_8_14, mM7_1_11, mM7_8_15⟩) rfl rfl rfl (by decide +kernel) ⟨Nat.le_of_ble_eq_true rfl, Nat.le_of_ble_eq_true rfl⟩) hR hT hS rfl hl.1 rfl (Nat.le_of_ble_eq_true rfl) dX12_fires_29 ⟨Nat.zero_le _, Nat.zero_le _⟩ (fun r7 S8 H locs h hR hS => ?_)
  obtain ⟨j9, hj9, ej9, h⟩ := h
  refine lM_1 C0 hR Nat.zero_lt_one hj9 ej9 dX12_fires_32 ?_
  refine lv_aload_n hx hb dX12_fires_33 rfl (lv_at hl 0 rfl) ?_
  refine gM_0_2 C0 hR Nat.zero_lt_one tbs_wsX120 mM7_7_79 dX12_fires_34 ?_
  refine lv_iconst (v := 3) hx hb dX12_fires_37 (by decide) ?_
  refine lM_1 C0 hR Nat.zero_lt_one (by decide) rfl dX12_fires_38 ?_
  refine qM_Vi (As := [.int 3, .int 1, .int (S2.1 1 0 j3), .int (S5.1 1 0 j6), .int (S8.1 1 0 j9), .int (S8.1 1 0 3)]) (rest := []) C0 (c_X12_comes l h) (cwV 6 C0.2.2.2.2 (tbV mM7_7_222 ⟨mM7_7_224, mpM7_3_7, mM7_1_11, mM7_7_225⟩) rfl rfl rfl (by decide +kernel) ⟨Nat.le_of_ble_eq_true rfl, Nat.le_of_ble_eq_true rfl⟩) (rcM_0 hR Nat.zero_lt_one) hR hT hS rfl hl.1 rfl (Nat.le_of_ble_eq_true rfl) dX12_fires_39 ⟨Nat.zero_le _, Nat.zero_le _⟩ (fun r10 S11 H locs h hR hS => ?_)
  refine lv_istore_n (lv' := [(3, .int r10), (0, .ref (b + adM 0 0)), (1, .int a1), (2, .int a2)]) hx hb dX12_fires_42 rfl hl (by decide) rfl (fun ls hl => ?_)
  refine lv_iload_n hx hb dX12_fires_43 rfl (lv_at hl 0 rfl) ?_
  refine lv_iconst (v := (-1)) hx hb dX12_fires_44 (by decide) ?_
  refine lv_icmp_ne (tgt := 61) hx hb dX12_fires_45 (by decide) (fun c12 => ?_) (fun c12 => ?_)
  · have h := h.1 c12
    refine lv_aload_n hx hb dX12_fires_61 rfl (lv_at hl 1 rfl) ?_
    refine gM_0_2 C0 hR Nat.zero_lt_one tbs_wsX120 mM7_7_79 dX12_fires_62 ?_
    refine lv_iload_n hx hb dX12_fires_65 rfl (lv_at hl 0 rfl) ?_
    refine lv_iconst (v := 3) hx hb dX12_fires_66 (by decide) ?_
    refine qM_Si (As := [.int r10, .int 3]) (rest := [.ref (b + adM 1 0)]) C0 (c_X12_jobAt l h) (va_cwS 2 C0.2.2.2.2 (tbS mM7_7_74 ⟨mM7_7_75, mM7_1_11, mM7_7_76⟩) rfl rfl rfl (by decide +kernel) ⟨Nat.le_of_ble_eq_true rfl, Nat.le_of_ble_eq_true rfl⟩) hR hT hS rfl hl.1 rfl (Nat.le_of_ble_eq_true rfl) dX12_fires_67 ⟨Nat.zero_le _, Nat.zero_le _⟩ (fun r13 S14 H locs h hR hS => ?_)
    refine lv_bipush (v := 11) hx hb dX12_fires_70 (by decide) ?_
    refine lv_iadd hx hb dX12_fires_72 ?_
    refine lv_iload_n hx hb dX12_fires_73 rfl (lv_at hl 2 rfl) ?_
    obtain ⟨j15, hj15, ej15, h⟩ := h
    refine sM_1 C0 hR hS Nat.zero_lt_one hj15 ej15 dX12_fires_74 (fun S16 eS16 H locs hR hS => ?_)
    have h := h S16 eS16
    refine lv_aload_n hx hb dX12_fires_75 rfl (lv_at hl 1 rfl) ?_
    refine gM_0_2 C0 hR Nat.zero_lt_one tbs_wsX120 mM7_7_79 dX12_fires_76 ?_
    refine lv_iload_n hx hb dX12_fires_79 rfl (lv_at hl 0 rfl) ?_
    refine lv_iconst (v := 3) hx hb dX12_fires_80 (by decide) ?_
    refine qM_Si (As := [.int r10, .int 3]) (rest := [.ref (b + adM 1 0)]) C0 (c_X12_jobAt l h) (va_cwS 2 C0.2.2.2.2 (tbS mM7_7_74 ⟨mM7_7_75, mM7_1_11, mM7_7_76⟩) rfl rfl rfl (by decide +kernel) ⟨Nat.le_of_ble_eq_true rfl, Nat.le_of_ble_eq_true rfl⟩) hR hT hS rfl hl.1 rfl (Nat.le_of_ble_eq_true rfl) dX12_fires_81 ⟨Nat.zero_le _, Nat.zero_le _⟩ (fun r17 S18 H locs h hR hS => ?_)
    refine lv_bipush (v := 12) hx hb dX12_fires_84 (by decide) ?_
    refine lv_iadd hx hb dX12_fires_86 ?_
    refine lv_iload_n hx hb dX12_fires_87 rfl (lv_at hl 3 rfl) ?_
    obtain ⟨j19, hj19, ej19, h⟩ := h
    refine sM_1 C0 hR hS Nat.zero_lt_one hj19 ej19 dX12_fires_88 (fun S20 eS20 H locs hR hS => ?_)
    have h := h S20 eS20
    refine lv_iconst (v := 1) hx hb dX12_fires_89 (by decide) ?_
    exact rtM_z C0 hr hlk hR hS (by decide) h dX12_fires_90
  · have h := h.2 c12
    refine lv_aload_n hx hb dX12_fires_48 rfl (lv_at hl 1 rfl) ?_
    refine gM_0_2 C0 hR Nat.zero_lt_one tbs_wsX120 mM7_7_79 dX12_fires_49 ?_
    refine lv_bipush (v := 7) hx hb dX12_fires_52 (by decide) ?_
    refine lv_dup2_11 hx hb dX12_fires_54 rfl rfl ?_
    refine lM_1 C0 hR Nat.zero_lt_one (by decide) rfl dX12_fires_55 ?_
    refine lv_iconst (v := 1) hx hb dX12_fires_56 (by decide) ?_
    refine lv_iadd hx hb dX12_fires_57 ?_
    refine sM_1 C0 hR hS Nat.zero_lt_one (by decide) rfl dX12_fires_58 (fun S21 eS21 H locs hR hS => ?_)
    have h := h S21 eS21
    refine lv_iconst (v := 0) hx hb dX12_fires_59 (by decide) ?_
    exact rtM_z C0 hr hlk hR hS (by decide) h dX12_fires_60

def rm_X12_looks : Room := { frames := 4, cells := 0, slots := 0, locals := 93 }
def B_X12_looks_129 (kk106 : Int32 → Int32 → Int32 → Int32 → sSt → Prop) (a1 : Int32) (a2 : Int32) (a7 : Int32) (t0 : Int32) (t1 : Int32) (S : sSt) (k : Int32 → sSt → Prop) : Prop := ∀ x22 : Int32, x22 = (t0 + t1) → ∀ x23 : Int32, x23 = a7 + 1 → kk106 a1 a2 x22 x23 S
set_option maxHeartbeats 4000000 in
set_option maxRecDepth 100000 in
theorem Bw_X12_looks_129 {p : Program} {l : Launch} {e : Env} {s : State} {m : MethodId} {args : Array Value} {below : List Frame} {meth : Method} {c : Code} {D : va_G} {cy : Nat → ClassId} {b z : Nat} {tx : TX} (C0 : CallFix p m c cX12_looks 8 s args TB RX12) (hr : meth.sig.returnType = (some .int)) (hlk : meth.locks = false) (hT : TxR tx s) {k : Int32 → sSt → Prop} {kk106 : Int32 → Int32 → Int32 → Int32 → sSt → Prop} (ih106 : ∀ (a1 : Int32) (a2 : Int32) (a6 : Int32) (a7 : Int32) (S : sSt) (H : Heap) (locs : List Loc) (ls : Array Slot) , kk106 a1 a2 a6 a7 S → RelM D cy b z tx S s H → va_S (gA b 12 z) s.heap H locs → lv_has ls 8 [(0, .ref (b + adM 0 0)), (1, .int a1), (2, .int a2), (6, .int a6), (7, .int a7)] → W p l e rm_X12_looks s m args below meth c H locs 0 0 (MQ below (PiM D cy b z tx k) args s 0 0 (gA b 12 z)) (F0 m 106 ls [])) : ∀ (a1 : Int32) (a2 : Int32) (a7 : Int32) (t0 : Int32) (t1 : Int32) (S : sSt) (H : Heap) (locs : List Loc) (ls : Array Slot) , B_X12_looks_129 kk106 a1 a2 a7 t0 t1 S k → RelM D cy b z tx S s H → va_S (gA b 12 z) s.heap H locs → lv_has ls 8 [(0, .ref (b + adM 0 0)), (1, .int a1), (2, .int a2), (7, .int a7)] → W p l e rm_X12_looks s m args below meth c H locs 0 0 (MQ below (PiM D cy b z tx k) args s 0 0 (gA b 12 z)) (F0 m 129 ls [.int t1, .int t0]) := by
  intro a1 a2 a7 t0 t1 S H locs ls h hR hS hl
  have hx := C0.1
  have hb := C0.2.1
  unfold B_X12_looks_129 at h
  refine lv_iadd hx hb dX12_looks_129 ?_
  refine lv_topi (fun x22 ex22 => ?_)
  have h := h x22 ex22
  refine lv_istore (lv' := [(6, .int x22), (0, .ref (b + adM 0 0)), (1, .int a1), (2, .int a2), (7, .int a7)]) hx hb dX12_looks_130 hl (by decide) rfl (fun ls hl => ?_)
  obtain ⟨x23, ex23⟩ : ∃ x23 : Int32, x23 = a7 + 1 := ⟨_, rfl⟩
  have h := h x23 ex23
  refine w_iinc (v0 := 1) (lv' := [(7, .int x23), (6, .int x22), (0, .ref (b + adM 0 0)), (1, .int a1), (2, .int a2)]) C0 dX12_looks_132 hl (k := 4) rfl (by decide) (by decide) x23 ex23 rfl (fun ls hl => ?_)
  refine lv_goto (tgt := 106) hx hb dX12_looks_135 (by decide) ?_
  exact ih106 a1 a2 x22 x23 S _ _ _  h hR hS (lv_sub hl [2, 3, 4, 1, 0] rfl)
def Bb_X12_looks_106 (kk106 : Int32 → Int32 → Int32 → Int32 → sSt → Prop) (a1 : Int32) (a2 : Int32) (a6 : Int32) (a7 : Int32) (S : sSt) (k : Int32 → sSt → Prop) : Prop := ((a2 < a7 → F_X12_planAt a1 7 S (fun r15 S16 => ix r15 10421 (fun j17 => ∀ S18, S18 = uI S16 1 0 j17 a2 → k a6 S18))) ∧ (¬ a2 < a7 → F_X12_fires a1 a7 S (fun r19 S20 => ((r19 = 0 → B_X12_looks_129 kk106 a1 a2 a7 a6 0 S20 k) ∧ (¬ r19 = 0 → B_X12_looks_129 kk106 a1 a2 a7 a6 1 S20 k)))))
set_option maxHeartbeats 4000000 in
set_option maxRecDepth 100000 in
theorem Bbw_X12_looks_106 {p : Program} {l : Launch} {e : Env} {s : State} {m : MethodId} {args : Array Value} {below : List Frame} {meth : Method} {c : Code} {D : va_G} {cy : Nat → ClassId} {b z : Nat} {tx : TX} (C0 : CallFix p m c cX12_looks 8 s args TB RX12) (hr : meth.sig.returnType = (some .int)) (hlk : meth.locks = false) (hT : TxR tx s) {k : Int32 → sSt → Prop} {kk106 : Int32 → Int32 → Int32 → Int32 → sSt → Prop} (ih106 : ∀ (a1 : Int32) (a2 : Int32) (a6 : Int32) (a7 : Int32) (S : sSt) (H : Heap) (locs : List Loc) (ls : Array Slot) , kk106 a1 a2 a6 a7 S → RelM D cy b z tx S s H → va_S (gA b 12 z) s.heap H locs → lv_has ls 8 [(0, .ref (b + adM 0 0)), (1, .int a1), (2, .int a2), (6, .int a6), (7, .int a7)] → W p l e rm_X12_looks s m args below meth c H locs 0 0 (MQ below (PiM D cy b z tx k) args s 0 0 (gA b 12 z)) (F0 m 106 ls [])) : ∀ (a1 : Int32) (a2 : Int32) (a6 : Int32) (a7 : Int32) (S : sSt) (H : Heap) (locs : List Loc) (ls : Array Slot) , Bb_X12_looks_106 kk106 a1 a2 a6 a7 S k → RelM D cy b z tx S s H → va_S (gA b 12 z) s.heap H locs → lv_has ls 8 [(0, .ref (b + adM 0 0)), (1, .int a1), (2, .int a2), (6, .int a6), (7, .int a7)] → W p l e rm_X12_looks s m args below meth c H locs 0 0 (MQ below (PiM D cy b z tx k) args s 0 0 (gA b 12 z)) (F0 m 106 ls []) := by
  intro a1 a2 a6 a7 S H locs ls h hR hS hl
  have hx := C0.1
  have hb := C0.2.1
  unfold Bb_X12_looks_106 at h
  refine lv_iload hx hb dX12_looks_106 (lv_at hl 4 rfl) ?_
  refine lv_iload_n hx hb dX12_looks_108 rfl (lv_at hl 2 rfl) ?_
  refine lv_icmp_gt (tgt := 138) hx hb dX12_looks_109 (by decide) (fun c14 => ?_) (fun c14 => ?_)
  · have h := h.1 c14
    refine lv_aload_n hx hb dX12_looks_138 rfl (lv_at hl 0 rfl) ?_
    refine gM_0_2 C0 hR Nat.zero_lt_one tbs_wsX120 mM7_7_79 dX12_looks_139 ?_
    refine lv_iload_n hx hb dX12_looks_142 rfl (lv_at hl 1 rfl) ?_
    refine lv_bipush (v := 7) hx hb dX12_looks_143 (by decide) ?_
    refine qM_Si (As := [.int a1, .int 7]) (rest := [.ref (b + adM 1 0)]) C0 (c_X12_planAt l h) (va_cwS 2 C0.2.2.2.2 (tbS mM7_8_13 ⟨mM7_8_14, mM7_1_11, mM7_8_15⟩) rfl rfl rfl (by decide +kernel) ⟨Nat.le_of_ble_eq_true rfl, Nat.le_of_ble_eq_true rfl⟩) hR hT hS rfl hl.1 rfl (Nat.le_of_ble_eq_true rfl) dX12_looks_145 ⟨Nat.zero_le _, Nat.zero_le _⟩ (fun r15 S16 H locs h hR hS => ?_)
    refine lv_iload_n hx hb dX12_looks_148 rfl (lv_at hl 2 rfl) ?_
    obtain ⟨j17, hj17, ej17, h⟩ := h
    refine sM_1 C0 hR hS Nat.zero_lt_one hj17 ej17 dX12_looks_149 (fun S18 eS18 H locs hR hS => ?_)
    have h := h S18 eS18
    refine lv_iload hx hb dX12_looks_150 (lv_at hl 3 rfl) ?_
    exact rtM_i C0 hr hlk hR hS h dX12_looks_152
  · have h := h.2 c14
    refine lv_iload hx hb dX12_looks_112 (lv_at hl 3 rfl) ?_
    refine lv_aload_n hx hb dX12_looks_114 rfl (lv_at hl 0 rfl) ?_
    refine lv_iload_n hx hb dX12_looks_115 rfl (lv_at hl 1 rfl) ?_
    refine lv_iload hx hb dX12_looks_116 (lv_at hl 4 rfl) ?_
    refine qM_Vi (As := [.int a1, .int a7]) (rest := [.int a6]) C0 (c_X12_fires l h) (cwV 2 C0.2.2.2.2 (tbV mM7_9_53 ⟨mM7_9_55, mpM7_6_11, mM7_1_11, mM7_9_56⟩) rfl rfl rfl (by decide +kernel) ⟨Nat.le_of_ble_eq_true rfl, Nat.le_of_ble_eq_true rfl⟩) (rcM_0 hR Nat.zero_lt_one) hR hT hS rfl hl.1 rfl (Nat.le_of_ble_eq_true rfl) dX12_looks_118 ⟨Nat.zero_le _, Nat.zero_le _⟩ (fun r19 S20 H locs h hR hS => ?_)
    refine lv_if_eq (tgt := 128) hx hb dX12_looks_121 (by decide) (fun c21 => ?_) (fun c21 => ?_)
    · have h := h.1 c21
      refine lv_iconst (v := 0) hx hb dX12_looks_128 (by decide) ?_
      exact Bw_X12_looks_129 C0 hr hlk hT ih106 a1 a2 a7 a6 0 S20 _ _ _ h hR hS (lv_sub hl [0, 1, 2, 4] rfl)
    · have h := h.2 c21
      refine lv_iconst (v := 1) hx hb dX12_looks_124 (by decide) ?_
      refine lv_goto (tgt := 129) hx hb dX12_looks_125 (by decide) ?_
      exact Bw_X12_looks_129 C0 hr hlk hT ih106 a1 a2 a7 a6 1 S20 _ _ _ h hR hS (lv_sub hl [0, 1, 2, 4] rfl)
def B_X12_looks_106 (n9 : Nat) (a1 : Int32) (a2 : Int32) (a6 : Int32) (a7 : Int32) (S : sSt) (k : Int32 → sSt → Prop) : Prop := (Nat.rec (motive := fun _ => Int32 → Int32 → Int32 → Int32 → sSt → Prop) (fun _ _ _ _ _ => False) (fun _ r9 => fun a1 a2 a6 a7 S => Bb_X12_looks_106 r9 a1 a2 a6 a7 S k) n9 : Int32 → Int32 → Int32 → Int32 → sSt → Prop) a1 a2 a6 a7 S
theorem B_X12_looks_106_s (n9 : Nat) (a1 : Int32) (a2 : Int32) (a6 : Int32) (a7 : Int32) (S : sSt) (k : Int32 → sSt → Prop) : B_X12_looks_106 (n9 + 1) a1 a2 a6 a7 S k = Bb_X12_looks_106 (fun a1 a2 a6 a7 S => B_X12_looks_106 n9 a1 a2 a6 a7 S k) a1 a2 a6 a7 S k := rfl
set_option maxHeartbeats 4000000 in
set_option maxRecDepth 100000 in
theorem Bw_X12_looks_106 {p : Program} {l : Launch} {e : Env} {s : State} {m : MethodId} {args : Array Value} {below : List Frame} {meth : Method} {c : Code} {D : va_G} {cy : Nat → ClassId} {b z : Nat} {tx : TX} (C0 : CallFix p m c cX12_looks 8 s args TB RX12) (hr : meth.sig.returnType = (some .int)) (hlk : meth.locks = false) (hT : TxR tx s) {k : Int32 → sSt → Prop} : ∀ (n9 : Nat), ∀ (a1 : Int32) (a2 : Int32) (a6 : Int32) (a7 : Int32) (S : sSt) (H : Heap) (locs : List Loc) (ls : Array Slot) , B_X12_looks_106 n9 a1 a2 a6 a7 S k → RelM D cy b z tx S s H → va_S (gA b 12 z) s.heap H locs → lv_has ls 8 [(0, .ref (b + adM 0 0)), (1, .int a1), (2, .int a2), (6, .int a6), (7, .int a7)] → W p l e rm_X12_looks s m args below meth c H locs 0 0 (MQ below (PiM D cy b z tx k) args s 0 0 (gA b 12 z)) (F0 m 106 ls []) := by
  intro n9
  induction n9 with
  | zero => intro a1 a2 a6 a7 S H locs ls h; exact h.elim
  | succ n9 ih =>
    intro a1 a2 a6 a7 S H locs ls h hR hS hl
    exact Bbw_X12_looks_106 C0 hr hlk hT ih a1 a2 a6 a7 S H locs ls h hR hS hl
def B_X12_looks_97 (a1 : Int32) (a2 : Int32) (t0 : Int32) (S : sSt) (k : Int32 → sSt → Prop) : Prop := B_X12_looks_106 fuel a1 a2 0 t0 S k
set_option maxHeartbeats 4000000 in
set_option maxRecDepth 100000 in
theorem Bw_X12_looks_97 {p : Program} {l : Launch} {e : Env} {s : State} {m : MethodId} {args : Array Value} {below : List Frame} {meth : Method} {c : Code} {D : va_G} {cy : Nat → ClassId} {b z : Nat} {tx : TX} (C0 : CallFix p m c cX12_looks 8 s args TB RX12) (hr : meth.sig.returnType = (some .int)) (hlk : meth.locks = false) (hT : TxR tx s) {k : Int32 → sSt → Prop} : ∀ (a1 : Int32) (a2 : Int32) (t0 : Int32) (S : sSt) (H : Heap) (locs : List Loc) (ls : Array Slot) , B_X12_looks_97 a1 a2 t0 S k → RelM D cy b z tx S s H → va_S (gA b 12 z) s.heap H locs → lv_has ls 8 [(0, .ref (b + adM 0 0)), (1, .int a1), (2, .int a2)] → W p l e rm_X12_looks s m args below meth c H locs 0 0 (MQ below (PiM D cy b z tx k) args s 0 0 (gA b 12 z)) (F0 m 97 ls [.int t0]) := by
  intro a1 a2 t0 S H locs ls h hR hS hl
  have hx := C0.1
  have hb := C0.2.1
  unfold B_X12_looks_97 at h
  refine lv_istore (lv' := [(5, .int t0), (0, .ref (b + adM 0 0)), (1, .int a1), (2, .int a2)]) hx hb dX12_looks_97 hl (by decide) rfl (fun ls hl => ?_)
  refine lv_iconst (v := 0) hx hb dX12_looks_99 (by decide) ?_
  refine lv_istore (lv' := [(6, .int 0), (5, .int t0), (0, .ref (b + adM 0 0)), (1, .int a1), (2, .int a2)]) hx hb dX12_looks_100 hl (by decide) rfl (fun ls hl => ?_)
  refine lv_iload hx hb dX12_looks_102 (lv_at hl 1 rfl) ?_
  refine lv_istore (lv' := [(7, .int t0), (6, .int 0), (5, .int t0), (0, .ref (b + adM 0 0)), (1, .int a1), (2, .int a2)]) hx hb dX12_looks_104 hl (by decide) rfl (fun ls hl => ?_)
  exact Bw_X12_looks_106 C0 hr hlk hT fuel a1 a2 0 t0 S _ _ _ h hR hS (lv_sub hl [3, 4, 5, 1, 0] rfl)
def B_X12_looks_96 (a1 : Int32) (a2 : Int32) (S : sSt) (k : Int32 → sSt → Prop) : Prop := B_X12_looks_97 a1 a2 a2 S k
set_option maxHeartbeats 4000000 in
set_option maxRecDepth 100000 in
theorem Bw_X12_looks_96 {p : Program} {l : Launch} {e : Env} {s : State} {m : MethodId} {args : Array Value} {below : List Frame} {meth : Method} {c : Code} {D : va_G} {cy : Nat → ClassId} {b z : Nat} {tx : TX} (C0 : CallFix p m c cX12_looks 8 s args TB RX12) (hr : meth.sig.returnType = (some .int)) (hlk : meth.locks = false) (hT : TxR tx s) {k : Int32 → sSt → Prop} : ∀ (a1 : Int32) (a2 : Int32) (S : sSt) (H : Heap) (locs : List Loc) (ls : Array Slot) , B_X12_looks_96 a1 a2 S k → RelM D cy b z tx S s H → va_S (gA b 12 z) s.heap H locs → lv_has ls 8 [(0, .ref (b + adM 0 0)), (1, .int a1), (2, .int a2)] → W p l e rm_X12_looks s m args below meth c H locs 0 0 (MQ below (PiM D cy b z tx k) args s 0 0 (gA b 12 z)) (F0 m 96 ls []) := by
  intro a1 a2 S H locs ls h hR hS hl
  have hx := C0.1
  have hb := C0.2.1
  unfold B_X12_looks_96 at h
  refine lv_iload_n hx hb dX12_looks_96 rfl (lv_at hl 2 rfl) ?_
  exact Bw_X12_looks_97 C0 hr hlk hT a1 a2 a2 S _ _ _ h hR hS (lv_sub hl [0, 1, 2] rfl)
def F_X12_looks (a1 : Int32) (S : sSt) (k : Int32 → sSt → Prop) : Prop := F_X12_slotNow a1 S (fun r1 S2 => F_X12_planAt a1 7 S2 (fun r3 S4 => ix r3 10421 (fun j5 => ∀ x6 : Int32, x6 = (S4.1 1 0 j5) → ((x6 < r1 → F_X12_planAt a1 5 S4 (fun r8 S9 => ix r8 10421 (fun j10 => ∀ x11 : Int32, x11 = (S9.1 1 0 j10) → ((¬ x11 = 1 → ((¬ x11 = 2 → B_X12_looks_96 a1 r1 S9 k) ∧ (x11 = 2 → F_X12_timeOf a1 r1 S9 (fun r24 S25 => F_X12_planAt a1 6 S25 (fun r26 S27 => ix r26 10421 (fun j28 => ((((S9.1 1 0 4) - r24) ≤ (S27.1 1 0 j28) → B_X12_looks_96 a1 r1 S27 k) ∧ (¬ ((S9.1 1 0 4) - r24) ≤ (S27.1 1 0 j28) → B_X12_looks_97 a1 r1 (r1 + 1) S27 k)))))))) ∧ (x11 = 1 → B_X12_looks_97 a1 r1 (if (x6 + 1) < ((r1 + 1) - 5) then ((r1 + 1) - 5) else (x6 + 1)) S9 k))))) ∧ (¬ x6 < r1 → k 0 S4)))))
set_option maxHeartbeats 4000000 in
set_option maxRecDepth 100000 in
theorem c_X12_looks (l : Launch) {D : va_G} {cy : Nat → ClassId} {b z : Nat} {tx : TX} {a1 : Int32} {S : sSt} {k : Int32 → sSt → Prop} (h : F_X12_looks a1 S k) : Met l yX12_looks (Cond.code yX12_looks cX12_looks 8 (some .int) :: TB) rm_X12_looks (va_Pc [.ref (b + adM 0 0), .int a1] (fun U => RelM D cy b z tx S U U.heap ∧ TxR tx U)) (PiM D cy b z tx k) 0 0 (gA b 12 z) := by
  refine Met.ofW (cc := cX12_looks) (maxL := 8) (ret := (some .int)) (by decide) rfl ?_
  intro p e s m args below meth c s₁ B hml hv
  obtain ⟨rfl, hR, hT⟩ := hv
  have C0 : CallFix p m c cX12_looks 8 s _ TB RX12 := ⟨B.exec, B.bytes, hml, findClass_of_methodNamed B.named, fun w hw => atoms_spec B.pre w (List.mem_cons_of_mem _ hw)⟩
  have hr := B.returns
  have hlk := B.notSynchronized
  have hx := C0.1
  have hb := C0.2.1
  have hS : va_S (gA b 12 z) s.heap s.heap [] := va_S.rf
  have hl := lv_entry ([.ref (b + adM 0 0), .int a1]) (n := 8) (Nat.le_of_ble_eq_true rfl)
  rw [lg_entry_eq]
  generalize (lg_sl ([.ref (b + adM 0 0), .int a1]) ++ List.replicate (8 - (lg_sl ([.ref (b + adM 0 0), .int a1])).length) Slot.unset).toArray = ls at hl ⊢
  have hl : lv_has ls 8 [(0, .ref (b + adM 0 0)), (1, .int a1)] := hl
  show W p l e rm_X12_looks s m _ below meth c s.heap [] 0 0 (MQ below (PiM D cy b z tx k) _ s 0 0 (gA b 12 z)) _
  unfold F_X12_looks at h
  refine lv_aload_n hx hb dX12_looks_0 rfl (lv_at hl 0 rfl) ?_
  refine lv_iload_n hx hb dX12_looks_1 rfl (lv_at hl 1 rfl) ?_
  refine qM_Vi (As := [.int a1]) (rest := []) C0 (c_X12_slotNow l h) (cwV 1 C0.2.2.2.2 (tbV mM7_8_16 ⟨mM7_8_18, mpM7_3_12, mM7_1_11, mM7_8_19⟩) rfl rfl rfl (by decide +kernel) ⟨Nat.le_of_ble_eq_true rfl, Nat.le_of_ble_eq_true rfl⟩) (rcM_0 hR Nat.zero_lt_one) hR hT hS rfl hl.1 rfl (Nat.le_of_ble_eq_true rfl) dX12_looks_2 ⟨Nat.zero_le _, Nat.zero_le _⟩ (fun r1 S2 H locs h hR hS => ?_)
  refine lv_istore_n (lv' := [(2, .int r1), (0, .ref (b + adM 0 0)), (1, .int a1)]) hx hb dX12_looks_5 rfl hl (by decide) rfl (fun ls hl => ?_)
  refine lv_aload_n hx hb dX12_looks_6 rfl (lv_at hl 1 rfl) ?_
  refine gM_0_2 C0 hR Nat.zero_lt_one tbs_wsX120 mM7_7_79 dX12_looks_7 ?_
  refine lv_iload_n hx hb dX12_looks_10 rfl (lv_at hl 2 rfl) ?_
  refine lv_bipush (v := 7) hx hb dX12_looks_11 (by decide) ?_
  refine qM_Si (As := [.int a1, .int 7]) (rest := [.ref (b + adM 1 0)]) C0 (c_X12_planAt l h) (va_cwS 2 C0.2.2.2.2 (tbS mM7_8_13 ⟨mM7_8_14, mM7_1_11, mM7_8_15⟩) rfl rfl rfl (by decide +kernel) ⟨Nat.le_of_ble_eq_true rfl, Nat.le_of_ble_eq_true rfl⟩) hR hT hS rfl hl.1 rfl (Nat.le_of_ble_eq_true rfl) dX12_looks_13 ⟨Nat.zero_le _, Nat.zero_le _⟩ (fun r3 S4 H locs h hR hS => ?_)
  obtain ⟨j5, hj5, ej5, h⟩ := h
  refine lM_1 C0 hR Nat.zero_lt_one hj5 ej5 dX12_looks_16 ?_
  refine lv_topi (fun x6 ex6 => ?_)
  have h := h x6 ex6
  refine lv_istore_n (lv' := [(3, .int x6), (2, .int r1), (0, .ref (b + adM 0 0)), (1, .int a1)]) hx hb dX12_looks_17 rfl hl (by decide) rfl (fun ls hl => ?_)
  refine lv_iload_n hx hb dX12_looks_18 rfl (lv_at hl 1 rfl) ?_
  refine lv_iload_n hx hb dX12_looks_19 rfl (lv_at hl 0 rfl) ?_
  refine lv_icmp_gt (tgt := 25) hx hb dX12_looks_20 (by decide) (fun c7 => ?_) (fun c7 => ?_)
  · have h := h.1 c7
    refine lv_aload_n hx hb dX12_looks_25 rfl (lv_at hl 2 rfl) ?_
    refine gM_0_2 C0 hR Nat.zero_lt_one tbs_wsX120 mM7_7_79 dX12_looks_26 ?_
    refine lv_iload_n hx hb dX12_looks_29 rfl (lv_at hl 3 rfl) ?_
    refine lv_iconst (v := 5) hx hb dX12_looks_30 (by decide) ?_
    refine qM_Si (As := [.int a1, .int 5]) (rest := [.ref (b + adM 1 0)]) C0 (c_X12_planAt l h) (va_cwS 2 C0.2.2.2.2 (tbS mM7_8_13 ⟨mM7_8_14, mM7_1_11, mM7_8_15⟩) rfl rfl rfl (by decide +kernel) ⟨Nat.le_of_ble_eq_true rfl, Nat.le_of_ble_eq_true rfl⟩) hR hT hS rfl hl.1 rfl (Nat.le_of_ble_eq_true rfl) dX12_looks_31 ⟨Nat.zero_le _, Nat.zero_le _⟩ (fun r8 S9 H locs h hR hS => ?_)
    obtain ⟨j10, hj10, ej10, h⟩ := h
    refine lM_1 C0 hR Nat.zero_lt_one hj10 ej10 dX12_looks_34 ?_
    refine lv_topi (fun x11 ex11 => ?_)
    have h := h x11 ex11
    refine lv_istore (lv' := [(4, .int x11), (3, .int x6), (2, .int r1), (0, .ref (b + adM 0 0)), (1, .int a1)]) hx hb dX12_looks_35 hl (by decide) rfl (fun ls hl => ?_)
    refine lv_iload hx hb dX12_looks_37 (lv_at hl 0 rfl) ?_
    refine lv_iconst (v := 1) hx hb dX12_looks_39 (by decide) ?_
    refine lv_icmp_ne (tgt := 57) hx hb dX12_looks_40 (by decide) (fun c12 => ?_) (fun c12 => ?_)
    · have h := h.1 c12
      refine lv_iload hx hb dX12_looks_57 (lv_at hl 0 rfl) ?_
      refine lv_iconst (v := 2) hx hb dX12_looks_59 (by decide) ?_
      refine lv_icmp_ne (tgt := 96) hx hb dX12_looks_60 (by decide) (fun c13 => ?_) (fun c13 => ?_)
      · have h := h.1 c13
        exact Bw_X12_looks_96 C0 hr hlk hT a1 r1 S9 _ _ _ h hR hS (lv_sub hl [3, 4, 2] rfl)
      · have h := h.2 c13
        refine lv_aload_n hx hb dX12_looks_63 rfl (lv_at hl 3 rfl) ?_
        refine gM_0_2 C0 hR Nat.zero_lt_one tbs_wsX120 mM7_7_79 dX12_looks_64 ?_
        refine lv_iconst (v := 4) hx hb dX12_looks_67 (by decide) ?_
        refine lM_1 C0 hR Nat.zero_lt_one (by decide) rfl dX12_looks_68 ?_
        refine lv_aload_n hx hb dX12_looks_69 rfl (lv_at hl 3 rfl) ?_
        refine lv_iload_n hx hb dX12_looks_70 rfl (lv_at hl 4 rfl) ?_
        refine lv_iload_n hx hb dX12_looks_71 rfl (lv_at hl 2 rfl) ?_
        refine qM_Vi (As := [.int a1, .int r1]) (rest := [.int (S9.1 1 0 4)]) C0 (c_X12_timeOf l h) (cwV 2 C0.2.2.2.2 (tbV mM7_9_49 ⟨mM7_9_51, mpM7_6_10, mM7_1_11, mM7_9_52⟩) rfl rfl rfl (by decide +kernel) ⟨Nat.le_of_ble_eq_true rfl, Nat.le_of_ble_eq_true rfl⟩) (rcM_0 hR Nat.zero_lt_one) hR hT hS rfl hl.1 rfl (Nat.le_of_ble_eq_true rfl) dX12_looks_72 ⟨Nat.zero_le _, Nat.zero_le _⟩ (fun r24 S25 H locs h hR hS => ?_)
        refine lv_isub hx hb dX12_looks_75 ?_
        refine lv_aload_n hx hb dX12_looks_76 rfl (lv_at hl 3 rfl) ?_
        refine gM_0_2 C0 hR Nat.zero_lt_one tbs_wsX120 mM7_7_79 dX12_looks_77 ?_
        refine lv_iload_n hx hb dX12_looks_80 rfl (lv_at hl 4 rfl) ?_
        refine lv_bipush (v := 6) hx hb dX12_looks_81 (by decide) ?_
        refine qM_Si (As := [.int a1, .int 6]) (rest := [.ref (b + adM 1 0), .int ((S9.1 1 0 4) - r24)]) C0 (c_X12_planAt l h) (va_cwS 2 C0.2.2.2.2 (tbS mM7_8_13 ⟨mM7_8_14, mM7_1_11, mM7_8_15⟩) rfl rfl rfl (by decide +kernel) ⟨Nat.le_of_ble_eq_true rfl, Nat.le_of_ble_eq_true rfl⟩) hR hT hS rfl hl.1 rfl (Nat.le_of_ble_eq_true rfl) dX12_looks_83 ⟨Nat.zero_le _, Nat.zero_le _⟩ (fun r26 S27 H locs h hR hS => ?_)
        obtain ⟨j28, hj28, ej28, h⟩ := h
        refine lM_1 C0 hR Nat.zero_lt_one hj28 ej28 dX12_looks_86 ?_
        refine lv_icmp_le (tgt := 96) hx hb dX12_looks_87 (by decide) (fun c29 => ?_) (fun c29 => ?_)
        · have h := h.1 c29
          exact Bw_X12_looks_96 C0 hr hlk hT a1 r1 S27 _ _ _ h hR hS (lv_sub hl [3, 4, 2] rfl)
        · have h := h.2 c29
          refine lv_iload_n hx hb dX12_looks_90 rfl (lv_at hl 2 rfl) ?_
          refine lv_iconst (v := 1) hx hb dX12_looks_91 (by decide) ?_
          refine lv_iadd hx hb dX12_looks_92 ?_
          refine lv_goto (tgt := 97) hx hb dX12_looks_93 (by decide) ?_
          exact Bw_X12_looks_97 C0 hr hlk hT a1 r1 (r1 + 1) S27 _ _ _ h hR hS (lv_sub hl [3, 4, 2] rfl)
    · have h := h.2 c12
      refine lv_iload_n hx hb dX12_looks_43 rfl (lv_at hl 1 rfl) ?_
      refine lv_iconst (v := 1) hx hb dX12_looks_44 (by decide) ?_
      refine lv_iadd hx hb dX12_looks_45 ?_
      refine lv_iload_n hx hb dX12_looks_46 rfl (lv_at hl 2 rfl) ?_
      refine lv_iconst (v := 1) hx hb dX12_looks_47 (by decide) ?_
      refine lv_iadd hx hb dX12_looks_48 ?_
      refine lv_iconst (v := 5) hx hb dX12_looks_49 (by decide) ?_
      refine lv_isub hx hb dX12_looks_50 ?_
      refine va_mmax hx hb (C0.2.2.1.trans hl.1.symm) C0.2.2.2.1 (C0.2.2.2.2 _ mM7_9_48) (C0.2.2.2.2 _ mM7_3_47) (C0.2.2.2.2 _ mM7_1_25) (C0.2.2.2.2 _ mM7_3_48) (Nat.le_of_ble_eq_true rfl) (Nat.le_of_ble_eq_true rfl) (Nat.zero_le _) (Nat.zero_le _) dX12_looks_51 ?_
      refine lv_goto (tgt := 97) hx hb dX12_looks_54 (by decide) ?_
      exact Bw_X12_looks_97 C0 hr hlk hT a1 r1 (if (x6 + 1) < ((r1 + 1) - 5) then ((r1 + 1) - 5) else (x6 + 1)) S9 _ _ _ h hR hS (lv_sub hl [3, 4, 2] rfl)
  · have h := h.2 c7
    refine lv_iconst (v := 0) hx hb dX12_looks_23 (by decide) ?_
    exact rtM_i C0 hr hlk hR hS h dX12_looks_24

def rm_X12_allLook : Room := { frames := 5, cells := 0, slots := 0, locals := 120 }
def Bb_X12_allLook_4 (kk4 : Int32 → Int32 → sSt → Prop) (a1 : Int32) (a2 : Int32) (S : sSt) (k : Int32 → sSt → Prop) : Prop := (((S.1 1 0 1) ≤ a2 → k a1 S) ∧ (¬ (S.1 1 0 1) ≤ a2 → F_X12_looks a2 S (fun r2 S3 => ∀ x4 : Int32, x4 = (a1 + r2) → ∀ x5 : Int32, x5 = a2 + 1 → kk4 x4 x5 S3)))
set_option maxHeartbeats 4000000 in
set_option maxRecDepth 100000 in
theorem Bbw_X12_allLook_4 {p : Program} {l : Launch} {e : Env} {s : State} {m : MethodId} {args : Array Value} {below : List Frame} {meth : Method} {c : Code} {D : va_G} {cy : Nat → ClassId} {b z : Nat} {tx : TX} (C0 : CallFix p m c cX12_allLook 3 s args TB RX12) (hr : meth.sig.returnType = (some .int)) (hlk : meth.locks = false) (hT : TxR tx s) {k : Int32 → sSt → Prop} {kk4 : Int32 → Int32 → sSt → Prop} (ih4 : ∀ (a1 : Int32) (a2 : Int32) (S : sSt) (H : Heap) (locs : List Loc) (ls : Array Slot) , kk4 a1 a2 S → RelM D cy b z tx S s H → va_S (gA b 12 z) s.heap H locs → lv_has ls 3 [(0, .ref (b + adM 0 0)), (1, .int a1), (2, .int a2)] → W p l e rm_X12_allLook s m args below meth c H locs 0 0 (MQ below (PiM D cy b z tx k) args s 0 0 (gA b 12 z)) (F0 m 4 ls [])) : ∀ (a1 : Int32) (a2 : Int32) (S : sSt) (H : Heap) (locs : List Loc) (ls : Array Slot) , Bb_X12_allLook_4 kk4 a1 a2 S k → RelM D cy b z tx S s H → va_S (gA b 12 z) s.heap H locs → lv_has ls 3 [(0, .ref (b + adM 0 0)), (1, .int a1), (2, .int a2)] → W p l e rm_X12_allLook s m args below meth c H locs 0 0 (MQ below (PiM D cy b z tx k) args s 0 0 (gA b 12 z)) (F0 m 4 ls []) := by
  intro a1 a2 S H locs ls h hR hS hl
  have hx := C0.1
  have hb := C0.2.1
  unfold Bb_X12_allLook_4 at h
  refine lv_iload_n hx hb dX12_allLook_4 rfl (lv_at hl 2 rfl) ?_
  refine lv_aload_n hx hb dX12_allLook_5 rfl (lv_at hl 0 rfl) ?_
  refine gM_0_2 C0 hR Nat.zero_lt_one tbs_wsX120 mM7_7_79 dX12_allLook_6 ?_
  refine lv_iconst (v := 1) hx hb dX12_allLook_9 (by decide) ?_
  refine lM_1 C0 hR Nat.zero_lt_one (by decide) rfl dX12_allLook_10 ?_
  refine lv_icmp_ge (tgt := 28) hx hb dX12_allLook_11 (by decide) (fun c1 => ?_) (fun c1 => ?_)
  · have h := h.1 c1
    refine lv_iload_n hx hb dX12_allLook_28 rfl (lv_at hl 1 rfl) ?_
    exact rtM_i C0 hr hlk hR hS h dX12_allLook_29
  · have h := h.2 c1
    refine lv_iload_n hx hb dX12_allLook_14 rfl (lv_at hl 1 rfl) ?_
    refine lv_aload_n hx hb dX12_allLook_15 rfl (lv_at hl 0 rfl) ?_
    refine lv_iload_n hx hb dX12_allLook_16 rfl (lv_at hl 2 rfl) ?_
    refine qM_Vi (As := [.int a2]) (rest := [.int a1]) C0 (c_X12_looks l h) (cwV 1 C0.2.2.2.2 (tbV mM7_9_44 ⟨mM7_9_46, mpM7_6_9, mM7_1_11, mM7_9_47⟩) rfl rfl rfl (by decide +kernel) ⟨Nat.le_of_ble_eq_true rfl, Nat.le_of_ble_eq_true rfl⟩) (rcM_0 hR Nat.zero_lt_one) hR hT hS rfl hl.1 rfl (Nat.le_of_ble_eq_true rfl) dX12_allLook_17 ⟨Nat.zero_le _, Nat.zero_le _⟩ (fun r2 S3 H locs h hR hS => ?_)
    refine lv_iadd hx hb dX12_allLook_20 ?_
    refine lv_topi (fun x4 ex4 => ?_)
    have h := h x4 ex4
    refine lv_istore_n (lv' := [(1, .int x4), (0, .ref (b + adM 0 0)), (2, .int a2)]) hx hb dX12_allLook_21 rfl hl (by decide) rfl (fun ls hl => ?_)
    obtain ⟨x5, ex5⟩ : ∃ x5 : Int32, x5 = a2 + 1 := ⟨_, rfl⟩
    have h := h x5 ex5
    refine w_iinc (v0 := 1) (lv' := [(2, .int x5), (1, .int x4), (0, .ref (b + adM 0 0))]) C0 dX12_allLook_22 hl (k := 2) rfl (by decide) (by decide) x5 ex5 rfl (fun ls hl => ?_)
    refine lv_goto (tgt := 4) hx hb dX12_allLook_25 (by decide) ?_
    exact ih4 x4 x5 S3 _ _ _  h hR hS (lv_sub hl [2, 1, 0] rfl)
def B_X12_allLook_4 (n9 : Nat) (a1 : Int32) (a2 : Int32) (S : sSt) (k : Int32 → sSt → Prop) : Prop := (Nat.rec (motive := fun _ => Int32 → Int32 → sSt → Prop) (fun _ _ _ => False) (fun _ r9 => fun a1 a2 S => Bb_X12_allLook_4 r9 a1 a2 S k) n9 : Int32 → Int32 → sSt → Prop) a1 a2 S
theorem B_X12_allLook_4_s (n9 : Nat) (a1 : Int32) (a2 : Int32) (S : sSt) (k : Int32 → sSt → Prop) : B_X12_allLook_4 (n9 + 1) a1 a2 S k = Bb_X12_allLook_4 (fun a1 a2 S => B_X12_allLook_4 n9 a1 a2 S k) a1 a2 S k := rfl
set_option maxHeartbeats 4000000 in
set_option maxRecDepth 100000 in
theorem Bw_X12_allLook_4 {p : Program} {l : Launch} {e : Env} {s : State} {m : MethodId} {args : Array Value} {below : List Frame} {meth : Method} {c : Code} {D : va_G} {cy : Nat → ClassId} {b z : Nat} {tx : TX} (C0 : CallFix p m c cX12_allLook 3 s args TB RX12) (hr : meth.sig.returnType = (some .int)) (hlk : meth.locks = false) (hT : TxR tx s) {k : Int32 → sSt → Prop} : ∀ (n9 : Nat), ∀ (a1 : Int32) (a2 : Int32) (S : sSt) (H : Heap) (locs : List Loc) (ls : Array Slot) , B_X12_allLook_4 n9 a1 a2 S k → RelM D cy b z tx S s H → va_S (gA b 12 z) s.heap H locs → lv_has ls 3 [(0, .ref (b + adM 0 0)), (1, .int a1), (2, .int a2)] → W p l e rm_X12_allLook s m args below meth c H locs 0 0 (MQ below (PiM D cy b z tx k) args s 0 0 (gA b 12 z)) (F0 m 4 ls []) := by
  intro n9
  induction n9 with
  | zero => intro a1 a2 S H locs ls h; exact h.elim
  | succ n9 ih =>
    intro a1 a2 S H locs ls h hR hS hl
    exact Bbw_X12_allLook_4 C0 hr hlk hT ih a1 a2 S H locs ls h hR hS hl
def F_X12_allLook (S : sSt) (k : Int32 → sSt → Prop) : Prop := B_X12_allLook_4 fuel 0 0 S k
set_option maxHeartbeats 4000000 in
set_option maxRecDepth 100000 in
theorem c_X12_allLook (l : Launch) {D : va_G} {cy : Nat → ClassId} {b z : Nat} {tx : TX} {S : sSt} {k : Int32 → sSt → Prop} (h : F_X12_allLook S k) : Met l yX12_allLook (Cond.code yX12_allLook cX12_allLook 3 (some .int) :: TB) rm_X12_allLook (va_Pc [.ref (b + adM 0 0)] (fun U => RelM D cy b z tx S U U.heap ∧ TxR tx U)) (PiM D cy b z tx k) 0 0 (gA b 12 z) := by
  refine Met.ofW (cc := cX12_allLook) (maxL := 3) (ret := (some .int)) (by decide) rfl ?_
  intro p e s m args below meth c s₁ B hml hv
  obtain ⟨rfl, hR, hT⟩ := hv
  have C0 : CallFix p m c cX12_allLook 3 s _ TB RX12 := ⟨B.exec, B.bytes, hml, findClass_of_methodNamed B.named, fun w hw => atoms_spec B.pre w (List.mem_cons_of_mem _ hw)⟩
  have hr := B.returns
  have hlk := B.notSynchronized
  have hx := C0.1
  have hb := C0.2.1
  have hS : va_S (gA b 12 z) s.heap s.heap [] := va_S.rf
  have hl := lv_entry ([.ref (b + adM 0 0)]) (n := 3) (Nat.le_of_ble_eq_true rfl)
  rw [lg_entry_eq]
  generalize (lg_sl ([.ref (b + adM 0 0)]) ++ List.replicate (3 - (lg_sl ([.ref (b + adM 0 0)])).length) Slot.unset).toArray = ls at hl ⊢
  have hl : lv_has ls 3 [(0, .ref (b + adM 0 0))] := hl
  show W p l e rm_X12_allLook s m _ below meth c s.heap [] 0 0 (MQ below (PiM D cy b z tx k) _ s 0 0 (gA b 12 z)) _
  unfold F_X12_allLook at h
  refine lv_iconst (v := 0) hx hb dX12_allLook_0 (by decide) ?_
  refine lv_istore_n (lv' := [(1, .int 0), (0, .ref (b + adM 0 0))]) hx hb dX12_allLook_1 rfl hl (by decide) rfl (fun ls hl => ?_)
  refine lv_iconst (v := 0) hx hb dX12_allLook_2 (by decide) ?_
  refine lv_istore_n (lv' := [(2, .int 0), (1, .int 0), (0, .ref (b + adM 0 0))]) hx hb dX12_allLook_3 rfl hl (by decide) rfl (fun ls hl => ?_)
  exact Bw_X12_allLook_4 C0 hr hlk hT fuel 0 0 S _ _ _ h hR hS (lv_sub hl [2, 1, 0] rfl)

def rm_X12_goesOn : Room := { frames := 6, cells := 0, slots := 0, locals := 142 }
def Bb_X12_goesOn_4 (kk4 : Int32 → Int32 → Int32 → sSt → Prop) (a1 : Int32) (a2 : Int32) (a3 : Int32) (S : sSt) (k : Int32 → sSt → Prop) : Prop := ((a1 ≤ a3 → k a2 S) ∧ (¬ a1 ≤ a3 → ∀ S2, S2 = uI S 1 0 3 (if ((S.1 1 0 3) + 1) < 9999 then ((S.1 1 0 3) + 1) else 9999) → ∀ S3, S3 = uI S2 1 0 4 (if ((S2.1 1 0 4) + 1) < 9999 then ((S2.1 1 0 4) + 1) else 9999) → F_X12_allLook S3 (fun r4 S5 => ∀ x6 : Int32, x6 = (a2 + r4) → ∀ x7 : Int32, x7 = a3 + 1 → kk4 a1 x6 x7 S5)))
set_option maxHeartbeats 4000000 in
set_option maxRecDepth 100000 in
theorem Bbw_X12_goesOn_4 {p : Program} {l : Launch} {e : Env} {s : State} {m : MethodId} {args : Array Value} {below : List Frame} {meth : Method} {c : Code} {D : va_G} {cy : Nat → ClassId} {b z : Nat} {tx : TX} (C0 : CallFix p m c cX12_goesOn 4 s args TB RX12) (hr : meth.sig.returnType = (some .int)) (hlk : meth.locks = false) (hT : TxR tx s) {k : Int32 → sSt → Prop} {kk4 : Int32 → Int32 → Int32 → sSt → Prop} (ih4 : ∀ (a1 : Int32) (a2 : Int32) (a3 : Int32) (S : sSt) (H : Heap) (locs : List Loc) (ls : Array Slot) , kk4 a1 a2 a3 S → RelM D cy b z tx S s H → va_S (gA b 12 z) s.heap H locs → lv_has ls 4 [(0, .ref (b + adM 0 0)), (1, .int a1), (2, .int a2), (3, .int a3)] → W p l e rm_X12_goesOn s m args below meth c H locs 0 0 (MQ below (PiM D cy b z tx k) args s 0 0 (gA b 12 z)) (F0 m 4 ls [])) : ∀ (a1 : Int32) (a2 : Int32) (a3 : Int32) (S : sSt) (H : Heap) (locs : List Loc) (ls : Array Slot) , Bb_X12_goesOn_4 kk4 a1 a2 a3 S k → RelM D cy b z tx S s H → va_S (gA b 12 z) s.heap H locs → lv_has ls 4 [(0, .ref (b + adM 0 0)), (1, .int a1), (2, .int a2), (3, .int a3)] → W p l e rm_X12_goesOn s m args below meth c H locs 0 0 (MQ below (PiM D cy b z tx k) args s 0 0 (gA b 12 z)) (F0 m 4 ls []) := by
  intro a1 a2 a3 S H locs ls h hR hS hl
  have hx := C0.1
  have hb := C0.2.1
  unfold Bb_X12_goesOn_4 at h
  refine lv_iload_n hx hb dX12_goesOn_4 rfl (lv_at hl 3 rfl) ?_
  refine lv_iload_n hx hb dX12_goesOn_5 rfl (lv_at hl 1 rfl) ?_
  refine lv_icmp_ge (tgt := 62) hx hb dX12_goesOn_6 (by decide) (fun c1 => ?_) (fun c1 => ?_)
  · have h := h.1 c1
    refine lv_iload_n hx hb dX12_goesOn_62 rfl (lv_at hl 2 rfl) ?_
    exact rtM_i C0 hr hlk hR hS h dX12_goesOn_63
  · have h := h.2 c1
    refine lv_aload_n hx hb dX12_goesOn_9 rfl (lv_at hl 0 rfl) ?_
    refine gM_0_2 C0 hR Nat.zero_lt_one tbs_wsX120 mM7_7_79 dX12_goesOn_10 ?_
    refine lv_iconst (v := 3) hx hb dX12_goesOn_13 (by decide) ?_
    refine lv_sipush (v := 9999) hx hb dX12_goesOn_14 (by decide) ?_
    refine lv_aload_n hx hb dX12_goesOn_17 rfl (lv_at hl 0 rfl) ?_
    refine gM_0_2 C0 hR Nat.zero_lt_one tbs_wsX120 mM7_7_79 dX12_goesOn_18 ?_
    refine lv_iconst (v := 3) hx hb dX12_goesOn_21 (by decide) ?_
    refine lM_1 C0 hR Nat.zero_lt_one (by decide) rfl dX12_goesOn_22 ?_
    refine lv_iconst (v := 1) hx hb dX12_goesOn_23 (by decide) ?_
    refine lv_iadd hx hb dX12_goesOn_24 ?_
    refine va_mmin hx hb (C0.2.2.1.trans hl.1.symm) C0.2.2.2.1 (C0.2.2.2.2 _ mM7_8_142) (C0.2.2.2.2 _ mM7_5_67) (C0.2.2.2.2 _ mM7_1_25) (C0.2.2.2.2 _ mM7_5_68) (Nat.le_of_ble_eq_true rfl) (Nat.le_of_ble_eq_true rfl) (Nat.zero_le _) (Nat.zero_le _) dX12_goesOn_25 ?_
    refine sM_1 C0 hR hS Nat.zero_lt_one (by decide) rfl dX12_goesOn_28 (fun S2 eS2 H locs hR hS => ?_)
    have h := h S2 eS2
    refine lv_aload_n hx hb dX12_goesOn_29 rfl (lv_at hl 0 rfl) ?_
    refine gM_0_2 C0 hR Nat.zero_lt_one tbs_wsX120 mM7_7_79 dX12_goesOn_30 ?_
    refine lv_iconst (v := 4) hx hb dX12_goesOn_33 (by decide) ?_
    refine lv_sipush (v := 9999) hx hb dX12_goesOn_34 (by decide) ?_
    refine lv_aload_n hx hb dX12_goesOn_37 rfl (lv_at hl 0 rfl) ?_
    refine gM_0_2 C0 hR Nat.zero_lt_one tbs_wsX120 mM7_7_79 dX12_goesOn_38 ?_
    refine lv_iconst (v := 4) hx hb dX12_goesOn_41 (by decide) ?_
    refine lM_1 C0 hR Nat.zero_lt_one (by decide) rfl dX12_goesOn_42 ?_
    refine lv_iconst (v := 1) hx hb dX12_goesOn_43 (by decide) ?_
    refine lv_iadd hx hb dX12_goesOn_44 ?_
    refine va_mmin hx hb (C0.2.2.1.trans hl.1.symm) C0.2.2.2.1 (C0.2.2.2.2 _ mM7_8_142) (C0.2.2.2.2 _ mM7_5_67) (C0.2.2.2.2 _ mM7_1_25) (C0.2.2.2.2 _ mM7_5_68) (Nat.le_of_ble_eq_true rfl) (Nat.le_of_ble_eq_true rfl) (Nat.zero_le _) (Nat.zero_le _) dX12_goesOn_45 ?_
    refine sM_1 C0 hR hS Nat.zero_lt_one (by decide) rfl dX12_goesOn_48 (fun S3 eS3 H locs hR hS => ?_)
    have h := h S3 eS3
    refine lv_iload_n hx hb dX12_goesOn_49 rfl (lv_at hl 2 rfl) ?_
    refine lv_aload_n hx hb dX12_goesOn_50 rfl (lv_at hl 0 rfl) ?_
    refine qM_Vi (As := []) (rest := [.int a2]) C0 (c_X12_allLook l h) (cwV 0 C0.2.2.2.2 (tbV mM7_9_40 ⟨mM7_9_42, mpM7_6_8, mM7_1_11, mM7_9_43⟩) rfl rfl rfl (by decide +kernel) ⟨Nat.le_of_ble_eq_true rfl, Nat.le_of_ble_eq_true rfl⟩) (rcM_0 hR Nat.zero_lt_one) hR hT hS rfl hl.1 rfl (Nat.le_of_ble_eq_true rfl) dX12_goesOn_51 ⟨Nat.zero_le _, Nat.zero_le _⟩ (fun r4 S5 H locs h hR hS => ?_)
    refine lv_iadd hx hb dX12_goesOn_54 ?_
    refine lv_topi (fun x6 ex6 => ?_)
    have h := h x6 ex6
    refine lv_istore_n (lv' := [(2, .int x6), (0, .ref (b + adM 0 0)), (1, .int a1), (3, .int a3)]) hx hb dX12_goesOn_55 rfl hl (by decide) rfl (fun ls hl => ?_)
    obtain ⟨x7, ex7⟩ : ∃ x7 : Int32, x7 = a3 + 1 := ⟨_, rfl⟩
    have h := h x7 ex7
    refine w_iinc (v0 := 1) (lv' := [(3, .int x7), (2, .int x6), (0, .ref (b + adM 0 0)), (1, .int a1)]) C0 dX12_goesOn_56 hl (k := 3) rfl (by decide) (by decide) x7 ex7 rfl (fun ls hl => ?_)
    refine lv_goto (tgt := 4) hx hb dX12_goesOn_59 (by decide) ?_
    exact ih4 a1 x6 x7 S5 _ _ _  h hR hS (lv_sub hl [2, 3, 1, 0] rfl)
def B_X12_goesOn_4 (n9 : Nat) (a1 : Int32) (a2 : Int32) (a3 : Int32) (S : sSt) (k : Int32 → sSt → Prop) : Prop := (Nat.rec (motive := fun _ => Int32 → Int32 → Int32 → sSt → Prop) (fun _ _ _ _ => False) (fun _ r9 => fun a1 a2 a3 S => Bb_X12_goesOn_4 r9 a1 a2 a3 S k) n9 : Int32 → Int32 → Int32 → sSt → Prop) a1 a2 a3 S
theorem B_X12_goesOn_4_s (n9 : Nat) (a1 : Int32) (a2 : Int32) (a3 : Int32) (S : sSt) (k : Int32 → sSt → Prop) : B_X12_goesOn_4 (n9 + 1) a1 a2 a3 S k = Bb_X12_goesOn_4 (fun a1 a2 a3 S => B_X12_goesOn_4 n9 a1 a2 a3 S k) a1 a2 a3 S k := rfl
set_option maxHeartbeats 4000000 in
set_option maxRecDepth 100000 in
theorem Bw_X12_goesOn_4 {p : Program} {l : Launch} {e : Env} {s : State} {m : MethodId} {args : Array Value} {below : List Frame} {meth : Method} {c : Code} {D : va_G} {cy : Nat → ClassId} {b z : Nat} {tx : TX} (C0 : CallFix p m c cX12_goesOn 4 s args TB RX12) (hr : meth.sig.returnType = (some .int)) (hlk : meth.locks = false) (hT : TxR tx s) {k : Int32 → sSt → Prop} : ∀ (n9 : Nat), ∀ (a1 : Int32) (a2 : Int32) (a3 : Int32) (S : sSt) (H : Heap) (locs : List Loc) (ls : Array Slot) , B_X12_goesOn_4 n9 a1 a2 a3 S k → RelM D cy b z tx S s H → va_S (gA b 12 z) s.heap H locs → lv_has ls 4 [(0, .ref (b + adM 0 0)), (1, .int a1), (2, .int a2), (3, .int a3)] → W p l e rm_X12_goesOn s m args below meth c H locs 0 0 (MQ below (PiM D cy b z tx k) args s 0 0 (gA b 12 z)) (F0 m 4 ls []) := by
  intro n9
  induction n9 with
  | zero => intro a1 a2 a3 S H locs ls h; exact h.elim
  | succ n9 ih =>
    intro a1 a2 a3 S H locs ls h hR hS hl
    exact Bbw_X12_goesOn_4 C0 hr hlk hT ih a1 a2 a3 S H locs ls h hR hS hl
def F_X12_goesOn (a1 : Int32) (S : sSt) (k : Int32 → sSt → Prop) : Prop := B_X12_goesOn_4 fuel a1 0 0 S k
set_option maxHeartbeats 4000000 in
set_option maxRecDepth 100000 in
theorem c_X12_goesOn (l : Launch) {D : va_G} {cy : Nat → ClassId} {b z : Nat} {tx : TX} {a1 : Int32} {S : sSt} {k : Int32 → sSt → Prop} (h : F_X12_goesOn a1 S k) : Met l yX12_goesOn (Cond.code yX12_goesOn cX12_goesOn 4 (some .int) :: TB) rm_X12_goesOn (va_Pc [.ref (b + adM 0 0), .int a1] (fun U => RelM D cy b z tx S U U.heap ∧ TxR tx U)) (PiM D cy b z tx k) 0 0 (gA b 12 z) := by
  refine Met.ofW (cc := cX12_goesOn) (maxL := 4) (ret := (some .int)) (by decide) rfl ?_
  intro p e s m args below meth c s₁ B hml hv
  obtain ⟨rfl, hR, hT⟩ := hv
  have C0 : CallFix p m c cX12_goesOn 4 s _ TB RX12 := ⟨B.exec, B.bytes, hml, findClass_of_methodNamed B.named, fun w hw => atoms_spec B.pre w (List.mem_cons_of_mem _ hw)⟩
  have hr := B.returns
  have hlk := B.notSynchronized
  have hx := C0.1
  have hb := C0.2.1
  have hS : va_S (gA b 12 z) s.heap s.heap [] := va_S.rf
  have hl := lv_entry ([.ref (b + adM 0 0), .int a1]) (n := 4) (Nat.le_of_ble_eq_true rfl)
  rw [lg_entry_eq]
  generalize (lg_sl ([.ref (b + adM 0 0), .int a1]) ++ List.replicate (4 - (lg_sl ([.ref (b + adM 0 0), .int a1])).length) Slot.unset).toArray = ls at hl ⊢
  have hl : lv_has ls 4 [(0, .ref (b + adM 0 0)), (1, .int a1)] := hl
  show W p l e rm_X12_goesOn s m _ below meth c s.heap [] 0 0 (MQ below (PiM D cy b z tx k) _ s 0 0 (gA b 12 z)) _
  unfold F_X12_goesOn at h
  refine lv_iconst (v := 0) hx hb dX12_goesOn_0 (by decide) ?_
  refine lv_istore_n (lv' := [(2, .int 0), (0, .ref (b + adM 0 0)), (1, .int a1)]) hx hb dX12_goesOn_1 rfl hl (by decide) rfl (fun ls hl => ?_)
  refine lv_iconst (v := 0) hx hb dX12_goesOn_2 (by decide) ?_
  refine lv_istore_n (lv' := [(3, .int 0), (2, .int 0), (0, .ref (b + adM 0 0)), (1, .int a1)]) hx hb dX12_goesOn_3 rfl hl (by decide) rfl (fun ls hl => ?_)
  exact Bw_X12_goesOn_4 C0 hr hlk hT fuel a1 0 0 S _ _ _ h hR hS (lv_sub hl [2, 3, 1, 0] rfl)

def rm_X12_jumps : Room := { frames := 6, cells := 0, slots := 0, locals := 142 }
def F_X12_jumps (a1 : Int32) (S : sSt) (k : Int32 → sSt → Prop) : Prop := ∀ S1, S1 = uI S 1 0 4 (if 0 < (if ((S.1 1 0 4) + a1) < 9999 then ((S.1 1 0 4) + a1) else 9999) then (if ((S.1 1 0 4) + a1) < 9999 then ((S.1 1 0 4) + a1) else 9999) else 0) → F_X12_allLook S1 (fun r2 S3 => k r2 S3)
set_option maxHeartbeats 4000000 in
set_option maxRecDepth 100000 in
theorem c_X12_jumps (l : Launch) {D : va_G} {cy : Nat → ClassId} {b z : Nat} {tx : TX} {a1 : Int32} {S : sSt} {k : Int32 → sSt → Prop} (h : F_X12_jumps a1 S k) : Met l yX12_jumps (Cond.code yX12_jumps cX12_jumps 2 (some .int) :: TB) rm_X12_jumps (va_Pc [.ref (b + adM 0 0), .int a1] (fun U => RelM D cy b z tx S U U.heap ∧ TxR tx U)) (PiM D cy b z tx k) 0 0 (gA b 12 z) := by
  refine Met.ofW (cc := cX12_jumps) (maxL := 2) (ret := (some .int)) (by decide) rfl ?_
  intro p e s m args below meth c s₁ B hml hv
  obtain ⟨rfl, hR, hT⟩ := hv
  have C0 : CallFix p m c cX12_jumps 2 s _ TB RX12 := ⟨B.exec, B.bytes, hml, findClass_of_methodNamed B.named, fun w hw => atoms_spec B.pre w (List.mem_cons_of_mem _ hw)⟩
  have hr := B.returns
  have hlk := B.notSynchronized
  have hx := C0.1
  have hb := C0.2.1
  have hS : va_S (gA b 12 z) s.heap s.heap [] := va_S.rf
  have hl := lv_entry ([.ref (b + adM 0 0), .int a1]) (n := 2) (Nat.le_of_ble_eq_true rfl)
  rw [lg_entry_eq]
  generalize (lg_sl ([.ref (b + adM 0 0), .int a1]) ++ List.replicate (2 - (lg_sl ([.ref (b + adM 0 0), .int a1])).length) Slot.unset).toArray = ls at hl ⊢
  have hl : lv_has ls 2 [(0, .ref (b + adM 0 0)), (1, .int a1)] := hl
  show W p l e rm_X12_jumps s m _ below meth c s.heap [] 0 0 (MQ below (PiM D cy b z tx k) _ s 0 0 (gA b 12 z)) _
  unfold F_X12_jumps at h
  refine lv_aload_n hx hb dX12_jumps_0 rfl (lv_at hl 0 rfl) ?_
  refine gM_0_2 C0 hR Nat.zero_lt_one tbs_wsX120 mM7_7_79 dX12_jumps_1 ?_
  refine lv_iconst (v := 4) hx hb dX12_jumps_4 (by decide) ?_
  refine lv_iconst (v := 0) hx hb dX12_jumps_5 (by decide) ?_
  refine lv_sipush (v := 9999) hx hb dX12_jumps_6 (by decide) ?_
  refine lv_aload_n hx hb dX12_jumps_9 rfl (lv_at hl 0 rfl) ?_
  refine gM_0_2 C0 hR Nat.zero_lt_one tbs_wsX120 mM7_7_79 dX12_jumps_10 ?_
  refine lv_iconst (v := 4) hx hb dX12_jumps_13 (by decide) ?_
  refine lM_1 C0 hR Nat.zero_lt_one (by decide) rfl dX12_jumps_14 ?_
  refine lv_iload_n hx hb dX12_jumps_15 rfl (lv_at hl 1 rfl) ?_
  refine lv_iadd hx hb dX12_jumps_16 ?_
  refine va_mmin hx hb (C0.2.2.1.trans hl.1.symm) C0.2.2.2.1 (C0.2.2.2.2 _ mM7_8_142) (C0.2.2.2.2 _ mM7_5_67) (C0.2.2.2.2 _ mM7_1_25) (C0.2.2.2.2 _ mM7_5_68) (Nat.le_of_ble_eq_true rfl) (Nat.le_of_ble_eq_true rfl) (Nat.zero_le _) (Nat.zero_le _) dX12_jumps_17 ?_
  refine va_mmax hx hb (C0.2.2.1.trans hl.1.symm) C0.2.2.2.1 (C0.2.2.2.2 _ mM7_9_48) (C0.2.2.2.2 _ mM7_3_47) (C0.2.2.2.2 _ mM7_1_25) (C0.2.2.2.2 _ mM7_3_48) (Nat.le_of_ble_eq_true rfl) (Nat.le_of_ble_eq_true rfl) (Nat.zero_le _) (Nat.zero_le _) dX12_jumps_20 ?_
  refine sM_1 C0 hR hS Nat.zero_lt_one (by decide) rfl dX12_jumps_23 (fun S1 eS1 H locs hR hS => ?_)
  have h := h S1 eS1
  refine lv_aload_n hx hb dX12_jumps_24 rfl (lv_at hl 0 rfl) ?_
  refine qM_Vi (As := []) (rest := []) C0 (c_X12_allLook l h) (cwV 0 C0.2.2.2.2 (tbV mM7_9_40 ⟨mM7_9_42, mpM7_6_8, mM7_1_11, mM7_9_43⟩) rfl rfl rfl (by decide +kernel) ⟨Nat.le_of_ble_eq_true rfl, Nat.le_of_ble_eq_true rfl⟩) (rcM_0 hR Nat.zero_lt_one) hR hT hS rfl hl.1 rfl (Nat.le_of_ble_eq_true rfl) dX12_jumps_25 ⟨Nat.zero_le _, Nat.zero_le _⟩ (fun r2 S3 H locs h hR hS => ?_)
  exact rtM_i C0 hr hlk hR hS h dX12_jumps_28

def rm_X12_ticks : Room := { frames := 7, cells := 0, slots := 0, locals := 165 }
def B_X12_ticks_21 (a1 : Int32) (t1 : Int32) (S : sSt) (k : Int32 → sSt → Prop) : Prop := F_X12_throwsIf t1 1 S (fun r5 S6 => ((r5 = 0 → F_X12_goesOn a1 S6 (fun r8 S9 => k r8 S9)) ∧ (¬ r5 = 0 → k 0 S6)))
set_option maxHeartbeats 4000000 in
set_option maxRecDepth 100000 in
theorem Bw_X12_ticks_21 {p : Program} {l : Launch} {e : Env} {s : State} {m : MethodId} {args : Array Value} {below : List Frame} {meth : Method} {c : Code} {D : va_G} {cy : Nat → ClassId} {b z : Nat} {tx : TX} (C0 : CallFix p m c cX12_ticks 2 s args TB RX12) (hr : meth.sig.returnType = (some .int)) (hlk : meth.locks = false) (hT : TxR tx s) {k : Int32 → sSt → Prop} : ∀ (a1 : Int32) (t1 : Int32) (S : sSt) (H : Heap) (locs : List Loc) (ls : Array Slot) , B_X12_ticks_21 a1 t1 S k → RelM D cy b z tx S s H → va_S (gA b 12 z) s.heap H locs → lv_has ls 2 [(0, .ref (b + adM 0 0)), (1, .int a1)] → W p l e rm_X12_ticks s m args below meth c H locs 0 0 (MQ below (PiM D cy b z tx k) args s 0 0 (gA b 12 z)) (F0 m 21 ls [.int t1, .ref (b + adM 0 0)]) := by
  intro a1 t1 S H locs ls h hR hS hl
  have hx := C0.1
  have hb := C0.2.1
  unfold B_X12_ticks_21 at h
  refine lv_iconst (v := 1) hx hb dX12_ticks_21 (by decide) ?_
  refine qM_Vi (As := [.int t1, .int 1]) (rest := []) C0 (c_X12_throwsIf l h) (cwV 2 C0.2.2.2.2 (tbV mM7_8_25 ⟨mM7_8_27, mpM7_3_13, mM7_1_11, mM7_8_28⟩) rfl rfl rfl (by decide +kernel) ⟨Nat.le_of_ble_eq_true rfl, Nat.le_of_ble_eq_true rfl⟩) (rcM_0 hR Nat.zero_lt_one) hR hT hS rfl hl.1 rfl (Nat.le_of_ble_eq_true rfl) dX12_ticks_22 ⟨Nat.zero_le _, Nat.zero_le _⟩ (fun r5 S6 H locs h hR hS => ?_)
  refine lv_if_eq (tgt := 32) hx hb dX12_ticks_25 (by decide) (fun c7 => ?_) (fun c7 => ?_)
  · have h := h.1 c7
    refine lv_aload_n hx hb dX12_ticks_32 rfl (lv_at hl 0 rfl) ?_
    refine lv_iload_n hx hb dX12_ticks_33 rfl (lv_at hl 1 rfl) ?_
    refine qM_Vi (As := [.int a1]) (rest := []) C0 (c_X12_goesOn l h) (cwV 1 C0.2.2.2.2 (tbV mM7_9_36 ⟨mM7_9_38, mpM7_6_7, mM7_1_11, mM7_9_39⟩) rfl rfl rfl (by decide +kernel) ⟨Nat.le_of_ble_eq_true rfl, Nat.le_of_ble_eq_true rfl⟩) (rcM_0 hR Nat.zero_lt_one) hR hT hS rfl hl.1 rfl (Nat.le_of_ble_eq_true rfl) dX12_ticks_34 ⟨Nat.zero_le _, Nat.zero_le _⟩ (fun r8 S9 H locs h hR hS => ?_)
    exact rtM_i C0 hr hlk hR hS h dX12_ticks_37
  · have h := h.2 c7
    refine lv_iconst (v := 0) hx hb dX12_ticks_28 (by decide) ?_
    refine lv_goto (tgt := 37) hx hb dX12_ticks_29 (by decide) ?_
    exact rtM_i C0 hr hlk hR hS h dX12_ticks_37
def F_X12_ticks (a1 : Int32) (S : sSt) (k : Int32 → sSt → Prop) : Prop := ∀ S1, S1 = uI S 0 0 0 0 → F_X12_in a1 1 60 S1 (fun r2 S3 => ((¬ r2 = 0 → B_X12_ticks_21 a1 0 S3 k) ∧ (r2 = 0 → B_X12_ticks_21 a1 1 S3 k)))
set_option maxHeartbeats 4000000 in
set_option maxRecDepth 100000 in
theorem c_X12_ticks (l : Launch) {D : va_G} {cy : Nat → ClassId} {b z : Nat} {tx : TX} {a1 : Int32} {S : sSt} {k : Int32 → sSt → Prop} (h : F_X12_ticks a1 S k) : Met l yX12_ticks (Cond.code yX12_ticks cX12_ticks 2 (some .int) :: TB) rm_X12_ticks (va_Pc [.ref (b + adM 0 0), .int a1] (fun U => RelM D cy b z tx S U U.heap ∧ TxR tx U)) (PiM D cy b z tx k) 0 0 (gA b 12 z) := by
  refine Met.ofW (cc := cX12_ticks) (maxL := 2) (ret := (some .int)) (by decide) rfl ?_
  intro p e s m args below meth c s₁ B hml hv
  obtain ⟨rfl, hR, hT⟩ := hv
  have C0 : CallFix p m c cX12_ticks 2 s _ TB RX12 := ⟨B.exec, B.bytes, hml, findClass_of_methodNamed B.named, fun w hw => atoms_spec B.pre w (List.mem_cons_of_mem _ hw)⟩
  have hr := B.returns
  have hlk := B.notSynchronized
  have hx := C0.1
  have hb := C0.2.1
  have hS : va_S (gA b 12 z) s.heap s.heap [] := va_S.rf
  have hl := lv_entry ([.ref (b + adM 0 0), .int a1]) (n := 2) (Nat.le_of_ble_eq_true rfl)
  rw [lg_entry_eq]
  generalize (lg_sl ([.ref (b + adM 0 0), .int a1]) ++ List.replicate (2 - (lg_sl ([.ref (b + adM 0 0), .int a1])).length) Slot.unset).toArray = ls at hl ⊢
  have hl : lv_has ls 2 [(0, .ref (b + adM 0 0)), (1, .int a1)] := hl
  show W p l e rm_X12_ticks s m _ below meth c s.heap [] 0 0 (MQ below (PiM D cy b z tx k) _ s 0 0 (gA b 12 z)) _
  unfold F_X12_ticks at h
  refine lv_aload_n hx hb dX12_ticks_0 rfl (lv_at hl 0 rfl) ?_
  refine lv_iconst (v := 0) hx hb dX12_ticks_1 (by decide) ?_
  refine pM_0_0 C0 hR hS Nat.zero_lt_one tbs_wsX120 mM7_7_77 dX12_ticks_2 (fun S1 eS1 H locs hR hS => ?_)
  have h := h S1 eS1
  refine lv_aload_n hx hb dX12_ticks_5 rfl (lv_at hl 0 rfl) ?_
  refine lv_iload_n hx hb dX12_ticks_6 rfl (lv_at hl 1 rfl) ?_
  refine lv_iconst (v := 1) hx hb dX12_ticks_7 (by decide) ?_
  refine lv_bipush (v := 60) hx hb dX12_ticks_8 (by decide) ?_
  refine qM_Si (As := [.int a1, .int 1, .int 60]) (rest := [.ref (b + adM 0 0)]) C0 (c_X12_in l h) (va_cwS 3 C0.2.2.2.2 (tbS mM7_8_37 ⟨mM7_8_38, mM7_1_11, mM7_8_39⟩) rfl rfl rfl (by decide +kernel) ⟨Nat.le_of_ble_eq_true rfl, Nat.le_of_ble_eq_true rfl⟩) hR hT hS rfl hl.1 rfl (Nat.le_of_ble_eq_true rfl) dX12_ticks_10 ⟨Nat.zero_le _, Nat.zero_le _⟩ (fun r2 S3 H locs h hR hS => ?_)
  refine lv_if_ne (tgt := 20) hx hb dX12_ticks_13 (by decide) (fun c4 => ?_) (fun c4 => ?_)
  · have h := h.1 c4
    refine lv_iconst (v := 0) hx hb dX12_ticks_20 (by decide) ?_
    exact Bw_X12_ticks_21 C0 hr hlk hT a1 0 S3 _ _ _ h hR hS (lv_sub hl [0, 1] rfl)
  · have h := h.2 c4
    refine lv_iconst (v := 1) hx hb dX12_ticks_16 (by decide) ?_
    refine lv_goto (tgt := 21) hx hb dX12_ticks_17 (by decide) ?_
    exact Bw_X12_ticks_21 C0 hr hlk hT a1 1 S3 _ _ _ h hR hS (lv_sub hl [0, 1] rfl)

def rm_X12_jump : Room := { frames := 7, cells := 0, slots := 0, locals := 163 }
def B_X12_jump_24 (a1 : Int32) (t1 : Int32) (S : sSt) (k : Int32 → sSt → Prop) : Prop := F_X12_throwsIf t1 1 S (fun r5 S6 => ((r5 = 0 → F_X12_jumps a1 S6 (fun r8 S9 => k r8 S9)) ∧ (¬ r5 = 0 → k 0 S6)))
set_option maxHeartbeats 4000000 in
set_option maxRecDepth 100000 in
theorem Bw_X12_jump_24 {p : Program} {l : Launch} {e : Env} {s : State} {m : MethodId} {args : Array Value} {below : List Frame} {meth : Method} {c : Code} {D : va_G} {cy : Nat → ClassId} {b z : Nat} {tx : TX} (C0 : CallFix p m c cX12_jump 2 s args TB RX12) (hr : meth.sig.returnType = (some .int)) (hlk : meth.locks = false) (hT : TxR tx s) {k : Int32 → sSt → Prop} : ∀ (a1 : Int32) (t1 : Int32) (S : sSt) (H : Heap) (locs : List Loc) (ls : Array Slot) , B_X12_jump_24 a1 t1 S k → RelM D cy b z tx S s H → va_S (gA b 12 z) s.heap H locs → lv_has ls 2 [(0, .ref (b + adM 0 0)), (1, .int a1)] → W p l e rm_X12_jump s m args below meth c H locs 0 0 (MQ below (PiM D cy b z tx k) args s 0 0 (gA b 12 z)) (F0 m 24 ls [.int t1, .ref (b + adM 0 0)]) := by
  intro a1 t1 S H locs ls h hR hS hl
  have hx := C0.1
  have hb := C0.2.1
  unfold B_X12_jump_24 at h
  refine lv_iconst (v := 1) hx hb dX12_jump_24 (by decide) ?_
  refine qM_Vi (As := [.int t1, .int 1]) (rest := []) C0 (c_X12_throwsIf l h) (cwV 2 C0.2.2.2.2 (tbV mM7_8_25 ⟨mM7_8_27, mpM7_3_13, mM7_1_11, mM7_8_28⟩) rfl rfl rfl (by decide +kernel) ⟨Nat.le_of_ble_eq_true rfl, Nat.le_of_ble_eq_true rfl⟩) (rcM_0 hR Nat.zero_lt_one) hR hT hS rfl hl.1 rfl (Nat.le_of_ble_eq_true rfl) dX12_jump_25 ⟨Nat.zero_le _, Nat.zero_le _⟩ (fun r5 S6 H locs h hR hS => ?_)
  refine lv_if_eq (tgt := 35) hx hb dX12_jump_28 (by decide) (fun c7 => ?_) (fun c7 => ?_)
  · have h := h.1 c7
    refine lv_aload_n hx hb dX12_jump_35 rfl (lv_at hl 0 rfl) ?_
    refine lv_iload_n hx hb dX12_jump_36 rfl (lv_at hl 1 rfl) ?_
    refine qM_Vi (As := [.int a1]) (rest := []) C0 (c_X12_jumps l h) (cwV 1 C0.2.2.2.2 (tbV mM7_9_61 ⟨mM7_9_63, mpM7_6_12, mM7_1_11, mM7_9_64⟩) rfl rfl rfl (by decide +kernel) ⟨Nat.le_of_ble_eq_true rfl, Nat.le_of_ble_eq_true rfl⟩) (rcM_0 hR Nat.zero_lt_one) hR hT hS rfl hl.1 rfl (Nat.le_of_ble_eq_true rfl) dX12_jump_37 ⟨Nat.zero_le _, Nat.zero_le _⟩ (fun r8 S9 H locs h hR hS => ?_)
    exact rtM_i C0 hr hlk hR hS h dX12_jump_40
  · have h := h.2 c7
    refine lv_iconst (v := 0) hx hb dX12_jump_31 (by decide) ?_
    refine lv_goto (tgt := 40) hx hb dX12_jump_32 (by decide) ?_
    exact rtM_i C0 hr hlk hR hS h dX12_jump_40
def F_X12_jump (a1 : Int32) (S : sSt) (k : Int32 → sSt → Prop) : Prop := ∀ S1, S1 = uI S 0 0 0 0 → F_X12_in a1 (-300) 300 S1 (fun r2 S3 => ((¬ r2 = 0 → B_X12_jump_24 a1 0 S3 k) ∧ (r2 = 0 → B_X12_jump_24 a1 1 S3 k)))
set_option maxHeartbeats 4000000 in
set_option maxRecDepth 100000 in
theorem c_X12_jump (l : Launch) {D : va_G} {cy : Nat → ClassId} {b z : Nat} {tx : TX} {a1 : Int32} {S : sSt} {k : Int32 → sSt → Prop} (h : F_X12_jump a1 S k) : Met l yX12_jump (Cond.code yX12_jump cX12_jump 2 (some .int) :: TB) rm_X12_jump (va_Pc [.ref (b + adM 0 0), .int a1] (fun U => RelM D cy b z tx S U U.heap ∧ TxR tx U)) (PiM D cy b z tx k) 0 0 (gA b 12 z) := by
  refine Met.ofW (cc := cX12_jump) (maxL := 2) (ret := (some .int)) (by decide) rfl ?_
  intro p e s m args below meth c s₁ B hml hv
  obtain ⟨rfl, hR, hT⟩ := hv
  have C0 : CallFix p m c cX12_jump 2 s _ TB RX12 := ⟨B.exec, B.bytes, hml, findClass_of_methodNamed B.named, fun w hw => atoms_spec B.pre w (List.mem_cons_of_mem _ hw)⟩
  have hr := B.returns
  have hlk := B.notSynchronized
  have hx := C0.1
  have hb := C0.2.1
  have hS : va_S (gA b 12 z) s.heap s.heap [] := va_S.rf
  have hl := lv_entry ([.ref (b + adM 0 0), .int a1]) (n := 2) (Nat.le_of_ble_eq_true rfl)
  rw [lg_entry_eq]
  generalize (lg_sl ([.ref (b + adM 0 0), .int a1]) ++ List.replicate (2 - (lg_sl ([.ref (b + adM 0 0), .int a1])).length) Slot.unset).toArray = ls at hl ⊢
  have hl : lv_has ls 2 [(0, .ref (b + adM 0 0)), (1, .int a1)] := hl
  show W p l e rm_X12_jump s m _ below meth c s.heap [] 0 0 (MQ below (PiM D cy b z tx k) _ s 0 0 (gA b 12 z)) _
  unfold F_X12_jump at h
  refine lv_aload_n hx hb dX12_jump_0 rfl (lv_at hl 0 rfl) ?_
  refine lv_iconst (v := 0) hx hb dX12_jump_1 (by decide) ?_
  refine pM_0_0 C0 hR hS Nat.zero_lt_one tbs_wsX120 mM7_7_77 dX12_jump_2 (fun S1 eS1 H locs hR hS => ?_)
  have h := h S1 eS1
  refine lv_aload_n hx hb dX12_jump_5 rfl (lv_at hl 0 rfl) ?_
  refine lv_iload_n hx hb dX12_jump_6 rfl (lv_at hl 1 rfl) ?_
  refine lv_sipush (v := (-300)) hx hb dX12_jump_7 (by decide) ?_
  refine lv_sipush (v := 300) hx hb dX12_jump_10 (by decide) ?_
  refine qM_Si (As := [.int a1, .int (-300), .int 300]) (rest := [.ref (b + adM 0 0)]) C0 (c_X12_in l h) (va_cwS 3 C0.2.2.2.2 (tbS mM7_8_37 ⟨mM7_8_38, mM7_1_11, mM7_8_39⟩) rfl rfl rfl (by decide +kernel) ⟨Nat.le_of_ble_eq_true rfl, Nat.le_of_ble_eq_true rfl⟩) hR hT hS rfl hl.1 rfl (Nat.le_of_ble_eq_true rfl) dX12_jump_13 ⟨Nat.zero_le _, Nat.zero_le _⟩ (fun r2 S3 H locs h hR hS => ?_)
  refine lv_if_ne (tgt := 23) hx hb dX12_jump_16 (by decide) (fun c4 => ?_) (fun c4 => ?_)
  · have h := h.1 c4
    refine lv_iconst (v := 0) hx hb dX12_jump_23 (by decide) ?_
    exact Bw_X12_jump_24 C0 hr hlk hT a1 0 S3 _ _ _ h hR hS (lv_sub hl [0, 1] rfl)
  · have h := h.2 c4
    refine lv_iconst (v := 1) hx hb dX12_jump_19 (by decide) ?_
    refine lv_goto (tgt := 24) hx hb dX12_jump_20 (by decide) ?_
    exact Bw_X12_jump_24 C0 hr hlk hT a1 1 S3 _ _ _ h hR hS (lv_sub hl [0, 1] rfl)

def rm_X12_would : Room := { frames := 7, cells := 0, slots := 0, locals := 165 }
def B_X12_would_51 (t0 : Int32) (S : sSt) (k : Int32 → sSt → Prop) : Prop := F_X12_bringsBack S (fun S14 => k t0 S14)
set_option maxHeartbeats 4000000 in
set_option maxRecDepth 100000 in
theorem Bw_X12_would_51 {p : Program} {l : Launch} {e : Env} {s : State} {m : MethodId} {args : Array Value} {below : List Frame} {meth : Method} {c : Code} {D : va_G} {cy : Nat → ClassId} {b z : Nat} {tx : TX} (C0 : CallFix p m c cX12_would 4 s args TB RX12) (hr : meth.sig.returnType = (some .int)) (hlk : meth.locks = false) (hT : TxR tx s) {k : Int32 → sSt → Prop} : ∀ (t0 : Int32) (S : sSt) (H : Heap) (locs : List Loc) (ls : Array Slot) , B_X12_would_51 t0 S k → RelM D cy b z tx S s H → va_S (gA b 12 z) s.heap H locs → lv_has ls 4 [(0, .ref (b + adM 0 0))] → W p l e rm_X12_would s m args below meth c H locs 0 0 (MQ below (PiM D cy b z tx k) args s 0 0 (gA b 12 z)) (F0 m 51 ls [.int t0]) := by
  intro t0 S H locs ls h hR hS hl
  have hx := C0.1
  have hb := C0.2.1
  unfold B_X12_would_51 at h
  refine lv_istore_n (lv' := [(3, .int t0), (0, .ref (b + adM 0 0))]) hx hb dX12_would_51 rfl hl (by decide) rfl (fun ls hl => ?_)
  refine lv_aload_n hx hb dX12_would_52 rfl (lv_at hl 1 rfl) ?_
  refine qM_Vv (As := []) (rest := []) C0 (c_X12_bringsBack l h) (cwV 0 C0.2.2.2.2 (tbV mM7_9_73 ⟨mM7_9_75, mpM7_6_14, mM7_1_11, mM7_9_76⟩) rfl rfl rfl (by decide +kernel) ⟨Nat.le_of_ble_eq_true rfl, Nat.le_of_ble_eq_true rfl⟩) (rcM_0 hR Nat.zero_lt_one) hR hT hS rfl hl.1 rfl (Nat.le_of_ble_eq_true rfl) dX12_would_53 ⟨Nat.zero_le _, Nat.zero_le _⟩ (fun S14 H locs h hR hS => ?_)
  refine lv_iload_n hx hb dX12_would_56 rfl (lv_at hl 0 rfl) ?_
  exact rtM_i C0 hr hlk hR hS h dX12_would_57
def B_X12_would_21 (a1 : Int32) (a2 : Int32) (t1 : Int32) (S : sSt) (k : Int32 → sSt → Prop) : Prop := F_X12_throwsIf t1 1 S (fun r5 S6 => ((r5 = 0 → F_X12_keepsAll S6 (fun S9 => ((a2 = 0 → F_X12_goesOn a1 S9 (fun r11 S12 => B_X12_would_51 r11 S12 k)) ∧ (¬ a2 = 0 → F_X12_jumps a1 S9 (fun r15 S16 => B_X12_would_51 r15 S16 k))))) ∧ (¬ r5 = 0 → k 0 S6)))
set_option maxHeartbeats 4000000 in
set_option maxRecDepth 100000 in
theorem Bw_X12_would_21 {p : Program} {l : Launch} {e : Env} {s : State} {m : MethodId} {args : Array Value} {below : List Frame} {meth : Method} {c : Code} {D : va_G} {cy : Nat → ClassId} {b z : Nat} {tx : TX} (C0 : CallFix p m c cX12_would 4 s args TB RX12) (hr : meth.sig.returnType = (some .int)) (hlk : meth.locks = false) (hT : TxR tx s) {k : Int32 → sSt → Prop} : ∀ (a1 : Int32) (a2 : Int32) (t1 : Int32) (S : sSt) (H : Heap) (locs : List Loc) (ls : Array Slot) , B_X12_would_21 a1 a2 t1 S k → RelM D cy b z tx S s H → va_S (gA b 12 z) s.heap H locs → lv_has ls 4 [(0, .ref (b + adM 0 0)), (1, .int a1), (2, .int a2)] → W p l e rm_X12_would s m args below meth c H locs 0 0 (MQ below (PiM D cy b z tx k) args s 0 0 (gA b 12 z)) (F0 m 21 ls [.int t1, .ref (b + adM 0 0)]) := by
  intro a1 a2 t1 S H locs ls h hR hS hl
  have hx := C0.1
  have hb := C0.2.1
  unfold B_X12_would_21 at h
  refine lv_iconst (v := 1) hx hb dX12_would_21 (by decide) ?_
  refine qM_Vi (As := [.int t1, .int 1]) (rest := []) C0 (c_X12_throwsIf l h) (cwV 2 C0.2.2.2.2 (tbV mM7_8_25 ⟨mM7_8_27, mpM7_3_13, mM7_1_11, mM7_8_28⟩) rfl rfl rfl (by decide +kernel) ⟨Nat.le_of_ble_eq_true rfl, Nat.le_of_ble_eq_true rfl⟩) (rcM_0 hR Nat.zero_lt_one) hR hT hS rfl hl.1 rfl (Nat.le_of_ble_eq_true rfl) dX12_would_22 ⟨Nat.zero_le _, Nat.zero_le _⟩ (fun r5 S6 H locs h hR hS => ?_)
  refine lv_if_eq (tgt := 30) hx hb dX12_would_25 (by decide) (fun c7 => ?_) (fun c7 => ?_)
  · have h := h.1 c7
    refine lv_aload_n hx hb dX12_would_30 rfl (lv_at hl 0 rfl) ?_
    refine qM_Vv (As := []) (rest := []) C0 (c_X12_keepsAll l h) (cwV 0 C0.2.2.2.2 (tbV mM7_9_69 ⟨mM7_9_71, mpM7_6_13, mM7_1_11, mM7_9_72⟩) rfl rfl rfl (by decide +kernel) ⟨Nat.le_of_ble_eq_true rfl, Nat.le_of_ble_eq_true rfl⟩) (rcM_0 hR Nat.zero_lt_one) hR hT hS rfl hl.1 rfl (Nat.le_of_ble_eq_true rfl) dX12_would_31 ⟨Nat.zero_le _, Nat.zero_le _⟩ (fun S9 H locs h hR hS => ?_)
    refine lv_iload_n hx hb dX12_would_34 rfl (lv_at hl 2 rfl) ?_
    refine lv_if_eq (tgt := 46) hx hb dX12_would_35 (by decide) (fun c10 => ?_) (fun c10 => ?_)
    · have h := h.1 c10
      refine lv_aload_n hx hb dX12_would_46 rfl (lv_at hl 0 rfl) ?_
      refine lv_iload_n hx hb dX12_would_47 rfl (lv_at hl 1 rfl) ?_
      refine qM_Vi (As := [.int a1]) (rest := []) C0 (c_X12_goesOn l h) (cwV 1 C0.2.2.2.2 (tbV mM7_9_36 ⟨mM7_9_38, mpM7_6_7, mM7_1_11, mM7_9_39⟩) rfl rfl rfl (by decide +kernel) ⟨Nat.le_of_ble_eq_true rfl, Nat.le_of_ble_eq_true rfl⟩) (rcM_0 hR Nat.zero_lt_one) hR hT hS rfl hl.1 rfl (Nat.le_of_ble_eq_true rfl) dX12_would_48 ⟨Nat.zero_le _, Nat.zero_le _⟩ (fun r11 S12 H locs h hR hS => ?_)
      exact Bw_X12_would_51 C0 hr hlk hT r11 S12 _ _ _ h hR hS (lv_sub hl [0] rfl)
    · have h := h.2 c10
      refine lv_aload_n hx hb dX12_would_38 rfl (lv_at hl 0 rfl) ?_
      refine lv_iload_n hx hb dX12_would_39 rfl (lv_at hl 1 rfl) ?_
      refine qM_Vi (As := [.int a1]) (rest := []) C0 (c_X12_jumps l h) (cwV 1 C0.2.2.2.2 (tbV mM7_9_61 ⟨mM7_9_63, mpM7_6_12, mM7_1_11, mM7_9_64⟩) rfl rfl rfl (by decide +kernel) ⟨Nat.le_of_ble_eq_true rfl, Nat.le_of_ble_eq_true rfl⟩) (rcM_0 hR Nat.zero_lt_one) hR hT hS rfl hl.1 rfl (Nat.le_of_ble_eq_true rfl) dX12_would_40 ⟨Nat.zero_le _, Nat.zero_le _⟩ (fun r15 S16 H locs h hR hS => ?_)
      refine lv_goto (tgt := 51) hx hb dX12_would_43 (by decide) ?_
      exact Bw_X12_would_51 C0 hr hlk hT r15 S16 _ _ _ h hR hS (lv_sub hl [0] rfl)
  · have h := h.2 c7
    refine lv_iconst (v := 0) hx hb dX12_would_28 (by decide) ?_
    exact rtM_i C0 hr hlk hR hS h dX12_would_29
def F_X12_would (a1 : Int32) (a2 : Int32) (S : sSt) (k : Int32 → sSt → Prop) : Prop := ∀ S1, S1 = uI S 0 0 0 0 → F_X12_in a1 0 60 S1 (fun r2 S3 => ((¬ r2 = 0 → B_X12_would_21 a1 a2 0 S3 k) ∧ (r2 = 0 → B_X12_would_21 a1 a2 1 S3 k)))
set_option maxHeartbeats 4000000 in
set_option maxRecDepth 100000 in
theorem c_X12_would (l : Launch) {D : va_G} {cy : Nat → ClassId} {b z : Nat} {tx : TX} {a1 : Int32} {a2 : Int32} {S : sSt} {k : Int32 → sSt → Prop} (h : F_X12_would a1 a2 S k) : Met l yX12_would (Cond.code yX12_would cX12_would 4 (some .int) :: TB) rm_X12_would (va_Pc [.ref (b + adM 0 0), .int a1, .int a2] (fun U => RelM D cy b z tx S U U.heap ∧ TxR tx U)) (PiM D cy b z tx k) 0 0 (gA b 12 z) := by
  refine Met.ofW (cc := cX12_would) (maxL := 4) (ret := (some .int)) (by decide) rfl ?_
  intro p e s m args below meth c s₁ B hml hv
  obtain ⟨rfl, hR, hT⟩ := hv
  have C0 : CallFix p m c cX12_would 4 s _ TB RX12 := ⟨B.exec, B.bytes, hml, findClass_of_methodNamed B.named, fun w hw => atoms_spec B.pre w (List.mem_cons_of_mem _ hw)⟩
  have hr := B.returns
  have hlk := B.notSynchronized
  have hx := C0.1
  have hb := C0.2.1
  have hS : va_S (gA b 12 z) s.heap s.heap [] := va_S.rf
  have hl := lv_entry ([.ref (b + adM 0 0), .int a1, .int a2]) (n := 4) (Nat.le_of_ble_eq_true rfl)
  rw [lg_entry_eq]
  generalize (lg_sl ([.ref (b + adM 0 0), .int a1, .int a2]) ++ List.replicate (4 - (lg_sl ([.ref (b + adM 0 0), .int a1, .int a2])).length) Slot.unset).toArray = ls at hl ⊢
  have hl : lv_has ls 4 [(0, .ref (b + adM 0 0)), (1, .int a1), (2, .int a2)] := hl
  show W p l e rm_X12_would s m _ below meth c s.heap [] 0 0 (MQ below (PiM D cy b z tx k) _ s 0 0 (gA b 12 z)) _
  unfold F_X12_would at h
  refine lv_aload_n hx hb dX12_would_0 rfl (lv_at hl 0 rfl) ?_
  refine lv_iconst (v := 0) hx hb dX12_would_1 (by decide) ?_
  refine pM_0_0 C0 hR hS Nat.zero_lt_one tbs_wsX120 mM7_7_77 dX12_would_2 (fun S1 eS1 H locs hR hS => ?_)
  have h := h S1 eS1
  refine lv_aload_n hx hb dX12_would_5 rfl (lv_at hl 0 rfl) ?_
  refine lv_iload_n hx hb dX12_would_6 rfl (lv_at hl 1 rfl) ?_
  refine lv_iconst (v := 0) hx hb dX12_would_7 (by decide) ?_
  refine lv_bipush (v := 60) hx hb dX12_would_8 (by decide) ?_
  refine qM_Si (As := [.int a1, .int 0, .int 60]) (rest := [.ref (b + adM 0 0)]) C0 (c_X12_in l h) (va_cwS 3 C0.2.2.2.2 (tbS mM7_8_37 ⟨mM7_8_38, mM7_1_11, mM7_8_39⟩) rfl rfl rfl (by decide +kernel) ⟨Nat.le_of_ble_eq_true rfl, Nat.le_of_ble_eq_true rfl⟩) hR hT hS rfl hl.1 rfl (Nat.le_of_ble_eq_true rfl) dX12_would_10 ⟨Nat.zero_le _, Nat.zero_le _⟩ (fun r2 S3 H locs h hR hS => ?_)
  refine lv_if_ne (tgt := 20) hx hb dX12_would_13 (by decide) (fun c4 => ?_) (fun c4 => ?_)
  · have h := h.1 c4
    refine lv_iconst (v := 0) hx hb dX12_would_20 (by decide) ?_
    exact Bw_X12_would_21 C0 hr hlk hT a1 a2 0 S3 _ _ _ h hR hS (lv_sub hl [0, 1, 2] rfl)
  · have h := h.2 c4
    refine lv_iconst (v := 1) hx hb dX12_would_16 (by decide) ?_
    refine lv_goto (tgt := 21) hx hb dX12_would_17 (by decide) ?_
    exact Bw_X12_would_21 C0 hr hlk hT a1 a2 1 S3 _ _ _ h hR hS (lv_sub hl [0, 1, 2] rfl)

def rm_X12_job : Room := { frames := 5, cells := 0, slots := 0, locals := 109 }
def B_X12_job_30 (a1 : Int32) (a3 : Int32) (a4 : Int32) (t1 : Int32) (S : sSt) (k : Int32 → sSt → Prop) : Prop := F_X12_throwsIf t1 2 S (fun r7 S8 => ((r7 = 0 → F_X12_seen a4 a1 S8 (fun r10 S11 => ix (r10 + a3) 10421 (fun j12 => k (S11.1 1 0 j12) S11))) ∧ (¬ r7 = 0 → k 0 S8)))
set_option maxHeartbeats 4000000 in
set_option maxRecDepth 100000 in
theorem Bw_X12_job_30 {p : Program} {l : Launch} {e : Env} {s : State} {m : MethodId} {args : Array Value} {below : List Frame} {meth : Method} {c : Code} {D : va_G} {cy : Nat → ClassId} {b z : Nat} {tx : TX} (C0 : CallFix p m c cX12_job 5 s args TB RX12) (hr : meth.sig.returnType = (some .int)) (hlk : meth.locks = false) (hT : TxR tx s) {k : Int32 → sSt → Prop} : ∀ (a1 : Int32) (a3 : Int32) (a4 : Int32) (t1 : Int32) (S : sSt) (H : Heap) (locs : List Loc) (ls : Array Slot) , B_X12_job_30 a1 a3 a4 t1 S k → RelM D cy b z tx S s H → va_S (gA b 12 z) s.heap H locs → lv_has ls 5 [(0, .ref (b + adM 0 0)), (1, .int a1), (3, .int a3), (4, .int a4)] → W p l e rm_X12_job s m args below meth c H locs 0 0 (MQ below (PiM D cy b z tx k) args s 0 0 (gA b 12 z)) (F0 m 30 ls [.int t1, .ref (b + adM 0 0)]) := by
  intro a1 a3 a4 t1 S H locs ls h hR hS hl
  have hx := C0.1
  have hb := C0.2.1
  unfold B_X12_job_30 at h
  refine lv_iconst (v := 2) hx hb dX12_job_30 (by decide) ?_
  refine qM_Vi (As := [.int t1, .int 2]) (rest := []) C0 (c_X12_throwsIf l h) (cwV 2 C0.2.2.2.2 (tbV mM7_8_25 ⟨mM7_8_27, mpM7_3_13, mM7_1_11, mM7_8_28⟩) rfl rfl rfl (by decide +kernel) ⟨Nat.le_of_ble_eq_true rfl, Nat.le_of_ble_eq_true rfl⟩) (rcM_0 hR Nat.zero_lt_one) hR hT hS rfl hl.1 rfl (Nat.le_of_ble_eq_true rfl) dX12_job_31 ⟨Nat.zero_le _, Nat.zero_le _⟩ (fun r7 S8 H locs h hR hS => ?_)
  refine lv_if_eq (tgt := 39) hx hb dX12_job_34 (by decide) (fun c9 => ?_) (fun c9 => ?_)
  · have h := h.1 c9
    refine lv_aload_n hx hb dX12_job_39 rfl (lv_at hl 0 rfl) ?_
    refine gM_0_2 C0 hR Nat.zero_lt_one tbs_wsX120 mM7_7_79 dX12_job_40 ?_
    refine lv_aload_n hx hb dX12_job_43 rfl (lv_at hl 0 rfl) ?_
    refine lv_iload hx hb dX12_job_44 (lv_at hl 3 rfl) ?_
    refine lv_iload_n hx hb dX12_job_46 rfl (lv_at hl 1 rfl) ?_
    refine qM_Vi (As := [.int a4, .int a1]) (rest := [.ref (b + adM 1 0)]) C0 (c_X12_seen l h) (cwV 2 C0.2.2.2.2 (tbV mM7_8_167 ⟨mM7_8_169, mpM7_5_5, mM7_1_11, mM7_8_170⟩) rfl rfl rfl (by decide +kernel) ⟨Nat.le_of_ble_eq_true rfl, Nat.le_of_ble_eq_true rfl⟩) (rcM_0 hR Nat.zero_lt_one) hR hT hS rfl hl.1 rfl (Nat.le_of_ble_eq_true rfl) dX12_job_47 ⟨Nat.zero_le _, Nat.zero_le _⟩ (fun r10 S11 H locs h hR hS => ?_)
    refine lv_iload_n hx hb dX12_job_50 rfl (lv_at hl 2 rfl) ?_
    refine lv_iadd hx hb dX12_job_51 ?_
    obtain ⟨j12, hj12, ej12, h⟩ := h
    refine lM_1 C0 hR Nat.zero_lt_one hj12 ej12 dX12_job_52 ?_
    exact rtM_i C0 hr hlk hR hS h dX12_job_53
  · have h := h.2 c9
    refine lv_iconst (v := 0) hx hb dX12_job_37 (by decide) ?_
    exact rtM_i C0 hr hlk hR hS h dX12_job_38
def F_X12_job (a1 : Int32) (a2 : Int32) (a3 : Int32) (S : sSt) (k : Int32 → sSt → Prop) : Prop := F_X12_jobFor a1 a2 S (fun r1 S2 => ((r1 = (-1) → k 0 S2) ∧ (¬ r1 = (-1) → F_X12_in a3 0 12 S2 (fun r4 S5 => ((¬ r4 = 0 → B_X12_job_30 a1 a3 r1 0 S5 k) ∧ (r4 = 0 → B_X12_job_30 a1 a3 r1 1 S5 k))))))
set_option maxHeartbeats 4000000 in
set_option maxRecDepth 100000 in
theorem c_X12_job (l : Launch) {D : va_G} {cy : Nat → ClassId} {b z : Nat} {tx : TX} {a1 : Int32} {a2 : Int32} {a3 : Int32} {S : sSt} {k : Int32 → sSt → Prop} (h : F_X12_job a1 a2 a3 S k) : Met l yX12_job (Cond.code yX12_job cX12_job 5 (some .int) :: TB) rm_X12_job (va_Pc [.ref (b + adM 0 0), .int a1, .int a2, .int a3] (fun U => RelM D cy b z tx S U U.heap ∧ TxR tx U)) (PiM D cy b z tx k) 0 0 (gA b 12 z) := by
  refine Met.ofW (cc := cX12_job) (maxL := 5) (ret := (some .int)) (by decide) rfl ?_
  intro p e s m args below meth c s₁ B hml hv
  obtain ⟨rfl, hR, hT⟩ := hv
  have C0 : CallFix p m c cX12_job 5 s _ TB RX12 := ⟨B.exec, B.bytes, hml, findClass_of_methodNamed B.named, fun w hw => atoms_spec B.pre w (List.mem_cons_of_mem _ hw)⟩
  have hr := B.returns
  have hlk := B.notSynchronized
  have hx := C0.1
  have hb := C0.2.1
  have hS : va_S (gA b 12 z) s.heap s.heap [] := va_S.rf
  have hl := lv_entry ([.ref (b + adM 0 0), .int a1, .int a2, .int a3]) (n := 5) (Nat.le_of_ble_eq_true rfl)
  rw [lg_entry_eq]
  generalize (lg_sl ([.ref (b + adM 0 0), .int a1, .int a2, .int a3]) ++ List.replicate (5 - (lg_sl ([.ref (b + adM 0 0), .int a1, .int a2, .int a3])).length) Slot.unset).toArray = ls at hl ⊢
  have hl : lv_has ls 5 [(0, .ref (b + adM 0 0)), (1, .int a1), (2, .int a2), (3, .int a3)] := hl
  show W p l e rm_X12_job s m _ below meth c s.heap [] 0 0 (MQ below (PiM D cy b z tx k) _ s 0 0 (gA b 12 z)) _
  unfold F_X12_job at h
  refine lv_aload_n hx hb dX12_job_0 rfl (lv_at hl 0 rfl) ?_
  refine lv_iload_n hx hb dX12_job_1 rfl (lv_at hl 1 rfl) ?_
  refine lv_iload_n hx hb dX12_job_2 rfl (lv_at hl 2 rfl) ?_
  refine qM_Vi (As := [.int a1, .int a2]) (rest := []) C0 (c_X12_jobFor l h) (cwV 2 C0.2.2.2.2 (tbV mM7_8_223 ⟨mM7_8_225, mpM7_6_2, mM7_1_11, mM7_8_226⟩) rfl rfl rfl (by decide +kernel) ⟨Nat.le_of_ble_eq_true rfl, Nat.le_of_ble_eq_true rfl⟩) (rcM_0 hR Nat.zero_lt_one) hR hT hS rfl hl.1 rfl (Nat.le_of_ble_eq_true rfl) dX12_job_3 ⟨Nat.zero_le _, Nat.zero_le _⟩ (fun r1 S2 H locs h hR hS => ?_)
  refine lv_istore (lv' := [(4, .int r1), (0, .ref (b + adM 0 0)), (1, .int a1), (2, .int a2), (3, .int a3)]) hx hb dX12_job_6 hl (by decide) rfl (fun ls hl => ?_)
  refine lv_iload hx hb dX12_job_8 (lv_at hl 0 rfl) ?_
  refine lv_iconst (v := (-1)) hx hb dX12_job_10 (by decide) ?_
  refine lv_icmp_eq (tgt := 37) hx hb dX12_job_11 (by decide) (fun c3 => ?_) (fun c3 => ?_)
  · have h := h.1 c3
    refine lv_iconst (v := 0) hx hb dX12_job_37 (by decide) ?_
    exact rtM_i C0 hr hlk hR hS h dX12_job_38
  · have h := h.2 c3
    refine lv_aload_n hx hb dX12_job_14 rfl (lv_at hl 1 rfl) ?_
    refine lv_iload_n hx hb dX12_job_15 rfl (lv_at hl 4 rfl) ?_
    refine lv_iconst (v := 0) hx hb dX12_job_16 (by decide) ?_
    refine lv_bipush (v := 12) hx hb dX12_job_17 (by decide) ?_
    refine qM_Si (As := [.int a3, .int 0, .int 12]) (rest := [.ref (b + adM 0 0)]) C0 (c_X12_in l h) (va_cwS 3 C0.2.2.2.2 (tbS mM7_8_37 ⟨mM7_8_38, mM7_1_11, mM7_8_39⟩) rfl rfl rfl (by decide +kernel) ⟨Nat.le_of_ble_eq_true rfl, Nat.le_of_ble_eq_true rfl⟩) hR hT hS rfl hl.1 rfl (Nat.le_of_ble_eq_true rfl) dX12_job_19 ⟨Nat.zero_le _, Nat.zero_le _⟩ (fun r4 S5 H locs h hR hS => ?_)
    refine lv_if_ne (tgt := 29) hx hb dX12_job_22 (by decide) (fun c6 => ?_) (fun c6 => ?_)
    · have h := h.1 c6
      refine lv_iconst (v := 0) hx hb dX12_job_29 (by decide) ?_
      exact Bw_X12_job_30 C0 hr hlk hT a1 a3 r1 0 S5 _ _ _ h hR hS (lv_sub hl [1, 2, 4, 0] rfl)
    · have h := h.2 c6
      refine lv_iconst (v := 1) hx hb dX12_job_25 (by decide) ?_
      refine lv_goto (tgt := 30) hx hb dX12_job_26 (by decide) ?_
      exact Bw_X12_job_30 C0 hr hlk hT a1 a3 r1 1 S5 _ _ _ h hR hS (lv_sub hl [1, 2, 4, 0] rfl)
