theorem mM1_7_77 : Cond.fieldLink RX12 3 "ClaimTableModel" "thrown" "I" ∈ TB := tbT_7 _ (List.mem_of_getElem? (i := 77) rfl) rfl
theorem mM1_7_86 : Cond.fieldLink RX12 77 "ClaimTableModel" "taped" "I" ∈ TB := tbT_7 _ (List.mem_of_getElem? (i := 86) rfl) rfl
theorem mM1_7_91 : Cond.fieldLink RX12 36 "ClaimTableModel" "five" "[I" ∈ TB := tbT_7 _ (List.mem_of_getElem? (i := 91) rfl) rfl
theorem mM1_7_85 : Cond.fieldLink RX12 29 "ClaimTableModel" "tape" "[B" ∈ TB := tbT_7 _ (List.mem_of_getElem? (i := 85) rfl) rfl
theorem mM1_7_87 : Cond.fieldLink RX12 80 "ClaimTableModel" "point" "I" ∈ TB := tbT_7 _ (List.mem_of_getElem? (i := 87) rfl) rfl
theorem mM1_7_88 : Cond.fieldLink RX12 83 "ClaimTableModel" "end" "I" ∈ TB := tbT_7 _ (List.mem_of_getElem? (i := 88) rfl) rfl
theorem mM1_7_175 : Cond.methodLink RX12 86 yX12_isAt ∈ TB := tbT_7 _ (List.mem_of_getElem? (i := 175) rfl) rfl
theorem mM1_7_178 : Cond.code yX12_isAt cX12_isAt 3 (some .boolean) ∈ TB := tbT_7 _ (List.mem_of_getElem? (i := 178) rfl) rfl
theorem mM1_7_177 : Cond.instanceMethod yX12_isAt ∈ TB := tbT_7 _ (List.mem_of_getElem? (i := 177) rfl) rfl
theorem mpM1_2_13 : Cond.selects RX12 yX12_isAt yX12_isAt ∈ TB := tbP_2 (yX12_isAt, 19) (List.mem_of_getElem? (i := 13) rfl)
theorem mM1_1_11 : Cond.initialized RX12 ∈ TB := tbT_1 _ (List.mem_of_getElem? (i := 11) rfl) rfl
theorem mM1_7_89 : Cond.fieldLink RX12 90 "ClaimTableModel" "begin" "I" ∈ TB := tbT_7 _ (List.mem_of_getElem? (i := 89) rfl) rfl
theorem mM1_7_171 : Cond.methodLink RX12 93 yX12_blanks ∈ TB := tbT_7 _ (List.mem_of_getElem? (i := 171) rfl) rfl
theorem mM1_7_174 : Cond.code yX12_blanks cX12_blanks 1 none ∈ TB := tbT_7 _ (List.mem_of_getElem? (i := 174) rfl) rfl
theorem mM1_7_173 : Cond.instanceMethod yX12_blanks ∈ TB := tbT_7 _ (List.mem_of_getElem? (i := 173) rfl) rfl
theorem mpM1_2_12 : Cond.selects RX12 yX12_blanks yX12_blanks ∈ TB := tbP_2 (yX12_blanks, 19) (List.mem_of_getElem? (i := 12) rfl)
theorem mM1_7_179 : Cond.methodLink RX12 106 yX12_letters ∈ TB := tbT_7 _ (List.mem_of_getElem? (i := 179) rfl) rfl
theorem mM1_7_182 : Cond.code yX12_letters cX12_letters 1 none ∈ TB := tbT_7 _ (List.mem_of_getElem? (i := 182) rfl) rfl
theorem mM1_7_181 : Cond.instanceMethod yX12_letters ∈ TB := tbT_7 _ (List.mem_of_getElem? (i := 181) rfl) rfl
theorem mpM1_2_14 : Cond.selects RX12 yX12_letters yX12_letters ∈ TB := tbP_2 (yX12_letters, 19) (List.mem_of_getElem? (i := 14) rfl)
theorem mM1_7_90 : Cond.fieldLink RX12 33 "ClaimTableModel" "faultAt" "I" ∈ TB := tbT_7 _ (List.mem_of_getElem? (i := 90) rfl) rfl
theorem mM1_7_78 : Cond.fieldLink RX12 116 "ClaimTableModel" "why" "I" ∈ TB := tbT_7 _ (List.mem_of_getElem? (i := 78) rfl) rfl
theorem mM1_7_211 : Cond.methodLink RX12 113 yX12_number ∈ TB := tbT_7 _ (List.mem_of_getElem? (i := 211) rfl) rfl
theorem mM1_7_214 : Cond.code yX12_number cX12_number 4 (some .int) ∈ TB := tbT_7 _ (List.mem_of_getElem? (i := 214) rfl) rfl
theorem mM1_7_213 : Cond.instanceMethod yX12_number ∈ TB := tbT_7 _ (List.mem_of_getElem? (i := 213) rfl) rfl
theorem mpM1_3_5 : Cond.selects RX12 yX12_number yX12_number ∈ TB := tbP_3 (yX12_number, 19) (List.mem_of_getElem? (i := 5) rfl)
theorem mM1_7_79 : Cond.fieldLink RX12 13 "ClaimTableModel" "world" "[I" ∈ TB := tbT_7 _ (List.mem_of_getElem? (i := 79) rfl) rfl
theorem mM1_7_198 : Cond.methodLink RX12 119 yX12_jobsLying ∈ TB := tbT_7 _ (List.mem_of_getElem? (i := 198) rfl) rfl
theorem mM1_7_201 : Cond.code yX12_jobsLying cX12_jobsLying 3 (some .int) ∈ TB := tbT_7 _ (List.mem_of_getElem? (i := 201) rfl) rfl
theorem mM1_7_200 : Cond.instanceMethod yX12_jobsLying ∈ TB := tbT_7 _ (List.mem_of_getElem? (i := 200) rfl) rfl
theorem mpM1_3_2 : Cond.selects RX12 yX12_jobsLying yX12_jobsLying ∈ TB := tbP_3 (yX12_jobsLying, 19) (List.mem_of_getElem? (i := 2) rfl)
theorem mM1_8_1 : Cond.methodLink RX12 144 yX12_readNumber ∈ TB := tbT_8 _ (List.mem_of_getElem? (i := 1) rfl) rfl
theorem mM1_8_4 : Cond.code yX12_readNumber cX12_readNumber 5 (some .boolean) ∈ TB := tbT_8 _ (List.mem_of_getElem? (i := 4) rfl) rfl
theorem mM1_8_3 : Cond.instanceMethod yX12_readNumber ∈ TB := tbT_8 _ (List.mem_of_getElem? (i := 3) rfl) rfl
theorem mpM1_3_10 : Cond.selects RX12 yX12_readNumber yX12_readNumber ∈ TB := tbP_3 (yX12_readNumber, 19) (List.mem_of_getElem? (i := 10) rfl)
theorem mM1_8_13 : Cond.methodLink RX12 153 yX12_planAt ∈ TB := tbT_8 _ (List.mem_of_getElem? (i := 13) rfl) rfl
theorem mM1_8_15 : Cond.code yX12_planAt cX12_planAt 2 (some .int) ∈ TB := tbT_8 _ (List.mem_of_getElem? (i := 15) rfl) rfl
theorem mM1_8_14 : Cond.static yX12_planAt ∈ TB := tbT_8 _ (List.mem_of_getElem? (i := 14) rfl) rfl
theorem mM1_7_163 : Cond.methodLink RX12 193 yX12_uses ∈ TB := tbT_7 _ (List.mem_of_getElem? (i := 163) rfl) rfl
theorem mM1_7_166 : Cond.code yX12_uses cX12_uses 1 none ∈ TB := tbT_7 _ (List.mem_of_getElem? (i := 166) rfl) rfl
theorem mM1_7_165 : Cond.instanceMethod yX12_uses ∈ TB := tbT_7 _ (List.mem_of_getElem? (i := 165) rfl) rfl
theorem mpM1_2_10 : Cond.selects RX12 yX12_uses yX12_uses ∈ TB := tbP_2 (yX12_uses, 19) (List.mem_of_getElem? (i := 10) rfl)
theorem mM1_8_67 : Cond.methodLink RX12 212 yX12_sign ∈ TB := tbT_8 _ (List.mem_of_getElem? (i := 67) rfl) rfl
theorem mM1_8_70 : Cond.code yX12_sign cX12_sign 2 (some .boolean) ∈ TB := tbT_8 _ (List.mem_of_getElem? (i := 70) rfl) rfl
theorem mM1_8_69 : Cond.instanceMethod yX12_sign ∈ TB := tbT_8 _ (List.mem_of_getElem? (i := 69) rfl) rfl
theorem mpM1_4_4 : Cond.selects RX12 yX12_sign yX12_sign ∈ TB := tbP_4 (yX12_sign, 19) (List.mem_of_getElem? (i := 4) rfl)
theorem mM1_7_83 : Cond.fieldLink RX12 26 "ClaimTableModel" "draft" "[I" ∈ TB := tbT_7 _ (List.mem_of_getElem? (i := 83) rfl) rfl
theorem mM1_8_33 : Cond.methodLink RX12 245 yX12_noSession ∈ TB := tbT_8 _ (List.mem_of_getElem? (i := 33) rfl) rfl
theorem mM1_8_36 : Cond.code yX12_noSession cX12_noSession 2 (some .boolean) ∈ TB := tbT_8 _ (List.mem_of_getElem? (i := 36) rfl) rfl
theorem mM1_8_35 : Cond.instanceMethod yX12_noSession ∈ TB := tbT_8 _ (List.mem_of_getElem? (i := 35) rfl) rfl
theorem mpM1_3_14 : Cond.selects RX12 yX12_noSession yX12_noSession ∈ TB := tbP_3 (yX12_noSession, 19) (List.mem_of_getElem? (i := 14) rfl)
theorem mM1_8_25 : Cond.methodLink RX12 199 yX12_throwsIf ∈ TB := tbT_8 _ (List.mem_of_getElem? (i := 25) rfl) rfl
theorem mM1_8_28 : Cond.code yX12_throwsIf cX12_throwsIf 3 (some .boolean) ∈ TB := tbT_8 _ (List.mem_of_getElem? (i := 28) rfl) rfl
theorem mM1_8_27 : Cond.instanceMethod yX12_throwsIf ∈ TB := tbT_8 _ (List.mem_of_getElem? (i := 27) rfl) rfl
theorem mpM1_3_13 : Cond.selects RX12 yX12_throwsIf yX12_throwsIf ∈ TB := tbP_3 (yX12_throwsIf, 19) (List.mem_of_getElem? (i := 13) rfl)
theorem mM1_7_202 : Cond.methodLink RX12 59 yX12_numberOf ∈ TB := tbT_7 _ (List.mem_of_getElem? (i := 202) rfl) rfl
theorem mM1_7_205 : Cond.code yX12_numberOf cX12_numberOf 2 (some .int) ∈ TB := tbT_7 _ (List.mem_of_getElem? (i := 205) rfl) rfl
theorem mM1_7_204 : Cond.instanceMethod yX12_numberOf ∈ TB := tbT_7 _ (List.mem_of_getElem? (i := 204) rfl) rfl
theorem mpM1_3_3 : Cond.selects RX12 yX12_numberOf yX12_numberOf ∈ TB := tbP_3 (yX12_numberOf, 19) (List.mem_of_getElem? (i := 3) rfl)
theorem mM1_8_106 : Cond.methodLink RX12 70 yX12_lockerOf ∈ TB := tbT_8 _ (List.mem_of_getElem? (i := 106) rfl) rfl
theorem mM1_8_109 : Cond.code yX12_lockerOf cX12_lockerOf 2 (some .int) ∈ TB := tbT_8 _ (List.mem_of_getElem? (i := 109) rfl) rfl
theorem mM1_8_108 : Cond.instanceMethod yX12_lockerOf ∈ TB := tbT_8 _ (List.mem_of_getElem? (i := 108) rfl) rfl
theorem mpM1_4_10 : Cond.selects RX12 yX12_lockerOf yX12_lockerOf ∈ TB := tbP_4 (yX12_lockerOf, 19) (List.mem_of_getElem? (i := 10) rfl)
theorem mM1_8_87 : Cond.methodLink RX12 251 yX12_isOpen ∈ TB := tbT_8 _ (List.mem_of_getElem? (i := 87) rfl) rfl
theorem mM1_8_90 : Cond.code yX12_isOpen cX12_isOpen 2 (some .boolean) ∈ TB := tbT_8 _ (List.mem_of_getElem? (i := 90) rfl) rfl
theorem mM1_8_89 : Cond.instanceMethod yX12_isOpen ∈ TB := tbT_8 _ (List.mem_of_getElem? (i := 89) rfl) rfl
theorem mpM1_4_7 : Cond.selects RX12 yX12_isOpen yX12_isOpen ∈ TB := tbP_4 (yX12_isOpen, 19) (List.mem_of_getElem? (i := 7) rfl)
theorem mM1_7_74 : Cond.methodLink RX12 51 yX12_jobAt ∈ TB := tbT_7 _ (List.mem_of_getElem? (i := 74) rfl) rfl
theorem mM1_7_76 : Cond.code yX12_jobAt cX12_jobAt 2 (some .int) ∈ TB := tbT_7 _ (List.mem_of_getElem? (i := 76) rfl) rfl
theorem mM1_7_75 : Cond.static yX12_jobAt ∈ TB := tbT_7 _ (List.mem_of_getElem? (i := 75) rfl) rfl
theorem mM1_8_110 : Cond.methodLink RX12 254 yX12_copies ∈ TB := tbT_8 _ (List.mem_of_getElem? (i := 110) rfl) rfl
theorem mM1_8_113 : Cond.code yX12_copies cX12_copies 5 none ∈ TB := tbT_8 _ (List.mem_of_getElem? (i := 113) rfl) rfl
theorem mM1_8_112 : Cond.instanceMethod yX12_copies ∈ TB := tbT_8 _ (List.mem_of_getElem? (i := 112) rfl) rfl
theorem mpM1_4_11 : Cond.selects RX12 yX12_copies yX12_copies ∈ TB := tbP_4 (yX12_copies, 19) (List.mem_of_getElem? (i := 11) rfl)
theorem mM1_8_122 : Cond.methodLink RX12 73 yX12_isIn ∈ TB := tbT_8 _ (List.mem_of_getElem? (i := 122) rfl) rfl
theorem mM1_8_125 : Cond.code yX12_isIn cX12_isIn 2 (some .boolean) ∈ TB := tbT_8 _ (List.mem_of_getElem? (i := 125) rfl) rfl
theorem mM1_8_124 : Cond.instanceMethod yX12_isIn ∈ TB := tbT_8 _ (List.mem_of_getElem? (i := 124) rfl) rfl
theorem mpM1_4_13 : Cond.selects RX12 yX12_isIn yX12_isIn ∈ TB := tbP_4 (yX12_isIn, 19) (List.mem_of_getElem? (i := 13) rfl)
theorem mM1_8_142 : Cond.methodLink RX12 258 Lib.Math.min.name ∈ TB := tbT_8 _ (List.mem_of_getElem? (i := 142) rfl) rfl
theorem mM1_5_67 : Cond.static Lib.Math.min.name ∈ TB := tbT_5 _ (List.mem_of_getElem? (i := 67) rfl) rfl
theorem mM1_1_25 : Cond.initialized "java/lang/Math" ∈ TB := tbT_1 _ (List.mem_of_getElem? (i := 25) rfl) rfl
theorem mM1_5_68 : Cond.code Lib.Math.min.name Lib.Math.min.code 2 (some .int) ∈ TB := tbT_5 _ (List.mem_of_getElem? (i := 68) rfl) rfl
def rm_X12_feed : Room := { frames := 0, cells := 0, slots := 0, locals := 0 }
def Bb_X12_feed_60 (kk60 : Int32 → sSt → Prop) (a6 : Int32) (S : sSt) (k : Int32 → sSt → Prop) : Prop := ((20 ≤ a6 → ∀ S9, S9 = uI S 0 0 9 ((S.1 0 0 9) + 20) → k (S9.1 0 0 9) S9) ∧ (¬ 20 ≤ a6 → ix (a6 / 4) 5 (fun j10 => ix ((S.1 0 0 9) + a6) 400 (fun j11 => ∀ S12, S12 = uI S 6 0 j11 (vp_nar .byte ((S.1 7 0 j10) >>> ((24 - (8 * (a6 - a6 / 4 * 4))) &&& 31)).toInt8.toInt32) → ∀ x13 : Int32, x13 = a6 + 1 → kk60 x13 S12))))
set_option maxHeartbeats 4000000 in
set_option maxRecDepth 100000 in
theorem Bbw_X12_feed_60 {p : Program} {l : Launch} {e : Env} {s : State} {m : MethodId} {args : Array Value} {below : List Frame} {meth : Method} {c : Code} {D : va_G} {cy : Nat → ClassId} {b z : Nat} {tx : TX} (C0 : CallFix p m c cX12_feed 7 s args TB RX12) (hr : meth.sig.returnType = (some .int)) (hlk : meth.locks = false) (hT : TxR tx s) {k : Int32 → sSt → Prop} {kk60 : Int32 → sSt → Prop} (ih60 : ∀ (a6 : Int32) (S : sSt) (H : Heap) (locs : List Loc) (ls : Array Slot) , kk60 a6 S → RelM D cy b z tx S s H → va_S (gA b 12 z) s.heap H locs → lv_has ls 7 [(0, .ref (b + adM 0 0)), (6, .int a6)] → W p l e rm_X12_feed s m args below meth c H locs 0 0 (MQ below (PiM D cy b z tx k) args s 0 0 (gA b 12 z)) (F0 m 60 ls [])) : ∀ (a6 : Int32) (S : sSt) (H : Heap) (locs : List Loc) (ls : Array Slot) , Bb_X12_feed_60 kk60 a6 S k → RelM D cy b z tx S s H → va_S (gA b 12 z) s.heap H locs → lv_has ls 7 [(0, .ref (b + adM 0 0)), (6, .int a6)] → W p l e rm_X12_feed s m args below meth c H locs 0 0 (MQ below (PiM D cy b z tx k) args s 0 0 (gA b 12 z)) (F0 m 60 ls []) := by
  intro a6 S H locs ls h hR hS hl
  have hx := C0.1
  have hb := C0.2.1
  unfold Bb_X12_feed_60 at h
  refine lv_iload hx hb dX12_feed_60 (lv_at hl 1 rfl) ?_
  refine lv_bipush (v := 20) hx hb dX12_feed_62 (by decide) ?_
  refine lv_icmp_ge (tgt := 106) hx hb dX12_feed_64 (by decide) (fun c8 => ?_) (fun c8 => ?_)
  · have h := h.1 c8
    refine lv_aload_n hx hb dX12_feed_106 rfl (lv_at hl 0 rfl) ?_
    refine lv_dup hx hb dX12_feed_107 rfl ?_
    refine gM_0_9 C0 hR Nat.zero_lt_one tbs_wsX120 mM1_7_86 dX12_feed_108 ?_
    refine lv_bipush (v := 20) hx hb dX12_feed_111 (by decide) ?_
    refine lv_iadd hx hb dX12_feed_113 ?_
    refine pM_0_9 C0 hR hS Nat.zero_lt_one tbs_wsX120 mM1_7_86 dX12_feed_114 (fun S9 eS9 H locs hR hS => ?_)
    have h := h S9 eS9
    refine lv_aload_n hx hb dX12_feed_117 rfl (lv_at hl 0 rfl) ?_
    refine gM_0_9 C0 hR Nat.zero_lt_one tbs_wsX120 mM1_7_86 dX12_feed_118 ?_
    exact rtM_i C0 hr hlk hR hS h dX12_feed_121
  · have h := h.2 c8
    refine lv_aload_n hx hb dX12_feed_67 rfl (lv_at hl 0 rfl) ?_
    refine gM_0_8 C0 hR Nat.zero_lt_one tbs_wsX120 mM1_7_85 dX12_feed_68 ?_
    refine lv_aload_n hx hb dX12_feed_71 rfl (lv_at hl 0 rfl) ?_
    refine gM_0_9 C0 hR Nat.zero_lt_one tbs_wsX120 mM1_7_86 dX12_feed_72 ?_
    refine lv_iload hx hb dX12_feed_75 (lv_at hl 1 rfl) ?_
    refine lv_iadd hx hb dX12_feed_77 ?_
    refine lv_aload_n hx hb dX12_feed_78 rfl (lv_at hl 0 rfl) ?_
    refine gM_0_14 C0 hR Nat.zero_lt_one tbs_wsX120 mM1_7_91 dX12_feed_79 ?_
    refine lv_iload hx hb dX12_feed_82 (lv_at hl 1 rfl) ?_
    refine lv_iconst (v := 4) hx hb dX12_feed_84 (by decide) ?_
    refine lv_idiv hx hb dX12_feed_85 (by decide) ?_
    obtain ⟨j10, hj10, ej10, h⟩ := h
    refine lM_7 C0 hR Nat.zero_lt_one hj10 ej10 dX12_feed_86 ?_
    refine lv_bipush (v := 24) hx hb dX12_feed_87 (by decide) ?_
    refine lv_bipush (v := 8) hx hb dX12_feed_89 (by decide) ?_
    refine lv_iload hx hb dX12_feed_91 (lv_at hl 1 rfl) ?_
    refine lv_iconst (v := 4) hx hb dX12_feed_93 (by decide) ?_
    refine lv_irem hx hb dX12_feed_94 (by decide) ?_
    refine lv_imul hx hb dX12_feed_95 ?_
    refine lv_isub hx hb dX12_feed_96 ?_
    refine lv_ishr hx hb dX12_feed_97 ?_
    refine lv_i2b (v := ((S.1 7 0 j10) >>> ((24 - (8 * (a6 - a6 / 4 * 4))) &&& 31)).toInt8.toInt32) hx hb dX12_feed_98 rfl ?_
    obtain ⟨j11, hj11, ej11, h⟩ := h
    refine sM_6 C0 hR hS Nat.zero_lt_one hj11 ej11 dX12_feed_99 (fun S12 eS12 H locs hR hS => ?_)
    have h := h S12 eS12
    obtain ⟨x13, ex13⟩ : ∃ x13 : Int32, x13 = a6 + 1 := ⟨_, rfl⟩
    have h := h x13 ex13
    refine w_iinc (v0 := 1) (lv' := [(6, .int x13), (0, .ref (b + adM 0 0))]) C0 dX12_feed_100 hl (k := 1) rfl (by decide) (by decide) x13 ex13 rfl (fun ls hl => ?_)
    refine lv_goto (tgt := 60) hx hb dX12_feed_103 (by decide) ?_
    exact ih60 x13 S12 _ _ _  h hR hS (lv_sub hl [1, 0] rfl)
def B_X12_feed_60 (n9 : Nat) (a6 : Int32) (S : sSt) (k : Int32 → sSt → Prop) : Prop := (Nat.rec (motive := fun _ => Int32 → sSt → Prop) (fun _ _ => False) (fun _ r9 => fun a6 S => Bb_X12_feed_60 r9 a6 S k) n9 : Int32 → sSt → Prop) a6 S
theorem B_X12_feed_60_s (n9 : Nat) (a6 : Int32) (S : sSt) (k : Int32 → sSt → Prop) : B_X12_feed_60 (n9 + 1) a6 S k = Bb_X12_feed_60 (fun a6 S => B_X12_feed_60 n9 a6 S k) a6 S k := rfl
set_option maxHeartbeats 4000000 in
set_option maxRecDepth 100000 in
theorem Bw_X12_feed_60 {p : Program} {l : Launch} {e : Env} {s : State} {m : MethodId} {args : Array Value} {below : List Frame} {meth : Method} {c : Code} {D : va_G} {cy : Nat → ClassId} {b z : Nat} {tx : TX} (C0 : CallFix p m c cX12_feed 7 s args TB RX12) (hr : meth.sig.returnType = (some .int)) (hlk : meth.locks = false) (hT : TxR tx s) {k : Int32 → sSt → Prop} : ∀ (n9 : Nat), ∀ (a6 : Int32) (S : sSt) (H : Heap) (locs : List Loc) (ls : Array Slot) , B_X12_feed_60 n9 a6 S k → RelM D cy b z tx S s H → va_S (gA b 12 z) s.heap H locs → lv_has ls 7 [(0, .ref (b + adM 0 0)), (6, .int a6)] → W p l e rm_X12_feed s m args below meth c H locs 0 0 (MQ below (PiM D cy b z tx k) args s 0 0 (gA b 12 z)) (F0 m 60 ls []) := by
  intro n9
  induction n9 with
  | zero => intro a6 S H locs ls h; exact h.elim
  | succ n9 ih =>
    intro a6 S H locs ls h hR hS hl
    exact Bbw_X12_feed_60 C0 hr hlk hT ih a6 S H locs ls h hR hS hl
def F_X12_feed (a1 : Int32) (a2 : Int32) (a3 : Int32) (a4 : Int32) (a5 : Int32) (S : sSt) (k : Int32 → sSt → Prop) : Prop := ∀ S1, S1 = uI S 0 0 0 0 → ((((S1.1 0 0 9) + 20) ≤ 400 → ∀ S3, S3 = uI S1 7 0 0 a1 → ∀ S4, S4 = uI S3 7 0 1 a2 → ∀ S5, S5 = uI S4 7 0 2 a3 → ∀ S6, S6 = uI S5 7 0 3 a4 → ∀ S7, S7 = uI S6 7 0 4 a5 → B_X12_feed_60 fuel 0 S7 k) ∧ (¬ ((S1.1 0 0 9) + 20) ≤ 400 → k (-1) S1))
set_option maxHeartbeats 4000000 in
set_option maxRecDepth 100000 in
theorem c_X12_feed (l : Launch) {D : va_G} {cy : Nat → ClassId} {b z : Nat} {tx : TX} {a1 : Int32} {a2 : Int32} {a3 : Int32} {a4 : Int32} {a5 : Int32} {S : sSt} {k : Int32 → sSt → Prop} (h : F_X12_feed a1 a2 a3 a4 a5 S k) : Met l yX12_feed (Cond.code yX12_feed cX12_feed 7 (some .int) :: TB) rm_X12_feed (va_Pc [.ref (b + adM 0 0), .int a1, .int a2, .int a3, .int a4, .int a5] (fun U => RelM D cy b z tx S U U.heap ∧ TxR tx U)) (PiM D cy b z tx k) 0 0 (gA b 12 z) := by
  refine Met.ofW (cc := cX12_feed) (maxL := 7) (ret := (some .int)) (by decide) rfl ?_
  intro p e s m args below meth c s₁ B hml hv
  obtain ⟨rfl, hR, hT⟩ := hv
  have C0 : CallFix p m c cX12_feed 7 s _ TB RX12 := ⟨B.exec, B.bytes, hml, findClass_of_methodNamed B.named, fun w hw => atoms_spec B.pre w (List.mem_cons_of_mem _ hw)⟩
  have hr := B.returns
  have hlk := B.notSynchronized
  have hx := C0.1
  have hb := C0.2.1
  have hS : va_S (gA b 12 z) s.heap s.heap [] := va_S.rf
  have hl := lv_entry ([.ref (b + adM 0 0), .int a1, .int a2, .int a3, .int a4, .int a5]) (n := 7) (Nat.le_of_ble_eq_true rfl)
  rw [lg_entry_eq]
  generalize (lg_sl ([.ref (b + adM 0 0), .int a1, .int a2, .int a3, .int a4, .int a5]) ++ List.replicate (7 - (lg_sl ([.ref (b + adM 0 0), .int a1, .int a2, .int a3, .int a4, .int a5])).length) Slot.unset).toArray = ls at hl ⊢
  have hl : lv_has ls 7 [(0, .ref (b + adM 0 0)), (1, .int a1), (2, .int a2), (3, .int a3), (4, .int a4), (5, .int a5)] := hl
  show W p l e rm_X12_feed s m _ below meth c s.heap [] 0 0 (MQ below (PiM D cy b z tx k) _ s 0 0 (gA b 12 z)) _
  unfold F_X12_feed at h
  refine lv_aload_n hx hb dX12_feed_0 rfl (lv_at hl 0 rfl) ?_
  refine lv_iconst (v := 0) hx hb dX12_feed_1 (by decide) ?_
  refine pM_0_0 C0 hR hS Nat.zero_lt_one tbs_wsX120 mM1_7_77 dX12_feed_2 (fun S1 eS1 H locs hR hS => ?_)
  have h := h S1 eS1
  refine lv_aload_n hx hb dX12_feed_5 rfl (lv_at hl 0 rfl) ?_
  refine gM_0_9 C0 hR Nat.zero_lt_one tbs_wsX120 mM1_7_86 dX12_feed_6 ?_
  refine lv_bipush (v := 20) hx hb dX12_feed_9 (by decide) ?_
  refine lv_iadd hx hb dX12_feed_11 ?_
  refine lv_sipush (v := 400) hx hb dX12_feed_12 (by decide) ?_
  refine lv_icmp_le (tgt := 20) hx hb dX12_feed_15 (by decide) (fun c2 => ?_) (fun c2 => ?_)
  · have h := h.1 c2
    refine lv_aload_n hx hb dX12_feed_20 rfl (lv_at hl 0 rfl) ?_
    refine gM_0_14 C0 hR Nat.zero_lt_one tbs_wsX120 mM1_7_91 dX12_feed_21 ?_
    refine lv_iconst (v := 0) hx hb dX12_feed_24 (by decide) ?_
    refine lv_iload_n hx hb dX12_feed_25 rfl (lv_at hl 1 rfl) ?_
    refine sM_7 C0 hR hS Nat.zero_lt_one (by decide) rfl dX12_feed_26 (fun S3 eS3 H locs hR hS => ?_)
    have h := h S3 eS3
    refine lv_aload_n hx hb dX12_feed_27 rfl (lv_at hl 0 rfl) ?_
    refine gM_0_14 C0 hR Nat.zero_lt_one tbs_wsX120 mM1_7_91 dX12_feed_28 ?_
    refine lv_iconst (v := 1) hx hb dX12_feed_31 (by decide) ?_
    refine lv_iload_n hx hb dX12_feed_32 rfl (lv_at hl 2 rfl) ?_
    refine sM_7 C0 hR hS Nat.zero_lt_one (by decide) rfl dX12_feed_33 (fun S4 eS4 H locs hR hS => ?_)
    have h := h S4 eS4
    refine lv_aload_n hx hb dX12_feed_34 rfl (lv_at hl 0 rfl) ?_
    refine gM_0_14 C0 hR Nat.zero_lt_one tbs_wsX120 mM1_7_91 dX12_feed_35 ?_
    refine lv_iconst (v := 2) hx hb dX12_feed_38 (by decide) ?_
    refine lv_iload_n hx hb dX12_feed_39 rfl (lv_at hl 3 rfl) ?_
    refine sM_7 C0 hR hS Nat.zero_lt_one (by decide) rfl dX12_feed_40 (fun S5 eS5 H locs hR hS => ?_)
    have h := h S5 eS5
    refine lv_aload_n hx hb dX12_feed_41 rfl (lv_at hl 0 rfl) ?_
    refine gM_0_14 C0 hR Nat.zero_lt_one tbs_wsX120 mM1_7_91 dX12_feed_42 ?_
    refine lv_iconst (v := 3) hx hb dX12_feed_45 (by decide) ?_
    refine lv_iload hx hb dX12_feed_46 (lv_at hl 4 rfl) ?_
    refine sM_7 C0 hR hS Nat.zero_lt_one (by decide) rfl dX12_feed_48 (fun S6 eS6 H locs hR hS => ?_)
    have h := h S6 eS6
    refine lv_aload_n hx hb dX12_feed_49 rfl (lv_at hl 0 rfl) ?_
    refine gM_0_14 C0 hR Nat.zero_lt_one tbs_wsX120 mM1_7_91 dX12_feed_50 ?_
    refine lv_iconst (v := 4) hx hb dX12_feed_53 (by decide) ?_
    refine lv_iload hx hb dX12_feed_54 (lv_at hl 5 rfl) ?_
    refine sM_7 C0 hR hS Nat.zero_lt_one (by decide) rfl dX12_feed_56 (fun S7 eS7 H locs hR hS => ?_)
    have h := h S7 eS7
    refine lv_iconst (v := 0) hx hb dX12_feed_57 (by decide) ?_
    refine lv_istore (lv' := [(6, .int 0), (0, .ref (b + adM 0 0)), (1, .int a1), (2, .int a2), (3, .int a3), (4, .int a4), (5, .int a5)]) hx hb dX12_feed_58 hl (by decide) rfl (fun ls hl => ?_)
    exact Bw_X12_feed_60 C0 hr hlk hT fuel 0 S7 _ _ _ h hR hS (lv_sub hl [1, 0] rfl)
  · have h := h.2 c2
    refine lv_iconst (v := (-1)) hx hb dX12_feed_18 (by decide) ?_
    exact rtM_i C0 hr hlk hR hS h dX12_feed_19

def rm_X12_end : Room := { frames := 0, cells := 0, slots := 0, locals := 0 }
def F_X12_end (a1 : Int32) (S : sSt) (k : Int32 → sSt → Prop) : Prop := ∀ S1, S1 = uI S 0 0 0 0 → ((a1 < 0 → k 0 S1) ∧ (¬ a1 < 0 → ((a1 ≤ (S1.1 0 0 9) → ∀ S4, S4 = uI S1 0 0 9 a1 → k 1 S4) ∧ (¬ a1 ≤ (S1.1 0 0 9) → k 0 S1))))
set_option maxHeartbeats 4000000 in
set_option maxRecDepth 100000 in
theorem c_X12_end (l : Launch) {D : va_G} {cy : Nat → ClassId} {b z : Nat} {tx : TX} {a1 : Int32} {S : sSt} {k : Int32 → sSt → Prop} (h : F_X12_end a1 S k) : Met l yX12_end (Cond.code yX12_end cX12_end 2 (some .boolean) :: TB) rm_X12_end (va_Pc [.ref (b + adM 0 0), .int a1] (fun U => RelM D cy b z tx S U U.heap ∧ TxR tx U)) (PiM D cy b z tx k) 0 0 (gA b 12 z) := by
  refine Met.ofW (cc := cX12_end) (maxL := 2) (ret := (some .boolean)) (by decide) rfl ?_
  intro p e s m args below meth c s₁ B hml hv
  obtain ⟨rfl, hR, hT⟩ := hv
  have C0 : CallFix p m c cX12_end 2 s _ TB RX12 := ⟨B.exec, B.bytes, hml, findClass_of_methodNamed B.named, fun w hw => atoms_spec B.pre w (List.mem_cons_of_mem _ hw)⟩
  have hr := B.returns
  have hlk := B.notSynchronized
  have hx := C0.1
  have hb := C0.2.1
  have hS : va_S (gA b 12 z) s.heap s.heap [] := va_S.rf
  have hl := lv_entry ([.ref (b + adM 0 0), .int a1]) (n := 2) (Nat.le_of_ble_eq_true rfl)
  rw [lg_entry_eq]
  generalize (lg_sl ([.ref (b + adM 0 0), .int a1]) ++ List.replicate (2 - (lg_sl ([.ref (b + adM 0 0), .int a1])).length) Slot.unset).toArray = ls at hl ⊢
  have hl : lv_has ls 2 [(0, .ref (b + adM 0 0)), (1, .int a1)] := hl
  show W p l e rm_X12_end s m _ below meth c s.heap [] 0 0 (MQ below (PiM D cy b z tx k) _ s 0 0 (gA b 12 z)) _
  unfold F_X12_end at h
  refine lv_aload_n hx hb dX12_end_0 rfl (lv_at hl 0 rfl) ?_
  refine lv_iconst (v := 0) hx hb dX12_end_1 (by decide) ?_
  refine pM_0_0 C0 hR hS Nat.zero_lt_one tbs_wsX120 mM1_7_77 dX12_end_2 (fun S1 eS1 H locs hR hS => ?_)
  have h := h S1 eS1
  refine lv_iload_n hx hb dX12_end_5 rfl (lv_at hl 1 rfl) ?_
  refine lv_if_lt (tgt := 17) hx hb dX12_end_6 (by decide) (fun c2 => ?_) (fun c2 => ?_)
  · have h := h.1 c2
    refine lv_iconst (v := 0) hx hb dX12_end_17 (by decide) ?_
    exact rtM_z C0 hr hlk hR hS (by decide) h dX12_end_18
  · have h := h.2 c2
    refine lv_iload_n hx hb dX12_end_9 rfl (lv_at hl 1 rfl) ?_
    refine lv_aload_n hx hb dX12_end_10 rfl (lv_at hl 0 rfl) ?_
    refine gM_0_9 C0 hR Nat.zero_lt_one tbs_wsX120 mM1_7_86 dX12_end_11 ?_
    refine lv_icmp_le (tgt := 19) hx hb dX12_end_14 (by decide) (fun c3 => ?_) (fun c3 => ?_)
    · have h := h.1 c3
      refine lv_aload_n hx hb dX12_end_19 rfl (lv_at hl 0 rfl) ?_
      refine lv_iload_n hx hb dX12_end_20 rfl (lv_at hl 1 rfl) ?_
      refine pM_0_9 C0 hR hS Nat.zero_lt_one tbs_wsX120 mM1_7_86 dX12_end_21 (fun S4 eS4 H locs hR hS => ?_)
      have h := h S4 eS4
      refine lv_iconst (v := 1) hx hb dX12_end_24 (by decide) ?_
      exact rtM_z C0 hr hlk hR hS (by decide) h dX12_end_25
    · have h := h.2 c3
      refine lv_iconst (v := 0) hx hb dX12_end_17 (by decide) ?_
      exact rtM_z C0 hr hlk hR hS (by decide) h dX12_end_18

def rm_X12_isAt : Room := { frames := 0, cells := 0, slots := 0, locals := 0 }
def F_X12_isAt (a1 : Int32) (a2 : Int32) (S : sSt) (k : Int32 → sSt → Prop) : Prop := (((S.1 0 0 11) ≤ (S.1 0 0 10) → k 0 S) ∧ (¬ (S.1 0 0 11) ≤ (S.1 0 0 10) → ix (S.1 0 0 10) 400 (fun j2 => (((S.1 6 0 j2) < a1 → k 0 S) ∧ (¬ (S.1 6 0 j2) < a1 → ((a2 < (S.1 6 0 j2) → k 0 S) ∧ (¬ a2 < (S.1 6 0 j2) → k 1 S)))))))
set_option maxHeartbeats 4000000 in
set_option maxRecDepth 100000 in
theorem c_X12_isAt (l : Launch) {D : va_G} {cy : Nat → ClassId} {b z : Nat} {tx : TX} {a1 : Int32} {a2 : Int32} {S : sSt} {k : Int32 → sSt → Prop} (h : F_X12_isAt a1 a2 S k) : Met l yX12_isAt (Cond.code yX12_isAt cX12_isAt 3 (some .boolean) :: TB) rm_X12_isAt (va_Pc [.ref (b + adM 0 0), .int a1, .int a2] (fun U => RelM D cy b z tx S U U.heap ∧ TxR tx U)) (PiM D cy b z tx k) 0 0 (gA b 12 z) := by
  refine Met.ofW (cc := cX12_isAt) (maxL := 3) (ret := (some .boolean)) (by decide) rfl ?_
  intro p e s m args below meth c s₁ B hml hv
  obtain ⟨rfl, hR, hT⟩ := hv
  have C0 : CallFix p m c cX12_isAt 3 s _ TB RX12 := ⟨B.exec, B.bytes, hml, findClass_of_methodNamed B.named, fun w hw => atoms_spec B.pre w (List.mem_cons_of_mem _ hw)⟩
  have hr := B.returns
  have hlk := B.notSynchronized
  have hx := C0.1
  have hb := C0.2.1
  have hS : va_S (gA b 12 z) s.heap s.heap [] := va_S.rf
  have hl := lv_entry ([.ref (b + adM 0 0), .int a1, .int a2]) (n := 3) (Nat.le_of_ble_eq_true rfl)
  rw [lg_entry_eq]
  generalize (lg_sl ([.ref (b + adM 0 0), .int a1, .int a2]) ++ List.replicate (3 - (lg_sl ([.ref (b + adM 0 0), .int a1, .int a2])).length) Slot.unset).toArray = ls at hl ⊢
  have hl : lv_has ls 3 [(0, .ref (b + adM 0 0)), (1, .int a1), (2, .int a2)] := hl
  show W p l e rm_X12_isAt s m _ below meth c s.heap [] 0 0 (MQ below (PiM D cy b z tx k) _ s 0 0 (gA b 12 z)) _
  unfold F_X12_isAt at h
  refine lv_aload_n hx hb dX12_isAt_0 rfl (lv_at hl 0 rfl) ?_
  refine gM_0_10 C0 hR Nat.zero_lt_one tbs_wsX120 mM1_7_87 dX12_isAt_1 ?_
  refine lv_aload_n hx hb dX12_isAt_4 rfl (lv_at hl 0 rfl) ?_
  refine gM_0_11 C0 hR Nat.zero_lt_one tbs_wsX120 mM1_7_88 dX12_isAt_5 ?_
  refine lv_icmp_ge (tgt := 41) hx hb dX12_isAt_8 (by decide) (fun c1 => ?_) (fun c1 => ?_)
  · have h := h.1 c1
    refine lv_iconst (v := 0) hx hb dX12_isAt_41 (by decide) ?_
    exact rtM_z C0 hr hlk hR hS (by decide) h dX12_isAt_42
  · have h := h.2 c1
    refine lv_aload_n hx hb dX12_isAt_11 rfl (lv_at hl 0 rfl) ?_
    refine gM_0_8 C0 hR Nat.zero_lt_one tbs_wsX120 mM1_7_85 dX12_isAt_12 ?_
    refine lv_aload_n hx hb dX12_isAt_15 rfl (lv_at hl 0 rfl) ?_
    refine gM_0_10 C0 hR Nat.zero_lt_one tbs_wsX120 mM1_7_87 dX12_isAt_16 ?_
    obtain ⟨j2, hj2, ej2, h⟩ := h
    refine lM_6 C0 hR Nat.zero_lt_one hj2 ej2 dX12_isAt_19 ?_
    refine lv_iload_n hx hb dX12_isAt_20 rfl (lv_at hl 1 rfl) ?_
    refine lv_icmp_lt (tgt := 41) hx hb dX12_isAt_21 (by decide) (fun c3 => ?_) (fun c3 => ?_)
    · have h := h.1 c3
      refine lv_iconst (v := 0) hx hb dX12_isAt_41 (by decide) ?_
      exact rtM_z C0 hr hlk hR hS (by decide) h dX12_isAt_42
    · have h := h.2 c3
      refine lv_aload_n hx hb dX12_isAt_24 rfl (lv_at hl 0 rfl) ?_
      refine gM_0_8 C0 hR Nat.zero_lt_one tbs_wsX120 mM1_7_85 dX12_isAt_25 ?_
      refine lv_aload_n hx hb dX12_isAt_28 rfl (lv_at hl 0 rfl) ?_
      refine gM_0_10 C0 hR Nat.zero_lt_one tbs_wsX120 mM1_7_87 dX12_isAt_29 ?_
      refine lM_6 C0 hR Nat.zero_lt_one hj2 ej2 dX12_isAt_32 ?_
      refine lv_iload_n hx hb dX12_isAt_33 rfl (lv_at hl 2 rfl) ?_
      refine lv_icmp_gt (tgt := 41) hx hb dX12_isAt_34 (by decide) (fun c4 => ?_) (fun c4 => ?_)
      · have h := h.1 c4
        refine lv_iconst (v := 0) hx hb dX12_isAt_41 (by decide) ?_
        exact rtM_z C0 hr hlk hR hS (by decide) h dX12_isAt_42
      · have h := h.2 c4
        refine lv_iconst (v := 1) hx hb dX12_isAt_37 (by decide) ?_
        refine lv_goto (tgt := 42) hx hb dX12_isAt_38 (by decide) ?_
        exact rtM_z C0 hr hlk hR hS (by decide) h dX12_isAt_42

def rm_X12_blanks : Room := { frames := 1, cells := 0, slots := 0, locals := 22 }
def Bb_X12_blanks_0 (kk0 : sSt → Prop) (S : sSt) (k : sSt → Prop) : Prop := F_X12_isAt 32 32 S (fun r1 S2 => ((r1 = 0 → ∀ S4, S4 = uI S2 0 0 12 (S2.1 0 0 10) → k S4) ∧ (¬ r1 = 0 → ∀ S5, S5 = uI S2 0 0 10 ((S2.1 0 0 10) + 1) → kk0 S5)))
set_option maxHeartbeats 4000000 in
set_option maxRecDepth 100000 in
theorem Bbw_X12_blanks_0 {p : Program} {l : Launch} {e : Env} {s : State} {m : MethodId} {args : Array Value} {below : List Frame} {meth : Method} {c : Code} {D : va_G} {cy : Nat → ClassId} {b z : Nat} {tx : TX} (C0 : CallFix p m c cX12_blanks 1 s args TB RX12) (hr : meth.sig.returnType = none) (hlk : meth.locks = false) (hT : TxR tx s) {k : sSt → Prop} {kk0 : sSt → Prop} (ih0 : ∀ (S : sSt) (H : Heap) (locs : List Loc) (ls : Array Slot) , kk0 S → RelM D cy b z tx S s H → va_S (gA b 12 z) s.heap H locs → lv_has ls 1 [(0, .ref (b + adM 0 0))] → W p l e rm_X12_blanks s m args below meth c H locs 0 0 (MQ below (PvM D cy b z tx k) args s 0 0 (gA b 12 z)) (F0 m 0 ls [])) : ∀ (S : sSt) (H : Heap) (locs : List Loc) (ls : Array Slot) , Bb_X12_blanks_0 kk0 S k → RelM D cy b z tx S s H → va_S (gA b 12 z) s.heap H locs → lv_has ls 1 [(0, .ref (b + adM 0 0))] → W p l e rm_X12_blanks s m args below meth c H locs 0 0 (MQ below (PvM D cy b z tx k) args s 0 0 (gA b 12 z)) (F0 m 0 ls []) := by
  intro S H locs ls h hR hS hl
  have hx := C0.1
  have hb := C0.2.1
  unfold Bb_X12_blanks_0 at h
  refine lv_aload_n hx hb dX12_blanks_0 rfl (lv_at hl 0 rfl) ?_
  refine lv_bipush (v := 32) hx hb dX12_blanks_1 (by decide) ?_
  refine lv_bipush (v := 32) hx hb dX12_blanks_3 (by decide) ?_
  refine qM_Vi (As := [.int 32, .int 32]) (rest := []) C0 (c_X12_isAt l h) (cwV 2 C0.2.2.2.2 (tbV mM1_7_175 ⟨mM1_7_177, mpM1_2_13, mM1_1_11, mM1_7_178⟩) rfl rfl rfl (by decide +kernel) ⟨Nat.le_of_ble_eq_true rfl, Nat.le_of_ble_eq_true rfl⟩) (rcM_0 hR Nat.zero_lt_one) hR hT hS rfl hl.1 rfl (Nat.le_of_ble_eq_true rfl) dX12_blanks_5 ⟨Nat.zero_le _, Nat.zero_le _⟩ (fun r1 S2 H locs h hR hS => ?_)
  refine lv_if_eq (tgt := 24) hx hb dX12_blanks_8 (by decide) (fun c3 => ?_) (fun c3 => ?_)
  · have h := h.1 c3
    refine lv_aload_n hx hb dX12_blanks_24 rfl (lv_at hl 0 rfl) ?_
    refine lv_aload_n hx hb dX12_blanks_25 rfl (lv_at hl 0 rfl) ?_
    refine gM_0_10 C0 hR Nat.zero_lt_one tbs_wsX120 mM1_7_87 dX12_blanks_26 ?_
    refine pM_0_12 C0 hR hS Nat.zero_lt_one tbs_wsX120 mM1_7_89 dX12_blanks_29 (fun S4 eS4 H locs hR hS => ?_)
    have h := h S4 eS4
    exact rtM_v C0 hr hlk hR hS h dX12_blanks_32
  · have h := h.2 c3
    refine lv_aload_n hx hb dX12_blanks_11 rfl (lv_at hl 0 rfl) ?_
    refine lv_dup hx hb dX12_blanks_12 rfl ?_
    refine gM_0_10 C0 hR Nat.zero_lt_one tbs_wsX120 mM1_7_87 dX12_blanks_13 ?_
    refine lv_iconst (v := 1) hx hb dX12_blanks_16 (by decide) ?_
    refine lv_iadd hx hb dX12_blanks_17 ?_
    refine pM_0_10 C0 hR hS Nat.zero_lt_one tbs_wsX120 mM1_7_87 dX12_blanks_18 (fun S5 eS5 H locs hR hS => ?_)
    have h := h S5 eS5
    refine lv_goto (tgt := 0) hx hb dX12_blanks_21 (by decide) ?_
    exact ih0  S5 _ _ _  h hR hS (lv_sub hl [0] rfl)
def B_X12_blanks_0 (n9 : Nat) (S : sSt) (k : sSt → Prop) : Prop := (Nat.rec (motive := fun _ => sSt → Prop) (fun _ => False) (fun _ r9 => fun S => Bb_X12_blanks_0 r9 S k) n9 : sSt → Prop) S
theorem B_X12_blanks_0_s (n9 : Nat) (S : sSt) (k : sSt → Prop) : B_X12_blanks_0 (n9 + 1) S k = Bb_X12_blanks_0 (fun S => B_X12_blanks_0 n9 S k) S k := rfl
set_option maxHeartbeats 4000000 in
set_option maxRecDepth 100000 in
theorem Bw_X12_blanks_0 {p : Program} {l : Launch} {e : Env} {s : State} {m : MethodId} {args : Array Value} {below : List Frame} {meth : Method} {c : Code} {D : va_G} {cy : Nat → ClassId} {b z : Nat} {tx : TX} (C0 : CallFix p m c cX12_blanks 1 s args TB RX12) (hr : meth.sig.returnType = none) (hlk : meth.locks = false) (hT : TxR tx s) {k : sSt → Prop} : ∀ (n9 : Nat), ∀ (S : sSt) (H : Heap) (locs : List Loc) (ls : Array Slot) , B_X12_blanks_0 n9 S k → RelM D cy b z tx S s H → va_S (gA b 12 z) s.heap H locs → lv_has ls 1 [(0, .ref (b + adM 0 0))] → W p l e rm_X12_blanks s m args below meth c H locs 0 0 (MQ below (PvM D cy b z tx k) args s 0 0 (gA b 12 z)) (F0 m 0 ls []) := by
  intro n9
  induction n9 with
  | zero => intro S H locs ls h; exact h.elim
  | succ n9 ih =>
    intro S H locs ls h hR hS hl
    exact Bbw_X12_blanks_0 C0 hr hlk hT ih S H locs ls h hR hS hl
def F_X12_blanks (S : sSt) (k : sSt → Prop) : Prop := B_X12_blanks_0 fuel S k
set_option maxHeartbeats 4000000 in
set_option maxRecDepth 100000 in
theorem c_X12_blanks (l : Launch) {D : va_G} {cy : Nat → ClassId} {b z : Nat} {tx : TX} {S : sSt} {k : sSt → Prop} (h : F_X12_blanks S k) : Met l yX12_blanks (Cond.code yX12_blanks cX12_blanks 1 none :: TB) rm_X12_blanks (va_Pc [.ref (b + adM 0 0)] (fun U => RelM D cy b z tx S U U.heap ∧ TxR tx U)) (PvM D cy b z tx k) 0 0 (gA b 12 z) := by
  refine Met.ofW (cc := cX12_blanks) (maxL := 1) (ret := none) (by decide) rfl ?_
  intro p e s m args below meth c s₁ B hml hv
  obtain ⟨rfl, hR, hT⟩ := hv
  have C0 : CallFix p m c cX12_blanks 1 s _ TB RX12 := ⟨B.exec, B.bytes, hml, findClass_of_methodNamed B.named, fun w hw => atoms_spec B.pre w (List.mem_cons_of_mem _ hw)⟩
  have hr := B.returns
  have hlk := B.notSynchronized
  have hx := C0.1
  have hb := C0.2.1
  have hS : va_S (gA b 12 z) s.heap s.heap [] := va_S.rf
  have hl := lv_entry ([.ref (b + adM 0 0)]) (n := 1) (Nat.le_of_ble_eq_true rfl)
  rw [lg_entry_eq]
  generalize (lg_sl ([.ref (b + adM 0 0)]) ++ List.replicate (1 - (lg_sl ([.ref (b + adM 0 0)])).length) Slot.unset).toArray = ls at hl ⊢
  have hl : lv_has ls 1 [(0, .ref (b + adM 0 0))] := hl
  show W p l e rm_X12_blanks s m _ below meth c s.heap [] 0 0 (MQ below (PvM D cy b z tx k) _ s 0 0 (gA b 12 z)) _
  unfold F_X12_blanks at h
  exact Bw_X12_blanks_0 C0 hr hlk hT fuel S _ _ _ h hR hS (lv_sub hl [0] rfl)

def rm_X12_letters : Room := { frames := 2, cells := 0, slots := 0, locals := 42 }
def Bb_X12_letters_4 (kk4 : sSt → Prop) (S : sSt) (k : sSt → Prop) : Prop := F_X12_isAt 97 122 S (fun r3 S4 => ((r3 = 0 → k S4) ∧ (¬ r3 = 0 → ∀ S6, S6 = uI S4 0 0 10 ((S4.1 0 0 10) + 1) → kk4 S6)))
set_option maxHeartbeats 4000000 in
set_option maxRecDepth 100000 in
theorem Bbw_X12_letters_4 {p : Program} {l : Launch} {e : Env} {s : State} {m : MethodId} {args : Array Value} {below : List Frame} {meth : Method} {c : Code} {D : va_G} {cy : Nat → ClassId} {b z : Nat} {tx : TX} (C0 : CallFix p m c cX12_letters 1 s args TB RX12) (hr : meth.sig.returnType = none) (hlk : meth.locks = false) (hT : TxR tx s) {k : sSt → Prop} {kk4 : sSt → Prop} (ih4 : ∀ (S : sSt) (H : Heap) (locs : List Loc) (ls : Array Slot) , kk4 S → RelM D cy b z tx S s H → va_S (gA b 12 z) s.heap H locs → lv_has ls 1 [(0, .ref (b + adM 0 0))] → W p l e rm_X12_letters s m args below meth c H locs 0 0 (MQ below (PvM D cy b z tx k) args s 0 0 (gA b 12 z)) (F0 m 4 ls [])) : ∀ (S : sSt) (H : Heap) (locs : List Loc) (ls : Array Slot) , Bb_X12_letters_4 kk4 S k → RelM D cy b z tx S s H → va_S (gA b 12 z) s.heap H locs → lv_has ls 1 [(0, .ref (b + adM 0 0))] → W p l e rm_X12_letters s m args below meth c H locs 0 0 (MQ below (PvM D cy b z tx k) args s 0 0 (gA b 12 z)) (F0 m 4 ls []) := by
  intro S H locs ls h hR hS hl
  have hx := C0.1
  have hb := C0.2.1
  unfold Bb_X12_letters_4 at h
  refine lv_aload_n hx hb dX12_letters_4 rfl (lv_at hl 0 rfl) ?_
  refine lv_bipush (v := 97) hx hb dX12_letters_5 (by decide) ?_
  refine lv_bipush (v := 122) hx hb dX12_letters_7 (by decide) ?_
  refine qM_Vi (As := [.int 97, .int 122]) (rest := []) C0 (c_X12_isAt l h) (cwV 2 C0.2.2.2.2 (tbV mM1_7_175 ⟨mM1_7_177, mpM1_2_13, mM1_1_11, mM1_7_178⟩) rfl rfl rfl (by decide +kernel) ⟨Nat.le_of_ble_eq_true rfl, Nat.le_of_ble_eq_true rfl⟩) (rcM_0 hR Nat.zero_lt_one) hR hT hS rfl hl.1 rfl (Nat.le_of_ble_eq_true rfl) dX12_letters_9 ⟨Nat.zero_le _, Nat.zero_le _⟩ (fun r3 S4 H locs h hR hS => ?_)
  refine lv_if_eq (tgt := 28) hx hb dX12_letters_12 (by decide) (fun c5 => ?_) (fun c5 => ?_)
  · have h := h.1 c5
    exact rtM_v C0 hr hlk hR hS h dX12_letters_28
  · have h := h.2 c5
    refine lv_aload_n hx hb dX12_letters_15 rfl (lv_at hl 0 rfl) ?_
    refine lv_dup hx hb dX12_letters_16 rfl ?_
    refine gM_0_10 C0 hR Nat.zero_lt_one tbs_wsX120 mM1_7_87 dX12_letters_17 ?_
    refine lv_iconst (v := 1) hx hb dX12_letters_20 (by decide) ?_
    refine lv_iadd hx hb dX12_letters_21 ?_
    refine pM_0_10 C0 hR hS Nat.zero_lt_one tbs_wsX120 mM1_7_87 dX12_letters_22 (fun S6 eS6 H locs hR hS => ?_)
    have h := h S6 eS6
    refine lv_goto (tgt := 4) hx hb dX12_letters_25 (by decide) ?_
    exact ih4  S6 _ _ _  h hR hS (lv_sub hl [0] rfl)
def B_X12_letters_4 (n9 : Nat) (S : sSt) (k : sSt → Prop) : Prop := (Nat.rec (motive := fun _ => sSt → Prop) (fun _ => False) (fun _ r9 => fun S => Bb_X12_letters_4 r9 S k) n9 : sSt → Prop) S
theorem B_X12_letters_4_s (n9 : Nat) (S : sSt) (k : sSt → Prop) : B_X12_letters_4 (n9 + 1) S k = Bb_X12_letters_4 (fun S => B_X12_letters_4 n9 S k) S k := rfl
set_option maxHeartbeats 4000000 in
set_option maxRecDepth 100000 in
theorem Bw_X12_letters_4 {p : Program} {l : Launch} {e : Env} {s : State} {m : MethodId} {args : Array Value} {below : List Frame} {meth : Method} {c : Code} {D : va_G} {cy : Nat → ClassId} {b z : Nat} {tx : TX} (C0 : CallFix p m c cX12_letters 1 s args TB RX12) (hr : meth.sig.returnType = none) (hlk : meth.locks = false) (hT : TxR tx s) {k : sSt → Prop} : ∀ (n9 : Nat), ∀ (S : sSt) (H : Heap) (locs : List Loc) (ls : Array Slot) , B_X12_letters_4 n9 S k → RelM D cy b z tx S s H → va_S (gA b 12 z) s.heap H locs → lv_has ls 1 [(0, .ref (b + adM 0 0))] → W p l e rm_X12_letters s m args below meth c H locs 0 0 (MQ below (PvM D cy b z tx k) args s 0 0 (gA b 12 z)) (F0 m 4 ls []) := by
  intro n9
  induction n9 with
  | zero => intro S H locs ls h; exact h.elim
  | succ n9 ih =>
    intro S H locs ls h hR hS hl
    exact Bbw_X12_letters_4 C0 hr hlk hT ih S H locs ls h hR hS hl
def F_X12_letters (S : sSt) (k : sSt → Prop) : Prop := F_X12_blanks S (fun S2 => B_X12_letters_4 fuel S2 k)
set_option maxHeartbeats 4000000 in
set_option maxRecDepth 100000 in
theorem c_X12_letters (l : Launch) {D : va_G} {cy : Nat → ClassId} {b z : Nat} {tx : TX} {S : sSt} {k : sSt → Prop} (h : F_X12_letters S k) : Met l yX12_letters (Cond.code yX12_letters cX12_letters 1 none :: TB) rm_X12_letters (va_Pc [.ref (b + adM 0 0)] (fun U => RelM D cy b z tx S U U.heap ∧ TxR tx U)) (PvM D cy b z tx k) 0 0 (gA b 12 z) := by
  refine Met.ofW (cc := cX12_letters) (maxL := 1) (ret := none) (by decide) rfl ?_
  intro p e s m args below meth c s₁ B hml hv
  obtain ⟨rfl, hR, hT⟩ := hv
  have C0 : CallFix p m c cX12_letters 1 s _ TB RX12 := ⟨B.exec, B.bytes, hml, findClass_of_methodNamed B.named, fun w hw => atoms_spec B.pre w (List.mem_cons_of_mem _ hw)⟩
  have hr := B.returns
  have hlk := B.notSynchronized
  have hx := C0.1
  have hb := C0.2.1
  have hS : va_S (gA b 12 z) s.heap s.heap [] := va_S.rf
  have hl := lv_entry ([.ref (b + adM 0 0)]) (n := 1) (Nat.le_of_ble_eq_true rfl)
  rw [lg_entry_eq]
  generalize (lg_sl ([.ref (b + adM 0 0)]) ++ List.replicate (1 - (lg_sl ([.ref (b + adM 0 0)])).length) Slot.unset).toArray = ls at hl ⊢
  have hl : lv_has ls 1 [(0, .ref (b + adM 0 0))] := hl
  show W p l e rm_X12_letters s m _ below meth c s.heap [] 0 0 (MQ below (PvM D cy b z tx k) _ s 0 0 (gA b 12 z)) _
  unfold F_X12_letters at h
  refine lv_aload_n hx hb dX12_letters_0 rfl (lv_at hl 0 rfl) ?_
  refine qM_Vv (As := []) (rest := []) C0 (c_X12_blanks l h) (cwV 0 C0.2.2.2.2 (tbV mM1_7_171 ⟨mM1_7_173, mpM1_2_12, mM1_1_11, mM1_7_174⟩) rfl rfl rfl (by decide +kernel) ⟨Nat.le_of_ble_eq_true rfl, Nat.le_of_ble_eq_true rfl⟩) (rcM_0 hR Nat.zero_lt_one) hR hT hS rfl hl.1 rfl (Nat.le_of_ble_eq_true rfl) dX12_letters_1 ⟨Nat.zero_le _, Nat.zero_le _⟩ (fun S2 H locs h hR hS => ?_)
  exact Bw_X12_letters_4 C0 hr hlk hT fuel S2 _ _ _ h hR hS (lv_sub hl [0] rfl)

def rm_X12_sign : Room := { frames := 2, cells := 0, slots := 0, locals := 42 }
def F_X12_sign (a1 : Int32) (S : sSt) (k : Int32 → sSt → Prop) : Prop := F_X12_blanks S (fun S2 => F_X12_isAt a1 a1 S2 (fun r3 S4 => ((¬ r3 = 0 → ∀ S6, S6 = uI S4 0 0 10 ((S4.1 0 0 10) + 1) → k 1 S6) ∧ (r3 = 0 → k 0 S4))))
set_option maxHeartbeats 4000000 in
set_option maxRecDepth 100000 in
theorem c_X12_sign (l : Launch) {D : va_G} {cy : Nat → ClassId} {b z : Nat} {tx : TX} {a1 : Int32} {S : sSt} {k : Int32 → sSt → Prop} (h : F_X12_sign a1 S k) : Met l yX12_sign (Cond.code yX12_sign cX12_sign 2 (some .boolean) :: TB) rm_X12_sign (va_Pc [.ref (b + adM 0 0), .int a1] (fun U => RelM D cy b z tx S U U.heap ∧ TxR tx U)) (PiM D cy b z tx k) 0 0 (gA b 12 z) := by
  refine Met.ofW (cc := cX12_sign) (maxL := 2) (ret := (some .boolean)) (by decide) rfl ?_
  intro p e s m args below meth c s₁ B hml hv
  obtain ⟨rfl, hR, hT⟩ := hv
  have C0 : CallFix p m c cX12_sign 2 s _ TB RX12 := ⟨B.exec, B.bytes, hml, findClass_of_methodNamed B.named, fun w hw => atoms_spec B.pre w (List.mem_cons_of_mem _ hw)⟩
  have hr := B.returns
  have hlk := B.notSynchronized
  have hx := C0.1
  have hb := C0.2.1
  have hS : va_S (gA b 12 z) s.heap s.heap [] := va_S.rf
  have hl := lv_entry ([.ref (b + adM 0 0), .int a1]) (n := 2) (Nat.le_of_ble_eq_true rfl)
  rw [lg_entry_eq]
  generalize (lg_sl ([.ref (b + adM 0 0), .int a1]) ++ List.replicate (2 - (lg_sl ([.ref (b + adM 0 0), .int a1])).length) Slot.unset).toArray = ls at hl ⊢
  have hl : lv_has ls 2 [(0, .ref (b + adM 0 0)), (1, .int a1)] := hl
  show W p l e rm_X12_sign s m _ below meth c s.heap [] 0 0 (MQ below (PiM D cy b z tx k) _ s 0 0 (gA b 12 z)) _
  unfold F_X12_sign at h
  refine lv_aload_n hx hb dX12_sign_0 rfl (lv_at hl 0 rfl) ?_
  refine qM_Vv (As := []) (rest := []) C0 (c_X12_blanks l h) (cwV 0 C0.2.2.2.2 (tbV mM1_7_171 ⟨mM1_7_173, mpM1_2_12, mM1_1_11, mM1_7_174⟩) rfl rfl rfl (by decide +kernel) ⟨Nat.le_of_ble_eq_true rfl, Nat.le_of_ble_eq_true rfl⟩) (rcM_0 hR Nat.zero_lt_one) hR hT hS rfl hl.1 rfl (Nat.le_of_ble_eq_true rfl) dX12_sign_1 ⟨Nat.zero_le _, Nat.zero_le _⟩ (fun S2 H locs h hR hS => ?_)
  refine lv_aload_n hx hb dX12_sign_4 rfl (lv_at hl 0 rfl) ?_
  refine lv_iload_n hx hb dX12_sign_5 rfl (lv_at hl 1 rfl) ?_
  refine lv_iload_n hx hb dX12_sign_6 rfl (lv_at hl 1 rfl) ?_
  refine qM_Vi (As := [.int a1, .int a1]) (rest := []) C0 (c_X12_isAt l h) (cwV 2 C0.2.2.2.2 (tbV mM1_7_175 ⟨mM1_7_177, mpM1_2_13, mM1_1_11, mM1_7_178⟩) rfl rfl rfl (by decide +kernel) ⟨Nat.le_of_ble_eq_true rfl, Nat.le_of_ble_eq_true rfl⟩) (rcM_0 hR Nat.zero_lt_one) hR hT hS rfl hl.1 rfl (Nat.le_of_ble_eq_true rfl) dX12_sign_7 ⟨Nat.zero_le _, Nat.zero_le _⟩ (fun r3 S4 H locs h hR hS => ?_)
  refine lv_if_ne (tgt := 15) hx hb dX12_sign_10 (by decide) (fun c5 => ?_) (fun c5 => ?_)
  · have h := h.1 c5
    refine lv_aload_n hx hb dX12_sign_15 rfl (lv_at hl 0 rfl) ?_
    refine lv_dup hx hb dX12_sign_16 rfl ?_
    refine gM_0_10 C0 hR Nat.zero_lt_one tbs_wsX120 mM1_7_87 dX12_sign_17 ?_
    refine lv_iconst (v := 1) hx hb dX12_sign_20 (by decide) ?_
    refine lv_iadd hx hb dX12_sign_21 ?_
    refine pM_0_10 C0 hR hS Nat.zero_lt_one tbs_wsX120 mM1_7_87 dX12_sign_22 (fun S6 eS6 H locs hR hS => ?_)
    have h := h S6 eS6
    refine lv_iconst (v := 1) hx hb dX12_sign_25 (by decide) ?_
    exact rtM_z C0 hr hlk hR hS (by decide) h dX12_sign_26
  · have h := h.2 c5
    refine lv_iconst (v := 0) hx hb dX12_sign_13 (by decide) ?_
    exact rtM_z C0 hr hlk hR hS (by decide) h dX12_sign_14

def rm_X12_number : Room := { frames := 2, cells := 0, slots := 0, locals := 42 }
def B_X12_number_99 (S : sSt) (k : Int32 → sSt → Prop) : Prop := k (-1) S
set_option maxHeartbeats 4000000 in
set_option maxRecDepth 100000 in
theorem Bw_X12_number_99 {p : Program} {l : Launch} {e : Env} {s : State} {m : MethodId} {args : Array Value} {below : List Frame} {meth : Method} {c : Code} {D : va_G} {cy : Nat → ClassId} {b z : Nat} {tx : TX} (C0 : CallFix p m c cX12_number 4 s args TB RX12) (hr : meth.sig.returnType = (some .int)) (hlk : meth.locks = false) (hT : TxR tx s) {k : Int32 → sSt → Prop} : ∀ (S : sSt) (H : Heap) (locs : List Loc) (ls : Array Slot) , B_X12_number_99 S k → RelM D cy b z tx S s H → va_S (gA b 12 z) s.heap H locs → lv_has ls 4 [] → W p l e rm_X12_number s m args below meth c H locs 0 0 (MQ below (PiM D cy b z tx k) args s 0 0 (gA b 12 z)) (F0 m 99 ls []) := by
  intro S H locs ls h hR hS hl
  have hx := C0.1
  have hb := C0.2.1
  unfold B_X12_number_99 at h
  refine lv_iconst (v := (-1)) hx hb dX12_number_99 (by decide) ?_
  refine lv_goto (tgt := 104) hx hb dX12_number_100 (by decide) ?_
  exact rtM_i C0 hr hlk hR hS h dX12_number_104
def B_X12_number_51 (kk6 : Int32 → Int32 → Int32 → sSt → Prop) (a1 : Int32) (a2 : Int32) (t0 : Int32) (S : sSt) (k : Int32 → sSt → Prop) : Prop := ∀ S11, S11 = uI S 0 0 10 ((S.1 0 0 10) + 1) → kk6 a1 a2 t0 S11
set_option maxHeartbeats 4000000 in
set_option maxRecDepth 100000 in
theorem Bw_X12_number_51 {p : Program} {l : Launch} {e : Env} {s : State} {m : MethodId} {args : Array Value} {below : List Frame} {meth : Method} {c : Code} {D : va_G} {cy : Nat → ClassId} {b z : Nat} {tx : TX} (C0 : CallFix p m c cX12_number 4 s args TB RX12) (hr : meth.sig.returnType = (some .int)) (hlk : meth.locks = false) (hT : TxR tx s) {k : Int32 → sSt → Prop} {kk6 : Int32 → Int32 → Int32 → sSt → Prop} (ih6 : ∀ (a1 : Int32) (a2 : Int32) (a3 : Int32) (S : sSt) (H : Heap) (locs : List Loc) (ls : Array Slot) , kk6 a1 a2 a3 S → RelM D cy b z tx S s H → va_S (gA b 12 z) s.heap H locs → lv_has ls 4 [(0, .ref (b + adM 0 0)), (1, .int a1), (2, .int a2), (3, .int a3)] → W p l e rm_X12_number s m args below meth c H locs 0 0 (MQ below (PiM D cy b z tx k) args s 0 0 (gA b 12 z)) (F0 m 6 ls [])) : ∀ (a1 : Int32) (a2 : Int32) (t0 : Int32) (S : sSt) (H : Heap) (locs : List Loc) (ls : Array Slot) , B_X12_number_51 kk6 a1 a2 t0 S k → RelM D cy b z tx S s H → va_S (gA b 12 z) s.heap H locs → lv_has ls 4 [(0, .ref (b + adM 0 0)), (1, .int a1), (2, .int a2)] → W p l e rm_X12_number s m args below meth c H locs 0 0 (MQ below (PiM D cy b z tx k) args s 0 0 (gA b 12 z)) (F0 m 51 ls [.int t0]) := by
  intro a1 a2 t0 S H locs ls h hR hS hl
  have hx := C0.1
  have hb := C0.2.1
  unfold B_X12_number_51 at h
  refine lv_istore_n (lv' := [(3, .int t0), (0, .ref (b + adM 0 0)), (1, .int a1), (2, .int a2)]) hx hb dX12_number_51 rfl hl (by decide) rfl (fun ls hl => ?_)
  refine lv_aload_n hx hb dX12_number_52 rfl (lv_at hl 1 rfl) ?_
  refine lv_dup hx hb dX12_number_53 rfl ?_
  refine gM_0_10 C0 hR Nat.zero_lt_one tbs_wsX120 mM1_7_87 dX12_number_54 ?_
  refine lv_iconst (v := 1) hx hb dX12_number_57 (by decide) ?_
  refine lv_iadd hx hb dX12_number_58 ?_
  refine pM_0_10 C0 hR hS Nat.zero_lt_one tbs_wsX120 mM1_7_87 dX12_number_59 (fun S11 eS11 H locs hR hS => ?_)
  have h := h S11 eS11
  refine lv_goto (tgt := 6) hx hb dX12_number_62 (by decide) ?_
  exact ih6 a1 a2 t0 S11 _ _ _  h hR hS (lv_sub hl [1, 2, 3, 0] rfl)
def Bb_X12_number_6 (kk6 : Int32 → Int32 → Int32 → sSt → Prop) (a1 : Int32) (a2 : Int32) (a3 : Int32) (S : sSt) (k : Int32 → sSt → Prop) : Prop := F_X12_isAt 48 57 S (fun r3 S4 => ((r3 = 0 → (((S4.1 0 0 10) = (S4.1 0 0 12) → B_X12_number_99 S4 k) ∧ (¬ (S4.1 0 0 10) = (S4.1 0 0 12) → ((3 < ((S4.1 0 0 10) - (S4.1 0 0 12)) → B_X12_number_99 S4 k) ∧ (¬ 3 < ((S4.1 0 0 10) - (S4.1 0 0 12)) → ((a3 < a1 → B_X12_number_99 S4 k) ∧ (¬ a3 < a1 → ((a3 ≤ a2 → k a3 S4) ∧ (¬ a3 ≤ a2 → B_X12_number_99 S4 k))))))))) ∧ (¬ r3 = 0 → ((3 ≤ ((S4.1 0 0 10) - (S4.1 0 0 12)) → B_X12_number_51 kk6 a1 a2 a3 S4 k) ∧ (¬ 3 ≤ ((S4.1 0 0 10) - (S4.1 0 0 12)) → ix (S4.1 0 0 10) 400 (fun j12 => B_X12_number_51 kk6 a1 a2 (((10 * a3) + (S4.1 6 0 j12)) - 48) S4 k))))))
set_option maxHeartbeats 4000000 in
set_option maxRecDepth 100000 in
theorem Bbw_X12_number_6 {p : Program} {l : Launch} {e : Env} {s : State} {m : MethodId} {args : Array Value} {below : List Frame} {meth : Method} {c : Code} {D : va_G} {cy : Nat → ClassId} {b z : Nat} {tx : TX} (C0 : CallFix p m c cX12_number 4 s args TB RX12) (hr : meth.sig.returnType = (some .int)) (hlk : meth.locks = false) (hT : TxR tx s) {k : Int32 → sSt → Prop} {kk6 : Int32 → Int32 → Int32 → sSt → Prop} (ih6 : ∀ (a1 : Int32) (a2 : Int32) (a3 : Int32) (S : sSt) (H : Heap) (locs : List Loc) (ls : Array Slot) , kk6 a1 a2 a3 S → RelM D cy b z tx S s H → va_S (gA b 12 z) s.heap H locs → lv_has ls 4 [(0, .ref (b + adM 0 0)), (1, .int a1), (2, .int a2), (3, .int a3)] → W p l e rm_X12_number s m args below meth c H locs 0 0 (MQ below (PiM D cy b z tx k) args s 0 0 (gA b 12 z)) (F0 m 6 ls [])) : ∀ (a1 : Int32) (a2 : Int32) (a3 : Int32) (S : sSt) (H : Heap) (locs : List Loc) (ls : Array Slot) , Bb_X12_number_6 kk6 a1 a2 a3 S k → RelM D cy b z tx S s H → va_S (gA b 12 z) s.heap H locs → lv_has ls 4 [(0, .ref (b + adM 0 0)), (1, .int a1), (2, .int a2), (3, .int a3)] → W p l e rm_X12_number s m args below meth c H locs 0 0 (MQ below (PiM D cy b z tx k) args s 0 0 (gA b 12 z)) (F0 m 6 ls []) := by
  intro a1 a2 a3 S H locs ls h hR hS hl
  have hx := C0.1
  have hb := C0.2.1
  unfold Bb_X12_number_6 at h
  refine lv_aload_n hx hb dX12_number_6 rfl (lv_at hl 0 rfl) ?_
  refine lv_bipush (v := 48) hx hb dX12_number_7 (by decide) ?_
  refine lv_bipush (v := 57) hx hb dX12_number_9 (by decide) ?_
  refine qM_Vi (As := [.int 48, .int 57]) (rest := []) C0 (c_X12_isAt l h) (cwV 2 C0.2.2.2.2 (tbV mM1_7_175 ⟨mM1_7_177, mpM1_2_13, mM1_1_11, mM1_7_178⟩) rfl rfl rfl (by decide +kernel) ⟨Nat.le_of_ble_eq_true rfl, Nat.le_of_ble_eq_true rfl⟩) (rcM_0 hR Nat.zero_lt_one) hR hT hS rfl hl.1 rfl (Nat.le_of_ble_eq_true rfl) dX12_number_11 ⟨Nat.zero_le _, Nat.zero_le _⟩ (fun r3 S4 H locs h hR hS => ?_)
  refine lv_if_eq (tgt := 65) hx hb dX12_number_14 (by decide) (fun c5 => ?_) (fun c5 => ?_)
  · have h := h.1 c5
    refine lv_aload_n hx hb dX12_number_65 rfl (lv_at hl 0 rfl) ?_
    refine gM_0_10 C0 hR Nat.zero_lt_one tbs_wsX120 mM1_7_87 dX12_number_66 ?_
    refine lv_aload_n hx hb dX12_number_69 rfl (lv_at hl 0 rfl) ?_
    refine gM_0_12 C0 hR Nat.zero_lt_one tbs_wsX120 mM1_7_89 dX12_number_70 ?_
    refine lv_icmp_eq (tgt := 99) hx hb dX12_number_73 (by decide) (fun c6 => ?_) (fun c6 => ?_)
    · have h := h.1 c6
      exact Bw_X12_number_99 C0 hr hlk hT S4 _ _ _ h hR hS (lv_sub hl [] rfl)
    · have h := h.2 c6
      refine lv_aload_n hx hb dX12_number_76 rfl (lv_at hl 0 rfl) ?_
      refine gM_0_10 C0 hR Nat.zero_lt_one tbs_wsX120 mM1_7_87 dX12_number_77 ?_
      refine lv_aload_n hx hb dX12_number_80 rfl (lv_at hl 0 rfl) ?_
      refine gM_0_12 C0 hR Nat.zero_lt_one tbs_wsX120 mM1_7_89 dX12_number_81 ?_
      refine lv_isub hx hb dX12_number_84 ?_
      refine lv_iconst (v := 3) hx hb dX12_number_85 (by decide) ?_
      refine lv_icmp_gt (tgt := 99) hx hb dX12_number_86 (by decide) (fun c7 => ?_) (fun c7 => ?_)
      · have h := h.1 c7
        exact Bw_X12_number_99 C0 hr hlk hT S4 _ _ _ h hR hS (lv_sub hl [] rfl)
      · have h := h.2 c7
        refine lv_iload_n hx hb dX12_number_89 rfl (lv_at hl 3 rfl) ?_
        refine lv_iload_n hx hb dX12_number_90 rfl (lv_at hl 1 rfl) ?_
        refine lv_icmp_lt (tgt := 99) hx hb dX12_number_91 (by decide) (fun c8 => ?_) (fun c8 => ?_)
        · have h := h.1 c8
          exact Bw_X12_number_99 C0 hr hlk hT S4 _ _ _ h hR hS (lv_sub hl [] rfl)
        · have h := h.2 c8
          refine lv_iload_n hx hb dX12_number_94 rfl (lv_at hl 3 rfl) ?_
          refine lv_iload_n hx hb dX12_number_95 rfl (lv_at hl 2 rfl) ?_
          refine lv_icmp_le (tgt := 103) hx hb dX12_number_96 (by decide) (fun c9 => ?_) (fun c9 => ?_)
          · have h := h.1 c9
            refine lv_iload_n hx hb dX12_number_103 rfl (lv_at hl 3 rfl) ?_
            exact rtM_i C0 hr hlk hR hS h dX12_number_104
          · have h := h.2 c9
            exact Bw_X12_number_99 C0 hr hlk hT S4 _ _ _ h hR hS (lv_sub hl [] rfl)
  · have h := h.2 c5
    refine lv_aload_n hx hb dX12_number_17 rfl (lv_at hl 0 rfl) ?_
    refine gM_0_10 C0 hR Nat.zero_lt_one tbs_wsX120 mM1_7_87 dX12_number_18 ?_
    refine lv_aload_n hx hb dX12_number_21 rfl (lv_at hl 0 rfl) ?_
    refine gM_0_12 C0 hR Nat.zero_lt_one tbs_wsX120 mM1_7_89 dX12_number_22 ?_
    refine lv_isub hx hb dX12_number_25 ?_
    refine lv_iconst (v := 3) hx hb dX12_number_26 (by decide) ?_
    refine lv_icmp_ge (tgt := 50) hx hb dX12_number_27 (by decide) (fun c10 => ?_) (fun c10 => ?_)
    · have h := h.1 c10
      refine lv_iload_n hx hb dX12_number_50 rfl (lv_at hl 3 rfl) ?_
      exact Bw_X12_number_51 C0 hr hlk hT ih6 a1 a2 a3 S4 _ _ _ h hR hS (lv_sub hl [0, 1, 2] rfl)
    · have h := h.2 c10
      refine lv_bipush (v := 10) hx hb dX12_number_30 (by decide) ?_
      refine lv_iload_n hx hb dX12_number_32 rfl (lv_at hl 3 rfl) ?_
      refine lv_imul hx hb dX12_number_33 ?_
      refine lv_aload_n hx hb dX12_number_34 rfl (lv_at hl 0 rfl) ?_
      refine gM_0_8 C0 hR Nat.zero_lt_one tbs_wsX120 mM1_7_85 dX12_number_35 ?_
      refine lv_aload_n hx hb dX12_number_38 rfl (lv_at hl 0 rfl) ?_
      refine gM_0_10 C0 hR Nat.zero_lt_one tbs_wsX120 mM1_7_87 dX12_number_39 ?_
      obtain ⟨j12, hj12, ej12, h⟩ := h
      refine lM_6 C0 hR Nat.zero_lt_one hj12 ej12 dX12_number_42 ?_
      refine lv_iadd hx hb dX12_number_43 ?_
      refine lv_bipush (v := 48) hx hb dX12_number_44 (by decide) ?_
      refine lv_isub hx hb dX12_number_46 ?_
      refine lv_goto (tgt := 51) hx hb dX12_number_47 (by decide) ?_
      exact Bw_X12_number_51 C0 hr hlk hT ih6 a1 a2 (((10 * a3) + (S4.1 6 0 j12)) - 48) S4 _ _ _ h hR hS (lv_sub hl [0, 1, 2] rfl)
def B_X12_number_6 (n9 : Nat) (a1 : Int32) (a2 : Int32) (a3 : Int32) (S : sSt) (k : Int32 → sSt → Prop) : Prop := (Nat.rec (motive := fun _ => Int32 → Int32 → Int32 → sSt → Prop) (fun _ _ _ _ => False) (fun _ r9 => fun a1 a2 a3 S => Bb_X12_number_6 r9 a1 a2 a3 S k) n9 : Int32 → Int32 → Int32 → sSt → Prop) a1 a2 a3 S
theorem B_X12_number_6_s (n9 : Nat) (a1 : Int32) (a2 : Int32) (a3 : Int32) (S : sSt) (k : Int32 → sSt → Prop) : B_X12_number_6 (n9 + 1) a1 a2 a3 S k = Bb_X12_number_6 (fun a1 a2 a3 S => B_X12_number_6 n9 a1 a2 a3 S k) a1 a2 a3 S k := rfl
set_option maxHeartbeats 4000000 in
set_option maxRecDepth 100000 in
theorem Bw_X12_number_6 {p : Program} {l : Launch} {e : Env} {s : State} {m : MethodId} {args : Array Value} {below : List Frame} {meth : Method} {c : Code} {D : va_G} {cy : Nat → ClassId} {b z : Nat} {tx : TX} (C0 : CallFix p m c cX12_number 4 s args TB RX12) (hr : meth.sig.returnType = (some .int)) (hlk : meth.locks = false) (hT : TxR tx s) {k : Int32 → sSt → Prop} : ∀ (n9 : Nat), ∀ (a1 : Int32) (a2 : Int32) (a3 : Int32) (S : sSt) (H : Heap) (locs : List Loc) (ls : Array Slot) , B_X12_number_6 n9 a1 a2 a3 S k → RelM D cy b z tx S s H → va_S (gA b 12 z) s.heap H locs → lv_has ls 4 [(0, .ref (b + adM 0 0)), (1, .int a1), (2, .int a2), (3, .int a3)] → W p l e rm_X12_number s m args below meth c H locs 0 0 (MQ below (PiM D cy b z tx k) args s 0 0 (gA b 12 z)) (F0 m 6 ls []) := by
  intro n9
  induction n9 with
  | zero => intro a1 a2 a3 S H locs ls h; exact h.elim
  | succ n9 ih =>
    intro a1 a2 a3 S H locs ls h hR hS hl
    exact Bbw_X12_number_6 C0 hr hlk hT ih a1 a2 a3 S H locs ls h hR hS hl
def F_X12_number (a1 : Int32) (a2 : Int32) (S : sSt) (k : Int32 → sSt → Prop) : Prop := F_X12_blanks S (fun S2 => B_X12_number_6 fuel a1 a2 0 S2 k)
set_option maxHeartbeats 4000000 in
set_option maxRecDepth 100000 in
theorem c_X12_number (l : Launch) {D : va_G} {cy : Nat → ClassId} {b z : Nat} {tx : TX} {a1 : Int32} {a2 : Int32} {S : sSt} {k : Int32 → sSt → Prop} (h : F_X12_number a1 a2 S k) : Met l yX12_number (Cond.code yX12_number cX12_number 4 (some .int) :: TB) rm_X12_number (va_Pc [.ref (b + adM 0 0), .int a1, .int a2] (fun U => RelM D cy b z tx S U U.heap ∧ TxR tx U)) (PiM D cy b z tx k) 0 0 (gA b 12 z) := by
  refine Met.ofW (cc := cX12_number) (maxL := 4) (ret := (some .int)) (by decide) rfl ?_
  intro p e s m args below meth c s₁ B hml hv
  obtain ⟨rfl, hR, hT⟩ := hv
  have C0 : CallFix p m c cX12_number 4 s _ TB RX12 := ⟨B.exec, B.bytes, hml, findClass_of_methodNamed B.named, fun w hw => atoms_spec B.pre w (List.mem_cons_of_mem _ hw)⟩
  have hr := B.returns
  have hlk := B.notSynchronized
  have hx := C0.1
  have hb := C0.2.1
  have hS : va_S (gA b 12 z) s.heap s.heap [] := va_S.rf
  have hl := lv_entry ([.ref (b + adM 0 0), .int a1, .int a2]) (n := 4) (Nat.le_of_ble_eq_true rfl)
  rw [lg_entry_eq]
  generalize (lg_sl ([.ref (b + adM 0 0), .int a1, .int a2]) ++ List.replicate (4 - (lg_sl ([.ref (b + adM 0 0), .int a1, .int a2])).length) Slot.unset).toArray = ls at hl ⊢
  have hl : lv_has ls 4 [(0, .ref (b + adM 0 0)), (1, .int a1), (2, .int a2)] := hl
  show W p l e rm_X12_number s m _ below meth c s.heap [] 0 0 (MQ below (PiM D cy b z tx k) _ s 0 0 (gA b 12 z)) _
  unfold F_X12_number at h
  refine lv_aload_n hx hb dX12_number_0 rfl (lv_at hl 0 rfl) ?_
  refine qM_Vv (As := []) (rest := []) C0 (c_X12_blanks l h) (cwV 0 C0.2.2.2.2 (tbV mM1_7_171 ⟨mM1_7_173, mpM1_2_12, mM1_1_11, mM1_7_174⟩) rfl rfl rfl (by decide +kernel) ⟨Nat.le_of_ble_eq_true rfl, Nat.le_of_ble_eq_true rfl⟩) (rcM_0 hR Nat.zero_lt_one) hR hT hS rfl hl.1 rfl (Nat.le_of_ble_eq_true rfl) dX12_number_1 ⟨Nat.zero_le _, Nat.zero_le _⟩ (fun S2 H locs h hR hS => ?_)
  refine lv_iconst (v := 0) hx hb dX12_number_4 (by decide) ?_
  refine lv_istore_n (lv' := [(3, .int 0), (0, .ref (b + adM 0 0)), (1, .int a1), (2, .int a2)]) hx hb dX12_number_5 rfl hl (by decide) rfl (fun ls hl => ?_)
  exact Bw_X12_number_6 C0 hr hlk hT fuel a1 a2 0 S2 _ _ _ h hR hS (lv_sub hl [1, 2, 3, 0] rfl)

def rm_X12_fault : Room := { frames := 0, cells := 0, slots := 0, locals := 0 }
def F_X12_fault (S : sSt) (k : Int32 → sSt → Prop) : Prop := ∀ S1, S1 = uI S 0 0 0 0 → k (S1.1 0 0 13) S1
set_option maxHeartbeats 4000000 in
set_option maxRecDepth 100000 in
theorem c_X12_fault (l : Launch) {D : va_G} {cy : Nat → ClassId} {b z : Nat} {tx : TX} {S : sSt} {k : Int32 → sSt → Prop} (h : F_X12_fault S k) : Met l yX12_fault (Cond.code yX12_fault cX12_fault 1 (some .int) :: TB) rm_X12_fault (va_Pc [.ref (b + adM 0 0)] (fun U => RelM D cy b z tx S U U.heap ∧ TxR tx U)) (PiM D cy b z tx k) 0 0 (gA b 12 z) := by
  refine Met.ofW (cc := cX12_fault) (maxL := 1) (ret := (some .int)) (by decide) rfl ?_
  intro p e s m args below meth c s₁ B hml hv
  obtain ⟨rfl, hR, hT⟩ := hv
  have C0 : CallFix p m c cX12_fault 1 s _ TB RX12 := ⟨B.exec, B.bytes, hml, findClass_of_methodNamed B.named, fun w hw => atoms_spec B.pre w (List.mem_cons_of_mem _ hw)⟩
  have hr := B.returns
  have hlk := B.notSynchronized
  have hx := C0.1
  have hb := C0.2.1
  have hS : va_S (gA b 12 z) s.heap s.heap [] := va_S.rf
  have hl := lv_entry ([.ref (b + adM 0 0)]) (n := 1) (Nat.le_of_ble_eq_true rfl)
  rw [lg_entry_eq]
  generalize (lg_sl ([.ref (b + adM 0 0)]) ++ List.replicate (1 - (lg_sl ([.ref (b + adM 0 0)])).length) Slot.unset).toArray = ls at hl ⊢
  have hl : lv_has ls 1 [(0, .ref (b + adM 0 0))] := hl
  show W p l e rm_X12_fault s m _ below meth c s.heap [] 0 0 (MQ below (PiM D cy b z tx k) _ s 0 0 (gA b 12 z)) _
  unfold F_X12_fault at h
  refine lv_aload_n hx hb dX12_fault_0 rfl (lv_at hl 0 rfl) ?_
  refine lv_iconst (v := 0) hx hb dX12_fault_1 (by decide) ?_
  refine pM_0_0 C0 hR hS Nat.zero_lt_one tbs_wsX120 mM1_7_77 dX12_fault_2 (fun S1 eS1 H locs hR hS => ?_)
  have h := h S1 eS1
  refine lv_aload_n hx hb dX12_fault_5 rfl (lv_at hl 0 rfl) ?_
  refine gM_0_13 C0 hR Nat.zero_lt_one tbs_wsX120 mM1_7_90 dX12_fault_6 ?_
  exact rtM_i C0 hr hlk hR hS h dX12_fault_9

def rm_X12_why : Room := { frames := 0, cells := 0, slots := 0, locals := 0 }
def F_X12_why (S : sSt) (k : Int32 → sSt → Prop) : Prop := ∀ S1, S1 = uI S 0 0 0 0 → k (S1.1 0 0 1) S1
set_option maxHeartbeats 4000000 in
set_option maxRecDepth 100000 in
theorem c_X12_why (l : Launch) {D : va_G} {cy : Nat → ClassId} {b z : Nat} {tx : TX} {S : sSt} {k : Int32 → sSt → Prop} (h : F_X12_why S k) : Met l yX12_why (Cond.code yX12_why cX12_why 1 (some .int) :: TB) rm_X12_why (va_Pc [.ref (b + adM 0 0)] (fun U => RelM D cy b z tx S U U.heap ∧ TxR tx U)) (PiM D cy b z tx k) 0 0 (gA b 12 z) := by
  refine Met.ofW (cc := cX12_why) (maxL := 1) (ret := (some .int)) (by decide) rfl ?_
  intro p e s m args below meth c s₁ B hml hv
  obtain ⟨rfl, hR, hT⟩ := hv
  have C0 : CallFix p m c cX12_why 1 s _ TB RX12 := ⟨B.exec, B.bytes, hml, findClass_of_methodNamed B.named, fun w hw => atoms_spec B.pre w (List.mem_cons_of_mem _ hw)⟩
  have hr := B.returns
  have hlk := B.notSynchronized
  have hx := C0.1
  have hb := C0.2.1
  have hS : va_S (gA b 12 z) s.heap s.heap [] := va_S.rf
  have hl := lv_entry ([.ref (b + adM 0 0)]) (n := 1) (Nat.le_of_ble_eq_true rfl)
  rw [lg_entry_eq]
  generalize (lg_sl ([.ref (b + adM 0 0)]) ++ List.replicate (1 - (lg_sl ([.ref (b + adM 0 0)])).length) Slot.unset).toArray = ls at hl ⊢
  have hl : lv_has ls 1 [(0, .ref (b + adM 0 0))] := hl
  show W p l e rm_X12_why s m _ below meth c s.heap [] 0 0 (MQ below (PiM D cy b z tx k) _ s 0 0 (gA b 12 z)) _
  unfold F_X12_why at h
  refine lv_aload_n hx hb dX12_why_0 rfl (lv_at hl 0 rfl) ?_
  refine lv_iconst (v := 0) hx hb dX12_why_1 (by decide) ?_
  refine pM_0_0 C0 hR hS Nat.zero_lt_one tbs_wsX120 mM1_7_77 dX12_why_2 (fun S1 eS1 H locs hR hS => ?_)
  have h := h S1 eS1
  refine lv_aload_n hx hb dX12_why_5 rfl (lv_at hl 0 rfl) ?_
  refine gM_0_1 C0 hR Nat.zero_lt_one tbs_wsX120 mM1_7_78 dX12_why_6 ?_
  exact rtM_i C0 hr hlk hR hS h dX12_why_9

def rm_X12_uses : Room := { frames := 0, cells := 0, slots := 0, locals := 0 }
def F_X12_uses (S : sSt) (k : sSt → Prop) : Prop := ∀ S1, S1 = uI S 0 0 0 0 → ∀ S2, S2 = uI S1 0 0 11 (S1.1 0 0 9) → ∀ S3, S3 = uI S2 0 0 9 0 → ∀ S4, S4 = uI S3 0 0 10 0 → k S4
set_option maxHeartbeats 4000000 in
set_option maxRecDepth 100000 in
theorem c_X12_uses (l : Launch) {D : va_G} {cy : Nat → ClassId} {b z : Nat} {tx : TX} {S : sSt} {k : sSt → Prop} (h : F_X12_uses S k) : Met l yX12_uses (Cond.code yX12_uses cX12_uses 1 none :: TB) rm_X12_uses (va_Pc [.ref (b + adM 0 0)] (fun U => RelM D cy b z tx S U U.heap ∧ TxR tx U)) (PvM D cy b z tx k) 0 0 (gA b 12 z) := by
  refine Met.ofW (cc := cX12_uses) (maxL := 1) (ret := none) (by decide) rfl ?_
  intro p e s m args below meth c s₁ B hml hv
  obtain ⟨rfl, hR, hT⟩ := hv
  have C0 : CallFix p m c cX12_uses 1 s _ TB RX12 := ⟨B.exec, B.bytes, hml, findClass_of_methodNamed B.named, fun w hw => atoms_spec B.pre w (List.mem_cons_of_mem _ hw)⟩
  have hr := B.returns
  have hlk := B.notSynchronized
  have hx := C0.1
  have hb := C0.2.1
  have hS : va_S (gA b 12 z) s.heap s.heap [] := va_S.rf
  have hl := lv_entry ([.ref (b + adM 0 0)]) (n := 1) (Nat.le_of_ble_eq_true rfl)
  rw [lg_entry_eq]
  generalize (lg_sl ([.ref (b + adM 0 0)]) ++ List.replicate (1 - (lg_sl ([.ref (b + adM 0 0)])).length) Slot.unset).toArray = ls at hl ⊢
  have hl : lv_has ls 1 [(0, .ref (b + adM 0 0))] := hl
  show W p l e rm_X12_uses s m _ below meth c s.heap [] 0 0 (MQ below (PvM D cy b z tx k) _ s 0 0 (gA b 12 z)) _
  unfold F_X12_uses at h
  refine lv_aload_n hx hb dX12_uses_0 rfl (lv_at hl 0 rfl) ?_
  refine lv_iconst (v := 0) hx hb dX12_uses_1 (by decide) ?_
  refine pM_0_0 C0 hR hS Nat.zero_lt_one tbs_wsX120 mM1_7_77 dX12_uses_2 (fun S1 eS1 H locs hR hS => ?_)
  have h := h S1 eS1
  refine lv_aload_n hx hb dX12_uses_5 rfl (lv_at hl 0 rfl) ?_
  refine lv_aload_n hx hb dX12_uses_6 rfl (lv_at hl 0 rfl) ?_
  refine gM_0_9 C0 hR Nat.zero_lt_one tbs_wsX120 mM1_7_86 dX12_uses_7 ?_
  refine pM_0_11 C0 hR hS Nat.zero_lt_one tbs_wsX120 mM1_7_88 dX12_uses_10 (fun S2 eS2 H locs hR hS => ?_)
  have h := h S2 eS2
  refine lv_aload_n hx hb dX12_uses_13 rfl (lv_at hl 0 rfl) ?_
  refine lv_iconst (v := 0) hx hb dX12_uses_14 (by decide) ?_
  refine pM_0_9 C0 hR hS Nat.zero_lt_one tbs_wsX120 mM1_7_86 dX12_uses_15 (fun S3 eS3 H locs hR hS => ?_)
  have h := h S3 eS3
  refine lv_aload_n hx hb dX12_uses_18 rfl (lv_at hl 0 rfl) ?_
  refine lv_iconst (v := 0) hx hb dX12_uses_19 (by decide) ?_
  refine pM_0_10 C0 hR hS Nat.zero_lt_one tbs_wsX120 mM1_7_87 dX12_uses_20 (fun S4 eS4 H locs hR hS => ?_)
  have h := h S4 eS4
  exact rtM_v C0 hr hlk hR hS h dX12_uses_23

def rm_X12_readNumber : Room := { frames := 3, cells := 0, slots := 0, locals := 65 }
def B_X12_readNumber_29 (a4 : Int32) (t1 : Int32) (t2 : Int32) (S : sSt) (k : Int32 → sSt → Prop) : Prop := ix t1 10421 (fun j4 => ∀ S5, S5 = uI S 1 0 j4 t2 → ((a4 < 0 → k 0 S5) ∧ (¬ a4 < 0 → k 1 S5)))
set_option maxHeartbeats 4000000 in
set_option maxRecDepth 100000 in
theorem Bw_X12_readNumber_29 {p : Program} {l : Launch} {e : Env} {s : State} {m : MethodId} {args : Array Value} {below : List Frame} {meth : Method} {c : Code} {D : va_G} {cy : Nat → ClassId} {b z : Nat} {tx : TX} (C0 : CallFix p m c cX12_readNumber 5 s args TB RX12) (hr : meth.sig.returnType = (some .boolean)) (hlk : meth.locks = false) (hT : TxR tx s) {k : Int32 → sSt → Prop} : ∀ (a4 : Int32) (t1 : Int32) (t2 : Int32) (S : sSt) (H : Heap) (locs : List Loc) (ls : Array Slot) , B_X12_readNumber_29 a4 t1 t2 S k → RelM D cy b z tx S s H → va_S (gA b 12 z) s.heap H locs → lv_has ls 5 [(4, .int a4)] → W p l e rm_X12_readNumber s m args below meth c H locs 0 0 (MQ below (PiM D cy b z tx k) args s 0 0 (gA b 12 z)) (F0 m 29 ls [.int t2, .int t1, .ref (b + adM 1 0)]) := by
  intro a4 t1 t2 S H locs ls h hR hS hl
  have hx := C0.1
  have hb := C0.2.1
  unfold B_X12_readNumber_29 at h
  obtain ⟨j4, hj4, ej4, h⟩ := h
  refine sM_1 C0 hR hS Nat.zero_lt_one hj4 ej4 dX12_readNumber_29 (fun S5 eS5 H locs hR hS => ?_)
  have h := h S5 eS5
  refine lv_iload hx hb dX12_readNumber_30 (lv_at hl 0 rfl) ?_
  refine lv_if_lt (tgt := 39) hx hb dX12_readNumber_32 (by decide) (fun c6 => ?_) (fun c6 => ?_)
  · have h := h.1 c6
    refine lv_iconst (v := 0) hx hb dX12_readNumber_39 (by decide) ?_
    exact rtM_z C0 hr hlk hR hS (by decide) h dX12_readNumber_40
  · have h := h.2 c6
    refine lv_iconst (v := 1) hx hb dX12_readNumber_35 (by decide) ?_
    refine lv_goto (tgt := 40) hx hb dX12_readNumber_36 (by decide) ?_
    exact rtM_z C0 hr hlk hR hS (by decide) h dX12_readNumber_40
def F_X12_readNumber (a1 : Int32) (a2 : Int32) (a3 : Int32) (S : sSt) (k : Int32 → sSt → Prop) : Prop := F_X12_number a2 a3 S (fun r1 S2 => ((0 ≤ r1 → B_X12_readNumber_29 r1 a1 r1 S2 k) ∧ (¬ 0 ≤ r1 → ix a1 10421 (fun j7 => B_X12_readNumber_29 r1 a1 (S2.1 1 0 j7) S2 k))))
set_option maxHeartbeats 4000000 in
set_option maxRecDepth 100000 in
theorem c_X12_readNumber (l : Launch) {D : va_G} {cy : Nat → ClassId} {b z : Nat} {tx : TX} {a1 : Int32} {a2 : Int32} {a3 : Int32} {S : sSt} {k : Int32 → sSt → Prop} (h : F_X12_readNumber a1 a2 a3 S k) : Met l yX12_readNumber (Cond.code yX12_readNumber cX12_readNumber 5 (some .boolean) :: TB) rm_X12_readNumber (va_Pc [.ref (b + adM 0 0), .int a1, .int a2, .int a3] (fun U => RelM D cy b z tx S U U.heap ∧ TxR tx U)) (PiM D cy b z tx k) 0 0 (gA b 12 z) := by
  refine Met.ofW (cc := cX12_readNumber) (maxL := 5) (ret := (some .boolean)) (by decide) rfl ?_
  intro p e s m args below meth c s₁ B hml hv
  obtain ⟨rfl, hR, hT⟩ := hv
  have C0 : CallFix p m c cX12_readNumber 5 s _ TB RX12 := ⟨B.exec, B.bytes, hml, findClass_of_methodNamed B.named, fun w hw => atoms_spec B.pre w (List.mem_cons_of_mem _ hw)⟩
  have hr := B.returns
  have hlk := B.notSynchronized
  have hx := C0.1
  have hb := C0.2.1
  have hS : va_S (gA b 12 z) s.heap s.heap [] := va_S.rf
  have hl := lv_entry ([.ref (b + adM 0 0), .int a1, .int a2, .int a3]) (n := 5) (Nat.le_of_ble_eq_true rfl)
  rw [lg_entry_eq]
  generalize (lg_sl ([.ref (b + adM 0 0), .int a1, .int a2, .int a3]) ++ List.replicate (5 - (lg_sl ([.ref (b + adM 0 0), .int a1, .int a2, .int a3])).length) Slot.unset).toArray = ls at hl ⊢
  have hl : lv_has ls 5 [(0, .ref (b + adM 0 0)), (1, .int a1), (2, .int a2), (3, .int a3)] := hl
  show W p l e rm_X12_readNumber s m _ below meth c s.heap [] 0 0 (MQ below (PiM D cy b z tx k) _ s 0 0 (gA b 12 z)) _
  unfold F_X12_readNumber at h
  refine lv_aload_n hx hb dX12_readNumber_0 rfl (lv_at hl 0 rfl) ?_
  refine lv_iload_n hx hb dX12_readNumber_1 rfl (lv_at hl 2 rfl) ?_
  refine lv_iload_n hx hb dX12_readNumber_2 rfl (lv_at hl 3 rfl) ?_
  refine qM_Vi (As := [.int a2, .int a3]) (rest := []) C0 (c_X12_number l h) (cwV 2 C0.2.2.2.2 (tbV mM1_7_211 ⟨mM1_7_213, mpM1_3_5, mM1_1_11, mM1_7_214⟩) rfl rfl rfl (by decide +kernel) ⟨Nat.le_of_ble_eq_true rfl, Nat.le_of_ble_eq_true rfl⟩) (rcM_0 hR Nat.zero_lt_one) hR hT hS rfl hl.1 rfl (Nat.le_of_ble_eq_true rfl) dX12_readNumber_3 ⟨Nat.zero_le _, Nat.zero_le _⟩ (fun r1 S2 H locs h hR hS => ?_)
  refine lv_istore (lv' := [(4, .int r1), (0, .ref (b + adM 0 0)), (1, .int a1), (2, .int a2), (3, .int a3)]) hx hb dX12_readNumber_6 hl (by decide) rfl (fun ls hl => ?_)
  refine lv_aload_n hx hb dX12_readNumber_8 rfl (lv_at hl 1 rfl) ?_
  refine gM_0_2 C0 hR Nat.zero_lt_one tbs_wsX120 mM1_7_79 dX12_readNumber_9 ?_
  refine lv_iload_n hx hb dX12_readNumber_12 rfl (lv_at hl 2 rfl) ?_
  refine lv_iload hx hb dX12_readNumber_13 (lv_at hl 0 rfl) ?_
  refine lv_if_ge (tgt := 27) hx hb dX12_readNumber_15 (by decide) (fun c3 => ?_) (fun c3 => ?_)
  · have h := h.1 c3
    refine lv_iload hx hb dX12_readNumber_27 (lv_at hl 0 rfl) ?_
    exact Bw_X12_readNumber_29 C0 hr hlk hT r1 a1 r1 S2 _ _ _ h hR hS (lv_sub hl [0] rfl)
  · have h := h.2 c3
    refine lv_aload_n hx hb dX12_readNumber_18 rfl (lv_at hl 1 rfl) ?_
    refine gM_0_2 C0 hR Nat.zero_lt_one tbs_wsX120 mM1_7_79 dX12_readNumber_19 ?_
    refine lv_iload_n hx hb dX12_readNumber_22 rfl (lv_at hl 2 rfl) ?_
    obtain ⟨j7, hj7, ej7, h⟩ := h
    refine lM_1 C0 hR Nat.zero_lt_one hj7 ej7 dX12_readNumber_23 ?_
    refine lv_goto (tgt := 29) hx hb dX12_readNumber_24 (by decide) ?_
    exact Bw_X12_readNumber_29 C0 hr hlk hT r1 a1 (S2.1 1 0 j7) S2 _ _ _ h hR hS (lv_sub hl [0] rfl)

def rm_X12_readParallel : Room := { frames := 4, cells := 0, slots := 0, locals := 89 }
def F_X12_readParallel (S : sSt) (k : Int32 → sSt → Prop) : Prop := F_X12_number 0 5 S (fun r1 S2 => ((r1 < 0 → k 0 S2) ∧ (¬ r1 < 0 → F_X12_readNumber (15 + r1) 1 4 S2 (fun r4 S5 => ((r4 = 0 → k 0 S5) ∧ (¬ r4 = 0 → k 1 S5))))))
set_option maxHeartbeats 4000000 in
set_option maxRecDepth 100000 in
theorem c_X12_readParallel (l : Launch) {D : va_G} {cy : Nat → ClassId} {b z : Nat} {tx : TX} {S : sSt} {k : Int32 → sSt → Prop} (h : F_X12_readParallel S k) : Met l yX12_readParallel (Cond.code yX12_readParallel cX12_readParallel 2 (some .boolean) :: TB) rm_X12_readParallel (va_Pc [.ref (b + adM 0 0)] (fun U => RelM D cy b z tx S U U.heap ∧ TxR tx U)) (PiM D cy b z tx k) 0 0 (gA b 12 z) := by
  refine Met.ofW (cc := cX12_readParallel) (maxL := 2) (ret := (some .boolean)) (by decide) rfl ?_
  intro p e s m args below meth c s₁ B hml hv
  obtain ⟨rfl, hR, hT⟩ := hv
  have C0 : CallFix p m c cX12_readParallel 2 s _ TB RX12 := ⟨B.exec, B.bytes, hml, findClass_of_methodNamed B.named, fun w hw => atoms_spec B.pre w (List.mem_cons_of_mem _ hw)⟩
  have hr := B.returns
  have hlk := B.notSynchronized
  have hx := C0.1
  have hb := C0.2.1
  have hS : va_S (gA b 12 z) s.heap s.heap [] := va_S.rf
  have hl := lv_entry ([.ref (b + adM 0 0)]) (n := 2) (Nat.le_of_ble_eq_true rfl)
  rw [lg_entry_eq]
  generalize (lg_sl ([.ref (b + adM 0 0)]) ++ List.replicate (2 - (lg_sl ([.ref (b + adM 0 0)])).length) Slot.unset).toArray = ls at hl ⊢
  have hl : lv_has ls 2 [(0, .ref (b + adM 0 0))] := hl
  show W p l e rm_X12_readParallel s m _ below meth c s.heap [] 0 0 (MQ below (PiM D cy b z tx k) _ s 0 0 (gA b 12 z)) _
  unfold F_X12_readParallel at h
  refine lv_aload_n hx hb dX12_readParallel_0 rfl (lv_at hl 0 rfl) ?_
  refine lv_iconst (v := 0) hx hb dX12_readParallel_1 (by decide) ?_
  refine lv_iconst (v := 5) hx hb dX12_readParallel_2 (by decide) ?_
  refine qM_Vi (As := [.int 0, .int 5]) (rest := []) C0 (c_X12_number l h) (cwV 2 C0.2.2.2.2 (tbV mM1_7_211 ⟨mM1_7_213, mpM1_3_5, mM1_1_11, mM1_7_214⟩) rfl rfl rfl (by decide +kernel) ⟨Nat.le_of_ble_eq_true rfl, Nat.le_of_ble_eq_true rfl⟩) (rcM_0 hR Nat.zero_lt_one) hR hT hS rfl hl.1 rfl (Nat.le_of_ble_eq_true rfl) dX12_readParallel_3 ⟨Nat.zero_le _, Nat.zero_le _⟩ (fun r1 S2 H locs h hR hS => ?_)
  refine lv_istore_n (lv' := [(1, .int r1), (0, .ref (b + adM 0 0))]) hx hb dX12_readParallel_6 rfl hl (by decide) rfl (fun ls hl => ?_)
  refine lv_iload_n hx hb dX12_readParallel_7 rfl (lv_at hl 0 rfl) ?_
  refine lv_if_lt (tgt := 28) hx hb dX12_readParallel_8 (by decide) (fun c3 => ?_) (fun c3 => ?_)
  · have h := h.1 c3
    refine lv_iconst (v := 0) hx hb dX12_readParallel_28 (by decide) ?_
    exact rtM_z C0 hr hlk hR hS (by decide) h dX12_readParallel_29
  · have h := h.2 c3
    refine lv_aload_n hx hb dX12_readParallel_11 rfl (lv_at hl 1 rfl) ?_
    refine lv_bipush (v := 15) hx hb dX12_readParallel_12 (by decide) ?_
    refine lv_iload_n hx hb dX12_readParallel_14 rfl (lv_at hl 0 rfl) ?_
    refine lv_iadd hx hb dX12_readParallel_15 ?_
    refine lv_iconst (v := 1) hx hb dX12_readParallel_16 (by decide) ?_
    refine lv_iconst (v := 4) hx hb dX12_readParallel_17 (by decide) ?_
    refine qM_Vi (As := [.int (15 + r1), .int 1, .int 4]) (rest := []) C0 (c_X12_readNumber l h) (cwV 3 C0.2.2.2.2 (tbV mM1_8_1 ⟨mM1_8_3, mpM1_3_10, mM1_1_11, mM1_8_4⟩) rfl rfl rfl (by decide +kernel) ⟨Nat.le_of_ble_eq_true rfl, Nat.le_of_ble_eq_true rfl⟩) (rcM_0 hR Nat.zero_lt_one) hR hT hS rfl hl.1 rfl (Nat.le_of_ble_eq_true rfl) dX12_readParallel_18 ⟨Nat.zero_le _, Nat.zero_le _⟩ (fun r4 S5 H locs h hR hS => ?_)
    refine lv_if_eq (tgt := 28) hx hb dX12_readParallel_21 (by decide) (fun c6 => ?_) (fun c6 => ?_)
    · have h := h.1 c6
      refine lv_iconst (v := 0) hx hb dX12_readParallel_28 (by decide) ?_
      exact rtM_z C0 hr hlk hR hS (by decide) h dX12_readParallel_29
    · have h := h.2 c6
      refine lv_iconst (v := 1) hx hb dX12_readParallel_24 (by decide) ?_
      refine lv_goto (tgt := 29) hx hb dX12_readParallel_25 (by decide) ?_
      exact rtM_z C0 hr hlk hR hS (by decide) h dX12_readParallel_29

def rm_X12_slotNow : Room := { frames := 1, cells := 0, slots := 0, locals := 21 }
def F_X12_slotNow (a1 : Int32) (S : sSt) (k : Int32 → sSt → Prop) : Prop := F_X12_planAt a1 1 S (fun r1 S2 => ix r1 10421 (fun j3 => ∀ x4 : Int32, x4 = ((S.1 1 0 4) - (S2.1 1 0 j3)) → ((0 ≤ x4 → F_X12_planAt a1 0 S2 (fun r6 S7 => ix r6 10421 (fun j8 => (¬ (S7.1 1 0 j8) = 0) ∧ (k (x4 / (S7.1 1 0 j8)) S7)))) ∧ (¬ 0 ≤ x4 → k (-1) S2))))
set_option maxHeartbeats 4000000 in
set_option maxRecDepth 100000 in
theorem c_X12_slotNow (l : Launch) {D : va_G} {cy : Nat → ClassId} {b z : Nat} {tx : TX} {a1 : Int32} {S : sSt} {k : Int32 → sSt → Prop} (h : F_X12_slotNow a1 S k) : Met l yX12_slotNow (Cond.code yX12_slotNow cX12_slotNow 3 (some .int) :: TB) rm_X12_slotNow (va_Pc [.ref (b + adM 0 0), .int a1] (fun U => RelM D cy b z tx S U U.heap ∧ TxR tx U)) (PiM D cy b z tx k) 0 0 (gA b 12 z) := by
  refine Met.ofW (cc := cX12_slotNow) (maxL := 3) (ret := (some .int)) (by decide) rfl ?_
  intro p e s m args below meth c s₁ B hml hv
  obtain ⟨rfl, hR, hT⟩ := hv
  have C0 : CallFix p m c cX12_slotNow 3 s _ TB RX12 := ⟨B.exec, B.bytes, hml, findClass_of_methodNamed B.named, fun w hw => atoms_spec B.pre w (List.mem_cons_of_mem _ hw)⟩
  have hr := B.returns
  have hlk := B.notSynchronized
  have hx := C0.1
  have hb := C0.2.1
  have hS : va_S (gA b 12 z) s.heap s.heap [] := va_S.rf
  have hl := lv_entry ([.ref (b + adM 0 0), .int a1]) (n := 3) (Nat.le_of_ble_eq_true rfl)
  rw [lg_entry_eq]
  generalize (lg_sl ([.ref (b + adM 0 0), .int a1]) ++ List.replicate (3 - (lg_sl ([.ref (b + adM 0 0), .int a1])).length) Slot.unset).toArray = ls at hl ⊢
  have hl : lv_has ls 3 [(0, .ref (b + adM 0 0)), (1, .int a1)] := hl
  show W p l e rm_X12_slotNow s m _ below meth c s.heap [] 0 0 (MQ below (PiM D cy b z tx k) _ s 0 0 (gA b 12 z)) _
  unfold F_X12_slotNow at h
  refine lv_aload_n hx hb dX12_slotNow_0 rfl (lv_at hl 0 rfl) ?_
  refine gM_0_2 C0 hR Nat.zero_lt_one tbs_wsX120 mM1_7_79 dX12_slotNow_1 ?_
  refine lv_iconst (v := 4) hx hb dX12_slotNow_4 (by decide) ?_
  refine lM_1 C0 hR Nat.zero_lt_one (by decide) rfl dX12_slotNow_5 ?_
  refine lv_aload_n hx hb dX12_slotNow_6 rfl (lv_at hl 0 rfl) ?_
  refine gM_0_2 C0 hR Nat.zero_lt_one tbs_wsX120 mM1_7_79 dX12_slotNow_7 ?_
  refine lv_iload_n hx hb dX12_slotNow_10 rfl (lv_at hl 1 rfl) ?_
  refine lv_iconst (v := 1) hx hb dX12_slotNow_11 (by decide) ?_
  refine qM_Si (As := [.int a1, .int 1]) (rest := [.ref (b + adM 1 0), .int (S.1 1 0 4)]) C0 (c_X12_planAt l h) (va_cwS 2 C0.2.2.2.2 (tbS mM1_8_13 ⟨mM1_8_14, mM1_1_11, mM1_8_15⟩) rfl rfl rfl (by decide +kernel) ⟨Nat.le_of_ble_eq_true rfl, Nat.le_of_ble_eq_true rfl⟩) hR hT hS rfl hl.1 rfl (Nat.le_of_ble_eq_true rfl) dX12_slotNow_12 ⟨Nat.zero_le _, Nat.zero_le _⟩ (fun r1 S2 H locs h hR hS => ?_)
  obtain ⟨j3, hj3, ej3, h⟩ := h
  refine lM_1 C0 hR Nat.zero_lt_one hj3 ej3 dX12_slotNow_15 ?_
  refine lv_isub hx hb dX12_slotNow_16 ?_
  refine lv_topi (fun x4 ex4 => ?_)
  have h := h x4 ex4
  refine lv_istore_n (lv' := [(2, .int x4), (0, .ref (b + adM 0 0)), (1, .int a1)]) hx hb dX12_slotNow_17 rfl hl (by decide) rfl (fun ls hl => ?_)
  refine lv_iload_n hx hb dX12_slotNow_18 rfl (lv_at hl 0 rfl) ?_
  refine lv_if_ge (tgt := 26) hx hb dX12_slotNow_19 (by decide) (fun c5 => ?_) (fun c5 => ?_)
  · have h := h.1 c5
    refine lv_iload_n hx hb dX12_slotNow_26 rfl (lv_at hl 0 rfl) ?_
    refine lv_aload_n hx hb dX12_slotNow_27 rfl (lv_at hl 1 rfl) ?_
    refine gM_0_2 C0 hR Nat.zero_lt_one tbs_wsX120 mM1_7_79 dX12_slotNow_28 ?_
    refine lv_iload_n hx hb dX12_slotNow_31 rfl (lv_at hl 2 rfl) ?_
    refine lv_iconst (v := 0) hx hb dX12_slotNow_32 (by decide) ?_
    refine qM_Si (As := [.int a1, .int 0]) (rest := [.ref (b + adM 1 0), .int x4]) C0 (c_X12_planAt l h) (va_cwS 2 C0.2.2.2.2 (tbS mM1_8_13 ⟨mM1_8_14, mM1_1_11, mM1_8_15⟩) rfl rfl rfl (by decide +kernel) ⟨Nat.le_of_ble_eq_true rfl, Nat.le_of_ble_eq_true rfl⟩) hR hT hS rfl hl.1 rfl (Nat.le_of_ble_eq_true rfl) dX12_slotNow_33 ⟨Nat.zero_le _, Nat.zero_le _⟩ (fun r6 S7 H locs h hR hS => ?_)
    obtain ⟨j8, hj8, ej8, h⟩ := h
    refine lM_1 C0 hR Nat.zero_lt_one hj8 ej8 dX12_slotNow_36 ?_
    obtain ⟨n9, h⟩ := h
    refine lv_idiv hx hb dX12_slotNow_37 n9 ?_
    exact rtM_i C0 hr hlk hR hS h dX12_slotNow_38
  · have h := h.2 c5
    refine lv_iconst (v := (-1)) hx hb dX12_slotNow_22 (by decide) ?_
    refine lv_goto (tgt := 38) hx hb dX12_slotNow_23 (by decide) ?_
    exact rtM_i C0 hr hlk hR hS h dX12_slotNow_38

def rm_X12_signRead : Room := { frames := 3, cells := 0, slots := 0, locals := 63 }
def F_X12_signRead (S : sSt) (k : Int32 → sSt → Prop) : Prop := F_X12_sign 61 S (fun r1 S2 => ((r1 = 0 → F_X12_sign 33 S2 (fun r4 S5 => ((r4 = 0 → F_X12_sign 60 S5 (fun r7 S8 => ((r7 = 0 → F_X12_sign 62 S8 (fun r10 S11 => ((r10 = 0 → k (-1) S11) ∧ (¬ r10 = 0 → k 3 S11)))) ∧ (¬ r7 = 0 → k 2 S8)))) ∧ (¬ r4 = 0 → k 1 S5)))) ∧ (¬ r1 = 0 → k 0 S2)))
set_option maxHeartbeats 4000000 in
set_option maxRecDepth 100000 in
theorem c_X12_signRead (l : Launch) {D : va_G} {cy : Nat → ClassId} {b z : Nat} {tx : TX} {S : sSt} {k : Int32 → sSt → Prop} (h : F_X12_signRead S k) : Met l yX12_signRead (Cond.code yX12_signRead cX12_signRead 1 (some .int) :: TB) rm_X12_signRead (va_Pc [.ref (b + adM 0 0)] (fun U => RelM D cy b z tx S U U.heap ∧ TxR tx U)) (PiM D cy b z tx k) 0 0 (gA b 12 z) := by
  refine Met.ofW (cc := cX12_signRead) (maxL := 1) (ret := (some .int)) (by decide) rfl ?_
  intro p e s m args below meth c s₁ B hml hv
  obtain ⟨rfl, hR, hT⟩ := hv
  have C0 : CallFix p m c cX12_signRead 1 s _ TB RX12 := ⟨B.exec, B.bytes, hml, findClass_of_methodNamed B.named, fun w hw => atoms_spec B.pre w (List.mem_cons_of_mem _ hw)⟩
  have hr := B.returns
  have hlk := B.notSynchronized
  have hx := C0.1
  have hb := C0.2.1
  have hS : va_S (gA b 12 z) s.heap s.heap [] := va_S.rf
  have hl := lv_entry ([.ref (b + adM 0 0)]) (n := 1) (Nat.le_of_ble_eq_true rfl)
  rw [lg_entry_eq]
  generalize (lg_sl ([.ref (b + adM 0 0)]) ++ List.replicate (1 - (lg_sl ([.ref (b + adM 0 0)])).length) Slot.unset).toArray = ls at hl ⊢
  have hl : lv_has ls 1 [(0, .ref (b + adM 0 0))] := hl
  show W p l e rm_X12_signRead s m _ below meth c s.heap [] 0 0 (MQ below (PiM D cy b z tx k) _ s 0 0 (gA b 12 z)) _
  unfold F_X12_signRead at h
  refine lv_aload_n hx hb dX12_signRead_0 rfl (lv_at hl 0 rfl) ?_
  refine lv_bipush (v := 61) hx hb dX12_signRead_1 (by decide) ?_
  refine qM_Vi (As := [.int 61]) (rest := []) C0 (c_X12_sign l h) (cwV 1 C0.2.2.2.2 (tbV mM1_8_67 ⟨mM1_8_69, mpM1_4_4, mM1_1_11, mM1_8_70⟩) rfl rfl rfl (by decide +kernel) ⟨Nat.le_of_ble_eq_true rfl, Nat.le_of_ble_eq_true rfl⟩) (rcM_0 hR Nat.zero_lt_one) hR hT hS rfl hl.1 rfl (Nat.le_of_ble_eq_true rfl) dX12_signRead_3 ⟨Nat.zero_le _, Nat.zero_le _⟩ (fun r1 S2 H locs h hR hS => ?_)
  refine lv_if_eq (tgt := 13) hx hb dX12_signRead_6 (by decide) (fun c3 => ?_) (fun c3 => ?_)
  · have h := h.1 c3
    refine lv_aload_n hx hb dX12_signRead_13 rfl (lv_at hl 0 rfl) ?_
    refine lv_bipush (v := 33) hx hb dX12_signRead_14 (by decide) ?_
    refine qM_Vi (As := [.int 33]) (rest := []) C0 (c_X12_sign l h) (cwV 1 C0.2.2.2.2 (tbV mM1_8_67 ⟨mM1_8_69, mpM1_4_4, mM1_1_11, mM1_8_70⟩) rfl rfl rfl (by decide +kernel) ⟨Nat.le_of_ble_eq_true rfl, Nat.le_of_ble_eq_true rfl⟩) (rcM_0 hR Nat.zero_lt_one) hR hT hS rfl hl.1 rfl (Nat.le_of_ble_eq_true rfl) dX12_signRead_16 ⟨Nat.zero_le _, Nat.zero_le _⟩ (fun r4 S5 H locs h hR hS => ?_)
    refine lv_if_eq (tgt := 26) hx hb dX12_signRead_19 (by decide) (fun c6 => ?_) (fun c6 => ?_)
    · have h := h.1 c6
      refine lv_aload_n hx hb dX12_signRead_26 rfl (lv_at hl 0 rfl) ?_
      refine lv_bipush (v := 60) hx hb dX12_signRead_27 (by decide) ?_
      refine qM_Vi (As := [.int 60]) (rest := []) C0 (c_X12_sign l h) (cwV 1 C0.2.2.2.2 (tbV mM1_8_67 ⟨mM1_8_69, mpM1_4_4, mM1_1_11, mM1_8_70⟩) rfl rfl rfl (by decide +kernel) ⟨Nat.le_of_ble_eq_true rfl, Nat.le_of_ble_eq_true rfl⟩) (rcM_0 hR Nat.zero_lt_one) hR hT hS rfl hl.1 rfl (Nat.le_of_ble_eq_true rfl) dX12_signRead_29 ⟨Nat.zero_le _, Nat.zero_le _⟩ (fun r7 S8 H locs h hR hS => ?_)
      refine lv_if_eq (tgt := 39) hx hb dX12_signRead_32 (by decide) (fun c9 => ?_) (fun c9 => ?_)
      · have h := h.1 c9
        refine lv_aload_n hx hb dX12_signRead_39 rfl (lv_at hl 0 rfl) ?_
        refine lv_bipush (v := 62) hx hb dX12_signRead_40 (by decide) ?_
        refine qM_Vi (As := [.int 62]) (rest := []) C0 (c_X12_sign l h) (cwV 1 C0.2.2.2.2 (tbV mM1_8_67 ⟨mM1_8_69, mpM1_4_4, mM1_1_11, mM1_8_70⟩) rfl rfl rfl (by decide +kernel) ⟨Nat.le_of_ble_eq_true rfl, Nat.le_of_ble_eq_true rfl⟩) (rcM_0 hR Nat.zero_lt_one) hR hT hS rfl hl.1 rfl (Nat.le_of_ble_eq_true rfl) dX12_signRead_42 ⟨Nat.zero_le _, Nat.zero_le _⟩ (fun r10 S11 H locs h hR hS => ?_)
        refine lv_if_eq (tgt := 52) hx hb dX12_signRead_45 (by decide) (fun c12 => ?_) (fun c12 => ?_)
        · have h := h.1 c12
          refine lv_iconst (v := (-1)) hx hb dX12_signRead_52 (by decide) ?_
          exact rtM_i C0 hr hlk hR hS h dX12_signRead_53
        · have h := h.2 c12
          refine lv_iconst (v := 3) hx hb dX12_signRead_48 (by decide) ?_
          refine lv_goto (tgt := 53) hx hb dX12_signRead_49 (by decide) ?_
          exact rtM_i C0 hr hlk hR hS h dX12_signRead_53
      · have h := h.2 c9
        refine lv_iconst (v := 2) hx hb dX12_signRead_35 (by decide) ?_
        refine lv_goto (tgt := 53) hx hb dX12_signRead_36 (by decide) ?_
        exact rtM_i C0 hr hlk hR hS h dX12_signRead_53
    · have h := h.2 c6
      refine lv_iconst (v := 1) hx hb dX12_signRead_22 (by decide) ?_
      refine lv_goto (tgt := 53) hx hb dX12_signRead_23 (by decide) ?_
      exact rtM_i C0 hr hlk hR hS h dX12_signRead_53
  · have h := h.2 c3
    refine lv_iconst (v := 0) hx hb dX12_signRead_9 (by decide) ?_
    refine lv_goto (tgt := 53) hx hb dX12_signRead_10 (by decide) ?_
    exact rtM_i C0 hr hlk hR hS h dX12_signRead_53

def rm_X12_lockedBy : Room := { frames := 2, cells := 0, slots := 0, locals := 42 }
def B_X12_lockedBy_34 (kk4 : Int32 → Int32 → Int32 → sSt → Prop) (a1 : Int32) (a3 : Int32) (t0 : Int32) (t1 : Int32) (S : sSt) (k : Int32 → sSt → Prop) : Prop := ∀ x5 : Int32, x5 = (t0 + t1) → ∀ x6 : Int32, x6 = a3 + 1 → kk4 a1 x5 x6 S
set_option maxHeartbeats 4000000 in
set_option maxRecDepth 100000 in
theorem Bw_X12_lockedBy_34 {p : Program} {l : Launch} {e : Env} {s : State} {m : MethodId} {args : Array Value} {below : List Frame} {meth : Method} {c : Code} {D : va_G} {cy : Nat → ClassId} {b z : Nat} {tx : TX} (C0 : CallFix p m c cX12_lockedBy 4 s args TB RX12) (hr : meth.sig.returnType = (some .int)) (hlk : meth.locks = false) (hT : TxR tx s) {k : Int32 → sSt → Prop} {kk4 : Int32 → Int32 → Int32 → sSt → Prop} (ih4 : ∀ (a1 : Int32) (a2 : Int32) (a3 : Int32) (S : sSt) (H : Heap) (locs : List Loc) (ls : Array Slot) , kk4 a1 a2 a3 S → RelM D cy b z tx S s H → va_S (gA b 12 z) s.heap H locs → lv_has ls 4 [(0, .ref (b + adM 0 0)), (1, .int a1), (2, .int a2), (3, .int a3)] → W p l e rm_X12_lockedBy s m args below meth c H locs 0 0 (MQ below (PiM D cy b z tx k) args s 0 0 (gA b 12 z)) (F0 m 4 ls [])) : ∀ (a1 : Int32) (a3 : Int32) (t0 : Int32) (t1 : Int32) (S : sSt) (H : Heap) (locs : List Loc) (ls : Array Slot) , B_X12_lockedBy_34 kk4 a1 a3 t0 t1 S k → RelM D cy b z tx S s H → va_S (gA b 12 z) s.heap H locs → lv_has ls 4 [(0, .ref (b + adM 0 0)), (1, .int a1), (3, .int a3)] → W p l e rm_X12_lockedBy s m args below meth c H locs 0 0 (MQ below (PiM D cy b z tx k) args s 0 0 (gA b 12 z)) (F0 m 34 ls [.int t1, .int t0]) := by
  intro a1 a3 t0 t1 S H locs ls h hR hS hl
  have hx := C0.1
  have hb := C0.2.1
  unfold B_X12_lockedBy_34 at h
  refine lv_iadd hx hb dX12_lockedBy_34 ?_
  refine lv_topi (fun x5 ex5 => ?_)
  have h := h x5 ex5
  refine lv_istore_n (lv' := [(2, .int x5), (0, .ref (b + adM 0 0)), (1, .int a1), (3, .int a3)]) hx hb dX12_lockedBy_35 rfl hl (by decide) rfl (fun ls hl => ?_)
  obtain ⟨x6, ex6⟩ : ∃ x6 : Int32, x6 = a3 + 1 := ⟨_, rfl⟩
  have h := h x6 ex6
  refine w_iinc (v0 := 1) (lv' := [(3, .int x6), (2, .int x5), (0, .ref (b + adM 0 0)), (1, .int a1)]) C0 dX12_lockedBy_36 hl (k := 3) rfl (by decide) (by decide) x6 ex6 rfl (fun ls hl => ?_)
  refine lv_goto (tgt := 4) hx hb dX12_lockedBy_39 (by decide) ?_
  exact ih4 a1 x5 x6 S _ _ _  h hR hS (lv_sub hl [2, 3, 1, 0] rfl)
def B_X12_lockedBy_33 (kk4 : Int32 → Int32 → Int32 → sSt → Prop) (a1 : Int32) (a3 : Int32) (t0 : Int32) (S : sSt) (k : Int32 → sSt → Prop) : Prop := B_X12_lockedBy_34 kk4 a1 a3 t0 0 S k
set_option maxHeartbeats 4000000 in
set_option maxRecDepth 100000 in
theorem Bw_X12_lockedBy_33 {p : Program} {l : Launch} {e : Env} {s : State} {m : MethodId} {args : Array Value} {below : List Frame} {meth : Method} {c : Code} {D : va_G} {cy : Nat → ClassId} {b z : Nat} {tx : TX} (C0 : CallFix p m c cX12_lockedBy 4 s args TB RX12) (hr : meth.sig.returnType = (some .int)) (hlk : meth.locks = false) (hT : TxR tx s) {k : Int32 → sSt → Prop} {kk4 : Int32 → Int32 → Int32 → sSt → Prop} (ih4 : ∀ (a1 : Int32) (a2 : Int32) (a3 : Int32) (S : sSt) (H : Heap) (locs : List Loc) (ls : Array Slot) , kk4 a1 a2 a3 S → RelM D cy b z tx S s H → va_S (gA b 12 z) s.heap H locs → lv_has ls 4 [(0, .ref (b + adM 0 0)), (1, .int a1), (2, .int a2), (3, .int a3)] → W p l e rm_X12_lockedBy s m args below meth c H locs 0 0 (MQ below (PiM D cy b z tx k) args s 0 0 (gA b 12 z)) (F0 m 4 ls [])) : ∀ (a1 : Int32) (a3 : Int32) (t0 : Int32) (S : sSt) (H : Heap) (locs : List Loc) (ls : Array Slot) , B_X12_lockedBy_33 kk4 a1 a3 t0 S k → RelM D cy b z tx S s H → va_S (gA b 12 z) s.heap H locs → lv_has ls 4 [(0, .ref (b + adM 0 0)), (1, .int a1), (3, .int a3)] → W p l e rm_X12_lockedBy s m args below meth c H locs 0 0 (MQ below (PiM D cy b z tx k) args s 0 0 (gA b 12 z)) (F0 m 33 ls [.int t0]) := by
  intro a1 a3 t0 S H locs ls h hR hS hl
  have hx := C0.1
  have hb := C0.2.1
  unfold B_X12_lockedBy_33 at h
  refine lv_iconst (v := 0) hx hb dX12_lockedBy_33 (by decide) ?_
  exact Bw_X12_lockedBy_34 C0 hr hlk hT ih4 a1 a3 t0 0 S _ _ _ h hR hS (lv_sub hl [0, 1, 2] rfl)
def Bb_X12_lockedBy_4 (kk4 : Int32 → Int32 → Int32 → sSt → Prop) (a1 : Int32) (a2 : Int32) (a3 : Int32) (S : sSt) (k : Int32 → sSt → Prop) : Prop := ((24 ≤ a3 → k a2 S) ∧ (¬ 24 ≤ a3 → F_X12_numberOf a3 S (fun r2 S3 => ((r2 = (-1) → B_X12_lockedBy_33 kk4 a1 a3 a2 S3 k) ∧ (¬ r2 = (-1) → F_X12_lockerOf a3 S3 (fun r7 S8 => ((¬ r7 = a1 → B_X12_lockedBy_33 kk4 a1 a3 a2 S8 k) ∧ (r7 = a1 → B_X12_lockedBy_34 kk4 a1 a3 a2 1 S8 k))))))))
set_option maxHeartbeats 4000000 in
set_option maxRecDepth 100000 in
theorem Bbw_X12_lockedBy_4 {p : Program} {l : Launch} {e : Env} {s : State} {m : MethodId} {args : Array Value} {below : List Frame} {meth : Method} {c : Code} {D : va_G} {cy : Nat → ClassId} {b z : Nat} {tx : TX} (C0 : CallFix p m c cX12_lockedBy 4 s args TB RX12) (hr : meth.sig.returnType = (some .int)) (hlk : meth.locks = false) (hT : TxR tx s) {k : Int32 → sSt → Prop} {kk4 : Int32 → Int32 → Int32 → sSt → Prop} (ih4 : ∀ (a1 : Int32) (a2 : Int32) (a3 : Int32) (S : sSt) (H : Heap) (locs : List Loc) (ls : Array Slot) , kk4 a1 a2 a3 S → RelM D cy b z tx S s H → va_S (gA b 12 z) s.heap H locs → lv_has ls 4 [(0, .ref (b + adM 0 0)), (1, .int a1), (2, .int a2), (3, .int a3)] → W p l e rm_X12_lockedBy s m args below meth c H locs 0 0 (MQ below (PiM D cy b z tx k) args s 0 0 (gA b 12 z)) (F0 m 4 ls [])) : ∀ (a1 : Int32) (a2 : Int32) (a3 : Int32) (S : sSt) (H : Heap) (locs : List Loc) (ls : Array Slot) , Bb_X12_lockedBy_4 kk4 a1 a2 a3 S k → RelM D cy b z tx S s H → va_S (gA b 12 z) s.heap H locs → lv_has ls 4 [(0, .ref (b + adM 0 0)), (1, .int a1), (2, .int a2), (3, .int a3)] → W p l e rm_X12_lockedBy s m args below meth c H locs 0 0 (MQ below (PiM D cy b z tx k) args s 0 0 (gA b 12 z)) (F0 m 4 ls []) := by
  intro a1 a2 a3 S H locs ls h hR hS hl
  have hx := C0.1
  have hb := C0.2.1
  unfold Bb_X12_lockedBy_4 at h
  refine lv_iload_n hx hb dX12_lockedBy_4 rfl (lv_at hl 3 rfl) ?_
  refine lv_bipush (v := 24) hx hb dX12_lockedBy_5 (by decide) ?_
  refine lv_icmp_ge (tgt := 42) hx hb dX12_lockedBy_7 (by decide) (fun c1 => ?_) (fun c1 => ?_)
  · have h := h.1 c1
    refine lv_iload_n hx hb dX12_lockedBy_42 rfl (lv_at hl 2 rfl) ?_
    exact rtM_i C0 hr hlk hR hS h dX12_lockedBy_43
  · have h := h.2 c1
    refine lv_iload_n hx hb dX12_lockedBy_10 rfl (lv_at hl 2 rfl) ?_
    refine lv_aload_n hx hb dX12_lockedBy_11 rfl (lv_at hl 0 rfl) ?_
    refine lv_iload_n hx hb dX12_lockedBy_12 rfl (lv_at hl 3 rfl) ?_
    refine qM_Vi (As := [.int a3]) (rest := [.int a2]) C0 (c_X12_numberOf l h) (cwV 1 C0.2.2.2.2 (tbV mM1_7_202 ⟨mM1_7_204, mpM1_3_3, mM1_1_11, mM1_7_205⟩) rfl rfl rfl (by decide +kernel) ⟨Nat.le_of_ble_eq_true rfl, Nat.le_of_ble_eq_true rfl⟩) (rcM_0 hR Nat.zero_lt_one) hR hT hS rfl hl.1 rfl (Nat.le_of_ble_eq_true rfl) dX12_lockedBy_13 ⟨Nat.zero_le _, Nat.zero_le _⟩ (fun r2 S3 H locs h hR hS => ?_)
    refine lv_iconst (v := (-1)) hx hb dX12_lockedBy_16 (by decide) ?_
    refine lv_icmp_eq (tgt := 33) hx hb dX12_lockedBy_17 (by decide) (fun c4 => ?_) (fun c4 => ?_)
    · have h := h.1 c4
      exact Bw_X12_lockedBy_33 C0 hr hlk hT ih4 a1 a3 a2 S3 _ _ _ h hR hS (lv_sub hl [0, 1, 3] rfl)
    · have h := h.2 c4
      refine lv_aload_n hx hb dX12_lockedBy_20 rfl (lv_at hl 0 rfl) ?_
      refine lv_iload_n hx hb dX12_lockedBy_21 rfl (lv_at hl 3 rfl) ?_
      refine qM_Vi (As := [.int a3]) (rest := [.int a2]) C0 (c_X12_lockerOf l h) (cwV 1 C0.2.2.2.2 (tbV mM1_8_106 ⟨mM1_8_108, mpM1_4_10, mM1_1_11, mM1_8_109⟩) rfl rfl rfl (by decide +kernel) ⟨Nat.le_of_ble_eq_true rfl, Nat.le_of_ble_eq_true rfl⟩) (rcM_0 hR Nat.zero_lt_one) hR hT hS rfl hl.1 rfl (Nat.le_of_ble_eq_true rfl) dX12_lockedBy_22 ⟨Nat.zero_le _, Nat.zero_le _⟩ (fun r7 S8 H locs h hR hS => ?_)
      refine lv_iload_n hx hb dX12_lockedBy_25 rfl (lv_at hl 1 rfl) ?_
      refine lv_icmp_ne (tgt := 33) hx hb dX12_lockedBy_26 (by decide) (fun c9 => ?_) (fun c9 => ?_)
      · have h := h.1 c9
        exact Bw_X12_lockedBy_33 C0 hr hlk hT ih4 a1 a3 a2 S8 _ _ _ h hR hS (lv_sub hl [0, 1, 3] rfl)
      · have h := h.2 c9
        refine lv_iconst (v := 1) hx hb dX12_lockedBy_29 (by decide) ?_
        refine lv_goto (tgt := 34) hx hb dX12_lockedBy_30 (by decide) ?_
        exact Bw_X12_lockedBy_34 C0 hr hlk hT ih4 a1 a3 a2 1 S8 _ _ _ h hR hS (lv_sub hl [0, 1, 3] rfl)
def B_X12_lockedBy_4 (n9 : Nat) (a1 : Int32) (a2 : Int32) (a3 : Int32) (S : sSt) (k : Int32 → sSt → Prop) : Prop := (Nat.rec (motive := fun _ => Int32 → Int32 → Int32 → sSt → Prop) (fun _ _ _ _ => False) (fun _ r9 => fun a1 a2 a3 S => Bb_X12_lockedBy_4 r9 a1 a2 a3 S k) n9 : Int32 → Int32 → Int32 → sSt → Prop) a1 a2 a3 S
theorem B_X12_lockedBy_4_s (n9 : Nat) (a1 : Int32) (a2 : Int32) (a3 : Int32) (S : sSt) (k : Int32 → sSt → Prop) : B_X12_lockedBy_4 (n9 + 1) a1 a2 a3 S k = Bb_X12_lockedBy_4 (fun a1 a2 a3 S => B_X12_lockedBy_4 n9 a1 a2 a3 S k) a1 a2 a3 S k := rfl
set_option maxHeartbeats 4000000 in
set_option maxRecDepth 100000 in
theorem Bw_X12_lockedBy_4 {p : Program} {l : Launch} {e : Env} {s : State} {m : MethodId} {args : Array Value} {below : List Frame} {meth : Method} {c : Code} {D : va_G} {cy : Nat → ClassId} {b z : Nat} {tx : TX} (C0 : CallFix p m c cX12_lockedBy 4 s args TB RX12) (hr : meth.sig.returnType = (some .int)) (hlk : meth.locks = false) (hT : TxR tx s) {k : Int32 → sSt → Prop} : ∀ (n9 : Nat), ∀ (a1 : Int32) (a2 : Int32) (a3 : Int32) (S : sSt) (H : Heap) (locs : List Loc) (ls : Array Slot) , B_X12_lockedBy_4 n9 a1 a2 a3 S k → RelM D cy b z tx S s H → va_S (gA b 12 z) s.heap H locs → lv_has ls 4 [(0, .ref (b + adM 0 0)), (1, .int a1), (2, .int a2), (3, .int a3)] → W p l e rm_X12_lockedBy s m args below meth c H locs 0 0 (MQ below (PiM D cy b z tx k) args s 0 0 (gA b 12 z)) (F0 m 4 ls []) := by
  intro n9
  induction n9 with
  | zero => intro a1 a2 a3 S H locs ls h; exact h.elim
  | succ n9 ih =>
    intro a1 a2 a3 S H locs ls h hR hS hl
    exact Bbw_X12_lockedBy_4 C0 hr hlk hT ih a1 a2 a3 S H locs ls h hR hS hl
def F_X12_lockedBy (a1 : Int32) (S : sSt) (k : Int32 → sSt → Prop) : Prop := B_X12_lockedBy_4 fuel a1 0 0 S k
set_option maxHeartbeats 4000000 in
set_option maxRecDepth 100000 in
theorem c_X12_lockedBy (l : Launch) {D : va_G} {cy : Nat → ClassId} {b z : Nat} {tx : TX} {a1 : Int32} {S : sSt} {k : Int32 → sSt → Prop} (h : F_X12_lockedBy a1 S k) : Met l yX12_lockedBy (Cond.code yX12_lockedBy cX12_lockedBy 4 (some .int) :: TB) rm_X12_lockedBy (va_Pc [.ref (b + adM 0 0), .int a1] (fun U => RelM D cy b z tx S U U.heap ∧ TxR tx U)) (PiM D cy b z tx k) 0 0 (gA b 12 z) := by
  refine Met.ofW (cc := cX12_lockedBy) (maxL := 4) (ret := (some .int)) (by decide) rfl ?_
  intro p e s m args below meth c s₁ B hml hv
  obtain ⟨rfl, hR, hT⟩ := hv
  have C0 : CallFix p m c cX12_lockedBy 4 s _ TB RX12 := ⟨B.exec, B.bytes, hml, findClass_of_methodNamed B.named, fun w hw => atoms_spec B.pre w (List.mem_cons_of_mem _ hw)⟩
  have hr := B.returns
  have hlk := B.notSynchronized
  have hx := C0.1
  have hb := C0.2.1
  have hS : va_S (gA b 12 z) s.heap s.heap [] := va_S.rf
  have hl := lv_entry ([.ref (b + adM 0 0), .int a1]) (n := 4) (Nat.le_of_ble_eq_true rfl)
  rw [lg_entry_eq]
  generalize (lg_sl ([.ref (b + adM 0 0), .int a1]) ++ List.replicate (4 - (lg_sl ([.ref (b + adM 0 0), .int a1])).length) Slot.unset).toArray = ls at hl ⊢
  have hl : lv_has ls 4 [(0, .ref (b + adM 0 0)), (1, .int a1)] := hl
  show W p l e rm_X12_lockedBy s m _ below meth c s.heap [] 0 0 (MQ below (PiM D cy b z tx k) _ s 0 0 (gA b 12 z)) _
  unfold F_X12_lockedBy at h
  refine lv_iconst (v := 0) hx hb dX12_lockedBy_0 (by decide) ?_
  refine lv_istore_n (lv' := [(2, .int 0), (0, .ref (b + adM 0 0)), (1, .int a1)]) hx hb dX12_lockedBy_1 rfl hl (by decide) rfl (fun ls hl => ?_)
  refine lv_iconst (v := 0) hx hb dX12_lockedBy_2 (by decide) ?_
  refine lv_istore_n (lv' := [(3, .int 0), (2, .int 0), (0, .ref (b + adM 0 0)), (1, .int a1)]) hx hb dX12_lockedBy_3 rfl hl (by decide) rfl (fun ls hl => ?_)
  exact Bw_X12_lockedBy_4 C0 hr hlk hT fuel a1 0 0 S _ _ _ h hR hS (lv_sub hl [2, 3, 1, 0] rfl)

def rm_X12_opened : Room := { frames := 2, cells := 0, slots := 0, locals := 42 }
def B_X12_opened_28 (kk4 : Int32 → Int32 → sSt → Prop) (a2 : Int32) (t0 : Int32) (t1 : Int32) (S : sSt) (k : Int32 → sSt → Prop) : Prop := ∀ x5 : Int32, x5 = (t0 + t1) → ∀ x6 : Int32, x6 = a2 + 1 → kk4 x5 x6 S
set_option maxHeartbeats 4000000 in
set_option maxRecDepth 100000 in
theorem Bw_X12_opened_28 {p : Program} {l : Launch} {e : Env} {s : State} {m : MethodId} {args : Array Value} {below : List Frame} {meth : Method} {c : Code} {D : va_G} {cy : Nat → ClassId} {b z : Nat} {tx : TX} (C0 : CallFix p m c cX12_opened 3 s args TB RX12) (hr : meth.sig.returnType = (some .int)) (hlk : meth.locks = false) (hT : TxR tx s) {k : Int32 → sSt → Prop} {kk4 : Int32 → Int32 → sSt → Prop} (ih4 : ∀ (a1 : Int32) (a2 : Int32) (S : sSt) (H : Heap) (locs : List Loc) (ls : Array Slot) , kk4 a1 a2 S → RelM D cy b z tx S s H → va_S (gA b 12 z) s.heap H locs → lv_has ls 3 [(0, .ref (b + adM 0 0)), (1, .int a1), (2, .int a2)] → W p l e rm_X12_opened s m args below meth c H locs 0 0 (MQ below (PiM D cy b z tx k) args s 0 0 (gA b 12 z)) (F0 m 4 ls [])) : ∀ (a2 : Int32) (t0 : Int32) (t1 : Int32) (S : sSt) (H : Heap) (locs : List Loc) (ls : Array Slot) , B_X12_opened_28 kk4 a2 t0 t1 S k → RelM D cy b z tx S s H → va_S (gA b 12 z) s.heap H locs → lv_has ls 3 [(0, .ref (b + adM 0 0)), (2, .int a2)] → W p l e rm_X12_opened s m args below meth c H locs 0 0 (MQ below (PiM D cy b z tx k) args s 0 0 (gA b 12 z)) (F0 m 28 ls [.int t1, .int t0]) := by
  intro a2 t0 t1 S H locs ls h hR hS hl
  have hx := C0.1
  have hb := C0.2.1
  unfold B_X12_opened_28 at h
  refine lv_iadd hx hb dX12_opened_28 ?_
  refine lv_topi (fun x5 ex5 => ?_)
  have h := h x5 ex5
  refine lv_istore_n (lv' := [(1, .int x5), (0, .ref (b + adM 0 0)), (2, .int a2)]) hx hb dX12_opened_29 rfl hl (by decide) rfl (fun ls hl => ?_)
  obtain ⟨x6, ex6⟩ : ∃ x6 : Int32, x6 = a2 + 1 := ⟨_, rfl⟩
  have h := h x6 ex6
  refine w_iinc (v0 := 1) (lv' := [(2, .int x6), (1, .int x5), (0, .ref (b + adM 0 0))]) C0 dX12_opened_30 hl (k := 2) rfl (by decide) (by decide) x6 ex6 rfl (fun ls hl => ?_)
  refine lv_goto (tgt := 4) hx hb dX12_opened_33 (by decide) ?_
  exact ih4 x5 x6 S _ _ _  h hR hS (lv_sub hl [2, 1, 0] rfl)
def Bb_X12_opened_4 (kk4 : Int32 → Int32 → sSt → Prop) (a1 : Int32) (a2 : Int32) (S : sSt) (k : Int32 → sSt → Prop) : Prop := (((S.1 1 0 0) ≤ a2 → k a1 S) ∧ (¬ (S.1 1 0 0) ≤ a2 → F_X12_isOpen a2 S (fun r2 S3 => ((r2 = 0 → B_X12_opened_28 kk4 a2 a1 0 S3 k) ∧ (¬ r2 = 0 → B_X12_opened_28 kk4 a2 a1 1 S3 k)))))
set_option maxHeartbeats 4000000 in
set_option maxRecDepth 100000 in
theorem Bbw_X12_opened_4 {p : Program} {l : Launch} {e : Env} {s : State} {m : MethodId} {args : Array Value} {below : List Frame} {meth : Method} {c : Code} {D : va_G} {cy : Nat → ClassId} {b z : Nat} {tx : TX} (C0 : CallFix p m c cX12_opened 3 s args TB RX12) (hr : meth.sig.returnType = (some .int)) (hlk : meth.locks = false) (hT : TxR tx s) {k : Int32 → sSt → Prop} {kk4 : Int32 → Int32 → sSt → Prop} (ih4 : ∀ (a1 : Int32) (a2 : Int32) (S : sSt) (H : Heap) (locs : List Loc) (ls : Array Slot) , kk4 a1 a2 S → RelM D cy b z tx S s H → va_S (gA b 12 z) s.heap H locs → lv_has ls 3 [(0, .ref (b + adM 0 0)), (1, .int a1), (2, .int a2)] → W p l e rm_X12_opened s m args below meth c H locs 0 0 (MQ below (PiM D cy b z tx k) args s 0 0 (gA b 12 z)) (F0 m 4 ls [])) : ∀ (a1 : Int32) (a2 : Int32) (S : sSt) (H : Heap) (locs : List Loc) (ls : Array Slot) , Bb_X12_opened_4 kk4 a1 a2 S k → RelM D cy b z tx S s H → va_S (gA b 12 z) s.heap H locs → lv_has ls 3 [(0, .ref (b + adM 0 0)), (1, .int a1), (2, .int a2)] → W p l e rm_X12_opened s m args below meth c H locs 0 0 (MQ below (PiM D cy b z tx k) args s 0 0 (gA b 12 z)) (F0 m 4 ls []) := by
  intro a1 a2 S H locs ls h hR hS hl
  have hx := C0.1
  have hb := C0.2.1
  unfold Bb_X12_opened_4 at h
  refine lv_iload_n hx hb dX12_opened_4 rfl (lv_at hl 2 rfl) ?_
  refine lv_aload_n hx hb dX12_opened_5 rfl (lv_at hl 0 rfl) ?_
  refine gM_0_2 C0 hR Nat.zero_lt_one tbs_wsX120 mM1_7_79 dX12_opened_6 ?_
  refine lv_iconst (v := 0) hx hb dX12_opened_9 (by decide) ?_
  refine lM_1 C0 hR Nat.zero_lt_one (by decide) rfl dX12_opened_10 ?_
  refine lv_icmp_ge (tgt := 36) hx hb dX12_opened_11 (by decide) (fun c1 => ?_) (fun c1 => ?_)
  · have h := h.1 c1
    refine lv_iload_n hx hb dX12_opened_36 rfl (lv_at hl 1 rfl) ?_
    exact rtM_i C0 hr hlk hR hS h dX12_opened_37
  · have h := h.2 c1
    refine lv_iload_n hx hb dX12_opened_14 rfl (lv_at hl 1 rfl) ?_
    refine lv_aload_n hx hb dX12_opened_15 rfl (lv_at hl 0 rfl) ?_
    refine lv_iload_n hx hb dX12_opened_16 rfl (lv_at hl 2 rfl) ?_
    refine qM_Vi (As := [.int a2]) (rest := [.int a1]) C0 (c_X12_isOpen l h) (cwV 1 C0.2.2.2.2 (tbV mM1_8_87 ⟨mM1_8_89, mpM1_4_7, mM1_1_11, mM1_8_90⟩) rfl rfl rfl (by decide +kernel) ⟨Nat.le_of_ble_eq_true rfl, Nat.le_of_ble_eq_true rfl⟩) (rcM_0 hR Nat.zero_lt_one) hR hT hS rfl hl.1 rfl (Nat.le_of_ble_eq_true rfl) dX12_opened_17 ⟨Nat.zero_le _, Nat.zero_le _⟩ (fun r2 S3 H locs h hR hS => ?_)
    refine lv_if_eq (tgt := 27) hx hb dX12_opened_20 (by decide) (fun c4 => ?_) (fun c4 => ?_)
    · have h := h.1 c4
      refine lv_iconst (v := 0) hx hb dX12_opened_27 (by decide) ?_
      exact Bw_X12_opened_28 C0 hr hlk hT ih4 a2 a1 0 S3 _ _ _ h hR hS (lv_sub hl [0, 2] rfl)
    · have h := h.2 c4
      refine lv_iconst (v := 1) hx hb dX12_opened_23 (by decide) ?_
      refine lv_goto (tgt := 28) hx hb dX12_opened_24 (by decide) ?_
      exact Bw_X12_opened_28 C0 hr hlk hT ih4 a2 a1 1 S3 _ _ _ h hR hS (lv_sub hl [0, 2] rfl)
def B_X12_opened_4 (n9 : Nat) (a1 : Int32) (a2 : Int32) (S : sSt) (k : Int32 → sSt → Prop) : Prop := (Nat.rec (motive := fun _ => Int32 → Int32 → sSt → Prop) (fun _ _ _ => False) (fun _ r9 => fun a1 a2 S => Bb_X12_opened_4 r9 a1 a2 S k) n9 : Int32 → Int32 → sSt → Prop) a1 a2 S
theorem B_X12_opened_4_s (n9 : Nat) (a1 : Int32) (a2 : Int32) (S : sSt) (k : Int32 → sSt → Prop) : B_X12_opened_4 (n9 + 1) a1 a2 S k = Bb_X12_opened_4 (fun a1 a2 S => B_X12_opened_4 n9 a1 a2 S k) a1 a2 S k := rfl
set_option maxHeartbeats 4000000 in
set_option maxRecDepth 100000 in
theorem Bw_X12_opened_4 {p : Program} {l : Launch} {e : Env} {s : State} {m : MethodId} {args : Array Value} {below : List Frame} {meth : Method} {c : Code} {D : va_G} {cy : Nat → ClassId} {b z : Nat} {tx : TX} (C0 : CallFix p m c cX12_opened 3 s args TB RX12) (hr : meth.sig.returnType = (some .int)) (hlk : meth.locks = false) (hT : TxR tx s) {k : Int32 → sSt → Prop} : ∀ (n9 : Nat), ∀ (a1 : Int32) (a2 : Int32) (S : sSt) (H : Heap) (locs : List Loc) (ls : Array Slot) , B_X12_opened_4 n9 a1 a2 S k → RelM D cy b z tx S s H → va_S (gA b 12 z) s.heap H locs → lv_has ls 3 [(0, .ref (b + adM 0 0)), (1, .int a1), (2, .int a2)] → W p l e rm_X12_opened s m args below meth c H locs 0 0 (MQ below (PiM D cy b z tx k) args s 0 0 (gA b 12 z)) (F0 m 4 ls []) := by
  intro n9
  induction n9 with
  | zero => intro a1 a2 S H locs ls h; exact h.elim
  | succ n9 ih =>
    intro a1 a2 S H locs ls h hR hS hl
    exact Bbw_X12_opened_4 C0 hr hlk hT ih a1 a2 S H locs ls h hR hS hl
def F_X12_opened (S : sSt) (k : Int32 → sSt → Prop) : Prop := B_X12_opened_4 fuel 0 0 S k
set_option maxHeartbeats 4000000 in
set_option maxRecDepth 100000 in
theorem c_X12_opened (l : Launch) {D : va_G} {cy : Nat → ClassId} {b z : Nat} {tx : TX} {S : sSt} {k : Int32 → sSt → Prop} (h : F_X12_opened S k) : Met l yX12_opened (Cond.code yX12_opened cX12_opened 3 (some .int) :: TB) rm_X12_opened (va_Pc [.ref (b + adM 0 0)] (fun U => RelM D cy b z tx S U U.heap ∧ TxR tx U)) (PiM D cy b z tx k) 0 0 (gA b 12 z) := by
  refine Met.ofW (cc := cX12_opened) (maxL := 3) (ret := (some .int)) (by decide) rfl ?_
  intro p e s m args below meth c s₁ B hml hv
  obtain ⟨rfl, hR, hT⟩ := hv
  have C0 : CallFix p m c cX12_opened 3 s _ TB RX12 := ⟨B.exec, B.bytes, hml, findClass_of_methodNamed B.named, fun w hw => atoms_spec B.pre w (List.mem_cons_of_mem _ hw)⟩
  have hr := B.returns
  have hlk := B.notSynchronized
  have hx := C0.1
  have hb := C0.2.1
  have hS : va_S (gA b 12 z) s.heap s.heap [] := va_S.rf
  have hl := lv_entry ([.ref (b + adM 0 0)]) (n := 3) (Nat.le_of_ble_eq_true rfl)
  rw [lg_entry_eq]
  generalize (lg_sl ([.ref (b + adM 0 0)]) ++ List.replicate (3 - (lg_sl ([.ref (b + adM 0 0)])).length) Slot.unset).toArray = ls at hl ⊢
  have hl : lv_has ls 3 [(0, .ref (b + adM 0 0))] := hl
  show W p l e rm_X12_opened s m _ below meth c s.heap [] 0 0 (MQ below (PiM D cy b z tx k) _ s 0 0 (gA b 12 z)) _
  unfold F_X12_opened at h
  refine lv_iconst (v := 0) hx hb dX12_opened_0 (by decide) ?_
  refine lv_istore_n (lv' := [(1, .int 0), (0, .ref (b + adM 0 0))]) hx hb dX12_opened_1 rfl hl (by decide) rfl (fun ls hl => ?_)
  refine lv_iconst (v := 0) hx hb dX12_opened_2 (by decide) ?_
  refine lv_istore_n (lv' := [(2, .int 0), (1, .int 0), (0, .ref (b + adM 0 0))]) hx hb dX12_opened_3 rfl hl (by decide) rfl (fun ls hl => ?_)
  exact Bw_X12_opened_4 C0 hr hlk hT fuel 0 0 S _ _ _ h hR hS (lv_sub hl [2, 1, 0] rfl)

def rm_X12_locks : Room := { frames := 2, cells := 0, slots := 0, locals := 42 }
def B_X12_locks_26 (a1 : Int32) (a2 : Int32) (S : sSt) (k : Int32 → sSt → Prop) : Prop := F_X12_jobAt a1 2 S (fun r4 S5 => ix r4 10421 (fun j6 => ∀ S7, S7 = uI S5 1 0 j6 a2 → F_X12_jobAt a1 25 S7 (fun r8 S9 => k r8 S9)))
set_option maxHeartbeats 4000000 in
set_option maxRecDepth 100000 in
theorem Bw_X12_locks_26 {p : Program} {l : Launch} {e : Env} {s : State} {m : MethodId} {args : Array Value} {below : List Frame} {meth : Method} {c : Code} {D : va_G} {cy : Nat → ClassId} {b z : Nat} {tx : TX} (C0 : CallFix p m c cX12_locks 3 s args TB RX12) (hr : meth.sig.returnType = (some .int)) (hlk : meth.locks = false) (hT : TxR tx s) {k : Int32 → sSt → Prop} : ∀ (a1 : Int32) (a2 : Int32) (S : sSt) (H : Heap) (locs : List Loc) (ls : Array Slot) , B_X12_locks_26 a1 a2 S k → RelM D cy b z tx S s H → va_S (gA b 12 z) s.heap H locs → lv_has ls 3 [(0, .ref (b + adM 0 0)), (1, .int a1), (2, .int a2)] → W p l e rm_X12_locks s m args below meth c H locs 0 0 (MQ below (PiM D cy b z tx k) args s 0 0 (gA b 12 z)) (F0 m 26 ls []) := by
  intro a1 a2 S H locs ls h hR hS hl
  have hx := C0.1
  have hb := C0.2.1
  unfold B_X12_locks_26 at h
  refine lv_aload_n hx hb dX12_locks_26 rfl (lv_at hl 0 rfl) ?_
  refine gM_0_2 C0 hR Nat.zero_lt_one tbs_wsX120 mM1_7_79 dX12_locks_27 ?_
  refine lv_iload_n hx hb dX12_locks_30 rfl (lv_at hl 1 rfl) ?_
  refine lv_iconst (v := 2) hx hb dX12_locks_31 (by decide) ?_
  refine qM_Si (As := [.int a1, .int 2]) (rest := [.ref (b + adM 1 0)]) C0 (c_X12_jobAt l h) (va_cwS 2 C0.2.2.2.2 (tbS mM1_7_74 ⟨mM1_7_75, mM1_1_11, mM1_7_76⟩) rfl rfl rfl (by decide +kernel) ⟨Nat.le_of_ble_eq_true rfl, Nat.le_of_ble_eq_true rfl⟩) hR hT hS rfl hl.1 rfl (Nat.le_of_ble_eq_true rfl) dX12_locks_32 ⟨Nat.zero_le _, Nat.zero_le _⟩ (fun r4 S5 H locs h hR hS => ?_)
  refine lv_iload_n hx hb dX12_locks_35 rfl (lv_at hl 2 rfl) ?_
  obtain ⟨j6, hj6, ej6, h⟩ := h
  refine sM_1 C0 hR hS Nat.zero_lt_one hj6 ej6 dX12_locks_36 (fun S7 eS7 H locs hR hS => ?_)
  have h := h S7 eS7
  refine lv_iload_n hx hb dX12_locks_37 rfl (lv_at hl 1 rfl) ?_
  refine lv_bipush (v := 25) hx hb dX12_locks_38 (by decide) ?_
  refine qM_Si (As := [.int a1, .int 25]) (rest := []) C0 (c_X12_jobAt l h) (va_cwS 2 C0.2.2.2.2 (tbS mM1_7_74 ⟨mM1_7_75, mM1_1_11, mM1_7_76⟩) rfl rfl rfl (by decide +kernel) ⟨Nat.le_of_ble_eq_true rfl, Nat.le_of_ble_eq_true rfl⟩) hR hT hS rfl hl.1 rfl (Nat.le_of_ble_eq_true rfl) dX12_locks_40 ⟨Nat.zero_le _, Nat.zero_le _⟩ (fun r8 S9 H locs h hR hS => ?_)
  exact rtM_i C0 hr hlk hR hS h dX12_locks_43
def F_X12_locks (a1 : Int32) (a2 : Int32) (S : sSt) (k : Int32 → sSt → Prop) : Prop := F_X12_lockerOf a1 S (fun r1 S2 => ((r1 = a2 → B_X12_locks_26 a1 a2 S2 k) ∧ (¬ r1 = a2 → F_X12_jobAt a1 3 S2 (fun r10 S11 => F_X12_jobAt a1 25 S11 (fun r12 S13 => F_X12_copies r10 r12 22 S13 (fun S15 => B_X12_locks_26 a1 a2 S15 k))))))
set_option maxHeartbeats 4000000 in
set_option maxRecDepth 100000 in
theorem c_X12_locks (l : Launch) {D : va_G} {cy : Nat → ClassId} {b z : Nat} {tx : TX} {a1 : Int32} {a2 : Int32} {S : sSt} {k : Int32 → sSt → Prop} (h : F_X12_locks a1 a2 S k) : Met l yX12_locks (Cond.code yX12_locks cX12_locks 3 (some .int) :: TB) rm_X12_locks (va_Pc [.ref (b + adM 0 0), .int a1, .int a2] (fun U => RelM D cy b z tx S U U.heap ∧ TxR tx U)) (PiM D cy b z tx k) 0 0 (gA b 12 z) := by
  refine Met.ofW (cc := cX12_locks) (maxL := 3) (ret := (some .int)) (by decide) rfl ?_
  intro p e s m args below meth c s₁ B hml hv
  obtain ⟨rfl, hR, hT⟩ := hv
  have C0 : CallFix p m c cX12_locks 3 s _ TB RX12 := ⟨B.exec, B.bytes, hml, findClass_of_methodNamed B.named, fun w hw => atoms_spec B.pre w (List.mem_cons_of_mem _ hw)⟩
  have hr := B.returns
  have hlk := B.notSynchronized
  have hx := C0.1
  have hb := C0.2.1
  have hS : va_S (gA b 12 z) s.heap s.heap [] := va_S.rf
  have hl := lv_entry ([.ref (b + adM 0 0), .int a1, .int a2]) (n := 3) (Nat.le_of_ble_eq_true rfl)
  rw [lg_entry_eq]
  generalize (lg_sl ([.ref (b + adM 0 0), .int a1, .int a2]) ++ List.replicate (3 - (lg_sl ([.ref (b + adM 0 0), .int a1, .int a2])).length) Slot.unset).toArray = ls at hl ⊢
  have hl : lv_has ls 3 [(0, .ref (b + adM 0 0)), (1, .int a1), (2, .int a2)] := hl
  show W p l e rm_X12_locks s m _ below meth c s.heap [] 0 0 (MQ below (PiM D cy b z tx k) _ s 0 0 (gA b 12 z)) _
  unfold F_X12_locks at h
  refine lv_aload_n hx hb dX12_locks_0 rfl (lv_at hl 0 rfl) ?_
  refine lv_iload_n hx hb dX12_locks_1 rfl (lv_at hl 1 rfl) ?_
  refine qM_Vi (As := [.int a1]) (rest := []) C0 (c_X12_lockerOf l h) (cwV 1 C0.2.2.2.2 (tbV mM1_8_106 ⟨mM1_8_108, mpM1_4_10, mM1_1_11, mM1_8_109⟩) rfl rfl rfl (by decide +kernel) ⟨Nat.le_of_ble_eq_true rfl, Nat.le_of_ble_eq_true rfl⟩) (rcM_0 hR Nat.zero_lt_one) hR hT hS rfl hl.1 rfl (Nat.le_of_ble_eq_true rfl) dX12_locks_2 ⟨Nat.zero_le _, Nat.zero_le _⟩ (fun r1 S2 H locs h hR hS => ?_)
  refine lv_iload_n hx hb dX12_locks_5 rfl (lv_at hl 2 rfl) ?_
  refine lv_icmp_eq (tgt := 26) hx hb dX12_locks_6 (by decide) (fun c3 => ?_) (fun c3 => ?_)
  · have h := h.1 c3
    exact Bw_X12_locks_26 C0 hr hlk hT a1 a2 S2 _ _ _ h hR hS (lv_sub hl [0, 1, 2] rfl)
  · have h := h.2 c3
    refine lv_aload_n hx hb dX12_locks_9 rfl (lv_at hl 0 rfl) ?_
    refine lv_iload_n hx hb dX12_locks_10 rfl (lv_at hl 1 rfl) ?_
    refine lv_iconst (v := 3) hx hb dX12_locks_11 (by decide) ?_
    refine qM_Si (As := [.int a1, .int 3]) (rest := [.ref (b + adM 0 0)]) C0 (c_X12_jobAt l h) (va_cwS 2 C0.2.2.2.2 (tbS mM1_7_74 ⟨mM1_7_75, mM1_1_11, mM1_7_76⟩) rfl rfl rfl (by decide +kernel) ⟨Nat.le_of_ble_eq_true rfl, Nat.le_of_ble_eq_true rfl⟩) hR hT hS rfl hl.1 rfl (Nat.le_of_ble_eq_true rfl) dX12_locks_12 ⟨Nat.zero_le _, Nat.zero_le _⟩ (fun r10 S11 H locs h hR hS => ?_)
    refine lv_iload_n hx hb dX12_locks_15 rfl (lv_at hl 1 rfl) ?_
    refine lv_bipush (v := 25) hx hb dX12_locks_16 (by decide) ?_
    refine qM_Si (As := [.int a1, .int 25]) (rest := [.int r10, .ref (b + adM 0 0)]) C0 (c_X12_jobAt l h) (va_cwS 2 C0.2.2.2.2 (tbS mM1_7_74 ⟨mM1_7_75, mM1_1_11, mM1_7_76⟩) rfl rfl rfl (by decide +kernel) ⟨Nat.le_of_ble_eq_true rfl, Nat.le_of_ble_eq_true rfl⟩) hR hT hS rfl hl.1 rfl (Nat.le_of_ble_eq_true rfl) dX12_locks_18 ⟨Nat.zero_le _, Nat.zero_le _⟩ (fun r12 S13 H locs h hR hS => ?_)
    refine lv_bipush (v := 22) hx hb dX12_locks_21 (by decide) ?_
    refine qM_Vv (As := [.int r10, .int r12, .int 22]) (rest := []) C0 (c_X12_copies l h) (cwV 3 C0.2.2.2.2 (tbV mM1_8_110 ⟨mM1_8_112, mpM1_4_11, mM1_1_11, mM1_8_113⟩) rfl rfl rfl (by decide +kernel) ⟨Nat.le_of_ble_eq_true rfl, Nat.le_of_ble_eq_true rfl⟩) (rcM_0 hR Nat.zero_lt_one) hR hT hS rfl hl.1 rfl (Nat.le_of_ble_eq_true rfl) dX12_locks_23 ⟨Nat.zero_le _, Nat.zero_le _⟩ (fun S15 H locs h hR hS => ?_)
    exact Bw_X12_locks_26 C0 hr hlk hT a1 a2 S15 _ _ _ h hR hS (lv_sub hl [0, 1, 2] rfl)

def rm_X12_frees : Room := { frames := 3, cells := 0, slots := 0, locals := 63 }
def F_X12_frees (a1 : Int32) (S : sSt) (k : sSt → Prop) : Prop := F_X12_jobAt a1 2 S (fun r1 S2 => ix r1 10421 (fun j3 => ∀ S4, S4 = uI S2 1 0 j3 (-1) → F_X12_isIn a1 S4 (fun r5 S6 => ((¬ r5 = 0 → k S6) ∧ (r5 = 0 → F_X12_jobAt a1 0 S6 (fun r8 S9 => ix r8 10421 (fun j10 => ∀ S11, S11 = uI S9 1 0 j10 (-1) → k S11)))))))
set_option maxHeartbeats 4000000 in
set_option maxRecDepth 100000 in
theorem c_X12_frees (l : Launch) {D : va_G} {cy : Nat → ClassId} {b z : Nat} {tx : TX} {a1 : Int32} {S : sSt} {k : sSt → Prop} (h : F_X12_frees a1 S k) : Met l yX12_frees (Cond.code yX12_frees cX12_frees 2 none :: TB) rm_X12_frees (va_Pc [.ref (b + adM 0 0), .int a1] (fun U => RelM D cy b z tx S U U.heap ∧ TxR tx U)) (PvM D cy b z tx k) 0 0 (gA b 12 z) := by
  refine Met.ofW (cc := cX12_frees) (maxL := 2) (ret := none) (by decide) rfl ?_
  intro p e s m args below meth c s₁ B hml hv
  obtain ⟨rfl, hR, hT⟩ := hv
  have C0 : CallFix p m c cX12_frees 2 s _ TB RX12 := ⟨B.exec, B.bytes, hml, findClass_of_methodNamed B.named, fun w hw => atoms_spec B.pre w (List.mem_cons_of_mem _ hw)⟩
  have hr := B.returns
  have hlk := B.notSynchronized
  have hx := C0.1
  have hb := C0.2.1
  have hS : va_S (gA b 12 z) s.heap s.heap [] := va_S.rf
  have hl := lv_entry ([.ref (b + adM 0 0), .int a1]) (n := 2) (Nat.le_of_ble_eq_true rfl)
  rw [lg_entry_eq]
  generalize (lg_sl ([.ref (b + adM 0 0), .int a1]) ++ List.replicate (2 - (lg_sl ([.ref (b + adM 0 0), .int a1])).length) Slot.unset).toArray = ls at hl ⊢
  have hl : lv_has ls 2 [(0, .ref (b + adM 0 0)), (1, .int a1)] := hl
  show W p l e rm_X12_frees s m _ below meth c s.heap [] 0 0 (MQ below (PvM D cy b z tx k) _ s 0 0 (gA b 12 z)) _
  unfold F_X12_frees at h
  refine lv_aload_n hx hb dX12_frees_0 rfl (lv_at hl 0 rfl) ?_
  refine gM_0_2 C0 hR Nat.zero_lt_one tbs_wsX120 mM1_7_79 dX12_frees_1 ?_
  refine lv_iload_n hx hb dX12_frees_4 rfl (lv_at hl 1 rfl) ?_
  refine lv_iconst (v := 2) hx hb dX12_frees_5 (by decide) ?_
  refine qM_Si (As := [.int a1, .int 2]) (rest := [.ref (b + adM 1 0)]) C0 (c_X12_jobAt l h) (va_cwS 2 C0.2.2.2.2 (tbS mM1_7_74 ⟨mM1_7_75, mM1_1_11, mM1_7_76⟩) rfl rfl rfl (by decide +kernel) ⟨Nat.le_of_ble_eq_true rfl, Nat.le_of_ble_eq_true rfl⟩) hR hT hS rfl hl.1 rfl (Nat.le_of_ble_eq_true rfl) dX12_frees_6 ⟨Nat.zero_le _, Nat.zero_le _⟩ (fun r1 S2 H locs h hR hS => ?_)
  refine lv_iconst (v := (-1)) hx hb dX12_frees_9 (by decide) ?_
  obtain ⟨j3, hj3, ej3, h⟩ := h
  refine sM_1 C0 hR hS Nat.zero_lt_one hj3 ej3 dX12_frees_10 (fun S4 eS4 H locs hR hS => ?_)
  have h := h S4 eS4
  refine lv_aload_n hx hb dX12_frees_11 rfl (lv_at hl 0 rfl) ?_
  refine lv_iload_n hx hb dX12_frees_12 rfl (lv_at hl 1 rfl) ?_
  refine qM_Vi (As := [.int a1]) (rest := []) C0 (c_X12_isIn l h) (cwV 1 C0.2.2.2.2 (tbV mM1_8_122 ⟨mM1_8_124, mpM1_4_13, mM1_1_11, mM1_8_125⟩) rfl rfl rfl (by decide +kernel) ⟨Nat.le_of_ble_eq_true rfl, Nat.le_of_ble_eq_true rfl⟩) (rcM_0 hR Nat.zero_lt_one) hR hT hS rfl hl.1 rfl (Nat.le_of_ble_eq_true rfl) dX12_frees_13 ⟨Nat.zero_le _, Nat.zero_le _⟩ (fun r5 S6 H locs h hR hS => ?_)
  refine lv_if_ne (tgt := 30) hx hb dX12_frees_16 (by decide) (fun c7 => ?_) (fun c7 => ?_)
  · have h := h.1 c7
    exact rtM_v C0 hr hlk hR hS h dX12_frees_30
  · have h := h.2 c7
    refine lv_aload_n hx hb dX12_frees_19 rfl (lv_at hl 0 rfl) ?_
    refine gM_0_2 C0 hR Nat.zero_lt_one tbs_wsX120 mM1_7_79 dX12_frees_20 ?_
    refine lv_iload_n hx hb dX12_frees_23 rfl (lv_at hl 1 rfl) ?_
    refine lv_iconst (v := 0) hx hb dX12_frees_24 (by decide) ?_
    refine qM_Si (As := [.int a1, .int 0]) (rest := [.ref (b + adM 1 0)]) C0 (c_X12_jobAt l h) (va_cwS 2 C0.2.2.2.2 (tbS mM1_7_74 ⟨mM1_7_75, mM1_1_11, mM1_7_76⟩) rfl rfl rfl (by decide +kernel) ⟨Nat.le_of_ble_eq_true rfl, Nat.le_of_ble_eq_true rfl⟩) hR hT hS rfl hl.1 rfl (Nat.le_of_ble_eq_true rfl) dX12_frees_25 ⟨Nat.zero_le _, Nat.zero_le _⟩ (fun r8 S9 H locs h hR hS => ?_)
    refine lv_iconst (v := (-1)) hx hb dX12_frees_28 (by decide) ?_
    obtain ⟨j10, hj10, ej10, h⟩ := h
    refine sM_1 C0 hR hS Nat.zero_lt_one hj10 ej10 dX12_frees_29 (fun S11 eS11 H locs hR hS => ?_)
    have h := h S11 eS11
    exact rtM_v C0 hr hlk hR hS h dX12_frees_30

def rm_X12_isTold : Room := { frames := 2, cells := 0, slots := 0, locals := 42 }
def Bb_X12_isTold_4 (kk4 : Int32 → Int32 → sSt → Prop) (a1 : Int32) (a2 : Int32) (S : sSt) (k : sSt → Prop) : Prop := ((a2 < 5 → F_X12_jobAt a1 3 S (fun r2 S3 => ∀ S4, S4 = uI S3 1 0 1289 (S3.1 1 0 3) → F_X12_numberOf a1 S4 (fun r5 S6 => ∀ S7, S7 = uI S6 1 0 1290 r5 → ix (r2 + 3) 10421 (fun j8 => ∀ S9, S9 = uI S7 1 0 1291 (S7.1 1 0 j8) → ix (r2 + 8) 10421 (fun j10 => ∀ S11, S11 = uI S9 1 0 1292 (S9.1 1 0 j10) → ix (r2 + 9) 10421 (fun j12 => ∀ S13, S13 = uI S11 1 0 1293 (S11.1 1 0 j12) → ∀ S14, S14 = uI S13 1 0 14 (if ((S13.1 1 0 14) + 1) < 60 then ((S13.1 1 0 14) + 1) else 60) → k S14)))))) ∧ (¬ a2 < 5 → ix ((1289 + a2) - 5) 10421 (fun j15 => ix (1289 + a2) 10421 (fun j16 => ∀ S17, S17 = uI S 1 0 j16 (S.1 1 0 j15) → ∀ x18 : Int32, x18 = a2 + (-1) → kk4 a1 x18 S17))))
set_option maxHeartbeats 4000000 in
set_option maxRecDepth 100000 in
theorem Bbw_X12_isTold_4 {p : Program} {l : Launch} {e : Env} {s : State} {m : MethodId} {args : Array Value} {below : List Frame} {meth : Method} {c : Code} {D : va_G} {cy : Nat → ClassId} {b z : Nat} {tx : TX} (C0 : CallFix p m c cX12_isTold 3 s args TB RX12) (hr : meth.sig.returnType = none) (hlk : meth.locks = false) (hT : TxR tx s) {k : sSt → Prop} {kk4 : Int32 → Int32 → sSt → Prop} (ih4 : ∀ (a1 : Int32) (a2 : Int32) (S : sSt) (H : Heap) (locs : List Loc) (ls : Array Slot) , kk4 a1 a2 S → RelM D cy b z tx S s H → va_S (gA b 12 z) s.heap H locs → lv_has ls 3 [(0, .ref (b + adM 0 0)), (1, .int a1), (2, .int a2)] → W p l e rm_X12_isTold s m args below meth c H locs 0 0 (MQ below (PvM D cy b z tx k) args s 0 0 (gA b 12 z)) (F0 m 4 ls [])) : ∀ (a1 : Int32) (a2 : Int32) (S : sSt) (H : Heap) (locs : List Loc) (ls : Array Slot) , Bb_X12_isTold_4 kk4 a1 a2 S k → RelM D cy b z tx S s H → va_S (gA b 12 z) s.heap H locs → lv_has ls 3 [(0, .ref (b + adM 0 0)), (1, .int a1), (2, .int a2)] → W p l e rm_X12_isTold s m args below meth c H locs 0 0 (MQ below (PvM D cy b z tx k) args s 0 0 (gA b 12 z)) (F0 m 4 ls []) := by
  intro a1 a2 S H locs ls h hR hS hl
  have hx := C0.1
  have hb := C0.2.1
  unfold Bb_X12_isTold_4 at h
  refine lv_iload_n hx hb dX12_isTold_4 rfl (lv_at hl 2 rfl) ?_
  refine lv_iconst (v := 5) hx hb dX12_isTold_5 (by decide) ?_
  refine lv_icmp_lt (tgt := 37) hx hb dX12_isTold_6 (by decide) (fun c1 => ?_) (fun c1 => ?_)
  · have h := h.1 c1
    refine lv_iload_n hx hb dX12_isTold_37 rfl (lv_at hl 1 rfl) ?_
    refine lv_iconst (v := 3) hx hb dX12_isTold_38 (by decide) ?_
    refine qM_Si (As := [.int a1, .int 3]) (rest := []) C0 (c_X12_jobAt l h) (va_cwS 2 C0.2.2.2.2 (tbS mM1_7_74 ⟨mM1_7_75, mM1_1_11, mM1_7_76⟩) rfl rfl rfl (by decide +kernel) ⟨Nat.le_of_ble_eq_true rfl, Nat.le_of_ble_eq_true rfl⟩) hR hT hS rfl hl.1 rfl (Nat.le_of_ble_eq_true rfl) dX12_isTold_39 ⟨Nat.zero_le _, Nat.zero_le _⟩ (fun r2 S3 H locs h hR hS => ?_)
    refine lv_istore_n (lv' := [(2, .int r2), (0, .ref (b + adM 0 0)), (1, .int a1)]) hx hb dX12_isTold_42 rfl hl (by decide) rfl (fun ls hl => ?_)
    refine lv_aload_n hx hb dX12_isTold_43 rfl (lv_at hl 1 rfl) ?_
    refine gM_0_2 C0 hR Nat.zero_lt_one tbs_wsX120 mM1_7_79 dX12_isTold_44 ?_
    refine lv_sipush (v := 1289) hx hb dX12_isTold_47 (by decide) ?_
    refine lv_aload_n hx hb dX12_isTold_50 rfl (lv_at hl 1 rfl) ?_
    refine gM_0_2 C0 hR Nat.zero_lt_one tbs_wsX120 mM1_7_79 dX12_isTold_51 ?_
    refine lv_iconst (v := 3) hx hb dX12_isTold_54 (by decide) ?_
    refine lM_1 C0 hR Nat.zero_lt_one (by decide) rfl dX12_isTold_55 ?_
    refine sM_1 C0 hR hS Nat.zero_lt_one (by decide) rfl dX12_isTold_56 (fun S4 eS4 H locs hR hS => ?_)
    have h := h S4 eS4
    refine lv_aload_n hx hb dX12_isTold_57 rfl (lv_at hl 1 rfl) ?_
    refine gM_0_2 C0 hR Nat.zero_lt_one tbs_wsX120 mM1_7_79 dX12_isTold_58 ?_
    refine lv_sipush (v := 1290) hx hb dX12_isTold_61 (by decide) ?_
    refine lv_aload_n hx hb dX12_isTold_64 rfl (lv_at hl 1 rfl) ?_
    refine lv_iload_n hx hb dX12_isTold_65 rfl (lv_at hl 2 rfl) ?_
    refine qM_Vi (As := [.int a1]) (rest := [.int 1290, .ref (b + adM 1 0)]) C0 (c_X12_numberOf l h) (cwV 1 C0.2.2.2.2 (tbV mM1_7_202 ⟨mM1_7_204, mpM1_3_3, mM1_1_11, mM1_7_205⟩) rfl rfl rfl (by decide +kernel) ⟨Nat.le_of_ble_eq_true rfl, Nat.le_of_ble_eq_true rfl⟩) (rcM_0 hR Nat.zero_lt_one) hR hT hS rfl hl.1 rfl (Nat.le_of_ble_eq_true rfl) dX12_isTold_66 ⟨Nat.zero_le _, Nat.zero_le _⟩ (fun r5 S6 H locs h hR hS => ?_)
    refine sM_1 C0 hR hS Nat.zero_lt_one (by decide) rfl dX12_isTold_69 (fun S7 eS7 H locs hR hS => ?_)
    have h := h S7 eS7
    refine lv_aload_n hx hb dX12_isTold_70 rfl (lv_at hl 1 rfl) ?_
    refine gM_0_2 C0 hR Nat.zero_lt_one tbs_wsX120 mM1_7_79 dX12_isTold_71 ?_
    refine lv_sipush (v := 1291) hx hb dX12_isTold_74 (by decide) ?_
    refine lv_aload_n hx hb dX12_isTold_77 rfl (lv_at hl 1 rfl) ?_
    refine gM_0_2 C0 hR Nat.zero_lt_one tbs_wsX120 mM1_7_79 dX12_isTold_78 ?_
    refine lv_iload_n hx hb dX12_isTold_81 rfl (lv_at hl 0 rfl) ?_
    refine lv_iconst (v := 3) hx hb dX12_isTold_82 (by decide) ?_
    refine lv_iadd hx hb dX12_isTold_83 ?_
    obtain ⟨j8, hj8, ej8, h⟩ := h
    refine lM_1 C0 hR Nat.zero_lt_one hj8 ej8 dX12_isTold_84 ?_
    refine sM_1 C0 hR hS Nat.zero_lt_one (by decide) rfl dX12_isTold_85 (fun S9 eS9 H locs hR hS => ?_)
    have h := h S9 eS9
    refine lv_aload_n hx hb dX12_isTold_86 rfl (lv_at hl 1 rfl) ?_
    refine gM_0_2 C0 hR Nat.zero_lt_one tbs_wsX120 mM1_7_79 dX12_isTold_87 ?_
    refine lv_sipush (v := 1292) hx hb dX12_isTold_90 (by decide) ?_
    refine lv_aload_n hx hb dX12_isTold_93 rfl (lv_at hl 1 rfl) ?_
    refine gM_0_2 C0 hR Nat.zero_lt_one tbs_wsX120 mM1_7_79 dX12_isTold_94 ?_
    refine lv_iload_n hx hb dX12_isTold_97 rfl (lv_at hl 0 rfl) ?_
    refine lv_bipush (v := 8) hx hb dX12_isTold_98 (by decide) ?_
    refine lv_iadd hx hb dX12_isTold_100 ?_
    obtain ⟨j10, hj10, ej10, h⟩ := h
    refine lM_1 C0 hR Nat.zero_lt_one hj10 ej10 dX12_isTold_101 ?_
    refine sM_1 C0 hR hS Nat.zero_lt_one (by decide) rfl dX12_isTold_102 (fun S11 eS11 H locs hR hS => ?_)
    have h := h S11 eS11
    refine lv_aload_n hx hb dX12_isTold_103 rfl (lv_at hl 1 rfl) ?_
    refine gM_0_2 C0 hR Nat.zero_lt_one tbs_wsX120 mM1_7_79 dX12_isTold_104 ?_
    refine lv_sipush (v := 1293) hx hb dX12_isTold_107 (by decide) ?_
    refine lv_aload_n hx hb dX12_isTold_110 rfl (lv_at hl 1 rfl) ?_
    refine gM_0_2 C0 hR Nat.zero_lt_one tbs_wsX120 mM1_7_79 dX12_isTold_111 ?_
    refine lv_iload_n hx hb dX12_isTold_114 rfl (lv_at hl 0 rfl) ?_
    refine lv_bipush (v := 9) hx hb dX12_isTold_115 (by decide) ?_
    refine lv_iadd hx hb dX12_isTold_117 ?_
    obtain ⟨j12, hj12, ej12, h⟩ := h
    refine lM_1 C0 hR Nat.zero_lt_one hj12 ej12 dX12_isTold_118 ?_
    refine sM_1 C0 hR hS Nat.zero_lt_one (by decide) rfl dX12_isTold_119 (fun S13 eS13 H locs hR hS => ?_)
    have h := h S13 eS13
    refine lv_aload_n hx hb dX12_isTold_120 rfl (lv_at hl 1 rfl) ?_
    refine gM_0_2 C0 hR Nat.zero_lt_one tbs_wsX120 mM1_7_79 dX12_isTold_121 ?_
    refine lv_bipush (v := 14) hx hb dX12_isTold_124 (by decide) ?_
    refine lv_bipush (v := 60) hx hb dX12_isTold_126 (by decide) ?_
    refine lv_aload_n hx hb dX12_isTold_128 rfl (lv_at hl 1 rfl) ?_
    refine gM_0_2 C0 hR Nat.zero_lt_one tbs_wsX120 mM1_7_79 dX12_isTold_129 ?_
    refine lv_bipush (v := 14) hx hb dX12_isTold_132 (by decide) ?_
    refine lM_1 C0 hR Nat.zero_lt_one (by decide) rfl dX12_isTold_134 ?_
    refine lv_iconst (v := 1) hx hb dX12_isTold_135 (by decide) ?_
    refine lv_iadd hx hb dX12_isTold_136 ?_
    refine va_mmin hx hb (C0.2.2.1.trans hl.1.symm) C0.2.2.2.1 (C0.2.2.2.2 _ mM1_8_142) (C0.2.2.2.2 _ mM1_5_67) (C0.2.2.2.2 _ mM1_1_25) (C0.2.2.2.2 _ mM1_5_68) (Nat.le_of_ble_eq_true rfl) (Nat.le_of_ble_eq_true rfl) (Nat.zero_le _) (Nat.zero_le _) dX12_isTold_137 ?_
    refine sM_1 C0 hR hS Nat.zero_lt_one (by decide) rfl dX12_isTold_140 (fun S14 eS14 H locs hR hS => ?_)
    have h := h S14 eS14
    exact rtM_v C0 hr hlk hR hS h dX12_isTold_141
  · have h := h.2 c1
    refine lv_aload_n hx hb dX12_isTold_9 rfl (lv_at hl 0 rfl) ?_
    refine gM_0_2 C0 hR Nat.zero_lt_one tbs_wsX120 mM1_7_79 dX12_isTold_10 ?_
    refine lv_sipush (v := 1289) hx hb dX12_isTold_13 (by decide) ?_
    refine lv_iload_n hx hb dX12_isTold_16 rfl (lv_at hl 2 rfl) ?_
    refine lv_iadd hx hb dX12_isTold_17 ?_
    refine lv_aload_n hx hb dX12_isTold_18 rfl (lv_at hl 0 rfl) ?_
    refine gM_0_2 C0 hR Nat.zero_lt_one tbs_wsX120 mM1_7_79 dX12_isTold_19 ?_
    refine lv_sipush (v := 1289) hx hb dX12_isTold_22 (by decide) ?_
    refine lv_iload_n hx hb dX12_isTold_25 rfl (lv_at hl 2 rfl) ?_
    refine lv_iadd hx hb dX12_isTold_26 ?_
    refine lv_iconst (v := 5) hx hb dX12_isTold_27 (by decide) ?_
    refine lv_isub hx hb dX12_isTold_28 ?_
    obtain ⟨j15, hj15, ej15, h⟩ := h
    refine lM_1 C0 hR Nat.zero_lt_one hj15 ej15 dX12_isTold_29 ?_
    obtain ⟨j16, hj16, ej16, h⟩ := h
    refine sM_1 C0 hR hS Nat.zero_lt_one hj16 ej16 dX12_isTold_30 (fun S17 eS17 H locs hR hS => ?_)
    have h := h S17 eS17
    obtain ⟨x18, ex18⟩ : ∃ x18 : Int32, x18 = a2 + (-1) := ⟨_, rfl⟩
    have h := h x18 ex18
    refine w_iinc (v0 := (-1)) (lv' := [(2, .int x18), (0, .ref (b + adM 0 0)), (1, .int a1)]) C0 dX12_isTold_31 hl (k := 2) rfl (by decide) (by decide) x18 ex18 rfl (fun ls hl => ?_)
    refine lv_goto (tgt := 4) hx hb dX12_isTold_34 (by decide) ?_
    exact ih4 a1 x18 S17 _ _ _  h hR hS (lv_sub hl [1, 2, 0] rfl)
def B_X12_isTold_4 (n9 : Nat) (a1 : Int32) (a2 : Int32) (S : sSt) (k : sSt → Prop) : Prop := (Nat.rec (motive := fun _ => Int32 → Int32 → sSt → Prop) (fun _ _ _ => False) (fun _ r9 => fun a1 a2 S => Bb_X12_isTold_4 r9 a1 a2 S k) n9 : Int32 → Int32 → sSt → Prop) a1 a2 S
theorem B_X12_isTold_4_s (n9 : Nat) (a1 : Int32) (a2 : Int32) (S : sSt) (k : sSt → Prop) : B_X12_isTold_4 (n9 + 1) a1 a2 S k = Bb_X12_isTold_4 (fun a1 a2 S => B_X12_isTold_4 n9 a1 a2 S k) a1 a2 S k := rfl
set_option maxHeartbeats 4000000 in
set_option maxRecDepth 100000 in
theorem Bw_X12_isTold_4 {p : Program} {l : Launch} {e : Env} {s : State} {m : MethodId} {args : Array Value} {below : List Frame} {meth : Method} {c : Code} {D : va_G} {cy : Nat → ClassId} {b z : Nat} {tx : TX} (C0 : CallFix p m c cX12_isTold 3 s args TB RX12) (hr : meth.sig.returnType = none) (hlk : meth.locks = false) (hT : TxR tx s) {k : sSt → Prop} : ∀ (n9 : Nat), ∀ (a1 : Int32) (a2 : Int32) (S : sSt) (H : Heap) (locs : List Loc) (ls : Array Slot) , B_X12_isTold_4 n9 a1 a2 S k → RelM D cy b z tx S s H → va_S (gA b 12 z) s.heap H locs → lv_has ls 3 [(0, .ref (b + adM 0 0)), (1, .int a1), (2, .int a2)] → W p l e rm_X12_isTold s m args below meth c H locs 0 0 (MQ below (PvM D cy b z tx k) args s 0 0 (gA b 12 z)) (F0 m 4 ls []) := by
  intro n9
  induction n9 with
  | zero => intro a1 a2 S H locs ls h; exact h.elim
  | succ n9 ih =>
    intro a1 a2 S H locs ls h hR hS hl
    exact Bbw_X12_isTold_4 C0 hr hlk hT ih a1 a2 S H locs ls h hR hS hl
def F_X12_isTold (a1 : Int32) (S : sSt) (k : sSt → Prop) : Prop := B_X12_isTold_4 fuel a1 299 S k
set_option maxHeartbeats 4000000 in
set_option maxRecDepth 100000 in
theorem c_X12_isTold (l : Launch) {D : va_G} {cy : Nat → ClassId} {b z : Nat} {tx : TX} {a1 : Int32} {S : sSt} {k : sSt → Prop} (h : F_X12_isTold a1 S k) : Met l yX12_isTold (Cond.code yX12_isTold cX12_isTold 3 none :: TB) rm_X12_isTold (va_Pc [.ref (b + adM 0 0), .int a1] (fun U => RelM D cy b z tx S U U.heap ∧ TxR tx U)) (PvM D cy b z tx k) 0 0 (gA b 12 z) := by
  refine Met.ofW (cc := cX12_isTold) (maxL := 3) (ret := none) (by decide) rfl ?_
  intro p e s m args below meth c s₁ B hml hv
  obtain ⟨rfl, hR, hT⟩ := hv
  have C0 : CallFix p m c cX12_isTold 3 s _ TB RX12 := ⟨B.exec, B.bytes, hml, findClass_of_methodNamed B.named, fun w hw => atoms_spec B.pre w (List.mem_cons_of_mem _ hw)⟩
  have hr := B.returns
  have hlk := B.notSynchronized
  have hx := C0.1
  have hb := C0.2.1
  have hS : va_S (gA b 12 z) s.heap s.heap [] := va_S.rf
  have hl := lv_entry ([.ref (b + adM 0 0), .int a1]) (n := 3) (Nat.le_of_ble_eq_true rfl)
  rw [lg_entry_eq]
  generalize (lg_sl ([.ref (b + adM 0 0), .int a1]) ++ List.replicate (3 - (lg_sl ([.ref (b + adM 0 0), .int a1])).length) Slot.unset).toArray = ls at hl ⊢
  have hl : lv_has ls 3 [(0, .ref (b + adM 0 0)), (1, .int a1)] := hl
  show W p l e rm_X12_isTold s m _ below meth c s.heap [] 0 0 (MQ below (PvM D cy b z tx k) _ s 0 0 (gA b 12 z)) _
  unfold F_X12_isTold at h
  refine lv_sipush (v := 299) hx hb dX12_isTold_0 (by decide) ?_
  refine lv_istore_n (lv' := [(2, .int 299), (0, .ref (b + adM 0 0)), (1, .int a1)]) hx hb dX12_isTold_3 rfl hl (by decide) rfl (fun ls hl => ?_)
  exact Bw_X12_isTold_4 C0 hr hlk hT fuel a1 299 S _ _ _ h hR hS (lv_sub hl [1, 2, 0] rfl)
