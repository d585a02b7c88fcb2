theorem mM3_7_83 : Cond.fieldLink RX12 26 "ClaimTableModel" "draft" "[I" ∈ TB := tbT_7 _ (List.mem_of_getElem? (i := 83) rfl) rfl
theorem mM3_8_54 : Cond.methodLink RX12 215 yX12_columnRead ∈ TB := tbT_8 _ (List.mem_of_getElem? (i := 54) rfl) rfl
theorem mM3_8_57 : Cond.code yX12_columnRead cX12_columnRead 1 (some .int) ∈ TB := tbT_8 _ (List.mem_of_getElem? (i := 57) rfl) rfl
theorem mM3_8_56 : Cond.instanceMethod yX12_columnRead ∈ TB := tbT_8 _ (List.mem_of_getElem? (i := 56) rfl) rfl
theorem mpM3_4_2 : Cond.selects RX12 yX12_columnRead yX12_columnRead ∈ TB := tbP_4 (yX12_columnRead, 19) (List.mem_of_getElem? (i := 2) rfl)
theorem mM3_1_11 : Cond.initialized RX12 ∈ TB := tbT_1 _ (List.mem_of_getElem? (i := 11) rfl) rfl
theorem mM3_7_218 : Cond.methodLink RX12 133 yX12_passes ∈ TB := tbT_7 _ (List.mem_of_getElem? (i := 218) rfl) rfl
theorem mM3_7_221 : Cond.code yX12_passes cX12_passes 2 (some .boolean) ∈ TB := tbT_7 _ (List.mem_of_getElem? (i := 221) rfl) rfl
theorem mM3_7_220 : Cond.instanceMethod yX12_passes ∈ TB := tbT_7 _ (List.mem_of_getElem? (i := 220) rfl) rfl
theorem mpM3_3_6 : Cond.selects RX12 yX12_passes yX12_passes ∈ TB := tbP_3 (yX12_passes, 19) (List.mem_of_getElem? (i := 6) rfl)
theorem mM3_8_50 : Cond.methodLink RX12 223 yX12_readTerm ∈ TB := tbT_8 _ (List.mem_of_getElem? (i := 50) rfl) rfl
theorem mM3_8_53 : Cond.code yX12_readTerm cX12_readTerm 6 (some .boolean) ∈ TB := tbT_8 _ (List.mem_of_getElem? (i := 53) rfl) rfl
theorem mM3_8_52 : Cond.instanceMethod yX12_readTerm ∈ TB := tbT_8 _ (List.mem_of_getElem? (i := 52) rfl) rfl
theorem mpM3_4_1 : Cond.selects RX12 yX12_readTerm yX12_readTerm ∈ TB := tbP_4 (yX12_readTerm, 19) (List.mem_of_getElem? (i := 1) rfl)
theorem mM3_7_179 : Cond.methodLink RX12 106 yX12_letters ∈ TB := tbT_7 _ (List.mem_of_getElem? (i := 179) rfl) rfl
theorem mM3_7_182 : Cond.code yX12_letters cX12_letters 1 none ∈ TB := tbT_7 _ (List.mem_of_getElem? (i := 182) rfl) rfl
theorem mM3_7_181 : Cond.instanceMethod yX12_letters ∈ TB := tbT_7 _ (List.mem_of_getElem? (i := 181) rfl) rfl
theorem mpM3_2_14 : Cond.selects RX12 yX12_letters yX12_letters ∈ TB := tbP_2 (yX12_letters, 19) (List.mem_of_getElem? (i := 14) rfl)
theorem mM3_7_188 : Cond.methodLink RX12 109 yX12_isWord ∈ TB := tbT_7 _ (List.mem_of_getElem? (i := 188) rfl) rfl
theorem mM3_7_191 : Cond.code yX12_isWord cX12_isWord 4 (some .boolean) ∈ TB := tbT_7 _ (List.mem_of_getElem? (i := 191) rfl) rfl
theorem mM3_7_190 : Cond.instanceMethod yX12_isWord ∈ TB := tbT_7 _ (List.mem_of_getElem? (i := 190) rfl) rfl
theorem mpM3_3_0 : Cond.selects RX12 yX12_isWord yX12_isWord ∈ TB := tbP_3 (yX12_isWord, 19) (List.mem_of_getElem? (i := 0) rfl)
theorem mM3_8_78 : Cond.methodLink RX12 230 yX12_readKey ∈ TB := tbT_8 _ (List.mem_of_getElem? (i := 78) rfl) rfl
theorem mM3_8_81 : Cond.code yX12_readKey cX12_readKey 4 (some .boolean) ∈ TB := tbT_8 _ (List.mem_of_getElem? (i := 81) rfl) rfl
theorem mM3_8_80 : Cond.instanceMethod yX12_readKey ∈ TB := tbT_8 _ (List.mem_of_getElem? (i := 80) rfl) rfl
theorem mpM3_4_6 : Cond.selects RX12 yX12_readKey yX12_readKey ∈ TB := tbP_4 (yX12_readKey, 19) (List.mem_of_getElem? (i := 6) rfl)
theorem mM3_8_67 : Cond.methodLink RX12 212 yX12_sign ∈ TB := tbT_8 _ (List.mem_of_getElem? (i := 67) rfl) rfl
theorem mM3_8_70 : Cond.code yX12_sign cX12_sign 2 (some .boolean) ∈ TB := tbT_8 _ (List.mem_of_getElem? (i := 70) rfl) rfl
theorem mM3_8_69 : Cond.instanceMethod yX12_sign ∈ TB := tbT_8 _ (List.mem_of_getElem? (i := 69) rfl) rfl
theorem mpM3_4_4 : Cond.selects RX12 yX12_sign yX12_sign ∈ TB := tbP_4 (yX12_sign, 19) (List.mem_of_getElem? (i := 4) rfl)
theorem mM3_7_207 : Cond.methodLink RX12 124 yX12_behind ∈ TB := tbT_7 _ (List.mem_of_getElem? (i := 207) rfl) rfl
theorem mM3_7_210 : Cond.code yX12_behind cX12_behind 4 (some .int) ∈ TB := tbT_7 _ (List.mem_of_getElem? (i := 210) rfl) rfl
theorem mM3_7_209 : Cond.instanceMethod yX12_behind ∈ TB := tbT_7 _ (List.mem_of_getElem? (i := 209) rfl) rfl
theorem mpM3_3_4 : Cond.selects RX12 yX12_behind yX12_behind ∈ TB := tbP_3 (yX12_behind, 19) (List.mem_of_getElem? (i := 4) rfl)
theorem mM3_7_171 : Cond.methodLink RX12 93 yX12_blanks ∈ TB := tbT_7 _ (List.mem_of_getElem? (i := 171) rfl) rfl
theorem mM3_7_174 : Cond.code yX12_blanks cX12_blanks 1 none ∈ TB := tbT_7 _ (List.mem_of_getElem? (i := 174) rfl) rfl
theorem mM3_7_173 : Cond.instanceMethod yX12_blanks ∈ TB := tbT_7 _ (List.mem_of_getElem? (i := 173) rfl) rfl
theorem mpM3_2_12 : Cond.selects RX12 yX12_blanks yX12_blanks ∈ TB := tbP_2 (yX12_blanks, 19) (List.mem_of_getElem? (i := 12) rfl)
theorem mM3_7_87 : Cond.fieldLink RX12 80 "ClaimTableModel" "point" "I" ∈ TB := tbT_7 _ (List.mem_of_getElem? (i := 87) rfl) rfl
theorem mM3_7_88 : Cond.fieldLink RX12 83 "ClaimTableModel" "end" "I" ∈ TB := tbT_7 _ (List.mem_of_getElem? (i := 88) rfl) rfl
theorem mM3_8_73 : Cond.methodLink RX12 242 yX12_readKeys ∈ TB := tbT_8 _ (List.mem_of_getElem? (i := 73) rfl) rfl
theorem mM3_8_76 : Cond.code yX12_readKeys cX12_readKeys 1 (some .boolean) ∈ TB := tbT_8 _ (List.mem_of_getElem? (i := 76) rfl) rfl
theorem mM3_8_75 : Cond.instanceMethod yX12_readKeys ∈ TB := tbT_8 _ (List.mem_of_getElem? (i := 75) rfl) rfl
theorem mpM3_4_5 : Cond.selects RX12 yX12_readKeys yX12_readKeys ∈ TB := tbP_4 (yX12_readKeys, 19) (List.mem_of_getElem? (i := 5) rfl)
theorem mM3_8_46 : Cond.methodLink RX12 237 yX12_readTerms ∈ TB := tbT_8 _ (List.mem_of_getElem? (i := 46) rfl) rfl
theorem mM3_8_49 : Cond.code yX12_readTerms cX12_readTerms 1 (some .boolean) ∈ TB := tbT_8 _ (List.mem_of_getElem? (i := 49) rfl) rfl
theorem mM3_8_48 : Cond.instanceMethod yX12_readTerms ∈ TB := tbT_8 _ (List.mem_of_getElem? (i := 48) rfl) rfl
theorem mpM3_4_0 : Cond.selects RX12 yX12_readTerms yX12_readTerms ∈ TB := tbP_4 (yX12_readTerms, 19) (List.mem_of_getElem? (i := 0) rfl)
theorem mM3_7_163 : Cond.methodLink RX12 193 yX12_uses ∈ TB := tbT_7 _ (List.mem_of_getElem? (i := 163) rfl) rfl
theorem mM3_7_166 : Cond.code yX12_uses cX12_uses 1 none ∈ TB := tbT_7 _ (List.mem_of_getElem? (i := 166) rfl) rfl
theorem mM3_7_165 : Cond.instanceMethod yX12_uses ∈ TB := tbT_7 _ (List.mem_of_getElem? (i := 165) rfl) rfl
theorem mpM3_2_10 : Cond.selects RX12 yX12_uses yX12_uses ∈ TB := tbP_2 (yX12_uses, 19) (List.mem_of_getElem? (i := 10) rfl)
theorem mM3_8_33 : Cond.methodLink RX12 245 yX12_noSession ∈ TB := tbT_8 _ (List.mem_of_getElem? (i := 33) rfl) rfl
theorem mM3_8_36 : Cond.code yX12_noSession cX12_noSession 2 (some .boolean) ∈ TB := tbT_8 _ (List.mem_of_getElem? (i := 36) rfl) rfl
theorem mM3_8_35 : Cond.instanceMethod yX12_noSession ∈ TB := tbT_8 _ (List.mem_of_getElem? (i := 35) rfl) rfl
theorem mpM3_3_14 : Cond.selects RX12 yX12_noSession yX12_noSession ∈ TB := tbP_3 (yX12_noSession, 19) (List.mem_of_getElem? (i := 14) rfl)
theorem mM3_8_25 : Cond.methodLink RX12 199 yX12_throwsIf ∈ TB := tbT_8 _ (List.mem_of_getElem? (i := 25) rfl) rfl
theorem mM3_8_28 : Cond.code yX12_throwsIf cX12_throwsIf 3 (some .boolean) ∈ TB := tbT_8 _ (List.mem_of_getElem? (i := 28) rfl) rfl
theorem mM3_8_27 : Cond.instanceMethod yX12_throwsIf ∈ TB := tbT_8 _ (List.mem_of_getElem? (i := 27) rfl) rfl
theorem mpM3_3_13 : Cond.selects RX12 yX12_throwsIf yX12_throwsIf ∈ TB := tbP_3 (yX12_throwsIf, 19) (List.mem_of_getElem? (i := 13) rfl)
theorem mM3_8_40 : Cond.methodLink RX12 248 yX12_readQuery ∈ TB := tbT_8 _ (List.mem_of_getElem? (i := 40) rfl) rfl
theorem mM3_8_43 : Cond.code yX12_readQuery cX12_readQuery 2 (some .boolean) ∈ TB := tbT_8 _ (List.mem_of_getElem? (i := 43) rfl) rfl
theorem mM3_8_42 : Cond.instanceMethod yX12_readQuery ∈ TB := tbT_8 _ (List.mem_of_getElem? (i := 42) rfl) rfl
theorem mpM3_3_15 : Cond.selects RX12 yX12_readQuery yX12_readQuery ∈ TB := tbP_3 (yX12_readQuery, 19) (List.mem_of_getElem? (i := 15) rfl)
theorem mM3_7_89 : Cond.fieldLink RX12 90 "ClaimTableModel" "begin" "I" ∈ TB := tbT_7 _ (List.mem_of_getElem? (i := 89) rfl) rfl
theorem mM3_7_90 : Cond.fieldLink RX12 33 "ClaimTableModel" "faultAt" "I" ∈ TB := tbT_7 _ (List.mem_of_getElem? (i := 90) rfl) rfl
theorem mM3_7_79 : Cond.fieldLink RX12 13 "ClaimTableModel" "world" "[I" ∈ TB := tbT_7 _ (List.mem_of_getElem? (i := 79) rfl) rfl
theorem mM3_7_233 : Cond.methodLink RX12 63 yX12_sessionAt ∈ TB := tbT_7 _ (List.mem_of_getElem? (i := 233) rfl) rfl
theorem mM3_7_235 : Cond.code yX12_sessionAt cX12_sessionAt 2 (some .int) ∈ TB := tbT_7 _ (List.mem_of_getElem? (i := 235) rfl) rfl
theorem mM3_7_234 : Cond.static yX12_sessionAt ∈ TB := tbT_7 _ (List.mem_of_getElem? (i := 234) rfl) rfl
theorem mM3_7_202 : Cond.methodLink RX12 59 yX12_numberOf ∈ TB := tbT_7 _ (List.mem_of_getElem? (i := 202) rfl) rfl
theorem mM3_7_205 : Cond.code yX12_numberOf cX12_numberOf 2 (some .int) ∈ TB := tbT_7 _ (List.mem_of_getElem? (i := 205) rfl) rfl
theorem mM3_7_204 : Cond.instanceMethod yX12_numberOf ∈ TB := tbT_7 _ (List.mem_of_getElem? (i := 204) rfl) rfl
theorem mpM3_3_3 : Cond.selects RX12 yX12_numberOf yX12_numberOf ∈ TB := tbP_3 (yX12_numberOf, 19) (List.mem_of_getElem? (i := 3) rfl)
theorem mM3_8_106 : Cond.methodLink RX12 70 yX12_lockerOf ∈ TB := tbT_8 _ (List.mem_of_getElem? (i := 106) rfl) rfl
theorem mM3_8_109 : Cond.code yX12_lockerOf cX12_lockerOf 2 (some .int) ∈ TB := tbT_8 _ (List.mem_of_getElem? (i := 109) rfl) rfl
theorem mM3_8_108 : Cond.instanceMethod yX12_lockerOf ∈ TB := tbT_8 _ (List.mem_of_getElem? (i := 108) rfl) rfl
theorem mpM3_4_10 : Cond.selects RX12 yX12_lockerOf yX12_lockerOf ∈ TB := tbP_4 (yX12_lockerOf, 19) (List.mem_of_getElem? (i := 10) rfl)
theorem mM3_8_87 : Cond.methodLink RX12 251 yX12_isOpen ∈ TB := tbT_8 _ (List.mem_of_getElem? (i := 87) rfl) rfl
theorem mM3_8_90 : Cond.code yX12_isOpen cX12_isOpen 2 (some .boolean) ∈ TB := tbT_8 _ (List.mem_of_getElem? (i := 90) rfl) rfl
theorem mM3_8_89 : Cond.instanceMethod yX12_isOpen ∈ TB := tbT_8 _ (List.mem_of_getElem? (i := 89) rfl) rfl
theorem mpM3_4_7 : Cond.selects RX12 yX12_isOpen yX12_isOpen ∈ TB := tbP_4 (yX12_isOpen, 19) (List.mem_of_getElem? (i := 7) rfl)
theorem mM3_7_74 : Cond.methodLink RX12 51 yX12_jobAt ∈ TB := tbT_7 _ (List.mem_of_getElem? (i := 74) rfl) rfl
theorem mM3_7_76 : Cond.code yX12_jobAt cX12_jobAt 2 (some .int) ∈ TB := tbT_7 _ (List.mem_of_getElem? (i := 76) rfl) rfl
theorem mM3_7_75 : Cond.static yX12_jobAt ∈ TB := tbT_7 _ (List.mem_of_getElem? (i := 75) rfl) rfl
theorem mM3_8_110 : Cond.methodLink RX12 254 yX12_copies ∈ TB := tbT_8 _ (List.mem_of_getElem? (i := 110) rfl) rfl
theorem mM3_8_113 : Cond.code yX12_copies cX12_copies 5 none ∈ TB := tbT_8 _ (List.mem_of_getElem? (i := 113) rfl) rfl
theorem mM3_8_112 : Cond.instanceMethod yX12_copies ∈ TB := tbT_8 _ (List.mem_of_getElem? (i := 112) rfl) rfl
theorem mpM3_4_11 : Cond.selects RX12 yX12_copies yX12_copies ∈ TB := tbP_4 (yX12_copies, 19) (List.mem_of_getElem? (i := 11) rfl)
theorem mM3_8_122 : Cond.methodLink RX12 73 yX12_isIn ∈ TB := tbT_8 _ (List.mem_of_getElem? (i := 122) rfl) rfl
theorem mM3_8_125 : Cond.code yX12_isIn cX12_isIn 2 (some .boolean) ∈ TB := tbT_8 _ (List.mem_of_getElem? (i := 125) rfl) rfl
theorem mM3_8_124 : Cond.instanceMethod yX12_isIn ∈ TB := tbT_8 _ (List.mem_of_getElem? (i := 124) rfl) rfl
theorem mpM3_4_13 : Cond.selects RX12 yX12_isIn yX12_isIn ∈ TB := tbP_4 (yX12_isIn, 19) (List.mem_of_getElem? (i := 13) rfl)
theorem mM3_8_142 : Cond.methodLink RX12 258 Lib.Math.min.name ∈ TB := tbT_8 _ (List.mem_of_getElem? (i := 142) rfl) rfl
theorem mM3_5_67 : Cond.static Lib.Math.min.name ∈ TB := tbT_5 _ (List.mem_of_getElem? (i := 67) rfl) rfl
theorem mM3_1_25 : Cond.initialized "java/lang/Math" ∈ TB := tbT_1 _ (List.mem_of_getElem? (i := 25) rfl) rfl
theorem mM3_5_68 : Cond.code Lib.Math.min.name Lib.Math.min.code 2 (some .int) ∈ TB := tbT_5 _ (List.mem_of_getElem? (i := 68) rfl) rfl
theorem mM3_8_134 : Cond.methodLink RX12 263 yX12_behindNumber ∈ TB := tbT_8 _ (List.mem_of_getElem? (i := 134) rfl) rfl
theorem mM3_8_137 : Cond.code yX12_behindNumber cX12_behindNumber 4 (some .int) ∈ TB := tbT_8 _ (List.mem_of_getElem? (i := 137) rfl) rfl
theorem mM3_8_136 : Cond.instanceMethod yX12_behindNumber ∈ TB := tbT_8 _ (List.mem_of_getElem? (i := 136) rfl) rfl
theorem mpM3_4_15 : Cond.selects RX12 yX12_behindNumber yX12_behindNumber ∈ TB := tbP_4 (yX12_behindNumber, 19) (List.mem_of_getElem? (i := 15) rfl)
theorem mM3_8_118 : Cond.methodLink RX12 266 yX12_frees ∈ TB := tbT_8 _ (List.mem_of_getElem? (i := 118) rfl) rfl
theorem mM3_8_121 : Cond.code yX12_frees cX12_frees 2 none ∈ TB := tbT_8 _ (List.mem_of_getElem? (i := 121) rfl) rfl
theorem mM3_8_120 : Cond.instanceMethod yX12_frees ∈ TB := tbT_8 _ (List.mem_of_getElem? (i := 120) rfl) rfl
theorem mpM3_4_12 : Cond.selects RX12 yX12_frees yX12_frees ∈ TB := tbP_4 (yX12_frees, 19) (List.mem_of_getElem? (i := 12) rfl)
theorem mM3_8_138 : Cond.methodLink RX12 270 yX12_isTold ∈ TB := tbT_8 _ (List.mem_of_getElem? (i := 138) rfl) rfl
theorem mM3_8_141 : Cond.code yX12_isTold cX12_isTold 3 none ∈ TB := tbT_8 _ (List.mem_of_getElem? (i := 141) rfl) rfl
theorem mM3_8_140 : Cond.instanceMethod yX12_isTold ∈ TB := tbT_8 _ (List.mem_of_getElem? (i := 140) rfl) rfl
theorem mpM3_5_0 : Cond.selects RX12 yX12_isTold yX12_isTold ∈ TB := tbP_5 (yX12_isTold, 19) (List.mem_of_getElem? (i := 0) rfl)
def rm_X12_readKey : Room := { frames := 6, cells := 0, slots := 0, locals := 129 }
def B_X12_readKey_59 (t1 : Int32) (t2 : Int32) (S : sSt) (k : Int32 → sSt → Prop) : Prop := ix t1 23 (fun j12 => ∀ S13, S13 = uI S 5 0 j12 t2 → ∀ S14, S14 = uI S13 5 0 14 ((S13.1 5 0 14) + 1) → k 1 S14)
set_option maxHeartbeats 4000000 in
set_option maxRecDepth 100000 in
theorem Bw_X12_readKey_59 {p : Program} {l : Launch} {e : Env} {s : State} {m : MethodId} {args : Array Value} {below : List Frame} {meth : Method} {c : Code} {D : va_G} {cy : Nat → ClassId} {b z : Nat} {tx : TX} (C0 : CallFix p m c cX12_readKey 4 s args TB RX12) (hr : meth.sig.returnType = (some .boolean)) (hlk : meth.locks = false) (hT : TxR tx s) {k : Int32 → sSt → Prop} : ∀ (t1 : Int32) (t2 : Int32) (S : sSt) (H : Heap) (locs : List Loc) (ls : Array Slot) , B_X12_readKey_59 t1 t2 S k → RelM D cy b z tx S s H → va_S (gA b 12 z) s.heap H locs → lv_has ls 4 [(0, .ref (b + adM 0 0))] → W p l e rm_X12_readKey s m args below meth c H locs 0 0 (MQ below (PiM D cy b z tx k) args s 0 0 (gA b 12 z)) (F0 m 59 ls [.int t2, .int t1, .ref (b + adM 5 0)]) := by
  intro t1 t2 S H locs ls h hR hS hl
  have hx := C0.1
  have hb := C0.2.1
  unfold B_X12_readKey_59 at h
  obtain ⟨j12, hj12, ej12, h⟩ := h
  refine sM_5 C0 hR hS Nat.zero_lt_one hj12 ej12 dX12_readKey_59 (fun S13 eS13 H locs hR hS => ?_)
  have h := h S13 eS13
  refine lv_aload_n hx hb dX12_readKey_60 rfl (lv_at hl 0 rfl) ?_
  refine gM_0_6 C0 hR Nat.zero_lt_one tbs_wsX120 mM3_7_83 dX12_readKey_61 ?_
  refine lv_bipush (v := 14) hx hb dX12_readKey_64 (by decide) ?_
  refine lv_dup2_11 hx hb dX12_readKey_66 rfl rfl ?_
  refine lM_5 C0 hR Nat.zero_lt_one (by decide) rfl dX12_readKey_67 ?_
  refine lv_iconst (v := 1) hx hb dX12_readKey_68 (by decide) ?_
  refine lv_iadd hx hb dX12_readKey_69 ?_
  refine sM_5 C0 hR hS Nat.zero_lt_one (by decide) rfl dX12_readKey_70 (fun S14 eS14 H locs hR hS => ?_)
  have h := h S14 eS14
  refine lv_iconst (v := 1) hx hb dX12_readKey_71 (by decide) ?_
  exact rtM_z C0 hr hlk hR hS (by decide) h dX12_readKey_72
def F_X12_readKey (S : sSt) (k : Int32 → sSt → Prop) : Prop := ∀ x1 : Int32, x1 = (S.1 5 0 14) → ∀ x2 : Int32, x2 = (15 + (2 * x1)) → F_X12_columnRead S (fun r3 S4 => ((x1 = 4 → k 0 S4) ∧ (¬ x1 = 4 → ((0 ≤ r3 → ix x2 23 (fun j7 => ∀ S8, S8 = uI S4 5 0 j7 r3 → F_X12_passes 28 S8 (fun r9 S10 => ((r9 = 0 → B_X12_readKey_59 (x2 + 1) 0 S10 k) ∧ (¬ r9 = 0 → B_X12_readKey_59 (x2 + 1) 1 S10 k))))) ∧ (¬ 0 ≤ r3 → k 0 S4)))))
set_option maxHeartbeats 4000000 in
set_option maxRecDepth 100000 in
theorem c_X12_readKey (l : Launch) {D : va_G} {cy : Nat → ClassId} {b z : Nat} {tx : TX} {S : sSt} {k : Int32 → sSt → Prop} (h : F_X12_readKey S k) : Met l yX12_readKey (Cond.code yX12_readKey cX12_readKey 4 (some .boolean) :: TB) rm_X12_readKey (va_Pc [.ref (b + adM 0 0)] (fun U => RelM D cy b z tx S U U.heap ∧ TxR tx U)) (PiM D cy b z tx k) 0 0 (gA b 12 z) := by
  refine Met.ofW (cc := cX12_readKey) (maxL := 4) (ret := (some .boolean)) (by decide) rfl ?_
  intro p e s m args below meth c s₁ B hml hv
  obtain ⟨rfl, hR, hT⟩ := hv
  have C0 : CallFix p m c cX12_readKey 4 s _ TB RX12 := ⟨B.exec, B.bytes, hml, findClass_of_methodNamed B.named, fun w hw => atoms_spec B.pre w (List.mem_cons_of_mem _ hw)⟩
  have hr := B.returns
  have hlk := B.notSynchronized
  have hx := C0.1
  have hb := C0.2.1
  have hS : va_S (gA b 12 z) s.heap s.heap [] := va_S.rf
  have hl := lv_entry ([.ref (b + adM 0 0)]) (n := 4) (Nat.le_of_ble_eq_true rfl)
  rw [lg_entry_eq]
  generalize (lg_sl ([.ref (b + adM 0 0)]) ++ List.replicate (4 - (lg_sl ([.ref (b + adM 0 0)])).length) Slot.unset).toArray = ls at hl ⊢
  have hl : lv_has ls 4 [(0, .ref (b + adM 0 0))] := hl
  show W p l e rm_X12_readKey s m _ below meth c s.heap [] 0 0 (MQ below (PiM D cy b z tx k) _ s 0 0 (gA b 12 z)) _
  unfold F_X12_readKey at h
  refine lv_aload_n hx hb dX12_readKey_0 rfl (lv_at hl 0 rfl) ?_
  refine gM_0_6 C0 hR Nat.zero_lt_one tbs_wsX120 mM3_7_83 dX12_readKey_1 ?_
  refine lv_bipush (v := 14) hx hb dX12_readKey_4 (by decide) ?_
  refine lM_5 C0 hR Nat.zero_lt_one (by decide) rfl dX12_readKey_6 ?_
  refine lv_topi (fun x1 ex1 => ?_)
  have h := h x1 ex1
  refine lv_istore_n (lv' := [(1, .int x1), (0, .ref (b + adM 0 0))]) hx hb dX12_readKey_7 rfl hl (by decide) rfl (fun ls hl => ?_)
  refine lv_bipush (v := 15) hx hb dX12_readKey_8 (by decide) ?_
  refine lv_iconst (v := 2) hx hb dX12_readKey_10 (by decide) ?_
  refine lv_iload_n hx hb dX12_readKey_11 rfl (lv_at hl 0 rfl) ?_
  refine lv_imul hx hb dX12_readKey_12 ?_
  refine lv_iadd hx hb dX12_readKey_13 ?_
  refine lv_topi (fun x2 ex2 => ?_)
  have h := h x2 ex2
  refine lv_istore_n (lv' := [(2, .int x2), (1, .int x1), (0, .ref (b + adM 0 0))]) hx hb dX12_readKey_14 rfl hl (by decide) rfl (fun ls hl => ?_)
  refine lv_aload_n hx hb dX12_readKey_15 rfl (lv_at hl 2 rfl) ?_
  refine qM_Vi (As := []) (rest := []) C0 (c_X12_columnRead l h) (cwV 0 C0.2.2.2.2 (tbV mM3_8_54 ⟨mM3_8_56, mpM3_4_2, mM3_1_11, mM3_8_57⟩) rfl rfl rfl (by decide +kernel) ⟨Nat.le_of_ble_eq_true rfl, Nat.le_of_ble_eq_true rfl⟩) (rcM_0 hR Nat.zero_lt_one) hR hT hS rfl hl.1 rfl (Nat.le_of_ble_eq_true rfl) dX12_readKey_16 ⟨Nat.zero_le _, Nat.zero_le _⟩ (fun r3 S4 H locs h hR hS => ?_)
  refine lv_istore_n (lv' := [(3, .int r3), (2, .int x2), (1, .int x1), (0, .ref (b + adM 0 0))]) hx hb dX12_readKey_19 rfl hl (by decide) rfl (fun ls hl => ?_)
  refine lv_iload_n hx hb dX12_readKey_20 rfl (lv_at hl 2 rfl) ?_
  refine lv_iconst (v := 4) hx hb dX12_readKey_21 (by decide) ?_
  refine lv_icmp_eq (tgt := 29) hx hb dX12_readKey_22 (by decide) (fun c5 => ?_) (fun c5 => ?_)
  · have h := h.1 c5
    refine lv_iconst (v := 0) hx hb dX12_readKey_29 (by decide) ?_
    exact rtM_z C0 hr hlk hR hS (by decide) h dX12_readKey_30
  · have h := h.2 c5
    refine lv_iload_n hx hb dX12_readKey_25 rfl (lv_at hl 0 rfl) ?_
    refine lv_if_ge (tgt := 31) hx hb dX12_readKey_26 (by decide) (fun c6 => ?_) (fun c6 => ?_)
    · have h := h.1 c6
      refine lv_aload_n hx hb dX12_readKey_31 rfl (lv_at hl 3 rfl) ?_
      refine gM_0_6 C0 hR Nat.zero_lt_one tbs_wsX120 mM3_7_83 dX12_readKey_32 ?_
      refine lv_iload_n hx hb dX12_readKey_35 rfl (lv_at hl 1 rfl) ?_
      refine lv_iload_n hx hb dX12_readKey_36 rfl (lv_at hl 0 rfl) ?_
      obtain ⟨j7, hj7, ej7, h⟩ := h
      refine sM_5 C0 hR hS Nat.zero_lt_one hj7 ej7 dX12_readKey_37 (fun S8 eS8 H locs hR hS => ?_)
      have h := h S8 eS8
      refine lv_aload_n hx hb dX12_readKey_38 rfl (lv_at hl 3 rfl) ?_
      refine gM_0_6 C0 hR Nat.zero_lt_one tbs_wsX120 mM3_7_83 dX12_readKey_39 ?_
      refine lv_iload_n hx hb dX12_readKey_42 rfl (lv_at hl 1 rfl) ?_
      refine lv_iconst (v := 1) hx hb dX12_readKey_43 (by decide) ?_
      refine lv_iadd hx hb dX12_readKey_44 ?_
      refine lv_aload_n hx hb dX12_readKey_45 rfl (lv_at hl 3 rfl) ?_
      refine va_ldcS hx hb C0.2.2.2.1 (tr_60 hT) dX12_readKey_46 ?_
      refine qM_Vi (As := [.ref (tx.2.1 28)]) (rest := [.int (x2 + 1), .ref (b + adM 5 0)]) C0 (c_X12_passes l (by decide) h) (cwV 1 C0.2.2.2.2 (tbV mM3_7_218 ⟨mM3_7_220, mpM3_3_6, mM3_1_11, mM3_7_221⟩) rfl rfl rfl (by decide +kernel) ⟨Nat.le_of_ble_eq_true rfl, Nat.le_of_ble_eq_true rfl⟩) (rcM_0 hR Nat.zero_lt_one) hR hT hS rfl hl.1 rfl (Nat.le_of_ble_eq_true rfl) dX12_readKey_48 ⟨Nat.zero_le _, Nat.zero_le _⟩ (fun r9 S10 H locs h hR hS => ?_)
      refine lv_if_eq (tgt := 58) hx hb dX12_readKey_51 (by decide) (fun c11 => ?_) (fun c11 => ?_)
      · have h := h.1 c11
        refine lv_iconst (v := 0) hx hb dX12_readKey_58 (by decide) ?_
        exact Bw_X12_readKey_59 C0 hr hlk hT (x2 + 1) 0 S10 _ _ _ h hR hS (lv_sub hl [3] rfl)
      · have h := h.2 c11
        refine lv_iconst (v := 1) hx hb dX12_readKey_54 (by decide) ?_
        refine lv_goto (tgt := 59) hx hb dX12_readKey_55 (by decide) ?_
        exact Bw_X12_readKey_59 C0 hr hlk hT (x2 + 1) 1 S10 _ _ _ h hR hS (lv_sub hl [3] rfl)
    · have h := h.2 c6
      refine lv_iconst (v := 0) hx hb dX12_readKey_29 (by decide) ?_
      exact rtM_z C0 hr hlk hR hS (by decide) h dX12_readKey_30

def rm_X12_readTerms : Room := { frames := 7, cells := 0, slots := 0, locals := 153 }
def Bb_X12_readTerms_0 (kk0 : sSt → Prop) (S : sSt) (k : Int32 → sSt → Prop) : Prop := F_X12_readTerm S (fun r1 S2 => ((¬ r1 = 0 → F_X12_passes 25 S2 (fun r4 S5 => ((¬ r4 = 0 → kk0 S5) ∧ (r4 = 0 → k 1 S5)))) ∧ (r1 = 0 → k 0 S2)))
set_option maxHeartbeats 4000000 in
set_option maxRecDepth 100000 in
theorem Bbw_X12_readTerms_0 {p : Program} {l : Launch} {e : Env} {s : State} {m : MethodId} {args : Array Value} {below : List Frame} {meth : Method} {c : Code} {D : va_G} {cy : Nat → ClassId} {b z : Nat} {tx : TX} (C0 : CallFix p m c cX12_readTerms 1 s args TB RX12) (hr : meth.sig.returnType = (some .boolean)) (hlk : meth.locks = false) (hT : TxR tx s) {k : Int32 → sSt → Prop} {kk0 : sSt → Prop} (ih0 : ∀ (S : sSt) (H : Heap) (locs : List Loc) (ls : Array Slot) , kk0 S → RelM D cy b z tx S s H → va_S (gA b 12 z) s.heap H locs → lv_has ls 1 [(0, .ref (b + adM 0 0))] → W p l e rm_X12_readTerms s m args below meth c H locs 0 0 (MQ below (PiM D cy b z tx k) args s 0 0 (gA b 12 z)) (F0 m 0 ls [])) : ∀ (S : sSt) (H : Heap) (locs : List Loc) (ls : Array Slot) , Bb_X12_readTerms_0 kk0 S k → RelM D cy b z tx S s H → va_S (gA b 12 z) s.heap H locs → lv_has ls 1 [(0, .ref (b + adM 0 0))] → W p l e rm_X12_readTerms s m args below meth c H locs 0 0 (MQ below (PiM D cy b z tx k) args s 0 0 (gA b 12 z)) (F0 m 0 ls []) := by
  intro S H locs ls h hR hS hl
  have hx := C0.1
  have hb := C0.2.1
  unfold Bb_X12_readTerms_0 at h
  refine lv_aload_n hx hb dX12_readTerms_0 rfl (lv_at hl 0 rfl) ?_
  refine qM_Vi (As := []) (rest := []) C0 (c_X12_readTerm l h) (cwV 0 C0.2.2.2.2 (tbV mM3_8_50 ⟨mM3_8_52, mpM3_4_1, mM3_1_11, mM3_8_53⟩) rfl rfl rfl (by decide +kernel) ⟨Nat.le_of_ble_eq_true rfl, Nat.le_of_ble_eq_true rfl⟩) (rcM_0 hR Nat.zero_lt_one) hR hT hS rfl hl.1 rfl (Nat.le_of_ble_eq_true rfl) dX12_readTerms_1 ⟨Nat.zero_le _, Nat.zero_le _⟩ (fun r1 S2 H locs h hR hS => ?_)
  refine lv_if_ne (tgt := 9) hx hb dX12_readTerms_4 (by decide) (fun c3 => ?_) (fun c3 => ?_)
  · have h := h.1 c3
    refine lv_aload_n hx hb dX12_readTerms_9 rfl (lv_at hl 0 rfl) ?_
    refine va_ldcS hx hb C0.2.2.2.1 (tr_57 hT) dX12_readTerms_10 ?_
    refine qM_Vi (As := [.ref (tx.2.1 25)]) (rest := []) C0 (c_X12_passes l (by decide) h) (cwV 1 C0.2.2.2.2 (tbV mM3_7_218 ⟨mM3_7_220, mpM3_3_6, mM3_1_11, mM3_7_221⟩) rfl rfl rfl (by decide +kernel) ⟨Nat.le_of_ble_eq_true rfl, Nat.le_of_ble_eq_true rfl⟩) (rcM_0 hR Nat.zero_lt_one) hR hT hS rfl hl.1 rfl (Nat.le_of_ble_eq_true rfl) dX12_readTerms_12 ⟨Nat.zero_le _, Nat.zero_le _⟩ (fun r4 S5 H locs h hR hS => ?_)
    refine lv_if_ne (tgt := 0) hx hb dX12_readTerms_15 (by decide) (fun c6 => ?_) (fun c6 => ?_)
    · have h := h.1 c6
      exact ih0  S5 _ _ _  h hR hS (lv_sub hl [0] rfl)
    · have h := h.2 c6
      refine lv_iconst (v := 1) hx hb dX12_readTerms_18 (by decide) ?_
      exact rtM_z C0 hr hlk hR hS (by decide) h dX12_readTerms_19
  · have h := h.2 c3
    refine lv_iconst (v := 0) hx hb dX12_readTerms_7 (by decide) ?_
    exact rtM_z C0 hr hlk hR hS (by decide) h dX12_readTerms_8
def B_X12_readTerms_0 (n9 : Nat) (S : sSt) (k : Int32 → sSt → Prop) : Prop := (Nat.rec (motive := fun _ => sSt → Prop) (fun _ => False) (fun _ r9 => fun S => Bb_X12_readTerms_0 r9 S k) n9 : sSt → Prop) S
theorem B_X12_readTerms_0_s (n9 : Nat) (S : sSt) (k : Int32 → sSt → Prop) : B_X12_readTerms_0 (n9 + 1) S k = Bb_X12_readTerms_0 (fun S => B_X12_readTerms_0 n9 S k) S k := rfl
set_option maxHeartbeats 4000000 in
set_option maxRecDepth 100000 in
theorem Bw_X12_readTerms_0 {p : Program} {l : Launch} {e : Env} {s : State} {m : MethodId} {args : Array Value} {below : List Frame} {meth : Method} {c : Code} {D : va_G} {cy : Nat → ClassId} {b z : Nat} {tx : TX} (C0 : CallFix p m c cX12_readTerms 1 s args TB RX12) (hr : meth.sig.returnType = (some .boolean)) (hlk : meth.locks = false) (hT : TxR tx s) {k : Int32 → sSt → Prop} : ∀ (n9 : Nat), ∀ (S : sSt) (H : Heap) (locs : List Loc) (ls : Array Slot) , B_X12_readTerms_0 n9 S k → RelM D cy b z tx S s H → va_S (gA b 12 z) s.heap H locs → lv_has ls 1 [(0, .ref (b + adM 0 0))] → W p l e rm_X12_readTerms s m args below meth c H locs 0 0 (MQ below (PiM D cy b z tx k) args s 0 0 (gA b 12 z)) (F0 m 0 ls []) := by
  intro n9
  induction n9 with
  | zero => intro S H locs ls h; exact h.elim
  | succ n9 ih =>
    intro S H locs ls h hR hS hl
    exact Bbw_X12_readTerms_0 C0 hr hlk hT ih S H locs ls h hR hS hl
def F_X12_readTerms (S : sSt) (k : Int32 → sSt → Prop) : Prop := B_X12_readTerms_0 fuel S k
set_option maxHeartbeats 4000000 in
set_option maxRecDepth 100000 in
theorem c_X12_readTerms (l : Launch) {D : va_G} {cy : Nat → ClassId} {b z : Nat} {tx : TX} {S : sSt} {k : Int32 → sSt → Prop} (h : F_X12_readTerms S k) : Met l yX12_readTerms (Cond.code yX12_readTerms cX12_readTerms 1 (some .boolean) :: TB) rm_X12_readTerms (va_Pc [.ref (b + adM 0 0)] (fun U => RelM D cy b z tx S U U.heap ∧ TxR tx U)) (PiM D cy b z tx k) 0 0 (gA b 12 z) := by
  refine Met.ofW (cc := cX12_readTerms) (maxL := 1) (ret := (some .boolean)) (by decide) rfl ?_
  intro p e s m args below meth c s₁ B hml hv
  obtain ⟨rfl, hR, hT⟩ := hv
  have C0 : CallFix p m c cX12_readTerms 1 s _ TB RX12 := ⟨B.exec, B.bytes, hml, findClass_of_methodNamed B.named, fun w hw => atoms_spec B.pre w (List.mem_cons_of_mem _ hw)⟩
  have hr := B.returns
  have hlk := B.notSynchronized
  have hx := C0.1
  have hb := C0.2.1
  have hS : va_S (gA b 12 z) s.heap s.heap [] := va_S.rf
  have hl := lv_entry ([.ref (b + adM 0 0)]) (n := 1) (Nat.le_of_ble_eq_true rfl)
  rw [lg_entry_eq]
  generalize (lg_sl ([.ref (b + adM 0 0)]) ++ List.replicate (1 - (lg_sl ([.ref (b + adM 0 0)])).length) Slot.unset).toArray = ls at hl ⊢
  have hl : lv_has ls 1 [(0, .ref (b + adM 0 0))] := hl
  show W p l e rm_X12_readTerms s m _ below meth c s.heap [] 0 0 (MQ below (PiM D cy b z tx k) _ s 0 0 (gA b 12 z)) _
  unfold F_X12_readTerms at h
  exact Bw_X12_readTerms_0 C0 hr hlk hT fuel S _ _ _ h hR hS (lv_sub hl [0] rfl)

def rm_X12_readKeys : Room := { frames := 7, cells := 0, slots := 0, locals := 152 }
def Bb_X12_readKeys_15 (kk15 : sSt → Prop) (S : sSt) (k : Int32 → sSt → Prop) : Prop := F_X12_readKey S (fun r6 S7 => ((¬ r6 = 0 → F_X12_sign 44 S7 (fun r9 S10 => ((¬ r9 = 0 → kk15 S10) ∧ (r9 = 0 → k 1 S10)))) ∧ (r6 = 0 → k 0 S7)))
set_option maxHeartbeats 4000000 in
set_option maxRecDepth 100000 in
theorem Bbw_X12_readKeys_15 {p : Program} {l : Launch} {e : Env} {s : State} {m : MethodId} {args : Array Value} {below : List Frame} {meth : Method} {c : Code} {D : va_G} {cy : Nat → ClassId} {b z : Nat} {tx : TX} (C0 : CallFix p m c cX12_readKeys 1 s args TB RX12) (hr : meth.sig.returnType = (some .boolean)) (hlk : meth.locks = false) (hT : TxR tx s) {k : Int32 → sSt → Prop} {kk15 : sSt → Prop} (ih15 : ∀ (S : sSt) (H : Heap) (locs : List Loc) (ls : Array Slot) , kk15 S → RelM D cy b z tx S s H → va_S (gA b 12 z) s.heap H locs → lv_has ls 1 [(0, .ref (b + adM 0 0))] → W p l e rm_X12_readKeys s m args below meth c H locs 0 0 (MQ below (PiM D cy b z tx k) args s 0 0 (gA b 12 z)) (F0 m 15 ls [])) : ∀ (S : sSt) (H : Heap) (locs : List Loc) (ls : Array Slot) , Bb_X12_readKeys_15 kk15 S k → RelM D cy b z tx S s H → va_S (gA b 12 z) s.heap H locs → lv_has ls 1 [(0, .ref (b + adM 0 0))] → W p l e rm_X12_readKeys s m args below meth c H locs 0 0 (MQ below (PiM D cy b z tx k) args s 0 0 (gA b 12 z)) (F0 m 15 ls []) := by
  intro S H locs ls h hR hS hl
  have hx := C0.1
  have hb := C0.2.1
  unfold Bb_X12_readKeys_15 at h
  refine lv_aload_n hx hb dX12_readKeys_15 rfl (lv_at hl 0 rfl) ?_
  refine qM_Vi (As := []) (rest := []) C0 (c_X12_readKey l h) (cwV 0 C0.2.2.2.2 (tbV mM3_8_78 ⟨mM3_8_80, mpM3_4_6, mM3_1_11, mM3_8_81⟩) rfl rfl rfl (by decide +kernel) ⟨Nat.le_of_ble_eq_true rfl, Nat.le_of_ble_eq_true rfl⟩) (rcM_0 hR Nat.zero_lt_one) hR hT hS rfl hl.1 rfl (Nat.le_of_ble_eq_true rfl) dX12_readKeys_16 ⟨Nat.zero_le _, Nat.zero_le _⟩ (fun r6 S7 H locs h hR hS => ?_)
  refine lv_if_ne (tgt := 24) hx hb dX12_readKeys_19 (by decide) (fun c8 => ?_) (fun c8 => ?_)
  · have h := h.1 c8
    refine lv_aload_n hx hb dX12_readKeys_24 rfl (lv_at hl 0 rfl) ?_
    refine lv_bipush (v := 44) hx hb dX12_readKeys_25 (by decide) ?_
    refine qM_Vi (As := [.int 44]) (rest := []) C0 (c_X12_sign l h) (cwV 1 C0.2.2.2.2 (tbV mM3_8_67 ⟨mM3_8_69, mpM3_4_4, mM3_1_11, mM3_8_70⟩) rfl rfl rfl (by decide +kernel) ⟨Nat.le_of_ble_eq_true rfl, Nat.le_of_ble_eq_true rfl⟩) (rcM_0 hR Nat.zero_lt_one) hR hT hS rfl hl.1 rfl (Nat.le_of_ble_eq_true rfl) dX12_readKeys_27 ⟨Nat.zero_le _, Nat.zero_le _⟩ (fun r9 S10 H locs h hR hS => ?_)
    refine lv_if_ne (tgt := 15) hx hb dX12_readKeys_30 (by decide) (fun c11 => ?_) (fun c11 => ?_)
    · have h := h.1 c11
      exact ih15  S10 _ _ _  h hR hS (lv_sub hl [0] rfl)
    · have h := h.2 c11
      refine lv_iconst (v := 1) hx hb dX12_readKeys_33 (by decide) ?_
      exact rtM_z C0 hr hlk hR hS (by decide) h dX12_readKeys_34
  · have h := h.2 c8
    refine lv_iconst (v := 0) hx hb dX12_readKeys_22 (by decide) ?_
    exact rtM_z C0 hr hlk hR hS (by decide) h dX12_readKeys_23
def B_X12_readKeys_15 (n9 : Nat) (S : sSt) (k : Int32 → sSt → Prop) : Prop := (Nat.rec (motive := fun _ => sSt → Prop) (fun _ => False) (fun _ r9 => fun S => Bb_X12_readKeys_15 r9 S k) n9 : sSt → Prop) S
theorem B_X12_readKeys_15_s (n9 : Nat) (S : sSt) (k : Int32 → sSt → Prop) : B_X12_readKeys_15 (n9 + 1) S k = Bb_X12_readKeys_15 (fun S => B_X12_readKeys_15 n9 S k) S k := rfl
set_option maxHeartbeats 4000000 in
set_option maxRecDepth 100000 in
theorem Bw_X12_readKeys_15 {p : Program} {l : Launch} {e : Env} {s : State} {m : MethodId} {args : Array Value} {below : List Frame} {meth : Method} {c : Code} {D : va_G} {cy : Nat → ClassId} {b z : Nat} {tx : TX} (C0 : CallFix p m c cX12_readKeys 1 s args TB RX12) (hr : meth.sig.returnType = (some .boolean)) (hlk : meth.locks = false) (hT : TxR tx s) {k : Int32 → sSt → Prop} : ∀ (n9 : Nat), ∀ (S : sSt) (H : Heap) (locs : List Loc) (ls : Array Slot) , B_X12_readKeys_15 n9 S k → RelM D cy b z tx S s H → va_S (gA b 12 z) s.heap H locs → lv_has ls 1 [(0, .ref (b + adM 0 0))] → W p l e rm_X12_readKeys s m args below meth c H locs 0 0 (MQ below (PiM D cy b z tx k) args s 0 0 (gA b 12 z)) (F0 m 15 ls []) := by
  intro n9
  induction n9 with
  | zero => intro S H locs ls h; exact h.elim
  | succ n9 ih =>
    intro S H locs ls h hR hS hl
    exact Bbw_X12_readKeys_15 C0 hr hlk hT ih S H locs ls h hR hS hl
def F_X12_readKeys (S : sSt) (k : Int32 → sSt → Prop) : Prop := F_X12_letters S (fun S2 => F_X12_isWord 27 S2 (fun r3 S4 => ((¬ r3 = 0 → B_X12_readKeys_15 fuel S4 k) ∧ (r3 = 0 → k 0 S4))))
set_option maxHeartbeats 4000000 in
set_option maxRecDepth 100000 in
theorem c_X12_readKeys (l : Launch) {D : va_G} {cy : Nat → ClassId} {b z : Nat} {tx : TX} {S : sSt} {k : Int32 → sSt → Prop} (h : F_X12_readKeys S k) : Met l yX12_readKeys (Cond.code yX12_readKeys cX12_readKeys 1 (some .boolean) :: TB) rm_X12_readKeys (va_Pc [.ref (b + adM 0 0)] (fun U => RelM D cy b z tx S U U.heap ∧ TxR tx U)) (PiM D cy b z tx k) 0 0 (gA b 12 z) := by
  refine Met.ofW (cc := cX12_readKeys) (maxL := 1) (ret := (some .boolean)) (by decide) rfl ?_
  intro p e s m args below meth c s₁ B hml hv
  obtain ⟨rfl, hR, hT⟩ := hv
  have C0 : CallFix p m c cX12_readKeys 1 s _ TB RX12 := ⟨B.exec, B.bytes, hml, findClass_of_methodNamed B.named, fun w hw => atoms_spec B.pre w (List.mem_cons_of_mem _ hw)⟩
  have hr := B.returns
  have hlk := B.notSynchronized
  have hx := C0.1
  have hb := C0.2.1
  have hS : va_S (gA b 12 z) s.heap s.heap [] := va_S.rf
  have hl := lv_entry ([.ref (b + adM 0 0)]) (n := 1) (Nat.le_of_ble_eq_true rfl)
  rw [lg_entry_eq]
  generalize (lg_sl ([.ref (b + adM 0 0)]) ++ List.replicate (1 - (lg_sl ([.ref (b + adM 0 0)])).length) Slot.unset).toArray = ls at hl ⊢
  have hl : lv_has ls 1 [(0, .ref (b + adM 0 0))] := hl
  show W p l e rm_X12_readKeys s m _ below meth c s.heap [] 0 0 (MQ below (PiM D cy b z tx k) _ s 0 0 (gA b 12 z)) _
  unfold F_X12_readKeys at h
  refine lv_aload_n hx hb dX12_readKeys_0 rfl (lv_at hl 0 rfl) ?_
  refine qM_Vv (As := []) (rest := []) C0 (c_X12_letters l h) (cwV 0 C0.2.2.2.2 (tbV mM3_7_179 ⟨mM3_7_181, mpM3_2_14, mM3_1_11, mM3_7_182⟩) rfl rfl rfl (by decide +kernel) ⟨Nat.le_of_ble_eq_true rfl, Nat.le_of_ble_eq_true rfl⟩) (rcM_0 hR Nat.zero_lt_one) hR hT hS rfl hl.1 rfl (Nat.le_of_ble_eq_true rfl) dX12_readKeys_1 ⟨Nat.zero_le _, Nat.zero_le _⟩ (fun S2 H locs h hR hS => ?_)
  refine lv_aload_n hx hb dX12_readKeys_4 rfl (lv_at hl 0 rfl) ?_
  refine va_ldcS hx hb C0.2.2.2.1 (tr_59 hT) dX12_readKeys_5 ?_
  refine qM_Vi (As := [.ref (tx.2.1 27)]) (rest := []) C0 (c_X12_isWord l (by decide) h) (cwV 1 C0.2.2.2.2 (tbV mM3_7_188 ⟨mM3_7_190, mpM3_3_0, mM3_1_11, mM3_7_191⟩) rfl rfl rfl (by decide +kernel) ⟨Nat.le_of_ble_eq_true rfl, Nat.le_of_ble_eq_true rfl⟩) (rcM_0 hR Nat.zero_lt_one) hR hT hS rfl hl.1 rfl (Nat.le_of_ble_eq_true rfl) dX12_readKeys_7 ⟨Nat.zero_le _, Nat.zero_le _⟩ (fun r3 S4 H locs h hR hS => ?_)
  refine lv_if_ne (tgt := 15) hx hb dX12_readKeys_10 (by decide) (fun c5 => ?_) (fun c5 => ?_)
  · have h := h.1 c5
    exact Bw_X12_readKeys_15 C0 hr hlk hT fuel S4 _ _ _ h hR hS (lv_sub hl [0] rfl)
  · have h := h.2 c5
    refine lv_iconst (v := 0) hx hb dX12_readKeys_13 (by decide) ?_
    exact rtM_z C0 hr hlk hR hS (by decide) h dX12_readKeys_14

def rm_X12_readQuery : Room := { frames := 8, cells := 0, slots := 0, locals := 173 }
def B_X12_readQuery_83 (S : sSt) (k : Int32 → sSt → Prop) : Prop := F_X12_blanks S (fun S13 => ((¬ (S13.1 0 0 10) = (S13.1 0 0 11) → k 0 S13) ∧ ((S13.1 0 0 10) = (S13.1 0 0 11) → k 1 S13)))
set_option maxHeartbeats 4000000 in
set_option maxRecDepth 100000 in
theorem Bw_X12_readQuery_83 {p : Program} {l : Launch} {e : Env} {s : State} {m : MethodId} {args : Array Value} {below : List Frame} {meth : Method} {c : Code} {D : va_G} {cy : Nat → ClassId} {b z : Nat} {tx : TX} (C0 : CallFix p m c cX12_readQuery 2 s args TB RX12) (hr : meth.sig.returnType = (some .boolean)) (hlk : meth.locks = false) (hT : TxR tx s) {k : Int32 → sSt → Prop} : ∀ (S : sSt) (H : Heap) (locs : List Loc) (ls : Array Slot) , B_X12_readQuery_83 S k → RelM D cy b z tx S s H → va_S (gA b 12 z) s.heap H locs → lv_has ls 2 [(0, .ref (b + adM 0 0))] → W p l e rm_X12_readQuery s m args below meth c H locs 0 0 (MQ below (PiM D cy b z tx k) args s 0 0 (gA b 12 z)) (F0 m 83 ls []) := by
  intro S H locs ls h hR hS hl
  have hx := C0.1
  have hb := C0.2.1
  unfold B_X12_readQuery_83 at h
  refine lv_aload_n hx hb dX12_readQuery_83 rfl (lv_at hl 0 rfl) ?_
  refine qM_Vv (As := []) (rest := []) C0 (c_X12_blanks l h) (cwV 0 C0.2.2.2.2 (tbV mM3_7_171 ⟨mM3_7_173, mpM3_2_12, mM3_1_11, mM3_7_174⟩) rfl rfl rfl (by decide +kernel) ⟨Nat.le_of_ble_eq_true rfl, Nat.le_of_ble_eq_true rfl⟩) (rcM_0 hR Nat.zero_lt_one) hR hT hS rfl hl.1 rfl (Nat.le_of_ble_eq_true rfl) dX12_readQuery_84 ⟨Nat.zero_le _, Nat.zero_le _⟩ (fun S13 H locs h hR hS => ?_)
  refine lv_aload_n hx hb dX12_readQuery_87 rfl (lv_at hl 0 rfl) ?_
  refine gM_0_10 C0 hR Nat.zero_lt_one tbs_wsX120 mM3_7_87 dX12_readQuery_88 ?_
  refine lv_aload_n hx hb dX12_readQuery_91 rfl (lv_at hl 0 rfl) ?_
  refine gM_0_11 C0 hR Nat.zero_lt_one tbs_wsX120 mM3_7_88 dX12_readQuery_92 ?_
  refine lv_icmp_ne (tgt := 102) hx hb dX12_readQuery_95 (by decide) (fun c14 => ?_) (fun c14 => ?_)
  · have h := h.1 c14
    refine lv_iconst (v := 0) hx hb dX12_readQuery_102 (by decide) ?_
    exact rtM_z C0 hr hlk hR hS (by decide) h dX12_readQuery_103
  · have h := h.2 c14
    refine lv_iconst (v := 1) hx hb dX12_readQuery_98 (by decide) ?_
    refine lv_goto (tgt := 103) hx hb dX12_readQuery_99 (by decide) ?_
    exact rtM_z C0 hr hlk hR hS (by decide) h dX12_readQuery_103
def B_X12_readQuery_65 (S : sSt) (k : Int32 → sSt → Prop) : Prop := F_X12_passes 26 S (fun r9 S10 => ((r9 = 0 → B_X12_readQuery_83 S10 k) ∧ (¬ r9 = 0 → F_X12_readKeys S10 (fun r15 S16 => ((¬ r15 = 0 → B_X12_readQuery_83 S16 k) ∧ (r15 = 0 → k 0 S16))))))
set_option maxHeartbeats 4000000 in
set_option maxRecDepth 100000 in
theorem Bw_X12_readQuery_65 {p : Program} {l : Launch} {e : Env} {s : State} {m : MethodId} {args : Array Value} {below : List Frame} {meth : Method} {c : Code} {D : va_G} {cy : Nat → ClassId} {b z : Nat} {tx : TX} (C0 : CallFix p m c cX12_readQuery 2 s args TB RX12) (hr : meth.sig.returnType = (some .boolean)) (hlk : meth.locks = false) (hT : TxR tx s) {k : Int32 → sSt → Prop} : ∀ (S : sSt) (H : Heap) (locs : List Loc) (ls : Array Slot) , B_X12_readQuery_65 S k → RelM D cy b z tx S s H → va_S (gA b 12 z) s.heap H locs → lv_has ls 2 [(0, .ref (b + adM 0 0))] → W p l e rm_X12_readQuery s m args below meth c H locs 0 0 (MQ below (PiM D cy b z tx k) args s 0 0 (gA b 12 z)) (F0 m 65 ls []) := by
  intro S H locs ls h hR hS hl
  have hx := C0.1
  have hb := C0.2.1
  unfold B_X12_readQuery_65 at h
  refine lv_aload_n hx hb dX12_readQuery_65 rfl (lv_at hl 0 rfl) ?_
  refine va_ldcS hx hb C0.2.2.2.1 (tr_58 hT) dX12_readQuery_66 ?_
  refine qM_Vi (As := [.ref (tx.2.1 26)]) (rest := []) C0 (c_X12_passes l (by decide) h) (cwV 1 C0.2.2.2.2 (tbV mM3_7_218 ⟨mM3_7_220, mpM3_3_6, mM3_1_11, mM3_7_221⟩) rfl rfl rfl (by decide +kernel) ⟨Nat.le_of_ble_eq_true rfl, Nat.le_of_ble_eq_true rfl⟩) (rcM_0 hR Nat.zero_lt_one) hR hT hS rfl hl.1 rfl (Nat.le_of_ble_eq_true rfl) dX12_readQuery_68 ⟨Nat.zero_le _, Nat.zero_le _⟩ (fun r9 S10 H locs h hR hS => ?_)
  refine lv_if_eq (tgt := 83) hx hb dX12_readQuery_71 (by decide) (fun c11 => ?_) (fun c11 => ?_)
  · have h := h.1 c11
    exact Bw_X12_readQuery_83 C0 hr hlk hT S10 _ _ _ h hR hS (lv_sub hl [0] rfl)
  · have h := h.2 c11
    refine lv_aload_n hx hb dX12_readQuery_74 rfl (lv_at hl 0 rfl) ?_
    refine qM_Vi (As := []) (rest := []) C0 (c_X12_readKeys l h) (cwV 0 C0.2.2.2.2 (tbV mM3_8_73 ⟨mM3_8_75, mpM3_4_5, mM3_1_11, mM3_8_76⟩) rfl rfl rfl (by decide +kernel) ⟨Nat.le_of_ble_eq_true rfl, Nat.le_of_ble_eq_true rfl⟩) (rcM_0 hR Nat.zero_lt_one) hR hT hS rfl hl.1 rfl (Nat.le_of_ble_eq_true rfl) dX12_readQuery_75 ⟨Nat.zero_le _, Nat.zero_le _⟩ (fun r15 S16 H locs h hR hS => ?_)
    refine lv_if_ne (tgt := 83) hx hb dX12_readQuery_78 (by decide) (fun c17 => ?_) (fun c17 => ?_)
    · have h := h.1 c17
      exact Bw_X12_readQuery_83 C0 hr hlk hT S16 _ _ _ h hR hS (lv_sub hl [0] rfl)
    · have h := h.2 c17
      refine lv_iconst (v := 0) hx hb dX12_readQuery_81 (by decide) ?_
      exact rtM_z C0 hr hlk hR hS (by decide) h dX12_readQuery_82
def Bb_X12_readQuery_2 (kk2 : Int32 → sSt → Prop) (a1 : Int32) (S : sSt) (k : Int32 → sSt → Prop) : Prop := ((23 ≤ a1 → F_X12_behind 18 1 6 S (fun r2 S3 => ∀ S4, S4 = uI S3 5 0 0 r2 → ((0 ≤ (S4.1 5 0 0) → F_X12_passes 19 S4 (fun r6 S7 => ((r6 = 0 → B_X12_readQuery_65 S7 k) ∧ (¬ r6 = 0 → F_X12_readTerms S7 (fun r18 S19 => ((¬ r18 = 0 → B_X12_readQuery_65 S19 k) ∧ (r18 = 0 → k 0 S19))))))) ∧ (¬ 0 ≤ (S4.1 5 0 0) → k 0 S4)))) ∧ (¬ 23 ≤ a1 → ix a1 23 (fun j21 => ∀ S22, S22 = uI S 5 0 j21 0 → ∀ x23 : Int32, x23 = a1 + 1 → kk2 x23 S22)))
set_option maxHeartbeats 4000000 in
set_option maxRecDepth 100000 in
theorem Bbw_X12_readQuery_2 {p : Program} {l : Launch} {e : Env} {s : State} {m : MethodId} {args : Array Value} {below : List Frame} {meth : Method} {c : Code} {D : va_G} {cy : Nat → ClassId} {b z : Nat} {tx : TX} (C0 : CallFix p m c cX12_readQuery 2 s args TB RX12) (hr : meth.sig.returnType = (some .boolean)) (hlk : meth.locks = false) (hT : TxR tx s) {k : Int32 → sSt → Prop} {kk2 : Int32 → sSt → Prop} (ih2 : ∀ (a1 : Int32) (S : sSt) (H : Heap) (locs : List Loc) (ls : Array Slot) , kk2 a1 S → RelM D cy b z tx S s H → va_S (gA b 12 z) s.heap H locs → lv_has ls 2 [(0, .ref (b + adM 0 0)), (1, .int a1)] → W p l e rm_X12_readQuery s m args below meth c H locs 0 0 (MQ below (PiM D cy b z tx k) args s 0 0 (gA b 12 z)) (F0 m 2 ls [])) : ∀ (a1 : Int32) (S : sSt) (H : Heap) (locs : List Loc) (ls : Array Slot) , Bb_X12_readQuery_2 kk2 a1 S k → RelM D cy b z tx S s H → va_S (gA b 12 z) s.heap H locs → lv_has ls 2 [(0, .ref (b + adM 0 0)), (1, .int a1)] → W p l e rm_X12_readQuery s m args below meth c H locs 0 0 (MQ below (PiM D cy b z tx k) args s 0 0 (gA b 12 z)) (F0 m 2 ls []) := by
  intro a1 S H locs ls h hR hS hl
  have hx := C0.1
  have hb := C0.2.1
  unfold Bb_X12_readQuery_2 at h
  refine lv_iload_n hx hb dX12_readQuery_2 rfl (lv_at hl 1 rfl) ?_
  refine lv_bipush (v := 23) hx hb dX12_readQuery_3 (by decide) ?_
  refine lv_icmp_ge (tgt := 21) hx hb dX12_readQuery_5 (by decide) (fun c1 => ?_) (fun c1 => ?_)
  · have h := h.1 c1
    refine lv_aload_n hx hb dX12_readQuery_21 rfl (lv_at hl 0 rfl) ?_
    refine gM_0_6 C0 hR Nat.zero_lt_one tbs_wsX120 mM3_7_83 dX12_readQuery_22 ?_
    refine lv_iconst (v := 0) hx hb dX12_readQuery_25 (by decide) ?_
    refine lv_aload_n hx hb dX12_readQuery_26 rfl (lv_at hl 0 rfl) ?_
    refine va_ldcS hx hb C0.2.2.2.1 (tr_50 hT) dX12_readQuery_27 ?_
    refine lv_iconst (v := 1) hx hb dX12_readQuery_29 (by decide) ?_
    refine lv_bipush (v := 6) hx hb dX12_readQuery_30 (by decide) ?_
    refine qM_Vi (As := [.ref (tx.2.1 18), .int 1, .int 6]) (rest := [.int 0, .ref (b + adM 5 0)]) C0 (c_X12_behind l (by decide) h) (cwV 3 C0.2.2.2.2 (tbV mM3_7_207 ⟨mM3_7_209, mpM3_3_4, mM3_1_11, mM3_7_210⟩) rfl rfl rfl (by decide +kernel) ⟨Nat.le_of_ble_eq_true rfl, Nat.le_of_ble_eq_true rfl⟩) (rcM_0 hR Nat.zero_lt_one) hR hT hS rfl hl.1 rfl (Nat.le_of_ble_eq_true rfl) dX12_readQuery_32 ⟨Nat.zero_le _, Nat.zero_le _⟩ (fun r2 S3 H locs h hR hS => ?_)
    refine sM_5 C0 hR hS Nat.zero_lt_one (by decide) rfl dX12_readQuery_35 (fun S4 eS4 H locs hR hS => ?_)
    have h := h S4 eS4
    refine lv_aload_n hx hb dX12_readQuery_36 rfl (lv_at hl 0 rfl) ?_
    refine gM_0_6 C0 hR Nat.zero_lt_one tbs_wsX120 mM3_7_83 dX12_readQuery_37 ?_
    refine lv_iconst (v := 0) hx hb dX12_readQuery_40 (by decide) ?_
    refine lM_5 C0 hR Nat.zero_lt_one (by decide) rfl dX12_readQuery_41 ?_
    refine lv_if_ge (tgt := 47) hx hb dX12_readQuery_42 (by decide) (fun c5 => ?_) (fun c5 => ?_)
    · have h := h.1 c5
      refine lv_aload_n hx hb dX12_readQuery_47 rfl (lv_at hl 0 rfl) ?_
      refine va_ldcS hx hb C0.2.2.2.1 (tr_51 hT) dX12_readQuery_48 ?_
      refine qM_Vi (As := [.ref (tx.2.1 19)]) (rest := []) C0 (c_X12_passes l (by decide) h) (cwV 1 C0.2.2.2.2 (tbV mM3_7_218 ⟨mM3_7_220, mpM3_3_6, mM3_1_11, mM3_7_221⟩) rfl rfl rfl (by decide +kernel) ⟨Nat.le_of_ble_eq_true rfl, Nat.le_of_ble_eq_true rfl⟩) (rcM_0 hR Nat.zero_lt_one) hR hT hS rfl hl.1 rfl (Nat.le_of_ble_eq_true rfl) dX12_readQuery_50 ⟨Nat.zero_le _, Nat.zero_le _⟩ (fun r6 S7 H locs h hR hS => ?_)
      refine lv_if_eq (tgt := 65) hx hb dX12_readQuery_53 (by decide) (fun c8 => ?_) (fun c8 => ?_)
      · have h := h.1 c8
        exact Bw_X12_readQuery_65 C0 hr hlk hT S7 _ _ _ h hR hS (lv_sub hl [0] rfl)
      · have h := h.2 c8
        refine lv_aload_n hx hb dX12_readQuery_56 rfl (lv_at hl 0 rfl) ?_
        refine qM_Vi (As := []) (rest := []) C0 (c_X12_readTerms l h) (cwV 0 C0.2.2.2.2 (tbV mM3_8_46 ⟨mM3_8_48, mpM3_4_0, mM3_1_11, mM3_8_49⟩) rfl rfl rfl (by decide +kernel) ⟨Nat.le_of_ble_eq_true rfl, Nat.le_of_ble_eq_true rfl⟩) (rcM_0 hR Nat.zero_lt_one) hR hT hS rfl hl.1 rfl (Nat.le_of_ble_eq_true rfl) dX12_readQuery_57 ⟨Nat.zero_le _, Nat.zero_le _⟩ (fun r18 S19 H locs h hR hS => ?_)
        refine lv_if_ne (tgt := 65) hx hb dX12_readQuery_60 (by decide) (fun c20 => ?_) (fun c20 => ?_)
        · have h := h.1 c20
          exact Bw_X12_readQuery_65 C0 hr hlk hT S19 _ _ _ h hR hS (lv_sub hl [0] rfl)
        · have h := h.2 c20
          refine lv_iconst (v := 0) hx hb dX12_readQuery_63 (by decide) ?_
          exact rtM_z C0 hr hlk hR hS (by decide) h dX12_readQuery_64
    · have h := h.2 c5
      refine lv_iconst (v := 0) hx hb dX12_readQuery_45 (by decide) ?_
      exact rtM_z C0 hr hlk hR hS (by decide) h dX12_readQuery_46
  · have h := h.2 c1
    refine lv_aload_n hx hb dX12_readQuery_8 rfl (lv_at hl 0 rfl) ?_
    refine gM_0_6 C0 hR Nat.zero_lt_one tbs_wsX120 mM3_7_83 dX12_readQuery_9 ?_
    refine lv_iload_n hx hb dX12_readQuery_12 rfl (lv_at hl 1 rfl) ?_
    refine lv_iconst (v := 0) hx hb dX12_readQuery_13 (by decide) ?_
    obtain ⟨j21, hj21, ej21, h⟩ := h
    refine sM_5 C0 hR hS Nat.zero_lt_one hj21 ej21 dX12_readQuery_14 (fun S22 eS22 H locs hR hS => ?_)
    have h := h S22 eS22
    obtain ⟨x23, ex23⟩ : ∃ x23 : Int32, x23 = a1 + 1 := ⟨_, rfl⟩
    have h := h x23 ex23
    refine w_iinc (v0 := 1) (lv' := [(1, .int x23), (0, .ref (b + adM 0 0))]) C0 dX12_readQuery_15 hl (k := 1) rfl (by decide) (by decide) x23 ex23 rfl (fun ls hl => ?_)
    refine lv_goto (tgt := 2) hx hb dX12_readQuery_18 (by decide) ?_
    exact ih2 x23 S22 _ _ _  h hR hS (lv_sub hl [1, 0] rfl)
def B_X12_readQuery_2 (n9 : Nat) (a1 : Int32) (S : sSt) (k : Int32 → sSt → Prop) : Prop := (Nat.rec (motive := fun _ => Int32 → sSt → Prop) (fun _ _ => False) (fun _ r9 => fun a1 S => Bb_X12_readQuery_2 r9 a1 S k) n9 : Int32 → sSt → Prop) a1 S
theorem B_X12_readQuery_2_s (n9 : Nat) (a1 : Int32) (S : sSt) (k : Int32 → sSt → Prop) : B_X12_readQuery_2 (n9 + 1) a1 S k = Bb_X12_readQuery_2 (fun a1 S => B_X12_readQuery_2 n9 a1 S k) a1 S k := rfl
set_option maxHeartbeats 4000000 in
set_option maxRecDepth 100000 in
theorem Bw_X12_readQuery_2 {p : Program} {l : Launch} {e : Env} {s : State} {m : MethodId} {args : Array Value} {below : List Frame} {meth : Method} {c : Code} {D : va_G} {cy : Nat → ClassId} {b z : Nat} {tx : TX} (C0 : CallFix p m c cX12_readQuery 2 s args TB RX12) (hr : meth.sig.returnType = (some .boolean)) (hlk : meth.locks = false) (hT : TxR tx s) {k : Int32 → sSt → Prop} : ∀ (n9 : Nat), ∀ (a1 : Int32) (S : sSt) (H : Heap) (locs : List Loc) (ls : Array Slot) , B_X12_readQuery_2 n9 a1 S k → RelM D cy b z tx S s H → va_S (gA b 12 z) s.heap H locs → lv_has ls 2 [(0, .ref (b + adM 0 0)), (1, .int a1)] → W p l e rm_X12_readQuery s m args below meth c H locs 0 0 (MQ below (PiM D cy b z tx k) args s 0 0 (gA b 12 z)) (F0 m 2 ls []) := by
  intro n9
  induction n9 with
  | zero => intro a1 S H locs ls h; exact h.elim
  | succ n9 ih =>
    intro a1 S H locs ls h hR hS hl
    exact Bbw_X12_readQuery_2 C0 hr hlk hT ih a1 S H locs ls h hR hS hl
def F_X12_readQuery (S : sSt) (k : Int32 → sSt → Prop) : Prop := B_X12_readQuery_2 fuel 0 S k
set_option maxHeartbeats 4000000 in
set_option maxRecDepth 100000 in
theorem c_X12_readQuery (l : Launch) {D : va_G} {cy : Nat → ClassId} {b z : Nat} {tx : TX} {S : sSt} {k : Int32 → sSt → Prop} (h : F_X12_readQuery S k) : Met l yX12_readQuery (Cond.code yX12_readQuery cX12_readQuery 2 (some .boolean) :: TB) rm_X12_readQuery (va_Pc [.ref (b + adM 0 0)] (fun U => RelM D cy b z tx S U U.heap ∧ TxR tx U)) (PiM D cy b z tx k) 0 0 (gA b 12 z) := by
  refine Met.ofW (cc := cX12_readQuery) (maxL := 2) (ret := (some .boolean)) (by decide) rfl ?_
  intro p e s m args below meth c s₁ B hml hv
  obtain ⟨rfl, hR, hT⟩ := hv
  have C0 : CallFix p m c cX12_readQuery 2 s _ TB RX12 := ⟨B.exec, B.bytes, hml, findClass_of_methodNamed B.named, fun w hw => atoms_spec B.pre w (List.mem_cons_of_mem _ hw)⟩
  have hr := B.returns
  have hlk := B.notSynchronized
  have hx := C0.1
  have hb := C0.2.1
  have hS : va_S (gA b 12 z) s.heap s.heap [] := va_S.rf
  have hl := lv_entry ([.ref (b + adM 0 0)]) (n := 2) (Nat.le_of_ble_eq_true rfl)
  rw [lg_entry_eq]
  generalize (lg_sl ([.ref (b + adM 0 0)]) ++ List.replicate (2 - (lg_sl ([.ref (b + adM 0 0)])).length) Slot.unset).toArray = ls at hl ⊢
  have hl : lv_has ls 2 [(0, .ref (b + adM 0 0))] := hl
  show W p l e rm_X12_readQuery s m _ below meth c s.heap [] 0 0 (MQ below (PiM D cy b z tx k) _ s 0 0 (gA b 12 z)) _
  unfold F_X12_readQuery at h
  refine lv_iconst (v := 0) hx hb dX12_readQuery_0 (by decide) ?_
  refine lv_istore_n (lv' := [(1, .int 0), (0, .ref (b + adM 0 0))]) hx hb dX12_readQuery_1 rfl hl (by decide) rfl (fun ls hl => ?_)
  exact Bw_X12_readQuery_2 C0 hr hlk hT fuel 0 S _ _ _ h hR hS (lv_sub hl [1, 0] rfl)

def rm_X12_query : Room := { frames := 9, cells := 0, slots := 0, locals := 194 }
def Bb_X12_query_61 (kk61 : Int32 → Int32 → sSt → Prop) (a1 : Int32) (a3 : Int32) (S : sSt) (k : Int32 → sSt → Prop) : Prop := ((23 ≤ a3 → k (S.1 5 0 0) S) ∧ (¬ 23 ≤ a3 → F_X12_sessionAt a1 (4 + a3) S (fun r17 S18 => ix a3 23 (fun j19 => ix r17 10421 (fun j20 => ∀ S21, S21 = uI S18 1 0 j20 (S18.1 5 0 j19) → ∀ x22 : Int32, x22 = a3 + 1 → kk61 a1 x22 S21)))))
set_option maxHeartbeats 4000000 in
set_option maxRecDepth 100000 in
theorem Bbw_X12_query_61 {p : Program} {l : Launch} {e : Env} {s : State} {m : MethodId} {args : Array Value} {below : List Frame} {meth : Method} {c : Code} {D : va_G} {cy : Nat → ClassId} {b z : Nat} {tx : TX} (C0 : CallFix p m c cX12_query 4 s args TB RX12) (hr : meth.sig.returnType = (some .int)) (hlk : meth.locks = false) (hT : TxR tx s) {k : Int32 → sSt → Prop} {kk61 : Int32 → Int32 → sSt → Prop} (ih61 : ∀ (a1 : Int32) (a3 : Int32) (S : sSt) (H : Heap) (locs : List Loc) (ls : Array Slot) , kk61 a1 a3 S → RelM D cy b z tx S s H → va_S (gA b 12 z) s.heap H locs → lv_has ls 4 [(0, .ref (b + adM 0 0)), (1, .int a1), (3, .int a3)] → W p l e rm_X12_query s m args below meth c H locs 0 0 (MQ below (PiM D cy b z tx k) args s 0 0 (gA b 12 z)) (F0 m 61 ls [])) : ∀ (a1 : Int32) (a3 : Int32) (S : sSt) (H : Heap) (locs : List Loc) (ls : Array Slot) , Bb_X12_query_61 kk61 a1 a3 S k → RelM D cy b z tx S s H → va_S (gA b 12 z) s.heap H locs → lv_has ls 4 [(0, .ref (b + adM 0 0)), (1, .int a1), (3, .int a3)] → W p l e rm_X12_query s m args below meth c H locs 0 0 (MQ below (PiM D cy b z tx k) args s 0 0 (gA b 12 z)) (F0 m 61 ls []) := by
  intro a1 a3 S H locs ls h hR hS hl
  have hx := C0.1
  have hb := C0.2.1
  unfold Bb_X12_query_61 at h
  refine lv_iload_n hx hb dX12_query_61 rfl (lv_at hl 2 rfl) ?_
  refine lv_bipush (v := 23) hx hb dX12_query_62 (by decide) ?_
  refine lv_icmp_ge (tgt := 91) hx hb dX12_query_64 (by decide) (fun c16 => ?_) (fun c16 => ?_)
  · have h := h.1 c16
    refine lv_aload_n hx hb dX12_query_91 rfl (lv_at hl 0 rfl) ?_
    refine gM_0_6 C0 hR Nat.zero_lt_one tbs_wsX120 mM3_7_83 dX12_query_92 ?_
    refine lv_iconst (v := 0) hx hb dX12_query_95 (by decide) ?_
    refine lM_5 C0 hR Nat.zero_lt_one (by decide) rfl dX12_query_96 ?_
    exact rtM_i C0 hr hlk hR hS h dX12_query_97
  · have h := h.2 c16
    refine lv_aload_n hx hb dX12_query_67 rfl (lv_at hl 0 rfl) ?_
    refine gM_0_2 C0 hR Nat.zero_lt_one tbs_wsX120 mM3_7_79 dX12_query_68 ?_
    refine lv_iload_n hx hb dX12_query_71 rfl (lv_at hl 1 rfl) ?_
    refine lv_iconst (v := 4) hx hb dX12_query_72 (by decide) ?_
    refine lv_iload_n hx hb dX12_query_73 rfl (lv_at hl 2 rfl) ?_
    refine lv_iadd hx hb dX12_query_74 ?_
    refine qM_Si (As := [.int a1, .int (4 + a3)]) (rest := [.ref (b + adM 1 0)]) C0 (c_X12_sessionAt l h) (va_cwS 2 C0.2.2.2.2 (tbS mM3_7_233 ⟨mM3_7_234, mM3_1_11, mM3_7_235⟩) rfl rfl rfl (by decide +kernel) ⟨Nat.le_of_ble_eq_true rfl, Nat.le_of_ble_eq_true rfl⟩) hR hT hS rfl hl.1 rfl (Nat.le_of_ble_eq_true rfl) dX12_query_75 ⟨Nat.zero_le _, Nat.zero_le _⟩ (fun r17 S18 H locs h hR hS => ?_)
    refine lv_aload_n hx hb dX12_query_78 rfl (lv_at hl 0 rfl) ?_
    refine gM_0_6 C0 hR Nat.zero_lt_one tbs_wsX120 mM3_7_83 dX12_query_79 ?_
    refine lv_iload_n hx hb dX12_query_82 rfl (lv_at hl 2 rfl) ?_
    obtain ⟨j19, hj19, ej19, h⟩ := h
    refine lM_5 C0 hR Nat.zero_lt_one hj19 ej19 dX12_query_83 ?_
    obtain ⟨j20, hj20, ej20, h⟩ := h
    refine sM_1 C0 hR hS Nat.zero_lt_one hj20 ej20 dX12_query_84 (fun S21 eS21 H locs hR hS => ?_)
    have h := h S21 eS21
    obtain ⟨x22, ex22⟩ : ∃ x22 : Int32, x22 = a3 + 1 := ⟨_, rfl⟩
    have h := h x22 ex22
    refine w_iinc (v0 := 1) (lv' := [(3, .int x22), (0, .ref (b + adM 0 0)), (1, .int a1)]) C0 dX12_query_85 hl (k := 2) rfl (by decide) (by decide) x22 ex22 rfl (fun ls hl => ?_)
    refine lv_goto (tgt := 61) hx hb dX12_query_88 (by decide) ?_
    exact ih61 a1 x22 S21 _ _ _  h hR hS (lv_sub hl [1, 2, 0] rfl)
def B_X12_query_61 (n9 : Nat) (a1 : Int32) (a3 : Int32) (S : sSt) (k : Int32 → sSt → Prop) : Prop := (Nat.rec (motive := fun _ => Int32 → Int32 → sSt → Prop) (fun _ _ _ => False) (fun _ r9 => fun a1 a3 S => Bb_X12_query_61 r9 a1 a3 S k) n9 : Int32 → Int32 → sSt → Prop) a1 a3 S
theorem B_X12_query_61_s (n9 : Nat) (a1 : Int32) (a3 : Int32) (S : sSt) (k : Int32 → sSt → Prop) : B_X12_query_61 (n9 + 1) a1 a3 S k = Bb_X12_query_61 (fun a1 a3 S => B_X12_query_61 n9 a1 a3 S k) a1 a3 S k := rfl
set_option maxHeartbeats 4000000 in
set_option maxRecDepth 100000 in
theorem Bw_X12_query_61 {p : Program} {l : Launch} {e : Env} {s : State} {m : MethodId} {args : Array Value} {below : List Frame} {meth : Method} {c : Code} {D : va_G} {cy : Nat → ClassId} {b z : Nat} {tx : TX} (C0 : CallFix p m c cX12_query 4 s args TB RX12) (hr : meth.sig.returnType = (some .int)) (hlk : meth.locks = false) (hT : TxR tx s) {k : Int32 → sSt → Prop} : ∀ (n9 : Nat), ∀ (a1 : Int32) (a3 : Int32) (S : sSt) (H : Heap) (locs : List Loc) (ls : Array Slot) , B_X12_query_61 n9 a1 a3 S k → RelM D cy b z tx S s H → va_S (gA b 12 z) s.heap H locs → lv_has ls 4 [(0, .ref (b + adM 0 0)), (1, .int a1), (3, .int a3)] → W p l e rm_X12_query s m args below meth c H locs 0 0 (MQ below (PiM D cy b z tx k) args s 0 0 (gA b 12 z)) (F0 m 61 ls []) := by
  intro n9
  induction n9 with
  | zero => intro a1 a3 S H locs ls h; exact h.elim
  | succ n9 ih =>
    intro a1 a3 S H locs ls h hR hS hl
    exact Bbw_X12_query_61 C0 hr hlk hT ih a1 a3 S H locs ls h hR hS hl
def B_X12_query_50 (a1 : Int32) (t1 : Int32) (S : sSt) (k : Int32 → sSt → Prop) : Prop := F_X12_throwsIf t1 2 S (fun r13 S14 => ((r13 = 0 → B_X12_query_61 fuel a1 0 S14 k) ∧ (¬ r13 = 0 → k 0 S14)))
set_option maxHeartbeats 4000000 in
set_option maxRecDepth 100000 in
theorem Bw_X12_query_50 {p : Program} {l : Launch} {e : Env} {s : State} {m : MethodId} {args : Array Value} {below : List Frame} {meth : Method} {c : Code} {D : va_G} {cy : Nat → ClassId} {b z : Nat} {tx : TX} (C0 : CallFix p m c cX12_query 4 s args TB RX12) (hr : meth.sig.returnType = (some .int)) (hlk : meth.locks = false) (hT : TxR tx s) {k : Int32 → sSt → Prop} : ∀ (a1 : Int32) (t1 : Int32) (S : sSt) (H : Heap) (locs : List Loc) (ls : Array Slot) , B_X12_query_50 a1 t1 S k → RelM D cy b z tx S s H → va_S (gA b 12 z) s.heap H locs → lv_has ls 4 [(0, .ref (b + adM 0 0)), (1, .int a1)] → W p l e rm_X12_query s m args below meth c H locs 0 0 (MQ below (PiM D cy b z tx k) args s 0 0 (gA b 12 z)) (F0 m 50 ls [.int t1, .ref (b + adM 0 0)]) := by
  intro a1 t1 S H locs ls h hR hS hl
  have hx := C0.1
  have hb := C0.2.1
  unfold B_X12_query_50 at h
  refine lv_iconst (v := 2) hx hb dX12_query_50 (by decide) ?_
  refine qM_Vi (As := [.int t1, .int 2]) (rest := []) C0 (c_X12_throwsIf l h) (cwV 2 C0.2.2.2.2 (tbV mM3_8_25 ⟨mM3_8_27, mpM3_3_13, mM3_1_11, mM3_8_28⟩) rfl rfl rfl (by decide +kernel) ⟨Nat.le_of_ble_eq_true rfl, Nat.le_of_ble_eq_true rfl⟩) (rcM_0 hR Nat.zero_lt_one) hR hT hS rfl hl.1 rfl (Nat.le_of_ble_eq_true rfl) dX12_query_51 ⟨Nat.zero_le _, Nat.zero_le _⟩ (fun r13 S14 H locs h hR hS => ?_)
  refine lv_if_eq (tgt := 59) hx hb dX12_query_54 (by decide) (fun c15 => ?_) (fun c15 => ?_)
  · have h := h.1 c15
    refine lv_iconst (v := 0) hx hb dX12_query_59 (by decide) ?_
    refine lv_istore_n (lv' := [(3, .int 0), (0, .ref (b + adM 0 0)), (1, .int a1)]) hx hb dX12_query_60 rfl hl (by decide) rfl (fun ls hl => ?_)
    exact Bw_X12_query_61 C0 hr hlk hT fuel a1 0 S14 _ _ _ h hR hS (lv_sub hl [1, 2, 0] rfl)
  · have h := h.2 c15
    refine lv_iconst (v := 0) hx hb dX12_query_57 (by decide) ?_
    exact rtM_i C0 hr hlk hR hS h dX12_query_58
def B_X12_query_37 (a1 : Int32) (a2 : Int32) (t1 : Int32) (S : sSt) (k : Int32 → sSt → Prop) : Prop := ∀ S11, S11 = uI S 0 0 13 t1 → ((¬ a2 = 0 → B_X12_query_50 a1 0 S11 k) ∧ (a2 = 0 → B_X12_query_50 a1 1 S11 k))
set_option maxHeartbeats 4000000 in
set_option maxRecDepth 100000 in
theorem Bw_X12_query_37 {p : Program} {l : Launch} {e : Env} {s : State} {m : MethodId} {args : Array Value} {below : List Frame} {meth : Method} {c : Code} {D : va_G} {cy : Nat → ClassId} {b z : Nat} {tx : TX} (C0 : CallFix p m c cX12_query 4 s args TB RX12) (hr : meth.sig.returnType = (some .int)) (hlk : meth.locks = false) (hT : TxR tx s) {k : Int32 → sSt → Prop} : ∀ (a1 : Int32) (a2 : Int32) (t1 : Int32) (S : sSt) (H : Heap) (locs : List Loc) (ls : Array Slot) , B_X12_query_37 a1 a2 t1 S k → RelM D cy b z tx S s H → va_S (gA b 12 z) s.heap H locs → lv_has ls 4 [(0, .ref (b + adM 0 0)), (1, .int a1), (2, .int a2)] → W p l e rm_X12_query s m args below meth c H locs 0 0 (MQ below (PiM D cy b z tx k) args s 0 0 (gA b 12 z)) (F0 m 37 ls [.int t1, .ref (b + adM 0 0)]) := by
  intro a1 a2 t1 S H locs ls h hR hS hl
  have hx := C0.1
  have hb := C0.2.1
  unfold B_X12_query_37 at h
  refine pM_0_13 C0 hR hS Nat.zero_lt_one tbs_wsX120 mM3_7_90 dX12_query_37 (fun S11 eS11 H locs hR hS => ?_)
  have h := h S11 eS11
  refine lv_aload_n hx hb dX12_query_40 rfl (lv_at hl 0 rfl) ?_
  refine lv_iload_n hx hb dX12_query_41 rfl (lv_at hl 2 rfl) ?_
  refine lv_if_ne (tgt := 49) hx hb dX12_query_42 (by decide) (fun c12 => ?_) (fun c12 => ?_)
  · have h := h.1 c12
    refine lv_iconst (v := 0) hx hb dX12_query_49 (by decide) ?_
    exact Bw_X12_query_50 C0 hr hlk hT a1 0 S11 _ _ _ h hR hS (lv_sub hl [0, 1] rfl)
  · have h := h.2 c12
    refine lv_iconst (v := 1) hx hb dX12_query_45 (by decide) ?_
    refine lv_goto (tgt := 50) hx hb dX12_query_46 (by decide) ?_
    exact Bw_X12_query_50 C0 hr hlk hT a1 1 S11 _ _ _ h hR hS (lv_sub hl [0, 1] rfl)
def F_X12_query (a1 : Int32) (S : sSt) (k : Int32 → sSt → Prop) : Prop := F_X12_uses S (fun S2 => F_X12_noSession a1 S2 (fun r3 S4 => F_X12_throwsIf r3 1 S4 (fun r5 S6 => ((r5 = 0 → F_X12_readQuery S6 (fun r8 S9 => ((r8 = 0 → B_X12_query_37 a1 r8 (S9.1 0 0 12) S9 k) ∧ (¬ r8 = 0 → B_X12_query_37 a1 r8 (-1) S9 k)))) ∧ (¬ r5 = 0 → k 0 S6)))))
set_option maxHeartbeats 4000000 in
set_option maxRecDepth 100000 in
theorem c_X12_query (l : Launch) {D : va_G} {cy : Nat → ClassId} {b z : Nat} {tx : TX} {a1 : Int32} {S : sSt} {k : Int32 → sSt → Prop} (h : F_X12_query a1 S k) : Met l yX12_query (Cond.code yX12_query cX12_query 4 (some .int) :: TB) rm_X12_query (va_Pc [.ref (b + adM 0 0), .int a1] (fun U => RelM D cy b z tx S U U.heap ∧ TxR tx U)) (PiM D cy b z tx k) 0 0 (gA b 12 z) := by
  refine Met.ofW (cc := cX12_query) (maxL := 4) (ret := (some .int)) (by decide) rfl ?_
  intro p e s m args below meth c s₁ B hml hv
  obtain ⟨rfl, hR, hT⟩ := hv
  have C0 : CallFix p m c cX12_query 4 s _ TB RX12 := ⟨B.exec, B.bytes, hml, findClass_of_methodNamed B.named, fun w hw => atoms_spec B.pre w (List.mem_cons_of_mem _ hw)⟩
  have hr := B.returns
  have hlk := B.notSynchronized
  have hx := C0.1
  have hb := C0.2.1
  have hS : va_S (gA b 12 z) s.heap s.heap [] := va_S.rf
  have hl := lv_entry ([.ref (b + adM 0 0), .int a1]) (n := 4) (Nat.le_of_ble_eq_true rfl)
  rw [lg_entry_eq]
  generalize (lg_sl ([.ref (b + adM 0 0), .int a1]) ++ List.replicate (4 - (lg_sl ([.ref (b + adM 0 0), .int a1])).length) Slot.unset).toArray = ls at hl ⊢
  have hl : lv_has ls 4 [(0, .ref (b + adM 0 0)), (1, .int a1)] := hl
  show W p l e rm_X12_query s m _ below meth c s.heap [] 0 0 (MQ below (PiM D cy b z tx k) _ s 0 0 (gA b 12 z)) _
  unfold F_X12_query at h
  refine lv_aload_n hx hb dX12_query_0 rfl (lv_at hl 0 rfl) ?_
  refine qM_Vv (As := []) (rest := []) C0 (c_X12_uses l h) (cwV 0 C0.2.2.2.2 (tbV mM3_7_163 ⟨mM3_7_165, mpM3_2_10, mM3_1_11, mM3_7_166⟩) rfl rfl rfl (by decide +kernel) ⟨Nat.le_of_ble_eq_true rfl, Nat.le_of_ble_eq_true rfl⟩) (rcM_0 hR Nat.zero_lt_one) hR hT hS rfl hl.1 rfl (Nat.le_of_ble_eq_true rfl) dX12_query_1 ⟨Nat.zero_le _, Nat.zero_le _⟩ (fun S2 H locs h hR hS => ?_)
  refine lv_aload_n hx hb dX12_query_4 rfl (lv_at hl 0 rfl) ?_
  refine lv_aload_n hx hb dX12_query_5 rfl (lv_at hl 0 rfl) ?_
  refine lv_iload_n hx hb dX12_query_6 rfl (lv_at hl 1 rfl) ?_
  refine qM_Vi (As := [.int a1]) (rest := [.ref (b + adM 0 0)]) C0 (c_X12_noSession l h) (cwV 1 C0.2.2.2.2 (tbV mM3_8_33 ⟨mM3_8_35, mpM3_3_14, mM3_1_11, mM3_8_36⟩) rfl rfl rfl (by decide +kernel) ⟨Nat.le_of_ble_eq_true rfl, Nat.le_of_ble_eq_true rfl⟩) (rcM_0 hR Nat.zero_lt_one) hR hT hS rfl hl.1 rfl (Nat.le_of_ble_eq_true rfl) dX12_query_7 ⟨Nat.zero_le _, Nat.zero_le _⟩ (fun r3 S4 H locs h hR hS => ?_)
  refine lv_iconst (v := 1) hx hb dX12_query_10 (by decide) ?_
  refine qM_Vi (As := [.int r3, .int 1]) (rest := []) C0 (c_X12_throwsIf l h) (cwV 2 C0.2.2.2.2 (tbV mM3_8_25 ⟨mM3_8_27, mpM3_3_13, mM3_1_11, mM3_8_28⟩) rfl rfl rfl (by decide +kernel) ⟨Nat.le_of_ble_eq_true rfl, Nat.le_of_ble_eq_true rfl⟩) (rcM_0 hR Nat.zero_lt_one) hR hT hS rfl hl.1 rfl (Nat.le_of_ble_eq_true rfl) dX12_query_11 ⟨Nat.zero_le _, Nat.zero_le _⟩ (fun r5 S6 H locs h hR hS => ?_)
  refine lv_if_eq (tgt := 19) hx hb dX12_query_14 (by decide) (fun c7 => ?_) (fun c7 => ?_)
  · have h := h.1 c7
    refine lv_aload_n hx hb dX12_query_19 rfl (lv_at hl 0 rfl) ?_
    refine qM_Vi (As := []) (rest := []) C0 (c_X12_readQuery l h) (cwV 0 C0.2.2.2.2 (tbV mM3_8_40 ⟨mM3_8_42, mpM3_3_15, mM3_1_11, mM3_8_43⟩) rfl rfl rfl (by decide +kernel) ⟨Nat.le_of_ble_eq_true rfl, Nat.le_of_ble_eq_true rfl⟩) (rcM_0 hR Nat.zero_lt_one) hR hT hS rfl hl.1 rfl (Nat.le_of_ble_eq_true rfl) dX12_query_20 ⟨Nat.zero_le _, Nat.zero_le _⟩ (fun r8 S9 H locs h hR hS => ?_)
    refine lv_istore_n (lv' := [(2, .int r8), (0, .ref (b + adM 0 0)), (1, .int a1)]) hx hb dX12_query_23 rfl hl (by decide) rfl (fun ls hl => ?_)
    refine lv_aload_n hx hb dX12_query_24 rfl (lv_at hl 1 rfl) ?_
    refine lv_iload_n hx hb dX12_query_25 rfl (lv_at hl 0 rfl) ?_
    refine lv_if_eq (tgt := 33) hx hb dX12_query_26 (by decide) (fun c10 => ?_) (fun c10 => ?_)
    · have h := h.1 c10
      refine lv_aload_n hx hb dX12_query_33 rfl (lv_at hl 1 rfl) ?_
      refine gM_0_12 C0 hR Nat.zero_lt_one tbs_wsX120 mM3_7_89 dX12_query_34 ?_
      exact Bw_X12_query_37 C0 hr hlk hT a1 r8 (S9.1 0 0 12) S9 _ _ _ h hR hS (lv_sub hl [1, 2, 0] rfl)
    · have h := h.2 c10
      refine lv_iconst (v := (-1)) hx hb dX12_query_29 (by decide) ?_
      refine lv_goto (tgt := 37) hx hb dX12_query_30 (by decide) ?_
      exact Bw_X12_query_37 C0 hr hlk hT a1 r8 (-1) S9 _ _ _ h hR hS (lv_sub hl [1, 2, 0] rfl)
  · have h := h.2 c7
    refine lv_iconst (v := 0) hx hb dX12_query_17 (by decide) ?_
    exact rtM_i C0 hr hlk hR hS h dX12_query_18

def rm_X12_lockedBy : Room := { frames := 2, cells := 0, slots := 0, locals := 42 }
def B_X12_lockedBy_34 (kk4 : Int32 → Int32 → Int32 → sSt → Prop) (a1 : Int32) (a3 : Int32) (t0 : Int32) (t1 : Int32) (S : sSt) (k : Int32 → sSt → Prop) : Prop := ∀ x5 : Int32, x5 = (t0 + t1) → ∀ x6 : Int32, x6 = a3 + 1 → kk4 a1 x5 x6 S
set_option maxHeartbeats 4000000 in
set_option maxRecDepth 100000 in
theorem Bw_X12_lockedBy_34 {p : Program} {l : Launch} {e : Env} {s : State} {m : MethodId} {args : Array Value} {below : List Frame} {meth : Method} {c : Code} {D : va_G} {cy : Nat → ClassId} {b z : Nat} {tx : TX} (C0 : CallFix p m c cX12_lockedBy 4 s args TB RX12) (hr : meth.sig.returnType = (some .int)) (hlk : meth.locks = false) (hT : TxR tx s) {k : Int32 → sSt → Prop} {kk4 : Int32 → Int32 → Int32 → sSt → Prop} (ih4 : ∀ (a1 : Int32) (a2 : Int32) (a3 : Int32) (S : sSt) (H : Heap) (locs : List Loc) (ls : Array Slot) , kk4 a1 a2 a3 S → RelM D cy b z tx S s H → va_S (gA b 12 z) s.heap H locs → lv_has ls 4 [(0, .ref (b + adM 0 0)), (1, .int a1), (2, .int a2), (3, .int a3)] → W p l e rm_X12_lockedBy s m args below meth c H locs 0 0 (MQ below (PiM D cy b z tx k) args s 0 0 (gA b 12 z)) (F0 m 4 ls [])) : ∀ (a1 : Int32) (a3 : Int32) (t0 : Int32) (t1 : Int32) (S : sSt) (H : Heap) (locs : List Loc) (ls : Array Slot) , B_X12_lockedBy_34 kk4 a1 a3 t0 t1 S k → RelM D cy b z tx S s H → va_S (gA b 12 z) s.heap H locs → lv_has ls 4 [(0, .ref (b + adM 0 0)), (1, .int a1), (3, .int a3)] → W p l e rm_X12_lockedBy s m args below meth c H locs 0 0 (MQ below (PiM D cy b z tx k) args s 0 0 (gA b 12 z)) (F0 m 34 ls [.int t1, .int t0]) := by
  intro a1 a3 t0 t1 S H locs ls h hR hS hl
  have hx := C0.1
  have hb := C0.2.1
  unfold B_X12_lockedBy_34 at h
  refine lv_iadd hx hb dX12_lockedBy_34 ?_
  refine lv_topi (fun x5 ex5 => ?_)
  have h := h x5 ex5
  refine lv_istore_n (lv' := [(2, .int x5), (0, .ref (b + adM 0 0)), (1, .int a1), (3, .int a3)]) hx hb dX12_lockedBy_35 rfl hl (by decide) rfl (fun ls hl => ?_)
  obtain ⟨x6, ex6⟩ : ∃ x6 : Int32, x6 = a3 + 1 := ⟨_, rfl⟩
  have h := h x6 ex6
  refine w_iinc (v0 := 1) (lv' := [(3, .int x6), (2, .int x5), (0, .ref (b + adM 0 0)), (1, .int a1)]) C0 dX12_lockedBy_36 hl (k := 3) rfl (by decide) (by decide) x6 ex6 rfl (fun ls hl => ?_)
  refine lv_goto (tgt := 4) hx hb dX12_lockedBy_39 (by decide) ?_
  exact ih4 a1 x5 x6 S _ _ _  h hR hS (lv_sub hl [2, 3, 1, 0] rfl)
def B_X12_lockedBy_33 (kk4 : Int32 → Int32 → Int32 → sSt → Prop) (a1 : Int32) (a3 : Int32) (t0 : Int32) (S : sSt) (k : Int32 → sSt → Prop) : Prop := B_X12_lockedBy_34 kk4 a1 a3 t0 0 S k
set_option maxHeartbeats 4000000 in
set_option maxRecDepth 100000 in
theorem Bw_X12_lockedBy_33 {p : Program} {l : Launch} {e : Env} {s : State} {m : MethodId} {args : Array Value} {below : List Frame} {meth : Method} {c : Code} {D : va_G} {cy : Nat → ClassId} {b z : Nat} {tx : TX} (C0 : CallFix p m c cX12_lockedBy 4 s args TB RX12) (hr : meth.sig.returnType = (some .int)) (hlk : meth.locks = false) (hT : TxR tx s) {k : Int32 → sSt → Prop} {kk4 : Int32 → Int32 → Int32 → sSt → Prop} (ih4 : ∀ (a1 : Int32) (a2 : Int32) (a3 : Int32) (S : sSt) (H : Heap) (locs : List Loc) (ls : Array Slot) , kk4 a1 a2 a3 S → RelM D cy b z tx S s H → va_S (gA b 12 z) s.heap H locs → lv_has ls 4 [(0, .ref (b + adM 0 0)), (1, .int a1), (2, .int a2), (3, .int a3)] → W p l e rm_X12_lockedBy s m args below meth c H locs 0 0 (MQ below (PiM D cy b z tx k) args s 0 0 (gA b 12 z)) (F0 m 4 ls [])) : ∀ (a1 : Int32) (a3 : Int32) (t0 : Int32) (S : sSt) (H : Heap) (locs : List Loc) (ls : Array Slot) , B_X12_lockedBy_33 kk4 a1 a3 t0 S k → RelM D cy b z tx S s H → va_S (gA b 12 z) s.heap H locs → lv_has ls 4 [(0, .ref (b + adM 0 0)), (1, .int a1), (3, .int a3)] → W p l e rm_X12_lockedBy s m args below meth c H locs 0 0 (MQ below (PiM D cy b z tx k) args s 0 0 (gA b 12 z)) (F0 m 33 ls [.int t0]) := by
  intro a1 a3 t0 S H locs ls h hR hS hl
  have hx := C0.1
  have hb := C0.2.1
  unfold B_X12_lockedBy_33 at h
  refine lv_iconst (v := 0) hx hb dX12_lockedBy_33 (by decide) ?_
  exact Bw_X12_lockedBy_34 C0 hr hlk hT ih4 a1 a3 t0 0 S _ _ _ h hR hS (lv_sub hl [0, 1, 2] rfl)
def Bb_X12_lockedBy_4 (kk4 : Int32 → Int32 → Int32 → sSt → Prop) (a1 : Int32) (a2 : Int32) (a3 : Int32) (S : sSt) (k : Int32 → sSt → Prop) : Prop := ((24 ≤ a3 → k a2 S) ∧ (¬ 24 ≤ a3 → F_X12_numberOf a3 S (fun r2 S3 => ((r2 = (-1) → B_X12_lockedBy_33 kk4 a1 a3 a2 S3 k) ∧ (¬ r2 = (-1) → F_X12_lockerOf a3 S3 (fun r7 S8 => ((¬ r7 = a1 → B_X12_lockedBy_33 kk4 a1 a3 a2 S8 k) ∧ (r7 = a1 → B_X12_lockedBy_34 kk4 a1 a3 a2 1 S8 k))))))))
set_option maxHeartbeats 4000000 in
set_option maxRecDepth 100000 in
theorem Bbw_X12_lockedBy_4 {p : Program} {l : Launch} {e : Env} {s : State} {m : MethodId} {args : Array Value} {below : List Frame} {meth : Method} {c : Code} {D : va_G} {cy : Nat → ClassId} {b z : Nat} {tx : TX} (C0 : CallFix p m c cX12_lockedBy 4 s args TB RX12) (hr : meth.sig.returnType = (some .int)) (hlk : meth.locks = false) (hT : TxR tx s) {k : Int32 → sSt → Prop} {kk4 : Int32 → Int32 → Int32 → sSt → Prop} (ih4 : ∀ (a1 : Int32) (a2 : Int32) (a3 : Int32) (S : sSt) (H : Heap) (locs : List Loc) (ls : Array Slot) , kk4 a1 a2 a3 S → RelM D cy b z tx S s H → va_S (gA b 12 z) s.heap H locs → lv_has ls 4 [(0, .ref (b + adM 0 0)), (1, .int a1), (2, .int a2), (3, .int a3)] → W p l e rm_X12_lockedBy s m args below meth c H locs 0 0 (MQ below (PiM D cy b z tx k) args s 0 0 (gA b 12 z)) (F0 m 4 ls [])) : ∀ (a1 : Int32) (a2 : Int32) (a3 : Int32) (S : sSt) (H : Heap) (locs : List Loc) (ls : Array Slot) , Bb_X12_lockedBy_4 kk4 a1 a2 a3 S k → RelM D cy b z tx S s H → va_S (gA b 12 z) s.heap H locs → lv_has ls 4 [(0, .ref (b + adM 0 0)), (1, .int a1), (2, .int a2), (3, .int a3)] → W p l e rm_X12_lockedBy s m args below meth c H locs 0 0 (MQ below (PiM D cy b z tx k) args s 0 0 (gA b 12 z)) (F0 m 4 ls []) := by
  intro a1 a2 a3 S H locs ls h hR hS hl
  have hx := C0.1
  have hb := C0.2.1
  unfold Bb_X12_lockedBy_4 at h
  refine lv_iload_n hx hb dX12_lockedBy_4 rfl (lv_at hl 3 rfl) ?_
  refine lv_bipush (v := 24) hx hb dX12_lockedBy_5 (by decide) ?_
  refine lv_icmp_ge (tgt := 42) hx hb dX12_lockedBy_7 (by decide) (fun c1 => ?_) (fun c1 => ?_)
  · have h := h.1 c1
    refine lv_iload_n hx hb dX12_lockedBy_42 rfl (lv_at hl 2 rfl) ?_
    exact rtM_i C0 hr hlk hR hS h dX12_lockedBy_43
  · have h := h.2 c1
    refine lv_iload_n hx hb dX12_lockedBy_10 rfl (lv_at hl 2 rfl) ?_
    refine lv_aload_n hx hb dX12_lockedBy_11 rfl (lv_at hl 0 rfl) ?_
    refine lv_iload_n hx hb dX12_lockedBy_12 rfl (lv_at hl 3 rfl) ?_
    refine qM_Vi (As := [.int a3]) (rest := [.int a2]) C0 (c_X12_numberOf l h) (cwV 1 C0.2.2.2.2 (tbV mM3_7_202 ⟨mM3_7_204, mpM3_3_3, mM3_1_11, mM3_7_205⟩) rfl rfl rfl (by decide +kernel) ⟨Nat.le_of_ble_eq_true rfl, Nat.le_of_ble_eq_true rfl⟩) (rcM_0 hR Nat.zero_lt_one) hR hT hS rfl hl.1 rfl (Nat.le_of_ble_eq_true rfl) dX12_lockedBy_13 ⟨Nat.zero_le _, Nat.zero_le _⟩ (fun r2 S3 H locs h hR hS => ?_)
    refine lv_iconst (v := (-1)) hx hb dX12_lockedBy_16 (by decide) ?_
    refine lv_icmp_eq (tgt := 33) hx hb dX12_lockedBy_17 (by decide) (fun c4 => ?_) (fun c4 => ?_)
    · have h := h.1 c4
      exact Bw_X12_lockedBy_33 C0 hr hlk hT ih4 a1 a3 a2 S3 _ _ _ h hR hS (lv_sub hl [0, 1, 3] rfl)
    · have h := h.2 c4
      refine lv_aload_n hx hb dX12_lockedBy_20 rfl (lv_at hl 0 rfl) ?_
      refine lv_iload_n hx hb dX12_lockedBy_21 rfl (lv_at hl 3 rfl) ?_
      refine qM_Vi (As := [.int a3]) (rest := [.int a2]) C0 (c_X12_lockerOf l h) (cwV 1 C0.2.2.2.2 (tbV mM3_8_106 ⟨mM3_8_108, mpM3_4_10, mM3_1_11, mM3_8_109⟩) rfl rfl rfl (by decide +kernel) ⟨Nat.le_of_ble_eq_true rfl, Nat.le_of_ble_eq_true rfl⟩) (rcM_0 hR Nat.zero_lt_one) hR hT hS rfl hl.1 rfl (Nat.le_of_ble_eq_true rfl) dX12_lockedBy_22 ⟨Nat.zero_le _, Nat.zero_le _⟩ (fun r7 S8 H locs h hR hS => ?_)
      refine lv_iload_n hx hb dX12_lockedBy_25 rfl (lv_at hl 1 rfl) ?_
      refine lv_icmp_ne (tgt := 33) hx hb dX12_lockedBy_26 (by decide) (fun c9 => ?_) (fun c9 => ?_)
      · have h := h.1 c9
        exact Bw_X12_lockedBy_33 C0 hr hlk hT ih4 a1 a3 a2 S8 _ _ _ h hR hS (lv_sub hl [0, 1, 3] rfl)
      · have h := h.2 c9
        refine lv_iconst (v := 1) hx hb dX12_lockedBy_29 (by decide) ?_
        refine lv_goto (tgt := 34) hx hb dX12_lockedBy_30 (by decide) ?_
        exact Bw_X12_lockedBy_34 C0 hr hlk hT ih4 a1 a3 a2 1 S8 _ _ _ h hR hS (lv_sub hl [0, 1, 3] rfl)
def B_X12_lockedBy_4 (n9 : Nat) (a1 : Int32) (a2 : Int32) (a3 : Int32) (S : sSt) (k : Int32 → sSt → Prop) : Prop := (Nat.rec (motive := fun _ => Int32 → Int32 → Int32 → sSt → Prop) (fun _ _ _ _ => False) (fun _ r9 => fun a1 a2 a3 S => Bb_X12_lockedBy_4 r9 a1 a2 a3 S k) n9 : Int32 → Int32 → Int32 → sSt → Prop) a1 a2 a3 S
theorem B_X12_lockedBy_4_s (n9 : Nat) (a1 : Int32) (a2 : Int32) (a3 : Int32) (S : sSt) (k : Int32 → sSt → Prop) : B_X12_lockedBy_4 (n9 + 1) a1 a2 a3 S k = Bb_X12_lockedBy_4 (fun a1 a2 a3 S => B_X12_lockedBy_4 n9 a1 a2 a3 S k) a1 a2 a3 S k := rfl
set_option maxHeartbeats 4000000 in
set_option maxRecDepth 100000 in
theorem Bw_X12_lockedBy_4 {p : Program} {l : Launch} {e : Env} {s : State} {m : MethodId} {args : Array Value} {below : List Frame} {meth : Method} {c : Code} {D : va_G} {cy : Nat → ClassId} {b z : Nat} {tx : TX} (C0 : CallFix p m c cX12_lockedBy 4 s args TB RX12) (hr : meth.sig.returnType = (some .int)) (hlk : meth.locks = false) (hT : TxR tx s) {k : Int32 → sSt → Prop} : ∀ (n9 : Nat), ∀ (a1 : Int32) (a2 : Int32) (a3 : Int32) (S : sSt) (H : Heap) (locs : List Loc) (ls : Array Slot) , B_X12_lockedBy_4 n9 a1 a2 a3 S k → RelM D cy b z tx S s H → va_S (gA b 12 z) s.heap H locs → lv_has ls 4 [(0, .ref (b + adM 0 0)), (1, .int a1), (2, .int a2), (3, .int a3)] → W p l e rm_X12_lockedBy s m args below meth c H locs 0 0 (MQ below (PiM D cy b z tx k) args s 0 0 (gA b 12 z)) (F0 m 4 ls []) := by
  intro n9
  induction n9 with
  | zero => intro a1 a2 a3 S H locs ls h; exact h.elim
  | succ n9 ih =>
    intro a1 a2 a3 S H locs ls h hR hS hl
    exact Bbw_X12_lockedBy_4 C0 hr hlk hT ih a1 a2 a3 S H locs ls h hR hS hl
def F_X12_lockedBy (a1 : Int32) (S : sSt) (k : Int32 → sSt → Prop) : Prop := B_X12_lockedBy_4 fuel a1 0 0 S k
set_option maxHeartbeats 4000000 in
set_option maxRecDepth 100000 in
theorem c_X12_lockedBy (l : Launch) {D : va_G} {cy : Nat → ClassId} {b z : Nat} {tx : TX} {a1 : Int32} {S : sSt} {k : Int32 → sSt → Prop} (h : F_X12_lockedBy a1 S k) : Met l yX12_lockedBy (Cond.code yX12_lockedBy cX12_lockedBy 4 (some .int) :: TB) rm_X12_lockedBy (va_Pc [.ref (b + adM 0 0), .int a1] (fun U => RelM D cy b z tx S U U.heap ∧ TxR tx U)) (PiM D cy b z tx k) 0 0 (gA b 12 z) := by
  refine Met.ofW (cc := cX12_lockedBy) (maxL := 4) (ret := (some .int)) (by decide) rfl ?_
  intro p e s m args below meth c s₁ B hml hv
  obtain ⟨rfl, hR, hT⟩ := hv
  have C0 : CallFix p m c cX12_lockedBy 4 s _ TB RX12 := ⟨B.exec, B.bytes, hml, findClass_of_methodNamed B.named, fun w hw => atoms_spec B.pre w (List.mem_cons_of_mem _ hw)⟩
  have hr := B.returns
  have hlk := B.notSynchronized
  have hx := C0.1
  have hb := C0.2.1
  have hS : va_S (gA b 12 z) s.heap s.heap [] := va_S.rf
  have hl := lv_entry ([.ref (b + adM 0 0), .int a1]) (n := 4) (Nat.le_of_ble_eq_true rfl)
  rw [lg_entry_eq]
  generalize (lg_sl ([.ref (b + adM 0 0), .int a1]) ++ List.replicate (4 - (lg_sl ([.ref (b + adM 0 0), .int a1])).length) Slot.unset).toArray = ls at hl ⊢
  have hl : lv_has ls 4 [(0, .ref (b + adM 0 0)), (1, .int a1)] := hl
  show W p l e rm_X12_lockedBy s m _ below meth c s.heap [] 0 0 (MQ below (PiM D cy b z tx k) _ s 0 0 (gA b 12 z)) _
  unfold F_X12_lockedBy at h
  refine lv_iconst (v := 0) hx hb dX12_lockedBy_0 (by decide) ?_
  refine lv_istore_n (lv' := [(2, .int 0), (0, .ref (b + adM 0 0)), (1, .int a1)]) hx hb dX12_lockedBy_1 rfl hl (by decide) rfl (fun ls hl => ?_)
  refine lv_iconst (v := 0) hx hb dX12_lockedBy_2 (by decide) ?_
  refine lv_istore_n (lv' := [(3, .int 0), (2, .int 0), (0, .ref (b + adM 0 0)), (1, .int a1)]) hx hb dX12_lockedBy_3 rfl hl (by decide) rfl (fun ls hl => ?_)
  exact Bw_X12_lockedBy_4 C0 hr hlk hT fuel a1 0 0 S _ _ _ h hR hS (lv_sub hl [2, 3, 1, 0] rfl)

def rm_X12_opened : Room := { frames := 2, cells := 0, slots := 0, locals := 42 }
def B_X12_opened_28 (kk4 : Int32 → Int32 → sSt → Prop) (a2 : Int32) (t0 : Int32) (t1 : Int32) (S : sSt) (k : Int32 → sSt → Prop) : Prop := ∀ x5 : Int32, x5 = (t0 + t1) → ∀ x6 : Int32, x6 = a2 + 1 → kk4 x5 x6 S
set_option maxHeartbeats 4000000 in
set_option maxRecDepth 100000 in
theorem Bw_X12_opened_28 {p : Program} {l : Launch} {e : Env} {s : State} {m : MethodId} {args : Array Value} {below : List Frame} {meth : Method} {c : Code} {D : va_G} {cy : Nat → ClassId} {b z : Nat} {tx : TX} (C0 : CallFix p m c cX12_opened 3 s args TB RX12) (hr : meth.sig.returnType = (some .int)) (hlk : meth.locks = false) (hT : TxR tx s) {k : Int32 → sSt → Prop} {kk4 : Int32 → Int32 → sSt → Prop} (ih4 : ∀ (a1 : Int32) (a2 : Int32) (S : sSt) (H : Heap) (locs : List Loc) (ls : Array Slot) , kk4 a1 a2 S → RelM D cy b z tx S s H → va_S (gA b 12 z) s.heap H locs → lv_has ls 3 [(0, .ref (b + adM 0 0)), (1, .int a1), (2, .int a2)] → W p l e rm_X12_opened s m args below meth c H locs 0 0 (MQ below (PiM D cy b z tx k) args s 0 0 (gA b 12 z)) (F0 m 4 ls [])) : ∀ (a2 : Int32) (t0 : Int32) (t1 : Int32) (S : sSt) (H : Heap) (locs : List Loc) (ls : Array Slot) , B_X12_opened_28 kk4 a2 t0 t1 S k → RelM D cy b z tx S s H → va_S (gA b 12 z) s.heap H locs → lv_has ls 3 [(0, .ref (b + adM 0 0)), (2, .int a2)] → W p l e rm_X12_opened s m args below meth c H locs 0 0 (MQ below (PiM D cy b z tx k) args s 0 0 (gA b 12 z)) (F0 m 28 ls [.int t1, .int t0]) := by
  intro a2 t0 t1 S H locs ls h hR hS hl
  have hx := C0.1
  have hb := C0.2.1
  unfold B_X12_opened_28 at h
  refine lv_iadd hx hb dX12_opened_28 ?_
  refine lv_topi (fun x5 ex5 => ?_)
  have h := h x5 ex5
  refine lv_istore_n (lv' := [(1, .int x5), (0, .ref (b + adM 0 0)), (2, .int a2)]) hx hb dX12_opened_29 rfl hl (by decide) rfl (fun ls hl => ?_)
  obtain ⟨x6, ex6⟩ : ∃ x6 : Int32, x6 = a2 + 1 := ⟨_, rfl⟩
  have h := h x6 ex6
  refine w_iinc (v0 := 1) (lv' := [(2, .int x6), (1, .int x5), (0, .ref (b + adM 0 0))]) C0 dX12_opened_30 hl (k := 2) rfl (by decide) (by decide) x6 ex6 rfl (fun ls hl => ?_)
  refine lv_goto (tgt := 4) hx hb dX12_opened_33 (by decide) ?_
  exact ih4 x5 x6 S _ _ _  h hR hS (lv_sub hl [2, 1, 0] rfl)
def Bb_X12_opened_4 (kk4 : Int32 → Int32 → sSt → Prop) (a1 : Int32) (a2 : Int32) (S : sSt) (k : Int32 → sSt → Prop) : Prop := (((S.1 1 0 0) ≤ a2 → k a1 S) ∧ (¬ (S.1 1 0 0) ≤ a2 → F_X12_isOpen a2 S (fun r2 S3 => ((r2 = 0 → B_X12_opened_28 kk4 a2 a1 0 S3 k) ∧ (¬ r2 = 0 → B_X12_opened_28 kk4 a2 a1 1 S3 k)))))
set_option maxHeartbeats 4000000 in
set_option maxRecDepth 100000 in
theorem Bbw_X12_opened_4 {p : Program} {l : Launch} {e : Env} {s : State} {m : MethodId} {args : Array Value} {below : List Frame} {meth : Method} {c : Code} {D : va_G} {cy : Nat → ClassId} {b z : Nat} {tx : TX} (C0 : CallFix p m c cX12_opened 3 s args TB RX12) (hr : meth.sig.returnType = (some .int)) (hlk : meth.locks = false) (hT : TxR tx s) {k : Int32 → sSt → Prop} {kk4 : Int32 → Int32 → sSt → Prop} (ih4 : ∀ (a1 : Int32) (a2 : Int32) (S : sSt) (H : Heap) (locs : List Loc) (ls : Array Slot) , kk4 a1 a2 S → RelM D cy b z tx S s H → va_S (gA b 12 z) s.heap H locs → lv_has ls 3 [(0, .ref (b + adM 0 0)), (1, .int a1), (2, .int a2)] → W p l e rm_X12_opened s m args below meth c H locs 0 0 (MQ below (PiM D cy b z tx k) args s 0 0 (gA b 12 z)) (F0 m 4 ls [])) : ∀ (a1 : Int32) (a2 : Int32) (S : sSt) (H : Heap) (locs : List Loc) (ls : Array Slot) , Bb_X12_opened_4 kk4 a1 a2 S k → RelM D cy b z tx S s H → va_S (gA b 12 z) s.heap H locs → lv_has ls 3 [(0, .ref (b + adM 0 0)), (1, .int a1), (2, .int a2)] → W p l e rm_X12_opened s m args below meth c H locs 0 0 (MQ below (PiM D cy b z tx k) args s 0 0 (gA b 12 z)) (F0 m 4 ls []) := by
  intro a1 a2 S H locs ls h hR hS hl
  have hx := C0.1
  have hb := C0.2.1
  unfold Bb_X12_opened_4 at h
  refine lv_iload_n hx hb dX12_opened_4 rfl (lv_at hl 2 rfl) ?_
  refine lv_aload_n hx hb dX12_opened_5 rfl (lv_at hl 0 rfl) ?_
  refine gM_0_2 C0 hR Nat.zero_lt_one tbs_wsX120 mM3_7_79 dX12_opened_6 ?_
  refine lv_iconst (v := 0) hx hb dX12_opened_9 (by decide) ?_
  refine lM_1 C0 hR Nat.zero_lt_one (by decide) rfl dX12_opened_10 ?_
  refine lv_icmp_ge (tgt := 36) hx hb dX12_opened_11 (by decide) (fun c1 => ?_) (fun c1 => ?_)
  · have h := h.1 c1
    refine lv_iload_n hx hb dX12_opened_36 rfl (lv_at hl 1 rfl) ?_
    exact rtM_i C0 hr hlk hR hS h dX12_opened_37
  · have h := h.2 c1
    refine lv_iload_n hx hb dX12_opened_14 rfl (lv_at hl 1 rfl) ?_
    refine lv_aload_n hx hb dX12_opened_15 rfl (lv_at hl 0 rfl) ?_
    refine lv_iload_n hx hb dX12_opened_16 rfl (lv_at hl 2 rfl) ?_
    refine qM_Vi (As := [.int a2]) (rest := [.int a1]) C0 (c_X12_isOpen l h) (cwV 1 C0.2.2.2.2 (tbV mM3_8_87 ⟨mM3_8_89, mpM3_4_7, mM3_1_11, mM3_8_90⟩) rfl rfl rfl (by decide +kernel) ⟨Nat.le_of_ble_eq_true rfl, Nat.le_of_ble_eq_true rfl⟩) (rcM_0 hR Nat.zero_lt_one) hR hT hS rfl hl.1 rfl (Nat.le_of_ble_eq_true rfl) dX12_opened_17 ⟨Nat.zero_le _, Nat.zero_le _⟩ (fun r2 S3 H locs h hR hS => ?_)
    refine lv_if_eq (tgt := 27) hx hb dX12_opened_20 (by decide) (fun c4 => ?_) (fun c4 => ?_)
    · have h := h.1 c4
      refine lv_iconst (v := 0) hx hb dX12_opened_27 (by decide) ?_
      exact Bw_X12_opened_28 C0 hr hlk hT ih4 a2 a1 0 S3 _ _ _ h hR hS (lv_sub hl [0, 2] rfl)
    · have h := h.2 c4
      refine lv_iconst (v := 1) hx hb dX12_opened_23 (by decide) ?_
      refine lv_goto (tgt := 28) hx hb dX12_opened_24 (by decide) ?_
      exact Bw_X12_opened_28 C0 hr hlk hT ih4 a2 a1 1 S3 _ _ _ h hR hS (lv_sub hl [0, 2] rfl)
def B_X12_opened_4 (n9 : Nat) (a1 : Int32) (a2 : Int32) (S : sSt) (k : Int32 → sSt → Prop) : Prop := (Nat.rec (motive := fun _ => Int32 → Int32 → sSt → Prop) (fun _ _ _ => False) (fun _ r9 => fun a1 a2 S => Bb_X12_opened_4 r9 a1 a2 S k) n9 : Int32 → Int32 → sSt → Prop) a1 a2 S
theorem B_X12_opened_4_s (n9 : Nat) (a1 : Int32) (a2 : Int32) (S : sSt) (k : Int32 → sSt → Prop) : B_X12_opened_4 (n9 + 1) a1 a2 S k = Bb_X12_opened_4 (fun a1 a2 S => B_X12_opened_4 n9 a1 a2 S k) a1 a2 S k := rfl
set_option maxHeartbeats 4000000 in
set_option maxRecDepth 100000 in
theorem Bw_X12_opened_4 {p : Program} {l : Launch} {e : Env} {s : State} {m : MethodId} {args : Array Value} {below : List Frame} {meth : Method} {c : Code} {D : va_G} {cy : Nat → ClassId} {b z : Nat} {tx : TX} (C0 : CallFix p m c cX12_opened 3 s args TB RX12) (hr : meth.sig.returnType = (some .int)) (hlk : meth.locks = false) (hT : TxR tx s) {k : Int32 → sSt → Prop} : ∀ (n9 : Nat), ∀ (a1 : Int32) (a2 : Int32) (S : sSt) (H : Heap) (locs : List Loc) (ls : Array Slot) , B_X12_opened_4 n9 a1 a2 S k → RelM D cy b z tx S s H → va_S (gA b 12 z) s.heap H locs → lv_has ls 3 [(0, .ref (b + adM 0 0)), (1, .int a1), (2, .int a2)] → W p l e rm_X12_opened s m args below meth c H locs 0 0 (MQ below (PiM D cy b z tx k) args s 0 0 (gA b 12 z)) (F0 m 4 ls []) := by
  intro n9
  induction n9 with
  | zero => intro a1 a2 S H locs ls h; exact h.elim
  | succ n9 ih =>
    intro a1 a2 S H locs ls h hR hS hl
    exact Bbw_X12_opened_4 C0 hr hlk hT ih a1 a2 S H locs ls h hR hS hl
def F_X12_opened (S : sSt) (k : Int32 → sSt → Prop) : Prop := B_X12_opened_4 fuel 0 0 S k
set_option maxHeartbeats 4000000 in
set_option maxRecDepth 100000 in
theorem c_X12_opened (l : Launch) {D : va_G} {cy : Nat → ClassId} {b z : Nat} {tx : TX} {S : sSt} {k : Int32 → sSt → Prop} (h : F_X12_opened S k) : Met l yX12_opened (Cond.code yX12_opened cX12_opened 3 (some .int) :: TB) rm_X12_opened (va_Pc [.ref (b + adM 0 0)] (fun U => RelM D cy b z tx S U U.heap ∧ TxR tx U)) (PiM D cy b z tx k) 0 0 (gA b 12 z) := by
  refine Met.ofW (cc := cX12_opened) (maxL := 3) (ret := (some .int)) (by decide) rfl ?_
  intro p e s m args below meth c s₁ B hml hv
  obtain ⟨rfl, hR, hT⟩ := hv
  have C0 : CallFix p m c cX12_opened 3 s _ TB RX12 := ⟨B.exec, B.bytes, hml, findClass_of_methodNamed B.named, fun w hw => atoms_spec B.pre w (List.mem_cons_of_mem _ hw)⟩
  have hr := B.returns
  have hlk := B.notSynchronized
  have hx := C0.1
  have hb := C0.2.1
  have hS : va_S (gA b 12 z) s.heap s.heap [] := va_S.rf
  have hl := lv_entry ([.ref (b + adM 0 0)]) (n := 3) (Nat.le_of_ble_eq_true rfl)
  rw [lg_entry_eq]
  generalize (lg_sl ([.ref (b + adM 0 0)]) ++ List.replicate (3 - (lg_sl ([.ref (b + adM 0 0)])).length) Slot.unset).toArray = ls at hl ⊢
  have hl : lv_has ls 3 [(0, .ref (b + adM 0 0))] := hl
  show W p l e rm_X12_opened s m _ below meth c s.heap [] 0 0 (MQ below (PiM D cy b z tx k) _ s 0 0 (gA b 12 z)) _
  unfold F_X12_opened at h
  refine lv_iconst (v := 0) hx hb dX12_opened_0 (by decide) ?_
  refine lv_istore_n (lv' := [(1, .int 0), (0, .ref (b + adM 0 0))]) hx hb dX12_opened_1 rfl hl (by decide) rfl (fun ls hl => ?_)
  refine lv_iconst (v := 0) hx hb dX12_opened_2 (by decide) ?_
  refine lv_istore_n (lv' := [(2, .int 0), (1, .int 0), (0, .ref (b + adM 0 0))]) hx hb dX12_opened_3 rfl hl (by decide) rfl (fun ls hl => ?_)
  exact Bw_X12_opened_4 C0 hr hlk hT fuel 0 0 S _ _ _ h hR hS (lv_sub hl [2, 1, 0] rfl)

def rm_X12_locks : Room := { frames := 2, cells := 0, slots := 0, locals := 42 }
def B_X12_locks_26 (a1 : Int32) (a2 : Int32) (S : sSt) (k : Int32 → sSt → Prop) : Prop := F_X12_jobAt a1 2 S (fun r4 S5 => ix r4 10421 (fun j6 => ∀ S7, S7 = uI S5 1 0 j6 a2 → F_X12_jobAt a1 25 S7 (fun r8 S9 => k r8 S9)))
set_option maxHeartbeats 4000000 in
set_option maxRecDepth 100000 in
theorem Bw_X12_locks_26 {p : Program} {l : Launch} {e : Env} {s : State} {m : MethodId} {args : Array Value} {below : List Frame} {meth : Method} {c : Code} {D : va_G} {cy : Nat → ClassId} {b z : Nat} {tx : TX} (C0 : CallFix p m c cX12_locks 3 s args TB RX12) (hr : meth.sig.returnType = (some .int)) (hlk : meth.locks = false) (hT : TxR tx s) {k : Int32 → sSt → Prop} : ∀ (a1 : Int32) (a2 : Int32) (S : sSt) (H : Heap) (locs : List Loc) (ls : Array Slot) , B_X12_locks_26 a1 a2 S k → RelM D cy b z tx S s H → va_S (gA b 12 z) s.heap H locs → lv_has ls 3 [(0, .ref (b + adM 0 0)), (1, .int a1), (2, .int a2)] → W p l e rm_X12_locks s m args below meth c H locs 0 0 (MQ below (PiM D cy b z tx k) args s 0 0 (gA b 12 z)) (F0 m 26 ls []) := by
  intro a1 a2 S H locs ls h hR hS hl
  have hx := C0.1
  have hb := C0.2.1
  unfold B_X12_locks_26 at h
  refine lv_aload_n hx hb dX12_locks_26 rfl (lv_at hl 0 rfl) ?_
  refine gM_0_2 C0 hR Nat.zero_lt_one tbs_wsX120 mM3_7_79 dX12_locks_27 ?_
  refine lv_iload_n hx hb dX12_locks_30 rfl (lv_at hl 1 rfl) ?_
  refine lv_iconst (v := 2) hx hb dX12_locks_31 (by decide) ?_
  refine qM_Si (As := [.int a1, .int 2]) (rest := [.ref (b + adM 1 0)]) C0 (c_X12_jobAt l h) (va_cwS 2 C0.2.2.2.2 (tbS mM3_7_74 ⟨mM3_7_75, mM3_1_11, mM3_7_76⟩) rfl rfl rfl (by decide +kernel) ⟨Nat.le_of_ble_eq_true rfl, Nat.le_of_ble_eq_true rfl⟩) hR hT hS rfl hl.1 rfl (Nat.le_of_ble_eq_true rfl) dX12_locks_32 ⟨Nat.zero_le _, Nat.zero_le _⟩ (fun r4 S5 H locs h hR hS => ?_)
  refine lv_iload_n hx hb dX12_locks_35 rfl (lv_at hl 2 rfl) ?_
  obtain ⟨j6, hj6, ej6, h⟩ := h
  refine sM_1 C0 hR hS Nat.zero_lt_one hj6 ej6 dX12_locks_36 (fun S7 eS7 H locs hR hS => ?_)
  have h := h S7 eS7
  refine lv_iload_n hx hb dX12_locks_37 rfl (lv_at hl 1 rfl) ?_
  refine lv_bipush (v := 25) hx hb dX12_locks_38 (by decide) ?_
  refine qM_Si (As := [.int a1, .int 25]) (rest := []) C0 (c_X12_jobAt l h) (va_cwS 2 C0.2.2.2.2 (tbS mM3_7_74 ⟨mM3_7_75, mM3_1_11, mM3_7_76⟩) rfl rfl rfl (by decide +kernel) ⟨Nat.le_of_ble_eq_true rfl, Nat.le_of_ble_eq_true rfl⟩) hR hT hS rfl hl.1 rfl (Nat.le_of_ble_eq_true rfl) dX12_locks_40 ⟨Nat.zero_le _, Nat.zero_le _⟩ (fun r8 S9 H locs h hR hS => ?_)
  exact rtM_i C0 hr hlk hR hS h dX12_locks_43
def F_X12_locks (a1 : Int32) (a2 : Int32) (S : sSt) (k : Int32 → sSt → Prop) : Prop := F_X12_lockerOf a1 S (fun r1 S2 => ((r1 = a2 → B_X12_locks_26 a1 a2 S2 k) ∧ (¬ r1 = a2 → F_X12_jobAt a1 3 S2 (fun r10 S11 => F_X12_jobAt a1 25 S11 (fun r12 S13 => F_X12_copies r10 r12 22 S13 (fun S15 => B_X12_locks_26 a1 a2 S15 k))))))
set_option maxHeartbeats 4000000 in
set_option maxRecDepth 100000 in
theorem c_X12_locks (l : Launch) {D : va_G} {cy : Nat → ClassId} {b z : Nat} {tx : TX} {a1 : Int32} {a2 : Int32} {S : sSt} {k : Int32 → sSt → Prop} (h : F_X12_locks a1 a2 S k) : Met l yX12_locks (Cond.code yX12_locks cX12_locks 3 (some .int) :: TB) rm_X12_locks (va_Pc [.ref (b + adM 0 0), .int a1, .int a2] (fun U => RelM D cy b z tx S U U.heap ∧ TxR tx U)) (PiM D cy b z tx k) 0 0 (gA b 12 z) := by
  refine Met.ofW (cc := cX12_locks) (maxL := 3) (ret := (some .int)) (by decide) rfl ?_
  intro p e s m args below meth c s₁ B hml hv
  obtain ⟨rfl, hR, hT⟩ := hv
  have C0 : CallFix p m c cX12_locks 3 s _ TB RX12 := ⟨B.exec, B.bytes, hml, findClass_of_methodNamed B.named, fun w hw => atoms_spec B.pre w (List.mem_cons_of_mem _ hw)⟩
  have hr := B.returns
  have hlk := B.notSynchronized
  have hx := C0.1
  have hb := C0.2.1
  have hS : va_S (gA b 12 z) s.heap s.heap [] := va_S.rf
  have hl := lv_entry ([.ref (b + adM 0 0), .int a1, .int a2]) (n := 3) (Nat.le_of_ble_eq_true rfl)
  rw [lg_entry_eq]
  generalize (lg_sl ([.ref (b + adM 0 0), .int a1, .int a2]) ++ List.replicate (3 - (lg_sl ([.ref (b + adM 0 0), .int a1, .int a2])).length) Slot.unset).toArray = ls at hl ⊢
  have hl : lv_has ls 3 [(0, .ref (b + adM 0 0)), (1, .int a1), (2, .int a2)] := hl
  show W p l e rm_X12_locks s m _ below meth c s.heap [] 0 0 (MQ below (PiM D cy b z tx k) _ s 0 0 (gA b 12 z)) _
  unfold F_X12_locks at h
  refine lv_aload_n hx hb dX12_locks_0 rfl (lv_at hl 0 rfl) ?_
  refine lv_iload_n hx hb dX12_locks_1 rfl (lv_at hl 1 rfl) ?_
  refine qM_Vi (As := [.int a1]) (rest := []) C0 (c_X12_lockerOf l h) (cwV 1 C0.2.2.2.2 (tbV mM3_8_106 ⟨mM3_8_108, mpM3_4_10, mM3_1_11, mM3_8_109⟩) rfl rfl rfl (by decide +kernel) ⟨Nat.le_of_ble_eq_true rfl, Nat.le_of_ble_eq_true rfl⟩) (rcM_0 hR Nat.zero_lt_one) hR hT hS rfl hl.1 rfl (Nat.le_of_ble_eq_true rfl) dX12_locks_2 ⟨Nat.zero_le _, Nat.zero_le _⟩ (fun r1 S2 H locs h hR hS => ?_)
  refine lv_iload_n hx hb dX12_locks_5 rfl (lv_at hl 2 rfl) ?_
  refine lv_icmp_eq (tgt := 26) hx hb dX12_locks_6 (by decide) (fun c3 => ?_) (fun c3 => ?_)
  · have h := h.1 c3
    exact Bw_X12_locks_26 C0 hr hlk hT a1 a2 S2 _ _ _ h hR hS (lv_sub hl [0, 1, 2] rfl)
  · have h := h.2 c3
    refine lv_aload_n hx hb dX12_locks_9 rfl (lv_at hl 0 rfl) ?_
    refine lv_iload_n hx hb dX12_locks_10 rfl (lv_at hl 1 rfl) ?_
    refine lv_iconst (v := 3) hx hb dX12_locks_11 (by decide) ?_
    refine qM_Si (As := [.int a1, .int 3]) (rest := [.ref (b + adM 0 0)]) C0 (c_X12_jobAt l h) (va_cwS 2 C0.2.2.2.2 (tbS mM3_7_74 ⟨mM3_7_75, mM3_1_11, mM3_7_76⟩) rfl rfl rfl (by decide +kernel) ⟨Nat.le_of_ble_eq_true rfl, Nat.le_of_ble_eq_true rfl⟩) hR hT hS rfl hl.1 rfl (Nat.le_of_ble_eq_true rfl) dX12_locks_12 ⟨Nat.zero_le _, Nat.zero_le _⟩ (fun r10 S11 H locs h hR hS => ?_)
    refine lv_iload_n hx hb dX12_locks_15 rfl (lv_at hl 1 rfl) ?_
    refine lv_bipush (v := 25) hx hb dX12_locks_16 (by decide) ?_
    refine qM_Si (As := [.int a1, .int 25]) (rest := [.int r10, .ref (b + adM 0 0)]) C0 (c_X12_jobAt l h) (va_cwS 2 C0.2.2.2.2 (tbS mM3_7_74 ⟨mM3_7_75, mM3_1_11, mM3_7_76⟩) rfl rfl rfl (by decide +kernel) ⟨Nat.le_of_ble_eq_true rfl, Nat.le_of_ble_eq_true rfl⟩) hR hT hS rfl hl.1 rfl (Nat.le_of_ble_eq_true rfl) dX12_locks_18 ⟨Nat.zero_le _, Nat.zero_le _⟩ (fun r12 S13 H locs h hR hS => ?_)
    refine lv_bipush (v := 22) hx hb dX12_locks_21 (by decide) ?_
    refine qM_Vv (As := [.int r10, .int r12, .int 22]) (rest := []) C0 (c_X12_copies l h) (cwV 3 C0.2.2.2.2 (tbV mM3_8_110 ⟨mM3_8_112, mpM3_4_11, mM3_1_11, mM3_8_113⟩) rfl rfl rfl (by decide +kernel) ⟨Nat.le_of_ble_eq_true rfl, Nat.le_of_ble_eq_true rfl⟩) (rcM_0 hR Nat.zero_lt_one) hR hT hS rfl hl.1 rfl (Nat.le_of_ble_eq_true rfl) dX12_locks_23 ⟨Nat.zero_le _, Nat.zero_le _⟩ (fun S15 H locs h hR hS => ?_)
    exact Bw_X12_locks_26 C0 hr hlk hT a1 a2 S15 _ _ _ h hR hS (lv_sub hl [0, 1, 2] rfl)

def rm_X12_frees : Room := { frames := 3, cells := 0, slots := 0, locals := 63 }
def F_X12_frees (a1 : Int32) (S : sSt) (k : sSt → Prop) : Prop := F_X12_jobAt a1 2 S (fun r1 S2 => ix r1 10421 (fun j3 => ∀ S4, S4 = uI S2 1 0 j3 (-1) → F_X12_isIn a1 S4 (fun r5 S6 => ((¬ r5 = 0 → k S6) ∧ (r5 = 0 → F_X12_jobAt a1 0 S6 (fun r8 S9 => ix r8 10421 (fun j10 => ∀ S11, S11 = uI S9 1 0 j10 (-1) → k S11)))))))
set_option maxHeartbeats 4000000 in
set_option maxRecDepth 100000 in
theorem c_X12_frees (l : Launch) {D : va_G} {cy : Nat → ClassId} {b z : Nat} {tx : TX} {a1 : Int32} {S : sSt} {k : sSt → Prop} (h : F_X12_frees a1 S k) : Met l yX12_frees (Cond.code yX12_frees cX12_frees 2 none :: TB) rm_X12_frees (va_Pc [.ref (b + adM 0 0), .int a1] (fun U => RelM D cy b z tx S U U.heap ∧ TxR tx U)) (PvM D cy b z tx k) 0 0 (gA b 12 z) := by
  refine Met.ofW (cc := cX12_frees) (maxL := 2) (ret := none) (by decide) rfl ?_
  intro p e s m args below meth c s₁ B hml hv
  obtain ⟨rfl, hR, hT⟩ := hv
  have C0 : CallFix p m c cX12_frees 2 s _ TB RX12 := ⟨B.exec, B.bytes, hml, findClass_of_methodNamed B.named, fun w hw => atoms_spec B.pre w (List.mem_cons_of_mem _ hw)⟩
  have hr := B.returns
  have hlk := B.notSynchronized
  have hx := C0.1
  have hb := C0.2.1
  have hS : va_S (gA b 12 z) s.heap s.heap [] := va_S.rf
  have hl := lv_entry ([.ref (b + adM 0 0), .int a1]) (n := 2) (Nat.le_of_ble_eq_true rfl)
  rw [lg_entry_eq]
  generalize (lg_sl ([.ref (b + adM 0 0), .int a1]) ++ List.replicate (2 - (lg_sl ([.ref (b + adM 0 0), .int a1])).length) Slot.unset).toArray = ls at hl ⊢
  have hl : lv_has ls 2 [(0, .ref (b + adM 0 0)), (1, .int a1)] := hl
  show W p l e rm_X12_frees s m _ below meth c s.heap [] 0 0 (MQ below (PvM D cy b z tx k) _ s 0 0 (gA b 12 z)) _
  unfold F_X12_frees at h
  refine lv_aload_n hx hb dX12_frees_0 rfl (lv_at hl 0 rfl) ?_
  refine gM_0_2 C0 hR Nat.zero_lt_one tbs_wsX120 mM3_7_79 dX12_frees_1 ?_
  refine lv_iload_n hx hb dX12_frees_4 rfl (lv_at hl 1 rfl) ?_
  refine lv_iconst (v := 2) hx hb dX12_frees_5 (by decide) ?_
  refine qM_Si (As := [.int a1, .int 2]) (rest := [.ref (b + adM 1 0)]) C0 (c_X12_jobAt l h) (va_cwS 2 C0.2.2.2.2 (tbS mM3_7_74 ⟨mM3_7_75, mM3_1_11, mM3_7_76⟩) rfl rfl rfl (by decide +kernel) ⟨Nat.le_of_ble_eq_true rfl, Nat.le_of_ble_eq_true rfl⟩) hR hT hS rfl hl.1 rfl (Nat.le_of_ble_eq_true rfl) dX12_frees_6 ⟨Nat.zero_le _, Nat.zero_le _⟩ (fun r1 S2 H locs h hR hS => ?_)
  refine lv_iconst (v := (-1)) hx hb dX12_frees_9 (by decide) ?_
  obtain ⟨j3, hj3, ej3, h⟩ := h
  refine sM_1 C0 hR hS Nat.zero_lt_one hj3 ej3 dX12_frees_10 (fun S4 eS4 H locs hR hS => ?_)
  have h := h S4 eS4
  refine lv_aload_n hx hb dX12_frees_11 rfl (lv_at hl 0 rfl) ?_
  refine lv_iload_n hx hb dX12_frees_12 rfl (lv_at hl 1 rfl) ?_
  refine qM_Vi (As := [.int a1]) (rest := []) C0 (c_X12_isIn l h) (cwV 1 C0.2.2.2.2 (tbV mM3_8_122 ⟨mM3_8_124, mpM3_4_13, mM3_1_11, mM3_8_125⟩) rfl rfl rfl (by decide +kernel) ⟨Nat.le_of_ble_eq_true rfl, Nat.le_of_ble_eq_true rfl⟩) (rcM_0 hR Nat.zero_lt_one) hR hT hS rfl hl.1 rfl (Nat.le_of_ble_eq_true rfl) dX12_frees_13 ⟨Nat.zero_le _, Nat.zero_le _⟩ (fun r5 S6 H locs h hR hS => ?_)
  refine lv_if_ne (tgt := 30) hx hb dX12_frees_16 (by decide) (fun c7 => ?_) (fun c7 => ?_)
  · have h := h.1 c7
    exact rtM_v C0 hr hlk hR hS h dX12_frees_30
  · have h := h.2 c7
    refine lv_aload_n hx hb dX12_frees_19 rfl (lv_at hl 0 rfl) ?_
    refine gM_0_2 C0 hR Nat.zero_lt_one tbs_wsX120 mM3_7_79 dX12_frees_20 ?_
    refine lv_iload_n hx hb dX12_frees_23 rfl (lv_at hl 1 rfl) ?_
    refine lv_iconst (v := 0) hx hb dX12_frees_24 (by decide) ?_
    refine qM_Si (As := [.int a1, .int 0]) (rest := [.ref (b + adM 1 0)]) C0 (c_X12_jobAt l h) (va_cwS 2 C0.2.2.2.2 (tbS mM3_7_74 ⟨mM3_7_75, mM3_1_11, mM3_7_76⟩) rfl rfl rfl (by decide +kernel) ⟨Nat.le_of_ble_eq_true rfl, Nat.le_of_ble_eq_true rfl⟩) hR hT hS rfl hl.1 rfl (Nat.le_of_ble_eq_true rfl) dX12_frees_25 ⟨Nat.zero_le _, Nat.zero_le _⟩ (fun r8 S9 H locs h hR hS => ?_)
    refine lv_iconst (v := (-1)) hx hb dX12_frees_28 (by decide) ?_
    obtain ⟨j10, hj10, ej10, h⟩ := h
    refine sM_1 C0 hR hS Nat.zero_lt_one hj10 ej10 dX12_frees_29 (fun S11 eS11 H locs hR hS => ?_)
    have h := h S11 eS11
    exact rtM_v C0 hr hlk hR hS h dX12_frees_30

def rm_X12_isTold : Room := { frames := 2, cells := 0, slots := 0, locals := 42 }
def Bb_X12_isTold_4 (kk4 : Int32 → Int32 → sSt → Prop) (a1 : Int32) (a2 : Int32) (S : sSt) (k : sSt → Prop) : Prop := ((a2 < 5 → F_X12_jobAt a1 3 S (fun r2 S3 => ∀ S4, S4 = uI S3 1 0 1289 (S3.1 1 0 3) → F_X12_numberOf a1 S4 (fun r5 S6 => ∀ S7, S7 = uI S6 1 0 1290 r5 → ix (r2 + 3) 10421 (fun j8 => ∀ S9, S9 = uI S7 1 0 1291 (S7.1 1 0 j8) → ix (r2 + 8) 10421 (fun j10 => ∀ S11, S11 = uI S9 1 0 1292 (S9.1 1 0 j10) → ix (r2 + 9) 10421 (fun j12 => ∀ S13, S13 = uI S11 1 0 1293 (S11.1 1 0 j12) → ∀ S14, S14 = uI S13 1 0 14 (if ((S13.1 1 0 14) + 1) < 60 then ((S13.1 1 0 14) + 1) else 60) → k S14)))))) ∧ (¬ a2 < 5 → ix ((1289 + a2) - 5) 10421 (fun j15 => ix (1289 + a2) 10421 (fun j16 => ∀ S17, S17 = uI S 1 0 j16 (S.1 1 0 j15) → ∀ x18 : Int32, x18 = a2 + (-1) → kk4 a1 x18 S17))))
set_option maxHeartbeats 4000000 in
set_option maxRecDepth 100000 in
theorem Bbw_X12_isTold_4 {p : Program} {l : Launch} {e : Env} {s : State} {m : MethodId} {args : Array Value} {below : List Frame} {meth : Method} {c : Code} {D : va_G} {cy : Nat → ClassId} {b z : Nat} {tx : TX} (C0 : CallFix p m c cX12_isTold 3 s args TB RX12) (hr : meth.sig.returnType = none) (hlk : meth.locks = false) (hT : TxR tx s) {k : sSt → Prop} {kk4 : Int32 → Int32 → sSt → Prop} (ih4 : ∀ (a1 : Int32) (a2 : Int32) (S : sSt) (H : Heap) (locs : List Loc) (ls : Array Slot) , kk4 a1 a2 S → RelM D cy b z tx S s H → va_S (gA b 12 z) s.heap H locs → lv_has ls 3 [(0, .ref (b + adM 0 0)), (1, .int a1), (2, .int a2)] → W p l e rm_X12_isTold s m args below meth c H locs 0 0 (MQ below (PvM D cy b z tx k) args s 0 0 (gA b 12 z)) (F0 m 4 ls [])) : ∀ (a1 : Int32) (a2 : Int32) (S : sSt) (H : Heap) (locs : List Loc) (ls : Array Slot) , Bb_X12_isTold_4 kk4 a1 a2 S k → RelM D cy b z tx S s H → va_S (gA b 12 z) s.heap H locs → lv_has ls 3 [(0, .ref (b + adM 0 0)), (1, .int a1), (2, .int a2)] → W p l e rm_X12_isTold s m args below meth c H locs 0 0 (MQ below (PvM D cy b z tx k) args s 0 0 (gA b 12 z)) (F0 m 4 ls []) := by
  intro a1 a2 S H locs ls h hR hS hl
  have hx := C0.1
  have hb := C0.2.1
  unfold Bb_X12_isTold_4 at h
  refine lv_iload_n hx hb dX12_isTold_4 rfl (lv_at hl 2 rfl) ?_
  refine lv_iconst (v := 5) hx hb dX12_isTold_5 (by decide) ?_
  refine lv_icmp_lt (tgt := 37) hx hb dX12_isTold_6 (by decide) (fun c1 => ?_) (fun c1 => ?_)
  · have h := h.1 c1
    refine lv_iload_n hx hb dX12_isTold_37 rfl (lv_at hl 1 rfl) ?_
    refine lv_iconst (v := 3) hx hb dX12_isTold_38 (by decide) ?_
    refine qM_Si (As := [.int a1, .int 3]) (rest := []) C0 (c_X12_jobAt l h) (va_cwS 2 C0.2.2.2.2 (tbS mM3_7_74 ⟨mM3_7_75, mM3_1_11, mM3_7_76⟩) rfl rfl rfl (by decide +kernel) ⟨Nat.le_of_ble_eq_true rfl, Nat.le_of_ble_eq_true rfl⟩) hR hT hS rfl hl.1 rfl (Nat.le_of_ble_eq_true rfl) dX12_isTold_39 ⟨Nat.zero_le _, Nat.zero_le _⟩ (fun r2 S3 H locs h hR hS => ?_)
    refine lv_istore_n (lv' := [(2, .int r2), (0, .ref (b + adM 0 0)), (1, .int a1)]) hx hb dX12_isTold_42 rfl hl (by decide) rfl (fun ls hl => ?_)
    refine lv_aload_n hx hb dX12_isTold_43 rfl (lv_at hl 1 rfl) ?_
    refine gM_0_2 C0 hR Nat.zero_lt_one tbs_wsX120 mM3_7_79 dX12_isTold_44 ?_
    refine lv_sipush (v := 1289) hx hb dX12_isTold_47 (by decide) ?_
    refine lv_aload_n hx hb dX12_isTold_50 rfl (lv_at hl 1 rfl) ?_
    refine gM_0_2 C0 hR Nat.zero_lt_one tbs_wsX120 mM3_7_79 dX12_isTold_51 ?_
    refine lv_iconst (v := 3) hx hb dX12_isTold_54 (by decide) ?_
    refine lM_1 C0 hR Nat.zero_lt_one (by decide) rfl dX12_isTold_55 ?_
    refine sM_1 C0 hR hS Nat.zero_lt_one (by decide) rfl dX12_isTold_56 (fun S4 eS4 H locs hR hS => ?_)
    have h := h S4 eS4
    refine lv_aload_n hx hb dX12_isTold_57 rfl (lv_at hl 1 rfl) ?_
    refine gM_0_2 C0 hR Nat.zero_lt_one tbs_wsX120 mM3_7_79 dX12_isTold_58 ?_
    refine lv_sipush (v := 1290) hx hb dX12_isTold_61 (by decide) ?_
    refine lv_aload_n hx hb dX12_isTold_64 rfl (lv_at hl 1 rfl) ?_
    refine lv_iload_n hx hb dX12_isTold_65 rfl (lv_at hl 2 rfl) ?_
    refine qM_Vi (As := [.int a1]) (rest := [.int 1290, .ref (b + adM 1 0)]) C0 (c_X12_numberOf l h) (cwV 1 C0.2.2.2.2 (tbV mM3_7_202 ⟨mM3_7_204, mpM3_3_3, mM3_1_11, mM3_7_205⟩) rfl rfl rfl (by decide +kernel) ⟨Nat.le_of_ble_eq_true rfl, Nat.le_of_ble_eq_true rfl⟩) (rcM_0 hR Nat.zero_lt_one) hR hT hS rfl hl.1 rfl (Nat.le_of_ble_eq_true rfl) dX12_isTold_66 ⟨Nat.zero_le _, Nat.zero_le _⟩ (fun r5 S6 H locs h hR hS => ?_)
    refine sM_1 C0 hR hS Nat.zero_lt_one (by decide) rfl dX12_isTold_69 (fun S7 eS7 H locs hR hS => ?_)
    have h := h S7 eS7
    refine lv_aload_n hx hb dX12_isTold_70 rfl (lv_at hl 1 rfl) ?_
    refine gM_0_2 C0 hR Nat.zero_lt_one tbs_wsX120 mM3_7_79 dX12_isTold_71 ?_
    refine lv_sipush (v := 1291) hx hb dX12_isTold_74 (by decide) ?_
    refine lv_aload_n hx hb dX12_isTold_77 rfl (lv_at hl 1 rfl) ?_
    refine gM_0_2 C0 hR Nat.zero_lt_one tbs_wsX120 mM3_7_79 dX12_isTold_78 ?_
    refine lv_iload_n hx hb dX12_isTold_81 rfl (lv_at hl 0 rfl) ?_
    refine lv_iconst (v := 3) hx hb dX12_isTold_82 (by decide) ?_
    refine lv_iadd hx hb dX12_isTold_83 ?_
    obtain ⟨j8, hj8, ej8, h⟩ := h
    refine lM_1 C0 hR Nat.zero_lt_one hj8 ej8 dX12_isTold_84 ?_
    refine sM_1 C0 hR hS Nat.zero_lt_one (by decide) rfl dX12_isTold_85 (fun S9 eS9 H locs hR hS => ?_)
    have h := h S9 eS9
    refine lv_aload_n hx hb dX12_isTold_86 rfl (lv_at hl 1 rfl) ?_
    refine gM_0_2 C0 hR Nat.zero_lt_one tbs_wsX120 mM3_7_79 dX12_isTold_87 ?_
    refine lv_sipush (v := 1292) hx hb dX12_isTold_90 (by decide) ?_
    refine lv_aload_n hx hb dX12_isTold_93 rfl (lv_at hl 1 rfl) ?_
    refine gM_0_2 C0 hR Nat.zero_lt_one tbs_wsX120 mM3_7_79 dX12_isTold_94 ?_
    refine lv_iload_n hx hb dX12_isTold_97 rfl (lv_at hl 0 rfl) ?_
    refine lv_bipush (v := 8) hx hb dX12_isTold_98 (by decide) ?_
    refine lv_iadd hx hb dX12_isTold_100 ?_
    obtain ⟨j10, hj10, ej10, h⟩ := h
    refine lM_1 C0 hR Nat.zero_lt_one hj10 ej10 dX12_isTold_101 ?_
    refine sM_1 C0 hR hS Nat.zero_lt_one (by decide) rfl dX12_isTold_102 (fun S11 eS11 H locs hR hS => ?_)
    have h := h S11 eS11
    refine lv_aload_n hx hb dX12_isTold_103 rfl (lv_at hl 1 rfl) ?_
    refine gM_0_2 C0 hR Nat.zero_lt_one tbs_wsX120 mM3_7_79 dX12_isTold_104 ?_
    refine lv_sipush (v := 1293) hx hb dX12_isTold_107 (by decide) ?_
    refine lv_aload_n hx hb dX12_isTold_110 rfl (lv_at hl 1 rfl) ?_
    refine gM_0_2 C0 hR Nat.zero_lt_one tbs_wsX120 mM3_7_79 dX12_isTold_111 ?_
    refine lv_iload_n hx hb dX12_isTold_114 rfl (lv_at hl 0 rfl) ?_
    refine lv_bipush (v := 9) hx hb dX12_isTold_115 (by decide) ?_
    refine lv_iadd hx hb dX12_isTold_117 ?_
    obtain ⟨j12, hj12, ej12, h⟩ := h
    refine lM_1 C0 hR Nat.zero_lt_one hj12 ej12 dX12_isTold_118 ?_
    refine sM_1 C0 hR hS Nat.zero_lt_one (by decide) rfl dX12_isTold_119 (fun S13 eS13 H locs hR hS => ?_)
    have h := h S13 eS13
    refine lv_aload_n hx hb dX12_isTold_120 rfl (lv_at hl 1 rfl) ?_
    refine gM_0_2 C0 hR Nat.zero_lt_one tbs_wsX120 mM3_7_79 dX12_isTold_121 ?_
    refine lv_bipush (v := 14) hx hb dX12_isTold_124 (by decide) ?_
    refine lv_bipush (v := 60) hx hb dX12_isTold_126 (by decide) ?_
    refine lv_aload_n hx hb dX12_isTold_128 rfl (lv_at hl 1 rfl) ?_
    refine gM_0_2 C0 hR Nat.zero_lt_one tbs_wsX120 mM3_7_79 dX12_isTold_129 ?_
    refine lv_bipush (v := 14) hx hb dX12_isTold_132 (by decide) ?_
    refine lM_1 C0 hR Nat.zero_lt_one (by decide) rfl dX12_isTold_134 ?_
    refine lv_iconst (v := 1) hx hb dX12_isTold_135 (by decide) ?_
    refine lv_iadd hx hb dX12_isTold_136 ?_
    refine va_mmin hx hb (C0.2.2.1.trans hl.1.symm) C0.2.2.2.1 (C0.2.2.2.2 _ mM3_8_142) (C0.2.2.2.2 _ mM3_5_67) (C0.2.2.2.2 _ mM3_1_25) (C0.2.2.2.2 _ mM3_5_68) (Nat.le_of_ble_eq_true rfl) (Nat.le_of_ble_eq_true rfl) (Nat.zero_le _) (Nat.zero_le _) dX12_isTold_137 ?_
    refine sM_1 C0 hR hS Nat.zero_lt_one (by decide) rfl dX12_isTold_140 (fun S14 eS14 H locs hR hS => ?_)
    have h := h S14 eS14
    exact rtM_v C0 hr hlk hR hS h dX12_isTold_141
  · have h := h.2 c1
    refine lv_aload_n hx hb dX12_isTold_9 rfl (lv_at hl 0 rfl) ?_
    refine gM_0_2 C0 hR Nat.zero_lt_one tbs_wsX120 mM3_7_79 dX12_isTold_10 ?_
    refine lv_sipush (v := 1289) hx hb dX12_isTold_13 (by decide) ?_
    refine lv_iload_n hx hb dX12_isTold_16 rfl (lv_at hl 2 rfl) ?_
    refine lv_iadd hx hb dX12_isTold_17 ?_
    refine lv_aload_n hx hb dX12_isTold_18 rfl (lv_at hl 0 rfl) ?_
    refine gM_0_2 C0 hR Nat.zero_lt_one tbs_wsX120 mM3_7_79 dX12_isTold_19 ?_
    refine lv_sipush (v := 1289) hx hb dX12_isTold_22 (by decide) ?_
    refine lv_iload_n hx hb dX12_isTold_25 rfl (lv_at hl 2 rfl) ?_
    refine lv_iadd hx hb dX12_isTold_26 ?_
    refine lv_iconst (v := 5) hx hb dX12_isTold_27 (by decide) ?_
    refine lv_isub hx hb dX12_isTold_28 ?_
    obtain ⟨j15, hj15, ej15, h⟩ := h
    refine lM_1 C0 hR Nat.zero_lt_one hj15 ej15 dX12_isTold_29 ?_
    obtain ⟨j16, hj16, ej16, h⟩ := h
    refine sM_1 C0 hR hS Nat.zero_lt_one hj16 ej16 dX12_isTold_30 (fun S17 eS17 H locs hR hS => ?_)
    have h := h S17 eS17
    obtain ⟨x18, ex18⟩ : ∃ x18 : Int32, x18 = a2 + (-1) := ⟨_, rfl⟩
    have h := h x18 ex18
    refine w_iinc (v0 := (-1)) (lv' := [(2, .int x18), (0, .ref (b + adM 0 0)), (1, .int a1)]) C0 dX12_isTold_31 hl (k := 2) rfl (by decide) (by decide) x18 ex18 rfl (fun ls hl => ?_)
    refine lv_goto (tgt := 4) hx hb dX12_isTold_34 (by decide) ?_
    exact ih4 a1 x18 S17 _ _ _  h hR hS (lv_sub hl [1, 2, 0] rfl)
def B_X12_isTold_4 (n9 : Nat) (a1 : Int32) (a2 : Int32) (S : sSt) (k : sSt → Prop) : Prop := (Nat.rec (motive := fun _ => Int32 → Int32 → sSt → Prop) (fun _ _ _ => False) (fun _ r9 => fun a1 a2 S => Bb_X12_isTold_4 r9 a1 a2 S k) n9 : Int32 → Int32 → sSt → Prop) a1 a2 S
theorem B_X12_isTold_4_s (n9 : Nat) (a1 : Int32) (a2 : Int32) (S : sSt) (k : sSt → Prop) : B_X12_isTold_4 (n9 + 1) a1 a2 S k = Bb_X12_isTold_4 (fun a1 a2 S => B_X12_isTold_4 n9 a1 a2 S k) a1 a2 S k := rfl
set_option maxHeartbeats 4000000 in
set_option maxRecDepth 100000 in
theorem Bw_X12_isTold_4 {p : Program} {l : Launch} {e : Env} {s : State} {m : MethodId} {args : Array Value} {below : List Frame} {meth : Method} {c : Code} {D : va_G} {cy : Nat → ClassId} {b z : Nat} {tx : TX} (C0 : CallFix p m c cX12_isTold 3 s args TB RX12) (hr : meth.sig.returnType = none) (hlk : meth.locks = false) (hT : TxR tx s) {k : sSt → Prop} : ∀ (n9 : Nat), ∀ (a1 : Int32) (a2 : Int32) (S : sSt) (H : Heap) (locs : List Loc) (ls : Array Slot) , B_X12_isTold_4 n9 a1 a2 S k → RelM D cy b z tx S s H → va_S (gA b 12 z) s.heap H locs → lv_has ls 3 [(0, .ref (b + adM 0 0)), (1, .int a1), (2, .int a2)] → W p l e rm_X12_isTold s m args below meth c H locs 0 0 (MQ below (PvM D cy b z tx k) args s 0 0 (gA b 12 z)) (F0 m 4 ls []) := by
  intro n9
  induction n9 with
  | zero => intro a1 a2 S H locs ls h; exact h.elim
  | succ n9 ih =>
    intro a1 a2 S H locs ls h hR hS hl
    exact Bbw_X12_isTold_4 C0 hr hlk hT ih a1 a2 S H locs ls h hR hS hl
def F_X12_isTold (a1 : Int32) (S : sSt) (k : sSt → Prop) : Prop := B_X12_isTold_4 fuel a1 299 S k
set_option maxHeartbeats 4000000 in
set_option maxRecDepth 100000 in
theorem c_X12_isTold (l : Launch) {D : va_G} {cy : Nat → ClassId} {b z : Nat} {tx : TX} {a1 : Int32} {S : sSt} {k : sSt → Prop} (h : F_X12_isTold a1 S k) : Met l yX12_isTold (Cond.code yX12_isTold cX12_isTold 3 none :: TB) rm_X12_isTold (va_Pc [.ref (b + adM 0 0), .int a1] (fun U => RelM D cy b z tx S U U.heap ∧ TxR tx U)) (PvM D cy b z tx k) 0 0 (gA b 12 z) := by
  refine Met.ofW (cc := cX12_isTold) (maxL := 3) (ret := none) (by decide) rfl ?_
  intro p e s m args below meth c s₁ B hml hv
  obtain ⟨rfl, hR, hT⟩ := hv
  have C0 : CallFix p m c cX12_isTold 3 s _ TB RX12 := ⟨B.exec, B.bytes, hml, findClass_of_methodNamed B.named, fun w hw => atoms_spec B.pre w (List.mem_cons_of_mem _ hw)⟩
  have hr := B.returns
  have hlk := B.notSynchronized
  have hx := C0.1
  have hb := C0.2.1
  have hS : va_S (gA b 12 z) s.heap s.heap [] := va_S.rf
  have hl := lv_entry ([.ref (b + adM 0 0), .int a1]) (n := 3) (Nat.le_of_ble_eq_true rfl)
  rw [lg_entry_eq]
  generalize (lg_sl ([.ref (b + adM 0 0), .int a1]) ++ List.replicate (3 - (lg_sl ([.ref (b + adM 0 0), .int a1])).length) Slot.unset).toArray = ls at hl ⊢
  have hl : lv_has ls 3 [(0, .ref (b + adM 0 0)), (1, .int a1)] := hl
  show W p l e rm_X12_isTold s m _ below meth c s.heap [] 0 0 (MQ below (PvM D cy b z tx k) _ s 0 0 (gA b 12 z)) _
  unfold F_X12_isTold at h
  refine lv_sipush (v := 299) hx hb dX12_isTold_0 (by decide) ?_
  refine lv_istore_n (lv' := [(2, .int 299), (0, .ref (b + adM 0 0)), (1, .int a1)]) hx hb dX12_isTold_3 rfl hl (by decide) rfl (fun ls hl => ?_)
  exact Bw_X12_isTold_4 C0 hr hlk hT fuel a1 299 S _ _ _ h hR hS (lv_sub hl [1, 2, 0] rfl)

def rm_X12_isCommitted : Room := { frames := 4, cells := 0, slots := 0, locals := 84 }
def B_X12_isCommitted_66 (kk8 : Int32 → Int32 → Int32 → sSt → Prop) (a1 : Int32) (a2 : Int32) (a3 : Int32) (S : sSt) (k : Int32 → sSt → Prop) : Prop := F_X12_numberOf a3 S (fun r30 S31 => F_X12_behindNumber r30 S31 (fun r32 S33 => kk8 a1 a2 r32 S33))
set_option maxHeartbeats 4000000 in
set_option maxRecDepth 100000 in
theorem Bw_X12_isCommitted_66 {p : Program} {l : Launch} {e : Env} {s : State} {m : MethodId} {args : Array Value} {below : List Frame} {meth : Method} {c : Code} {D : va_G} {cy : Nat → ClassId} {b z : Nat} {tx : TX} (C0 : CallFix p m c cX12_isCommitted 4 s args TB RX12) (hr : meth.sig.returnType = (some .int)) (hlk : meth.locks = false) (hT : TxR tx s) {k : Int32 → sSt → Prop} {kk8 : Int32 → Int32 → Int32 → sSt → Prop} (ih8 : ∀ (a1 : Int32) (a2 : Int32) (a3 : Int32) (S : sSt) (H : Heap) (locs : List Loc) (ls : Array Slot) , kk8 a1 a2 a3 S → RelM D cy b z tx S s H → va_S (gA b 12 z) s.heap H locs → lv_has ls 4 [(0, .ref (b + adM 0 0)), (1, .int a1), (2, .int a2), (3, .int a3)] → W p l e rm_X12_isCommitted s m args below meth c H locs 0 0 (MQ below (PiM D cy b z tx k) args s 0 0 (gA b 12 z)) (F0 m 8 ls [])) : ∀ (a1 : Int32) (a2 : Int32) (a3 : Int32) (S : sSt) (H : Heap) (locs : List Loc) (ls : Array Slot) , B_X12_isCommitted_66 kk8 a1 a2 a3 S k → RelM D cy b z tx S s H → va_S (gA b 12 z) s.heap H locs → lv_has ls 4 [(0, .ref (b + adM 0 0)), (1, .int a1), (2, .int a2), (3, .int a3)] → W p l e rm_X12_isCommitted s m args below meth c H locs 0 0 (MQ below (PiM D cy b z tx k) args s 0 0 (gA b 12 z)) (F0 m 66 ls []) := by
  intro a1 a2 a3 S H locs ls h hR hS hl
  have hx := C0.1
  have hb := C0.2.1
  unfold B_X12_isCommitted_66 at h
  refine lv_aload_n hx hb dX12_isCommitted_66 rfl (lv_at hl 0 rfl) ?_
  refine lv_aload_n hx hb dX12_isCommitted_67 rfl (lv_at hl 0 rfl) ?_
  refine lv_iload_n hx hb dX12_isCommitted_68 rfl (lv_at hl 3 rfl) ?_
  refine qM_Vi (As := [.int a3]) (rest := [.ref (b + adM 0 0)]) C0 (c_X12_numberOf l h) (cwV 1 C0.2.2.2.2 (tbV mM3_7_202 ⟨mM3_7_204, mpM3_3_3, mM3_1_11, mM3_7_205⟩) rfl rfl rfl (by decide +kernel) ⟨Nat.le_of_ble_eq_true rfl, Nat.le_of_ble_eq_true rfl⟩) (rcM_0 hR Nat.zero_lt_one) hR hT hS rfl hl.1 rfl (Nat.le_of_ble_eq_true rfl) dX12_isCommitted_69 ⟨Nat.zero_le _, Nat.zero_le _⟩ (fun r30 S31 H locs h hR hS => ?_)
  refine qM_Vi (As := [.int r30]) (rest := []) C0 (c_X12_behindNumber l h) (cwV 1 C0.2.2.2.2 (tbV mM3_8_134 ⟨mM3_8_136, mpM3_4_15, mM3_1_11, mM3_8_137⟩) rfl rfl rfl (by decide +kernel) ⟨Nat.le_of_ble_eq_true rfl, Nat.le_of_ble_eq_true rfl⟩) (rcM_0 hR Nat.zero_lt_one) hR hT hS rfl hl.1 rfl (Nat.le_of_ble_eq_true rfl) dX12_isCommitted_72 ⟨Nat.zero_le _, Nat.zero_le _⟩ (fun r32 S33 H locs h hR hS => ?_)
  refine lv_istore_n (lv' := [(3, .int r32), (0, .ref (b + adM 0 0)), (1, .int a1), (2, .int a2)]) hx hb dX12_isCommitted_75 rfl hl (by decide) rfl (fun ls hl => ?_)
  refine lv_goto (tgt := 8) hx hb dX12_isCommitted_76 (by decide) ?_
  exact ih8 a1 a2 r32 S33 _ _ _  h hR hS (lv_sub hl [1, 2, 3, 0] rfl)
def Bb_X12_isCommitted_8 (kk8 : Int32 → Int32 → Int32 → sSt → Prop) (a1 : Int32) (a2 : Int32) (a3 : Int32) (S : sSt) (k : Int32 → sSt → Prop) : Prop := ((a3 = (-1) → F_X12_sessionAt a1 2 S (fun r4 S5 => ix r4 10421 (fun j6 => ∀ S7, S7 = uI S5 1 0 j6 0 → F_X12_sessionAt a1 3 S7 (fun r8 S9 => ix r8 10421 (fun j10 => ∀ S11, S11 = uI S9 1 0 j10 0 → k a2 S11))))) ∧ (¬ a3 = (-1) → F_X12_lockerOf a3 S (fun r12 S13 => ((r12 = a1 → F_X12_jobAt a3 25 S13 (fun r15 S16 => F_X12_jobAt a3 3 S16 (fun r17 S18 => F_X12_copies r15 r17 22 S18 (fun S20 => F_X12_jobAt a3 1 S20 (fun r21 S22 => ix r21 10421 (fun j23 => ∀ S24, S24 = uI S22 1 0 j23 1 → F_X12_frees a3 S24 (fun S26 => F_X12_isTold a3 S26 (fun S28 => ∀ x29 : Int32, x29 = a2 + 1 → B_X12_isCommitted_66 kk8 a1 x29 a3 S28 k)))))))) ∧ (¬ r12 = a1 → B_X12_isCommitted_66 kk8 a1 a2 a3 S13 k)))))
set_option maxHeartbeats 4000000 in
set_option maxRecDepth 100000 in
theorem Bbw_X12_isCommitted_8 {p : Program} {l : Launch} {e : Env} {s : State} {m : MethodId} {args : Array Value} {below : List Frame} {meth : Method} {c : Code} {D : va_G} {cy : Nat → ClassId} {b z : Nat} {tx : TX} (C0 : CallFix p m c cX12_isCommitted 4 s args TB RX12) (hr : meth.sig.returnType = (some .int)) (hlk : meth.locks = false) (hT : TxR tx s) {k : Int32 → sSt → Prop} {kk8 : Int32 → Int32 → Int32 → sSt → Prop} (ih8 : ∀ (a1 : Int32) (a2 : Int32) (a3 : Int32) (S : sSt) (H : Heap) (locs : List Loc) (ls : Array Slot) , kk8 a1 a2 a3 S → RelM D cy b z tx S s H → va_S (gA b 12 z) s.heap H locs → lv_has ls 4 [(0, .ref (b + adM 0 0)), (1, .int a1), (2, .int a2), (3, .int a3)] → W p l e rm_X12_isCommitted s m args below meth c H locs 0 0 (MQ below (PiM D cy b z tx k) args s 0 0 (gA b 12 z)) (F0 m 8 ls [])) : ∀ (a1 : Int32) (a2 : Int32) (a3 : Int32) (S : sSt) (H : Heap) (locs : List Loc) (ls : Array Slot) , Bb_X12_isCommitted_8 kk8 a1 a2 a3 S k → RelM D cy b z tx S s H → va_S (gA b 12 z) s.heap H locs → lv_has ls 4 [(0, .ref (b + adM 0 0)), (1, .int a1), (2, .int a2), (3, .int a3)] → W p l e rm_X12_isCommitted s m args below meth c H locs 0 0 (MQ below (PiM D cy b z tx k) args s 0 0 (gA b 12 z)) (F0 m 8 ls []) := by
  intro a1 a2 a3 S H locs ls h hR hS hl
  have hx := C0.1
  have hb := C0.2.1
  unfold Bb_X12_isCommitted_8 at h
  refine lv_iload_n hx hb dX12_isCommitted_8 rfl (lv_at hl 3 rfl) ?_
  refine lv_iconst (v := (-1)) hx hb dX12_isCommitted_9 (by decide) ?_
  refine lv_icmp_eq (tgt := 79) hx hb dX12_isCommitted_10 (by decide) (fun c3 => ?_) (fun c3 => ?_)
  · have h := h.1 c3
    refine lv_aload_n hx hb dX12_isCommitted_79 rfl (lv_at hl 0 rfl) ?_
    refine gM_0_2 C0 hR Nat.zero_lt_one tbs_wsX120 mM3_7_79 dX12_isCommitted_80 ?_
    refine lv_iload_n hx hb dX12_isCommitted_83 rfl (lv_at hl 1 rfl) ?_
    refine lv_iconst (v := 2) hx hb dX12_isCommitted_84 (by decide) ?_
    refine qM_Si (As := [.int a1, .int 2]) (rest := [.ref (b + adM 1 0)]) C0 (c_X12_sessionAt l h) (va_cwS 2 C0.2.2.2.2 (tbS mM3_7_233 ⟨mM3_7_234, mM3_1_11, mM3_7_235⟩) rfl rfl rfl (by decide +kernel) ⟨Nat.le_of_ble_eq_true rfl, Nat.le_of_ble_eq_true rfl⟩) hR hT hS rfl hl.1 rfl (Nat.le_of_ble_eq_true rfl) dX12_isCommitted_85 ⟨Nat.zero_le _, Nat.zero_le _⟩ (fun r4 S5 H locs h hR hS => ?_)
    refine lv_iconst (v := 0) hx hb dX12_isCommitted_88 (by decide) ?_
    obtain ⟨j6, hj6, ej6, h⟩ := h
    refine sM_1 C0 hR hS Nat.zero_lt_one hj6 ej6 dX12_isCommitted_89 (fun S7 eS7 H locs hR hS => ?_)
    have h := h S7 eS7
    refine lv_aload_n hx hb dX12_isCommitted_90 rfl (lv_at hl 0 rfl) ?_
    refine gM_0_2 C0 hR Nat.zero_lt_one tbs_wsX120 mM3_7_79 dX12_isCommitted_91 ?_
    refine lv_iload_n hx hb dX12_isCommitted_94 rfl (lv_at hl 1 rfl) ?_
    refine lv_iconst (v := 3) hx hb dX12_isCommitted_95 (by decide) ?_
    refine qM_Si (As := [.int a1, .int 3]) (rest := [.ref (b + adM 1 0)]) C0 (c_X12_sessionAt l h) (va_cwS 2 C0.2.2.2.2 (tbS mM3_7_233 ⟨mM3_7_234, mM3_1_11, mM3_7_235⟩) rfl rfl rfl (by decide +kernel) ⟨Nat.le_of_ble_eq_true rfl, Nat.le_of_ble_eq_true rfl⟩) hR hT hS rfl hl.1 rfl (Nat.le_of_ble_eq_true rfl) dX12_isCommitted_96 ⟨Nat.zero_le _, Nat.zero_le _⟩ (fun r8 S9 H locs h hR hS => ?_)
    refine lv_iconst (v := 0) hx hb dX12_isCommitted_99 (by decide) ?_
    obtain ⟨j10, hj10, ej10, h⟩ := h
    refine sM_1 C0 hR hS Nat.zero_lt_one hj10 ej10 dX12_isCommitted_100 (fun S11 eS11 H locs hR hS => ?_)
    have h := h S11 eS11
    refine lv_iload_n hx hb dX12_isCommitted_101 rfl (lv_at hl 2 rfl) ?_
    exact rtM_i C0 hr hlk hR hS h dX12_isCommitted_102
  · have h := h.2 c3
    refine lv_aload_n hx hb dX12_isCommitted_13 rfl (lv_at hl 0 rfl) ?_
    refine lv_iload_n hx hb dX12_isCommitted_14 rfl (lv_at hl 3 rfl) ?_
    refine qM_Vi (As := [.int a3]) (rest := []) C0 (c_X12_lockerOf l h) (cwV 1 C0.2.2.2.2 (tbV mM3_8_106 ⟨mM3_8_108, mpM3_4_10, mM3_1_11, mM3_8_109⟩) rfl rfl rfl (by decide +kernel) ⟨Nat.le_of_ble_eq_true rfl, Nat.le_of_ble_eq_true rfl⟩) (rcM_0 hR Nat.zero_lt_one) hR hT hS rfl hl.1 rfl (Nat.le_of_ble_eq_true rfl) dX12_isCommitted_15 ⟨Nat.zero_le _, Nat.zero_le _⟩ (fun r12 S13 H locs h hR hS => ?_)
    refine lv_iload_n hx hb dX12_isCommitted_18 rfl (lv_at hl 1 rfl) ?_
    refine lv_icmp_eq (tgt := 25) hx hb dX12_isCommitted_19 (by decide) (fun c14 => ?_) (fun c14 => ?_)
    · have h := h.1 c14
      refine lv_aload_n hx hb dX12_isCommitted_25 rfl (lv_at hl 0 rfl) ?_
      refine lv_iload_n hx hb dX12_isCommitted_26 rfl (lv_at hl 3 rfl) ?_
      refine lv_bipush (v := 25) hx hb dX12_isCommitted_27 (by decide) ?_
      refine qM_Si (As := [.int a3, .int 25]) (rest := [.ref (b + adM 0 0)]) C0 (c_X12_jobAt l h) (va_cwS 2 C0.2.2.2.2 (tbS mM3_7_74 ⟨mM3_7_75, mM3_1_11, mM3_7_76⟩) rfl rfl rfl (by decide +kernel) ⟨Nat.le_of_ble_eq_true rfl, Nat.le_of_ble_eq_true rfl⟩) hR hT hS rfl hl.1 rfl (Nat.le_of_ble_eq_true rfl) dX12_isCommitted_29 ⟨Nat.zero_le _, Nat.zero_le _⟩ (fun r15 S16 H locs h hR hS => ?_)
      refine lv_iload_n hx hb dX12_isCommitted_32 rfl (lv_at hl 3 rfl) ?_
      refine lv_iconst (v := 3) hx hb dX12_isCommitted_33 (by decide) ?_
      refine qM_Si (As := [.int a3, .int 3]) (rest := [.int r15, .ref (b + adM 0 0)]) C0 (c_X12_jobAt l h) (va_cwS 2 C0.2.2.2.2 (tbS mM3_7_74 ⟨mM3_7_75, mM3_1_11, mM3_7_76⟩) rfl rfl rfl (by decide +kernel) ⟨Nat.le_of_ble_eq_true rfl, Nat.le_of_ble_eq_true rfl⟩) hR hT hS rfl hl.1 rfl (Nat.le_of_ble_eq_true rfl) dX12_isCommitted_34 ⟨Nat.zero_le _, Nat.zero_le _⟩ (fun r17 S18 H locs h hR hS => ?_)
      refine lv_bipush (v := 22) hx hb dX12_isCommitted_37 (by decide) ?_
      refine qM_Vv (As := [.int r15, .int r17, .int 22]) (rest := []) C0 (c_X12_copies l h) (cwV 3 C0.2.2.2.2 (tbV mM3_8_110 ⟨mM3_8_112, mpM3_4_11, mM3_1_11, mM3_8_113⟩) rfl rfl rfl (by decide +kernel) ⟨Nat.le_of_ble_eq_true rfl, Nat.le_of_ble_eq_true rfl⟩) (rcM_0 hR Nat.zero_lt_one) hR hT hS rfl hl.1 rfl (Nat.le_of_ble_eq_true rfl) dX12_isCommitted_39 ⟨Nat.zero_le _, Nat.zero_le _⟩ (fun S20 H locs h hR hS => ?_)
      refine lv_aload_n hx hb dX12_isCommitted_42 rfl (lv_at hl 0 rfl) ?_
      refine gM_0_2 C0 hR Nat.zero_lt_one tbs_wsX120 mM3_7_79 dX12_isCommitted_43 ?_
      refine lv_iload_n hx hb dX12_isCommitted_46 rfl (lv_at hl 3 rfl) ?_
      refine lv_iconst (v := 1) hx hb dX12_isCommitted_47 (by decide) ?_
      refine qM_Si (As := [.int a3, .int 1]) (rest := [.ref (b + adM 1 0)]) C0 (c_X12_jobAt l h) (va_cwS 2 C0.2.2.2.2 (tbS mM3_7_74 ⟨mM3_7_75, mM3_1_11, mM3_7_76⟩) rfl rfl rfl (by decide +kernel) ⟨Nat.le_of_ble_eq_true rfl, Nat.le_of_ble_eq_true rfl⟩) hR hT hS rfl hl.1 rfl (Nat.le_of_ble_eq_true rfl) dX12_isCommitted_48 ⟨Nat.zero_le _, Nat.zero_le _⟩ (fun r21 S22 H locs h hR hS => ?_)
      refine lv_iconst (v := 1) hx hb dX12_isCommitted_51 (by decide) ?_
      obtain ⟨j23, hj23, ej23, h⟩ := h
      refine sM_1 C0 hR hS Nat.zero_lt_one hj23 ej23 dX12_isCommitted_52 (fun S24 eS24 H locs hR hS => ?_)
      have h := h S24 eS24
      refine lv_aload_n hx hb dX12_isCommitted_53 rfl (lv_at hl 0 rfl) ?_
      refine lv_iload_n hx hb dX12_isCommitted_54 rfl (lv_at hl 3 rfl) ?_
      refine qM_Vv (As := [.int a3]) (rest := []) C0 (c_X12_frees l h) (cwV 1 C0.2.2.2.2 (tbV mM3_8_118 ⟨mM3_8_120, mpM3_4_12, mM3_1_11, mM3_8_121⟩) rfl rfl rfl (by decide +kernel) ⟨Nat.le_of_ble_eq_true rfl, Nat.le_of_ble_eq_true rfl⟩) (rcM_0 hR Nat.zero_lt_one) hR hT hS rfl hl.1 rfl (Nat.le_of_ble_eq_true rfl) dX12_isCommitted_55 ⟨Nat.zero_le _, Nat.zero_le _⟩ (fun S26 H locs h hR hS => ?_)
      refine lv_aload_n hx hb dX12_isCommitted_58 rfl (lv_at hl 0 rfl) ?_
      refine lv_iload_n hx hb dX12_isCommitted_59 rfl (lv_at hl 3 rfl) ?_
      refine qM_Vv (As := [.int a3]) (rest := []) C0 (c_X12_isTold l h) (cwV 1 C0.2.2.2.2 (tbV mM3_8_138 ⟨mM3_8_140, mpM3_5_0, mM3_1_11, mM3_8_141⟩) rfl rfl rfl (by decide +kernel) ⟨Nat.le_of_ble_eq_true rfl, Nat.le_of_ble_eq_true rfl⟩) (rcM_0 hR Nat.zero_lt_one) hR hT hS rfl hl.1 rfl (Nat.le_of_ble_eq_true rfl) dX12_isCommitted_60 ⟨Nat.zero_le _, Nat.zero_le _⟩ (fun S28 H locs h hR hS => ?_)
      obtain ⟨x29, ex29⟩ : ∃ x29 : Int32, x29 = a2 + 1 := ⟨_, rfl⟩
      have h := h x29 ex29
      refine w_iinc (v0 := 1) (lv' := [(2, .int x29), (0, .ref (b + adM 0 0)), (1, .int a1), (3, .int a3)]) C0 dX12_isCommitted_63 hl (k := 2) rfl (by decide) (by decide) x29 ex29 rfl (fun ls hl => ?_)
      exact Bw_X12_isCommitted_66 C0 hr hlk hT ih8 a1 x29 a3 S28 _ _ _ h hR hS (lv_sub hl [1, 2, 0, 3] rfl)
    · have h := h.2 c14
      refine lv_goto (tgt := 66) hx hb dX12_isCommitted_22 (by decide) ?_
      exact Bw_X12_isCommitted_66 C0 hr hlk hT ih8 a1 a2 a3 S13 _ _ _ h hR hS (lv_sub hl [0, 1, 2, 3] rfl)
def B_X12_isCommitted_8 (n9 : Nat) (a1 : Int32) (a2 : Int32) (a3 : Int32) (S : sSt) (k : Int32 → sSt → Prop) : Prop := (Nat.rec (motive := fun _ => Int32 → Int32 → Int32 → sSt → Prop) (fun _ _ _ _ => False) (fun _ r9 => fun a1 a2 a3 S => Bb_X12_isCommitted_8 r9 a1 a2 a3 S k) n9 : Int32 → Int32 → Int32 → sSt → Prop) a1 a2 a3 S
theorem B_X12_isCommitted_8_s (n9 : Nat) (a1 : Int32) (a2 : Int32) (a3 : Int32) (S : sSt) (k : Int32 → sSt → Prop) : B_X12_isCommitted_8 (n9 + 1) a1 a2 a3 S k = Bb_X12_isCommitted_8 (fun a1 a2 a3 S => B_X12_isCommitted_8 n9 a1 a2 a3 S k) a1 a2 a3 S k := rfl
set_option maxHeartbeats 4000000 in
set_option maxRecDepth 100000 in
theorem Bw_X12_isCommitted_8 {p : Program} {l : Launch} {e : Env} {s : State} {m : MethodId} {args : Array Value} {below : List Frame} {meth : Method} {c : Code} {D : va_G} {cy : Nat → ClassId} {b z : Nat} {tx : TX} (C0 : CallFix p m c cX12_isCommitted 4 s args TB RX12) (hr : meth.sig.returnType = (some .int)) (hlk : meth.locks = false) (hT : TxR tx s) {k : Int32 → sSt → Prop} : ∀ (n9 : Nat), ∀ (a1 : Int32) (a2 : Int32) (a3 : Int32) (S : sSt) (H : Heap) (locs : List Loc) (ls : Array Slot) , B_X12_isCommitted_8 n9 a1 a2 a3 S k → RelM D cy b z tx S s H → va_S (gA b 12 z) s.heap H locs → lv_has ls 4 [(0, .ref (b + adM 0 0)), (1, .int a1), (2, .int a2), (3, .int a3)] → W p l e rm_X12_isCommitted s m args below meth c H locs 0 0 (MQ below (PiM D cy b z tx k) args s 0 0 (gA b 12 z)) (F0 m 8 ls []) := by
  intro n9
  induction n9 with
  | zero => intro a1 a2 a3 S H locs ls h; exact h.elim
  | succ n9 ih =>
    intro a1 a2 a3 S H locs ls h hR hS hl
    exact Bbw_X12_isCommitted_8 C0 hr hlk hT ih a1 a2 a3 S H locs ls h hR hS hl
def F_X12_isCommitted (a1 : Int32) (S : sSt) (k : Int32 → sSt → Prop) : Prop := F_X12_behindNumber (-1) S (fun r1 S2 => B_X12_isCommitted_8 fuel a1 0 r1 S2 k)
set_option maxHeartbeats 4000000 in
set_option maxRecDepth 100000 in
theorem c_X12_isCommitted (l : Launch) {D : va_G} {cy : Nat → ClassId} {b z : Nat} {tx : TX} {a1 : Int32} {S : sSt} {k : Int32 → sSt → Prop} (h : F_X12_isCommitted a1 S k) : Met l yX12_isCommitted (Cond.code yX12_isCommitted cX12_isCommitted 4 (some .int) :: TB) rm_X12_isCommitted (va_Pc [.ref (b + adM 0 0), .int a1] (fun U => RelM D cy b z tx S U U.heap ∧ TxR tx U)) (PiM D cy b z tx k) 0 0 (gA b 12 z) := by
  refine Met.ofW (cc := cX12_isCommitted) (maxL := 4) (ret := (some .int)) (by decide) rfl ?_
  intro p e s m args below meth c s₁ B hml hv
  obtain ⟨rfl, hR, hT⟩ := hv
  have C0 : CallFix p m c cX12_isCommitted 4 s _ TB RX12 := ⟨B.exec, B.bytes, hml, findClass_of_methodNamed B.named, fun w hw => atoms_spec B.pre w (List.mem_cons_of_mem _ hw)⟩
  have hr := B.returns
  have hlk := B.notSynchronized
  have hx := C0.1
  have hb := C0.2.1
  have hS : va_S (gA b 12 z) s.heap s.heap [] := va_S.rf
  have hl := lv_entry ([.ref (b + adM 0 0), .int a1]) (n := 4) (Nat.le_of_ble_eq_true rfl)
  rw [lg_entry_eq]
  generalize (lg_sl ([.ref (b + adM 0 0), .int a1]) ++ List.replicate (4 - (lg_sl ([.ref (b + adM 0 0), .int a1])).length) Slot.unset).toArray = ls at hl ⊢
  have hl : lv_has ls 4 [(0, .ref (b + adM 0 0)), (1, .int a1)] := hl
  show W p l e rm_X12_isCommitted s m _ below meth c s.heap [] 0 0 (MQ below (PiM D cy b z tx k) _ s 0 0 (gA b 12 z)) _
  unfold F_X12_isCommitted at h
  refine lv_iconst (v := 0) hx hb dX12_isCommitted_0 (by decide) ?_
  refine lv_istore_n (lv' := [(2, .int 0), (0, .ref (b + adM 0 0)), (1, .int a1)]) hx hb dX12_isCommitted_1 rfl hl (by decide) rfl (fun ls hl => ?_)
  refine lv_aload_n hx hb dX12_isCommitted_2 rfl (lv_at hl 1 rfl) ?_
  refine lv_iconst (v := (-1)) hx hb dX12_isCommitted_3 (by decide) ?_
  refine qM_Vi (As := [.int (-1)]) (rest := []) C0 (c_X12_behindNumber l h) (cwV 1 C0.2.2.2.2 (tbV mM3_8_134 ⟨mM3_8_136, mpM3_4_15, mM3_1_11, mM3_8_137⟩) rfl rfl rfl (by decide +kernel) ⟨Nat.le_of_ble_eq_true rfl, Nat.le_of_ble_eq_true rfl⟩) (rcM_0 hR Nat.zero_lt_one) hR hT hS rfl hl.1 rfl (Nat.le_of_ble_eq_true rfl) dX12_isCommitted_4 ⟨Nat.zero_le _, Nat.zero_le _⟩ (fun r1 S2 H locs h hR hS => ?_)
  refine lv_istore_n (lv' := [(3, .int r1), (2, .int 0), (0, .ref (b + adM 0 0)), (1, .int a1)]) hx hb dX12_isCommitted_7 rfl hl (by decide) rfl (fun ls hl => ?_)
  exact Bw_X12_isCommitted_8 C0 hr hlk hT fuel a1 0 r1 S2 _ _ _ h hR hS (lv_sub hl [2, 3, 1, 0] rfl)
