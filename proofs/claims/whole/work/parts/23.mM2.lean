theorem mM2_7_211 : Cond.methodLink RX12 113 yX12_number ∈ TB := tbT_7 _ (List.mem_of_getElem? (i := 211) rfl) rfl
theorem mM2_7_214 : Cond.code yX12_number cX12_number 4 (some .int) ∈ TB := tbT_7 _ (List.mem_of_getElem? (i := 214) rfl) rfl
theorem mM2_7_213 : Cond.instanceMethod yX12_number ∈ TB := tbT_7 _ (List.mem_of_getElem? (i := 213) rfl) rfl
theorem mpM2_3_5 : Cond.selects RX12 yX12_number yX12_number ∈ TB := tbP_3 (yX12_number, 19) (List.mem_of_getElem? (i := 5) rfl)
theorem mM2_1_11 : Cond.initialized RX12 ∈ TB := tbT_1 _ (List.mem_of_getElem? (i := 11) rfl) rfl
theorem mM2_8_1 : Cond.methodLink RX12 144 yX12_readNumber ∈ TB := tbT_8 _ (List.mem_of_getElem? (i := 1) rfl) rfl
theorem mM2_8_4 : Cond.code yX12_readNumber cX12_readNumber 5 (some .boolean) ∈ TB := tbT_8 _ (List.mem_of_getElem? (i := 4) rfl) rfl
theorem mM2_8_3 : Cond.instanceMethod yX12_readNumber ∈ TB := tbT_8 _ (List.mem_of_getElem? (i := 3) rfl) rfl
theorem mpM2_3_10 : Cond.selects RX12 yX12_readNumber yX12_readNumber ∈ TB := tbP_3 (yX12_readNumber, 19) (List.mem_of_getElem? (i := 10) rfl)
theorem mM2_7_79 : Cond.fieldLink RX12 13 "ClaimTableModel" "world" "[I" ∈ TB := tbT_7 _ (List.mem_of_getElem? (i := 79) rfl) rfl
theorem mM2_8_13 : Cond.methodLink RX12 153 yX12_planAt ∈ TB := tbT_8 _ (List.mem_of_getElem? (i := 13) rfl) rfl
theorem mM2_8_15 : Cond.code yX12_planAt cX12_planAt 2 (some .int) ∈ TB := tbT_8 _ (List.mem_of_getElem? (i := 15) rfl) rfl
theorem mM2_8_14 : Cond.static yX12_planAt ∈ TB := tbT_8 _ (List.mem_of_getElem? (i := 14) rfl) rfl
theorem mM2_7_207 : Cond.methodLink RX12 124 yX12_behind ∈ TB := tbT_7 _ (List.mem_of_getElem? (i := 207) rfl) rfl
theorem mM2_7_210 : Cond.code yX12_behind cX12_behind 4 (some .int) ∈ TB := tbT_7 _ (List.mem_of_getElem? (i := 210) rfl) rfl
theorem mM2_7_209 : Cond.instanceMethod yX12_behind ∈ TB := tbT_7 _ (List.mem_of_getElem? (i := 209) rfl) rfl
theorem mpM2_3_4 : Cond.selects RX12 yX12_behind yX12_behind ∈ TB := tbP_3 (yX12_behind, 19) (List.mem_of_getElem? (i := 4) rfl)
theorem mM2_7_218 : Cond.methodLink RX12 133 yX12_passes ∈ TB := tbT_7 _ (List.mem_of_getElem? (i := 218) rfl) rfl
theorem mM2_7_221 : Cond.code yX12_passes cX12_passes 2 (some .boolean) ∈ TB := tbT_7 _ (List.mem_of_getElem? (i := 221) rfl) rfl
theorem mM2_7_220 : Cond.instanceMethod yX12_passes ∈ TB := tbT_7 _ (List.mem_of_getElem? (i := 220) rfl) rfl
theorem mpM2_3_6 : Cond.selects RX12 yX12_passes yX12_passes ∈ TB := tbP_3 (yX12_passes, 19) (List.mem_of_getElem? (i := 6) rfl)
theorem mM2_8_16 : Cond.methodLink RX12 156 yX12_slotNow ∈ TB := tbT_8 _ (List.mem_of_getElem? (i := 16) rfl) rfl
theorem mM2_8_19 : Cond.code yX12_slotNow cX12_slotNow 3 (some .int) ∈ TB := tbT_8 _ (List.mem_of_getElem? (i := 19) rfl) rfl
theorem mM2_8_18 : Cond.instanceMethod yX12_slotNow ∈ TB := tbT_8 _ (List.mem_of_getElem? (i := 18) rfl) rfl
theorem mpM2_3_12 : Cond.selects RX12 yX12_slotNow yX12_slotNow ∈ TB := tbP_3 (yX12_slotNow, 19) (List.mem_of_getElem? (i := 12) rfl)
theorem mM2_7_188 : Cond.methodLink RX12 109 yX12_isWord ∈ TB := tbT_7 _ (List.mem_of_getElem? (i := 188) rfl) rfl
theorem mM2_7_191 : Cond.code yX12_isWord cX12_isWord 4 (some .boolean) ∈ TB := tbT_7 _ (List.mem_of_getElem? (i := 191) rfl) rfl
theorem mM2_7_190 : Cond.instanceMethod yX12_isWord ∈ TB := tbT_7 _ (List.mem_of_getElem? (i := 190) rfl) rfl
theorem mpM2_3_0 : Cond.selects RX12 yX12_isWord yX12_isWord ∈ TB := tbP_3 (yX12_isWord, 19) (List.mem_of_getElem? (i := 0) rfl)
theorem mM2_8_6 : Cond.methodLink RX12 177 yX12_readPlan ∈ TB := tbT_8 _ (List.mem_of_getElem? (i := 6) rfl) rfl
theorem mM2_8_9 : Cond.code yX12_readPlan cX12_readPlan 9 (some .boolean) ∈ TB := tbT_8 _ (List.mem_of_getElem? (i := 9) rfl) rfl
theorem mM2_8_8 : Cond.instanceMethod yX12_readPlan ∈ TB := tbT_8 _ (List.mem_of_getElem? (i := 8) rfl) rfl
theorem mpM2_3_11 : Cond.selects RX12 yX12_readPlan yX12_readPlan ∈ TB := tbP_3 (yX12_readPlan, 19) (List.mem_of_getElem? (i := 11) rfl)
theorem mM2_7_237 : Cond.methodLink RX12 172 yX12_readParallel ∈ TB := tbT_7 _ (List.mem_of_getElem? (i := 237) rfl) rfl
theorem mM2_8_0 : Cond.code yX12_readParallel cX12_readParallel 2 (some .boolean) ∈ TB := tbT_8 _ (List.mem_of_getElem? (i := 0) rfl) rfl
theorem mM2_7_239 : Cond.instanceMethod yX12_readParallel ∈ TB := tbT_7 _ (List.mem_of_getElem? (i := 239) rfl) rfl
theorem mpM2_3_9 : Cond.selects RX12 yX12_readParallel yX12_readParallel ∈ TB := tbP_3 (yX12_readParallel, 19) (List.mem_of_getElem? (i := 9) rfl)
theorem mM2_7_227 : Cond.methodLink RX12 167 yX12_readSession ∈ TB := tbT_7 _ (List.mem_of_getElem? (i := 227) rfl) rfl
theorem mM2_7_230 : Cond.code yX12_readSession cX12_readSession 6 (some .boolean) ∈ TB := tbT_7 _ (List.mem_of_getElem? (i := 230) rfl) rfl
theorem mM2_7_229 : Cond.instanceMethod yX12_readSession ∈ TB := tbT_7 _ (List.mem_of_getElem? (i := 229) rfl) rfl
theorem mpM2_3_8 : Cond.selects RX12 yX12_readSession yX12_readSession ∈ TB := tbP_3 (yX12_readSession, 19) (List.mem_of_getElem? (i := 8) rfl)
theorem mM2_7_194 : Cond.methodLink RX12 161 yX12_readJob ∈ TB := tbT_7 _ (List.mem_of_getElem? (i := 194) rfl) rfl
theorem mM2_7_197 : Cond.code yX12_readJob cX12_readJob 5 (some .boolean) ∈ TB := tbT_7 _ (List.mem_of_getElem? (i := 197) rfl) rfl
theorem mM2_7_196 : Cond.instanceMethod yX12_readJob ∈ TB := tbT_7 _ (List.mem_of_getElem? (i := 196) rfl) rfl
theorem mpM2_3_1 : Cond.selects RX12 yX12_readJob yX12_readJob ∈ TB := tbP_3 (yX12_readJob, 19) (List.mem_of_getElem? (i := 1) rfl)
theorem mM2_7_171 : Cond.methodLink RX12 93 yX12_blanks ∈ TB := tbT_7 _ (List.mem_of_getElem? (i := 171) rfl) rfl
theorem mM2_7_174 : Cond.code yX12_blanks cX12_blanks 1 none ∈ TB := tbT_7 _ (List.mem_of_getElem? (i := 174) rfl) rfl
theorem mM2_7_173 : Cond.instanceMethod yX12_blanks ∈ TB := tbT_7 _ (List.mem_of_getElem? (i := 173) rfl) rfl
theorem mpM2_2_12 : Cond.selects RX12 yX12_blanks yX12_blanks ∈ TB := tbP_2 (yX12_blanks, 19) (List.mem_of_getElem? (i := 12) rfl)
theorem mM2_7_87 : Cond.fieldLink RX12 80 "ClaimTableModel" "point" "I" ∈ TB := tbT_7 _ (List.mem_of_getElem? (i := 87) rfl) rfl
theorem mM2_7_88 : Cond.fieldLink RX12 83 "ClaimTableModel" "end" "I" ∈ TB := tbT_7 _ (List.mem_of_getElem? (i := 88) rfl) rfl
theorem mM2_7_179 : Cond.methodLink RX12 106 yX12_letters ∈ TB := tbT_7 _ (List.mem_of_getElem? (i := 179) rfl) rfl
theorem mM2_7_182 : Cond.code yX12_letters cX12_letters 1 none ∈ TB := tbT_7 _ (List.mem_of_getElem? (i := 182) rfl) rfl
theorem mM2_7_181 : Cond.instanceMethod yX12_letters ∈ TB := tbT_7 _ (List.mem_of_getElem? (i := 181) rfl) rfl
theorem mpM2_2_14 : Cond.selects RX12 yX12_letters yX12_letters ∈ TB := tbP_2 (yX12_letters, 19) (List.mem_of_getElem? (i := 14) rfl)
theorem mM2_7_183 : Cond.methodLink RX12 190 yX12_readTableLine ∈ TB := tbT_7 _ (List.mem_of_getElem? (i := 183) rfl) rfl
theorem mM2_7_186 : Cond.code yX12_readTableLine cX12_readTableLine 1 (some .boolean) ∈ TB := tbT_7 _ (List.mem_of_getElem? (i := 186) rfl) rfl
theorem mM2_7_185 : Cond.instanceMethod yX12_readTableLine ∈ TB := tbT_7 _ (List.mem_of_getElem? (i := 185) rfl) rfl
theorem mpM2_2_15 : Cond.selects RX12 yX12_readTableLine yX12_readTableLine ∈ TB := tbP_2 (yX12_readTableLine, 19) (List.mem_of_getElem? (i := 15) rfl)
theorem mM2_7_175 : Cond.methodLink RX12 86 yX12_isAt ∈ TB := tbT_7 _ (List.mem_of_getElem? (i := 175) rfl) rfl
theorem mM2_7_178 : Cond.code yX12_isAt cX12_isAt 3 (some .boolean) ∈ TB := tbT_7 _ (List.mem_of_getElem? (i := 178) rfl) rfl
theorem mM2_7_177 : Cond.instanceMethod yX12_isAt ∈ TB := tbT_7 _ (List.mem_of_getElem? (i := 177) rfl) rfl
theorem mpM2_2_13 : Cond.selects RX12 yX12_isAt yX12_isAt ∈ TB := tbP_2 (yX12_isAt, 19) (List.mem_of_getElem? (i := 13) rfl)
theorem mM2_7_163 : Cond.methodLink RX12 193 yX12_uses ∈ TB := tbT_7 _ (List.mem_of_getElem? (i := 163) rfl) rfl
theorem mM2_7_166 : Cond.code yX12_uses cX12_uses 1 none ∈ TB := tbT_7 _ (List.mem_of_getElem? (i := 166) rfl) rfl
theorem mM2_7_165 : Cond.instanceMethod yX12_uses ∈ TB := tbT_7 _ (List.mem_of_getElem? (i := 165) rfl) rfl
theorem mpM2_2_10 : Cond.selects RX12 yX12_uses yX12_uses ∈ TB := tbP_2 (yX12_uses, 19) (List.mem_of_getElem? (i := 10) rfl)
theorem mM2_7_167 : Cond.methodLink RX12 196 yX12_readTable ∈ TB := tbT_7 _ (List.mem_of_getElem? (i := 167) rfl) rfl
theorem mM2_7_170 : Cond.code yX12_readTable cX12_readTable 2 (some .boolean) ∈ TB := tbT_7 _ (List.mem_of_getElem? (i := 170) rfl) rfl
theorem mM2_7_169 : Cond.instanceMethod yX12_readTable ∈ TB := tbT_7 _ (List.mem_of_getElem? (i := 169) rfl) rfl
theorem mpM2_2_11 : Cond.selects RX12 yX12_readTable yX12_readTable ∈ TB := tbP_2 (yX12_readTable, 19) (List.mem_of_getElem? (i := 11) rfl)
theorem mM2_7_89 : Cond.fieldLink RX12 90 "ClaimTableModel" "begin" "I" ∈ TB := tbT_7 _ (List.mem_of_getElem? (i := 89) rfl) rfl
theorem mM2_7_90 : Cond.fieldLink RX12 33 "ClaimTableModel" "faultAt" "I" ∈ TB := tbT_7 _ (List.mem_of_getElem? (i := 90) rfl) rfl
theorem mM2_8_25 : Cond.methodLink RX12 199 yX12_throwsIf ∈ TB := tbT_8 _ (List.mem_of_getElem? (i := 25) rfl) rfl
theorem mM2_8_28 : Cond.code yX12_throwsIf cX12_throwsIf 3 (some .boolean) ∈ TB := tbT_8 _ (List.mem_of_getElem? (i := 28) rfl) rfl
theorem mM2_8_27 : Cond.instanceMethod yX12_throwsIf ∈ TB := tbT_8 _ (List.mem_of_getElem? (i := 27) rfl) rfl
theorem mpM2_3_13 : Cond.selects RX12 yX12_throwsIf yX12_throwsIf ∈ TB := tbP_3 (yX12_throwsIf, 19) (List.mem_of_getElem? (i := 13) rfl)
theorem mM2_7_81 : Cond.fieldLink RX12 20 "ClaimTableModel" "earlier" "[I" ∈ TB := tbT_7 _ (List.mem_of_getElem? (i := 81) rfl) rfl
theorem mM2_8_67 : Cond.methodLink RX12 212 yX12_sign ∈ TB := tbT_8 _ (List.mem_of_getElem? (i := 67) rfl) rfl
theorem mM2_8_70 : Cond.code yX12_sign cX12_sign 2 (some .boolean) ∈ TB := tbT_8 _ (List.mem_of_getElem? (i := 70) rfl) rfl
theorem mM2_8_69 : Cond.instanceMethod yX12_sign ∈ TB := tbT_8 _ (List.mem_of_getElem? (i := 69) rfl) rfl
theorem mpM2_4_4 : Cond.selects RX12 yX12_sign yX12_sign ∈ TB := tbP_4 (yX12_sign, 19) (List.mem_of_getElem? (i := 4) rfl)
theorem mM2_7_83 : Cond.fieldLink RX12 26 "ClaimTableModel" "draft" "[I" ∈ TB := tbT_7 _ (List.mem_of_getElem? (i := 83) rfl) rfl
theorem mM2_8_54 : Cond.methodLink RX12 215 yX12_columnRead ∈ TB := tbT_8 _ (List.mem_of_getElem? (i := 54) rfl) rfl
theorem mM2_8_57 : Cond.code yX12_columnRead cX12_columnRead 1 (some .int) ∈ TB := tbT_8 _ (List.mem_of_getElem? (i := 57) rfl) rfl
theorem mM2_8_56 : Cond.instanceMethod yX12_columnRead ∈ TB := tbT_8 _ (List.mem_of_getElem? (i := 56) rfl) rfl
theorem mpM2_4_2 : Cond.selects RX12 yX12_columnRead yX12_columnRead ∈ TB := tbP_4 (yX12_columnRead, 19) (List.mem_of_getElem? (i := 2) rfl)
theorem mM2_8_63 : Cond.methodLink RX12 218 yX12_signRead ∈ TB := tbT_8 _ (List.mem_of_getElem? (i := 63) rfl) rfl
theorem mM2_8_66 : Cond.code yX12_signRead cX12_signRead 1 (some .int) ∈ TB := tbT_8 _ (List.mem_of_getElem? (i := 66) rfl) rfl
theorem mM2_8_65 : Cond.instanceMethod yX12_signRead ∈ TB := tbT_8 _ (List.mem_of_getElem? (i := 65) rfl) rfl
theorem mpM2_4_3 : Cond.selects RX12 yX12_signRead yX12_signRead ∈ TB := tbP_4 (yX12_signRead, 19) (List.mem_of_getElem? (i := 3) rfl)
def rm_X12_readParallel : Room := { frames := 4, cells := 0, slots := 0, locals := 89 }
def F_X12_readParallel (S : sSt) (k : Int32 → sSt → Prop) : Prop := F_X12_number 0 5 S (fun r1 S2 => ((r1 < 0 → k 0 S2) ∧ (¬ r1 < 0 → F_X12_readNumber (15 + r1) 1 4 S2 (fun r4 S5 => ((r4 = 0 → k 0 S5) ∧ (¬ r4 = 0 → k 1 S5))))))
set_option maxHeartbeats 4000000 in
set_option maxRecDepth 100000 in
theorem c_X12_readParallel (l : Launch) {D : va_G} {cy : Nat → ClassId} {b z : Nat} {tx : TX} {S : sSt} {k : Int32 → sSt → Prop} (h : F_X12_readParallel S k) : Met l yX12_readParallel (Cond.code yX12_readParallel cX12_readParallel 2 (some .boolean) :: TB) rm_X12_readParallel (va_Pc [.ref (b + adM 0 0)] (fun U => RelM D cy b z tx S U U.heap ∧ TxR tx U)) (PiM D cy b z tx k) 0 0 (gA b 12 z) := by
  refine Met.ofW (cc := cX12_readParallel) (maxL := 2) (ret := (some .boolean)) (by decide) rfl ?_
  intro p e s m args below meth c s₁ B hml hv
  obtain ⟨rfl, hR, hT⟩ := hv
  have C0 : CallFix p m c cX12_readParallel 2 s _ TB RX12 := ⟨B.exec, B.bytes, hml, findClass_of_methodNamed B.named, fun w hw => atoms_spec B.pre w (List.mem_cons_of_mem _ hw)⟩
  have hr := B.returns
  have hlk := B.notSynchronized
  have hx := C0.1
  have hb := C0.2.1
  have hS : va_S (gA b 12 z) s.heap s.heap [] := va_S.rf
  have hl := lv_entry ([.ref (b + adM 0 0)]) (n := 2) (Nat.le_of_ble_eq_true rfl)
  rw [lg_entry_eq]
  generalize (lg_sl ([.ref (b + adM 0 0)]) ++ List.replicate (2 - (lg_sl ([.ref (b + adM 0 0)])).length) Slot.unset).toArray = ls at hl ⊢
  have hl : lv_has ls 2 [(0, .ref (b + adM 0 0))] := hl
  show W p l e rm_X12_readParallel s m _ below meth c s.heap [] 0 0 (MQ below (PiM D cy b z tx k) _ s 0 0 (gA b 12 z)) _
  unfold F_X12_readParallel at h
  refine lv_aload_n hx hb dX12_readParallel_0 rfl (lv_at hl 0 rfl) ?_
  refine lv_iconst (v := 0) hx hb dX12_readParallel_1 (by decide) ?_
  refine lv_iconst (v := 5) hx hb dX12_readParallel_2 (by decide) ?_
  refine qM_Vi (As := [.int 0, .int 5]) (rest := []) C0 (c_X12_number l h) (cwV 2 C0.2.2.2.2 (tbV mM2_7_211 ⟨mM2_7_213, mpM2_3_5, mM2_1_11, mM2_7_214⟩) rfl rfl rfl (by decide +kernel) ⟨Nat.le_of_ble_eq_true rfl, Nat.le_of_ble_eq_true rfl⟩) (rcM_0 hR Nat.zero_lt_one) hR hT hS rfl hl.1 rfl (Nat.le_of_ble_eq_true rfl) dX12_readParallel_3 ⟨Nat.zero_le _, Nat.zero_le _⟩ (fun r1 S2 H locs h hR hS => ?_)
  refine lv_istore_n (lv' := [(1, .int r1), (0, .ref (b + adM 0 0))]) hx hb dX12_readParallel_6 rfl hl (by decide) rfl (fun ls hl => ?_)
  refine lv_iload_n hx hb dX12_readParallel_7 rfl (lv_at hl 0 rfl) ?_
  refine lv_if_lt (tgt := 28) hx hb dX12_readParallel_8 (by decide) (fun c3 => ?_) (fun c3 => ?_)
  · have h := h.1 c3
    refine lv_iconst (v := 0) hx hb dX12_readParallel_28 (by decide) ?_
    exact rtM_z C0 hr hlk hR hS (by decide) h dX12_readParallel_29
  · have h := h.2 c3
    refine lv_aload_n hx hb dX12_readParallel_11 rfl (lv_at hl 1 rfl) ?_
    refine lv_bipush (v := 15) hx hb dX12_readParallel_12 (by decide) ?_
    refine lv_iload_n hx hb dX12_readParallel_14 rfl (lv_at hl 0 rfl) ?_
    refine lv_iadd hx hb dX12_readParallel_15 ?_
    refine lv_iconst (v := 1) hx hb dX12_readParallel_16 (by decide) ?_
    refine lv_iconst (v := 4) hx hb dX12_readParallel_17 (by decide) ?_
    refine qM_Vi (As := [.int (15 + r1), .int 1, .int 4]) (rest := []) C0 (c_X12_readNumber l h) (cwV 3 C0.2.2.2.2 (tbV mM2_8_1 ⟨mM2_8_3, mpM2_3_10, mM2_1_11, mM2_8_4⟩) rfl rfl rfl (by decide +kernel) ⟨Nat.le_of_ble_eq_true rfl, Nat.le_of_ble_eq_true rfl⟩) (rcM_0 hR Nat.zero_lt_one) hR hT hS rfl hl.1 rfl (Nat.le_of_ble_eq_true rfl) dX12_readParallel_18 ⟨Nat.zero_le _, Nat.zero_le _⟩ (fun r4 S5 H locs h hR hS => ?_)
    refine lv_if_eq (tgt := 28) hx hb dX12_readParallel_21 (by decide) (fun c6 => ?_) (fun c6 => ?_)
    · have h := h.1 c6
      refine lv_iconst (v := 0) hx hb dX12_readParallel_28 (by decide) ?_
      exact rtM_z C0 hr hlk hR hS (by decide) h dX12_readParallel_29
    · have h := h.2 c6
      refine lv_iconst (v := 1) hx hb dX12_readParallel_24 (by decide) ?_
      refine lv_goto (tgt := 29) hx hb dX12_readParallel_25 (by decide) ?_
      exact rtM_z C0 hr hlk hR hS (by decide) h dX12_readParallel_29

def rm_X12_slotNow : Room := { frames := 1, cells := 0, slots := 0, locals := 21 }
def F_X12_slotNow (a1 : Int32) (S : sSt) (k : Int32 → sSt → Prop) : Prop := F_X12_planAt a1 1 S (fun r1 S2 => ix r1 10421 (fun j3 => ∀ x4 : Int32, x4 = ((S.1 1 0 4) - (S2.1 1 0 j3)) → ((0 ≤ x4 → F_X12_planAt a1 0 S2 (fun r6 S7 => ix r6 10421 (fun j8 => (¬ (S7.1 1 0 j8) = 0) ∧ (k (x4 / (S7.1 1 0 j8)) S7)))) ∧ (¬ 0 ≤ x4 → k (-1) S2))))
set_option maxHeartbeats 4000000 in
set_option maxRecDepth 100000 in
theorem c_X12_slotNow (l : Launch) {D : va_G} {cy : Nat → ClassId} {b z : Nat} {tx : TX} {a1 : Int32} {S : sSt} {k : Int32 → sSt → Prop} (h : F_X12_slotNow a1 S k) : Met l yX12_slotNow (Cond.code yX12_slotNow cX12_slotNow 3 (some .int) :: TB) rm_X12_slotNow (va_Pc [.ref (b + adM 0 0), .int a1] (fun U => RelM D cy b z tx S U U.heap ∧ TxR tx U)) (PiM D cy b z tx k) 0 0 (gA b 12 z) := by
  refine Met.ofW (cc := cX12_slotNow) (maxL := 3) (ret := (some .int)) (by decide) rfl ?_
  intro p e s m args below meth c s₁ B hml hv
  obtain ⟨rfl, hR, hT⟩ := hv
  have C0 : CallFix p m c cX12_slotNow 3 s _ TB RX12 := ⟨B.exec, B.bytes, hml, findClass_of_methodNamed B.named, fun w hw => atoms_spec B.pre w (List.mem_cons_of_mem _ hw)⟩
  have hr := B.returns
  have hlk := B.notSynchronized
  have hx := C0.1
  have hb := C0.2.1
  have hS : va_S (gA b 12 z) s.heap s.heap [] := va_S.rf
  have hl := lv_entry ([.ref (b + adM 0 0), .int a1]) (n := 3) (Nat.le_of_ble_eq_true rfl)
  rw [lg_entry_eq]
  generalize (lg_sl ([.ref (b + adM 0 0), .int a1]) ++ List.replicate (3 - (lg_sl ([.ref (b + adM 0 0), .int a1])).length) Slot.unset).toArray = ls at hl ⊢
  have hl : lv_has ls 3 [(0, .ref (b + adM 0 0)), (1, .int a1)] := hl
  show W p l e rm_X12_slotNow s m _ below meth c s.heap [] 0 0 (MQ below (PiM D cy b z tx k) _ s 0 0 (gA b 12 z)) _
  unfold F_X12_slotNow at h
  refine lv_aload_n hx hb dX12_slotNow_0 rfl (lv_at hl 0 rfl) ?_
  refine gM_0_2 C0 hR Nat.zero_lt_one tbs_wsX120 mM2_7_79 dX12_slotNow_1 ?_
  refine lv_iconst (v := 4) hx hb dX12_slotNow_4 (by decide) ?_
  refine lM_1 C0 hR Nat.zero_lt_one (by decide) rfl dX12_slotNow_5 ?_
  refine lv_aload_n hx hb dX12_slotNow_6 rfl (lv_at hl 0 rfl) ?_
  refine gM_0_2 C0 hR Nat.zero_lt_one tbs_wsX120 mM2_7_79 dX12_slotNow_7 ?_
  refine lv_iload_n hx hb dX12_slotNow_10 rfl (lv_at hl 1 rfl) ?_
  refine lv_iconst (v := 1) hx hb dX12_slotNow_11 (by decide) ?_
  refine qM_Si (As := [.int a1, .int 1]) (rest := [.ref (b + adM 1 0), .int (S.1 1 0 4)]) C0 (c_X12_planAt l h) (va_cwS 2 C0.2.2.2.2 (tbS mM2_8_13 ⟨mM2_8_14, mM2_1_11, mM2_8_15⟩) rfl rfl rfl (by decide +kernel) ⟨Nat.le_of_ble_eq_true rfl, Nat.le_of_ble_eq_true rfl⟩) hR hT hS rfl hl.1 rfl (Nat.le_of_ble_eq_true rfl) dX12_slotNow_12 ⟨Nat.zero_le _, Nat.zero_le _⟩ (fun r1 S2 H locs h hR hS => ?_)
  obtain ⟨j3, hj3, ej3, h⟩ := h
  refine lM_1 C0 hR Nat.zero_lt_one hj3 ej3 dX12_slotNow_15 ?_
  refine lv_isub hx hb dX12_slotNow_16 ?_
  refine lv_topi (fun x4 ex4 => ?_)
  have h := h x4 ex4
  refine lv_istore_n (lv' := [(2, .int x4), (0, .ref (b + adM 0 0)), (1, .int a1)]) hx hb dX12_slotNow_17 rfl hl (by decide) rfl (fun ls hl => ?_)
  refine lv_iload_n hx hb dX12_slotNow_18 rfl (lv_at hl 0 rfl) ?_
  refine lv_if_ge (tgt := 26) hx hb dX12_slotNow_19 (by decide) (fun c5 => ?_) (fun c5 => ?_)
  · have h := h.1 c5
    refine lv_iload_n hx hb dX12_slotNow_26 rfl (lv_at hl 0 rfl) ?_
    refine lv_aload_n hx hb dX12_slotNow_27 rfl (lv_at hl 1 rfl) ?_
    refine gM_0_2 C0 hR Nat.zero_lt_one tbs_wsX120 mM2_7_79 dX12_slotNow_28 ?_
    refine lv_iload_n hx hb dX12_slotNow_31 rfl (lv_at hl 2 rfl) ?_
    refine lv_iconst (v := 0) hx hb dX12_slotNow_32 (by decide) ?_
    refine qM_Si (As := [.int a1, .int 0]) (rest := [.ref (b + adM 1 0), .int x4]) C0 (c_X12_planAt l h) (va_cwS 2 C0.2.2.2.2 (tbS mM2_8_13 ⟨mM2_8_14, mM2_1_11, mM2_8_15⟩) rfl rfl rfl (by decide +kernel) ⟨Nat.le_of_ble_eq_true rfl, Nat.le_of_ble_eq_true rfl⟩) hR hT hS rfl hl.1 rfl (Nat.le_of_ble_eq_true rfl) dX12_slotNow_33 ⟨Nat.zero_le _, Nat.zero_le _⟩ (fun r6 S7 H locs h hR hS => ?_)
    obtain ⟨j8, hj8, ej8, h⟩ := h
    refine lM_1 C0 hR Nat.zero_lt_one hj8 ej8 dX12_slotNow_36 ?_
    obtain ⟨n9, h⟩ := h
    refine lv_idiv hx hb dX12_slotNow_37 n9 ?_
    exact rtM_i C0 hr hlk hR hS h dX12_slotNow_38
  · have h := h.2 c5
    refine lv_iconst (v := (-1)) hx hb dX12_slotNow_22 (by decide) ?_
    refine lv_goto (tgt := 38) hx hb dX12_slotNow_23 (by decide) ?_
    exact rtM_i C0 hr hlk hR hS h dX12_slotNow_38

def rm_X12_readPlan : Room := { frames := 6, cells := 0, slots := 0, locals := 131 }
def B_X12_readPlan_151 (a1 : Int32) (a2 : Int32) (a3 : Int32) (a4 : Int32) (a5 : Int32) (a6 : Int32) (a7 : Int32) (t0 : Int32) (S : sSt) (k : Int32 → sSt → Prop) : Prop := ((0 ≤ t0 → F_X12_planAt a1 0 S (fun r26 S27 => ix r26 10421 (fun j28 => ∀ S29, S29 = uI S27 1 0 j28 a2 → F_X12_planAt a1 1 S29 (fun r30 S31 => ix r30 10421 (fun j32 => ∀ S33, S33 = uI S31 1 0 j32 a3 → F_X12_planAt a1 2 S33 (fun r34 S35 => ix r34 10421 (fun j36 => ∀ S37, S37 = uI S35 1 0 j36 a4 → F_X12_planAt a1 3 S37 (fun r38 S39 => ix r38 10421 (fun j40 => ∀ S41, S41 = uI S39 1 0 j40 a5 → F_X12_planAt a1 4 S41 (fun r42 S43 => ix r42 10421 (fun j44 => ∀ S45, S45 = uI S43 1 0 j44 a6 → F_X12_planAt a1 5 S45 (fun r46 S47 => ix r46 10421 (fun j48 => ∀ S49, S49 = uI S47 1 0 j48 a7 → F_X12_planAt a1 6 S49 (fun r50 S51 => ix r50 10421 (fun j52 => ∀ S53, S53 = uI S51 1 0 j52 t0 → F_X12_planAt a1 7 S53 (fun r54 S55 => F_X12_slotNow a1 S55 (fun r56 S57 => ix r54 10421 (fun j58 => ∀ S59, S59 = uI S57 1 0 j58 r56 → ∀ S60, S60 = uI S59 1 0 1 ((S59.1 1 0 1) + 1) → k 1 S60)))))))))))))))))) ∧ (¬ 0 ≤ t0 → k 0 S))
set_option maxHeartbeats 4000000 in
set_option maxRecDepth 100000 in
theorem Bw_X12_readPlan_151 {p : Program} {l : Launch} {e : Env} {s : State} {m : MethodId} {args : Array Value} {below : List Frame} {meth : Method} {c : Code} {D : va_G} {cy : Nat → ClassId} {b z : Nat} {tx : TX} (C0 : CallFix p m c cX12_readPlan 9 s args TB RX12) (hr : meth.sig.returnType = (some .boolean)) (hlk : meth.locks = false) (hT : TxR tx s) {k : Int32 → sSt → Prop} : ∀ (a1 : Int32) (a2 : Int32) (a3 : Int32) (a4 : Int32) (a5 : Int32) (a6 : Int32) (a7 : Int32) (t0 : Int32) (S : sSt) (H : Heap) (locs : List Loc) (ls : Array Slot) , B_X12_readPlan_151 a1 a2 a3 a4 a5 a6 a7 t0 S k → RelM D cy b z tx S s H → va_S (gA b 12 z) s.heap H locs → lv_has ls 9 [(0, .ref (b + adM 0 0)), (1, .int a1), (2, .int a2), (3, .int a3), (4, .int a4), (5, .int a5), (6, .int a6), (7, .int a7)] → W p l e rm_X12_readPlan s m args below meth c H locs 0 0 (MQ below (PiM D cy b z tx k) args s 0 0 (gA b 12 z)) (F0 m 151 ls [.int t0]) := by
  intro a1 a2 a3 a4 a5 a6 a7 t0 S H locs ls h hR hS hl
  have hx := C0.1
  have hb := C0.2.1
  unfold B_X12_readPlan_151 at h
  refine lv_istore (lv' := [(8, .int t0), (0, .ref (b + adM 0 0)), (1, .int a1), (2, .int a2), (3, .int a3), (4, .int a4), (5, .int a5), (6, .int a6), (7, .int a7)]) hx hb dX12_readPlan_151 hl (by decide) rfl (fun ls hl => ?_)
  refine lv_iload hx hb dX12_readPlan_153 (lv_at hl 0 rfl) ?_
  refine lv_if_ge (tgt := 160) hx hb dX12_readPlan_155 (by decide) (fun c25 => ?_) (fun c25 => ?_)
  · have h := h.1 c25
    refine lv_aload_n hx hb dX12_readPlan_160 rfl (lv_at hl 1 rfl) ?_
    refine gM_0_2 C0 hR Nat.zero_lt_one tbs_wsX120 mM2_7_79 dX12_readPlan_161 ?_
    refine lv_iload_n hx hb dX12_readPlan_164 rfl (lv_at hl 2 rfl) ?_
    refine lv_iconst (v := 0) hx hb dX12_readPlan_165 (by decide) ?_
    refine qM_Si (As := [.int a1, .int 0]) (rest := [.ref (b + adM 1 0)]) C0 (c_X12_planAt l h) (va_cwS 2 C0.2.2.2.2 (tbS mM2_8_13 ⟨mM2_8_14, mM2_1_11, mM2_8_15⟩) rfl rfl rfl (by decide +kernel) ⟨Nat.le_of_ble_eq_true rfl, Nat.le_of_ble_eq_true rfl⟩) hR hT hS rfl hl.1 rfl (Nat.le_of_ble_eq_true rfl) dX12_readPlan_166 ⟨Nat.zero_le _, Nat.zero_le _⟩ (fun r26 S27 H locs h hR hS => ?_)
    refine lv_iload_n hx hb dX12_readPlan_169 rfl (lv_at hl 3 rfl) ?_
    obtain ⟨j28, hj28, ej28, h⟩ := h
    refine sM_1 C0 hR hS Nat.zero_lt_one hj28 ej28 dX12_readPlan_170 (fun S29 eS29 H locs hR hS => ?_)
    have h := h S29 eS29
    refine lv_aload_n hx hb dX12_readPlan_171 rfl (lv_at hl 1 rfl) ?_
    refine gM_0_2 C0 hR Nat.zero_lt_one tbs_wsX120 mM2_7_79 dX12_readPlan_172 ?_
    refine lv_iload_n hx hb dX12_readPlan_175 rfl (lv_at hl 2 rfl) ?_
    refine lv_iconst (v := 1) hx hb dX12_readPlan_176 (by decide) ?_
    refine qM_Si (As := [.int a1, .int 1]) (rest := [.ref (b + adM 1 0)]) C0 (c_X12_planAt l h) (va_cwS 2 C0.2.2.2.2 (tbS mM2_8_13 ⟨mM2_8_14, mM2_1_11, mM2_8_15⟩) rfl rfl rfl (by decide +kernel) ⟨Nat.le_of_ble_eq_true rfl, Nat.le_of_ble_eq_true rfl⟩) hR hT hS rfl hl.1 rfl (Nat.le_of_ble_eq_true rfl) dX12_readPlan_177 ⟨Nat.zero_le _, Nat.zero_le _⟩ (fun r30 S31 H locs h hR hS => ?_)
    refine lv_iload_n hx hb dX12_readPlan_180 rfl (lv_at hl 4 rfl) ?_
    obtain ⟨j32, hj32, ej32, h⟩ := h
    refine sM_1 C0 hR hS Nat.zero_lt_one hj32 ej32 dX12_readPlan_181 (fun S33 eS33 H locs hR hS => ?_)
    have h := h S33 eS33
    refine lv_aload_n hx hb dX12_readPlan_182 rfl (lv_at hl 1 rfl) ?_
    refine gM_0_2 C0 hR Nat.zero_lt_one tbs_wsX120 mM2_7_79 dX12_readPlan_183 ?_
    refine lv_iload_n hx hb dX12_readPlan_186 rfl (lv_at hl 2 rfl) ?_
    refine lv_iconst (v := 2) hx hb dX12_readPlan_187 (by decide) ?_
    refine qM_Si (As := [.int a1, .int 2]) (rest := [.ref (b + adM 1 0)]) C0 (c_X12_planAt l h) (va_cwS 2 C0.2.2.2.2 (tbS mM2_8_13 ⟨mM2_8_14, mM2_1_11, mM2_8_15⟩) rfl rfl rfl (by decide +kernel) ⟨Nat.le_of_ble_eq_true rfl, Nat.le_of_ble_eq_true rfl⟩) hR hT hS rfl hl.1 rfl (Nat.le_of_ble_eq_true rfl) dX12_readPlan_188 ⟨Nat.zero_le _, Nat.zero_le _⟩ (fun r34 S35 H locs h hR hS => ?_)
    refine lv_iload hx hb dX12_readPlan_191 (lv_at hl 5 rfl) ?_
    obtain ⟨j36, hj36, ej36, h⟩ := h
    refine sM_1 C0 hR hS Nat.zero_lt_one hj36 ej36 dX12_readPlan_193 (fun S37 eS37 H locs hR hS => ?_)
    have h := h S37 eS37
    refine lv_aload_n hx hb dX12_readPlan_194 rfl (lv_at hl 1 rfl) ?_
    refine gM_0_2 C0 hR Nat.zero_lt_one tbs_wsX120 mM2_7_79 dX12_readPlan_195 ?_
    refine lv_iload_n hx hb dX12_readPlan_198 rfl (lv_at hl 2 rfl) ?_
    refine lv_iconst (v := 3) hx hb dX12_readPlan_199 (by decide) ?_
    refine qM_Si (As := [.int a1, .int 3]) (rest := [.ref (b + adM 1 0)]) C0 (c_X12_planAt l h) (va_cwS 2 C0.2.2.2.2 (tbS mM2_8_13 ⟨mM2_8_14, mM2_1_11, mM2_8_15⟩) rfl rfl rfl (by decide +kernel) ⟨Nat.le_of_ble_eq_true rfl, Nat.le_of_ble_eq_true rfl⟩) hR hT hS rfl hl.1 rfl (Nat.le_of_ble_eq_true rfl) dX12_readPlan_200 ⟨Nat.zero_le _, Nat.zero_le _⟩ (fun r38 S39 H locs h hR hS => ?_)
    refine lv_iload hx hb dX12_readPlan_203 (lv_at hl 6 rfl) ?_
    obtain ⟨j40, hj40, ej40, h⟩ := h
    refine sM_1 C0 hR hS Nat.zero_lt_one hj40 ej40 dX12_readPlan_205 (fun S41 eS41 H locs hR hS => ?_)
    have h := h S41 eS41
    refine lv_aload_n hx hb dX12_readPlan_206 rfl (lv_at hl 1 rfl) ?_
    refine gM_0_2 C0 hR Nat.zero_lt_one tbs_wsX120 mM2_7_79 dX12_readPlan_207 ?_
    refine lv_iload_n hx hb dX12_readPlan_210 rfl (lv_at hl 2 rfl) ?_
    refine lv_iconst (v := 4) hx hb dX12_readPlan_211 (by decide) ?_
    refine qM_Si (As := [.int a1, .int 4]) (rest := [.ref (b + adM 1 0)]) C0 (c_X12_planAt l h) (va_cwS 2 C0.2.2.2.2 (tbS mM2_8_13 ⟨mM2_8_14, mM2_1_11, mM2_8_15⟩) rfl rfl rfl (by decide +kernel) ⟨Nat.le_of_ble_eq_true rfl, Nat.le_of_ble_eq_true rfl⟩) hR hT hS rfl hl.1 rfl (Nat.le_of_ble_eq_true rfl) dX12_readPlan_212 ⟨Nat.zero_le _, Nat.zero_le _⟩ (fun r42 S43 H locs h hR hS => ?_)
    refine lv_iload hx hb dX12_readPlan_215 (lv_at hl 7 rfl) ?_
    obtain ⟨j44, hj44, ej44, h⟩ := h
    refine sM_1 C0 hR hS Nat.zero_lt_one hj44 ej44 dX12_readPlan_217 (fun S45 eS45 H locs hR hS => ?_)
    have h := h S45 eS45
    refine lv_aload_n hx hb dX12_readPlan_218 rfl (lv_at hl 1 rfl) ?_
    refine gM_0_2 C0 hR Nat.zero_lt_one tbs_wsX120 mM2_7_79 dX12_readPlan_219 ?_
    refine lv_iload_n hx hb dX12_readPlan_222 rfl (lv_at hl 2 rfl) ?_
    refine lv_iconst (v := 5) hx hb dX12_readPlan_223 (by decide) ?_
    refine qM_Si (As := [.int a1, .int 5]) (rest := [.ref (b + adM 1 0)]) C0 (c_X12_planAt l h) (va_cwS 2 C0.2.2.2.2 (tbS mM2_8_13 ⟨mM2_8_14, mM2_1_11, mM2_8_15⟩) rfl rfl rfl (by decide +kernel) ⟨Nat.le_of_ble_eq_true rfl, Nat.le_of_ble_eq_true rfl⟩) hR hT hS rfl hl.1 rfl (Nat.le_of_ble_eq_true rfl) dX12_readPlan_224 ⟨Nat.zero_le _, Nat.zero_le _⟩ (fun r46 S47 H locs h hR hS => ?_)
    refine lv_iload hx hb dX12_readPlan_227 (lv_at hl 8 rfl) ?_
    obtain ⟨j48, hj48, ej48, h⟩ := h
    refine sM_1 C0 hR hS Nat.zero_lt_one hj48 ej48 dX12_readPlan_229 (fun S49 eS49 H locs hR hS => ?_)
    have h := h S49 eS49
    refine lv_aload_n hx hb dX12_readPlan_230 rfl (lv_at hl 1 rfl) ?_
    refine gM_0_2 C0 hR Nat.zero_lt_one tbs_wsX120 mM2_7_79 dX12_readPlan_231 ?_
    refine lv_iload_n hx hb dX12_readPlan_234 rfl (lv_at hl 2 rfl) ?_
    refine lv_bipush (v := 6) hx hb dX12_readPlan_235 (by decide) ?_
    refine qM_Si (As := [.int a1, .int 6]) (rest := [.ref (b + adM 1 0)]) C0 (c_X12_planAt l h) (va_cwS 2 C0.2.2.2.2 (tbS mM2_8_13 ⟨mM2_8_14, mM2_1_11, mM2_8_15⟩) rfl rfl rfl (by decide +kernel) ⟨Nat.le_of_ble_eq_true rfl, Nat.le_of_ble_eq_true rfl⟩) hR hT hS rfl hl.1 rfl (Nat.le_of_ble_eq_true rfl) dX12_readPlan_237 ⟨Nat.zero_le _, Nat.zero_le _⟩ (fun r50 S51 H locs h hR hS => ?_)
    refine lv_iload hx hb dX12_readPlan_240 (lv_at hl 0 rfl) ?_
    obtain ⟨j52, hj52, ej52, h⟩ := h
    refine sM_1 C0 hR hS Nat.zero_lt_one hj52 ej52 dX12_readPlan_242 (fun S53 eS53 H locs hR hS => ?_)
    have h := h S53 eS53
    refine lv_aload_n hx hb dX12_readPlan_243 rfl (lv_at hl 1 rfl) ?_
    refine gM_0_2 C0 hR Nat.zero_lt_one tbs_wsX120 mM2_7_79 dX12_readPlan_244 ?_
    refine lv_iload_n hx hb dX12_readPlan_247 rfl (lv_at hl 2 rfl) ?_
    refine lv_bipush (v := 7) hx hb dX12_readPlan_248 (by decide) ?_
    refine qM_Si (As := [.int a1, .int 7]) (rest := [.ref (b + adM 1 0)]) C0 (c_X12_planAt l h) (va_cwS 2 C0.2.2.2.2 (tbS mM2_8_13 ⟨mM2_8_14, mM2_1_11, mM2_8_15⟩) rfl rfl rfl (by decide +kernel) ⟨Nat.le_of_ble_eq_true rfl, Nat.le_of_ble_eq_true rfl⟩) hR hT hS rfl hl.1 rfl (Nat.le_of_ble_eq_true rfl) dX12_readPlan_250 ⟨Nat.zero_le _, Nat.zero_le _⟩ (fun r54 S55 H locs h hR hS => ?_)
    refine lv_aload_n hx hb dX12_readPlan_253 rfl (lv_at hl 1 rfl) ?_
    refine lv_iload_n hx hb dX12_readPlan_254 rfl (lv_at hl 2 rfl) ?_
    refine qM_Vi (As := [.int a1]) (rest := [.int r54, .ref (b + adM 1 0)]) C0 (c_X12_slotNow l h) (cwV 1 C0.2.2.2.2 (tbV mM2_8_16 ⟨mM2_8_18, mpM2_3_12, mM2_1_11, mM2_8_19⟩) rfl rfl rfl (by decide +kernel) ⟨Nat.le_of_ble_eq_true rfl, Nat.le_of_ble_eq_true rfl⟩) (rcM_0 hR Nat.zero_lt_one) hR hT hS rfl hl.1 rfl (Nat.le_of_ble_eq_true rfl) dX12_readPlan_255 ⟨Nat.zero_le _, Nat.zero_le _⟩ (fun r56 S57 H locs h hR hS => ?_)
    obtain ⟨j58, hj58, ej58, h⟩ := h
    refine sM_1 C0 hR hS Nat.zero_lt_one hj58 ej58 dX12_readPlan_258 (fun S59 eS59 H locs hR hS => ?_)
    have h := h S59 eS59
    refine lv_aload_n hx hb dX12_readPlan_259 rfl (lv_at hl 1 rfl) ?_
    refine gM_0_2 C0 hR Nat.zero_lt_one tbs_wsX120 mM2_7_79 dX12_readPlan_260 ?_
    refine lv_iconst (v := 1) hx hb dX12_readPlan_263 (by decide) ?_
    refine lv_dup2_11 hx hb dX12_readPlan_264 rfl rfl ?_
    refine lM_1 C0 hR Nat.zero_lt_one (by decide) rfl dX12_readPlan_265 ?_
    refine lv_iconst (v := 1) hx hb dX12_readPlan_266 (by decide) ?_
    refine lv_iadd hx hb dX12_readPlan_267 ?_
    refine sM_1 C0 hR hS Nat.zero_lt_one (by decide) rfl dX12_readPlan_268 (fun S60 eS60 H locs hR hS => ?_)
    have h := h S60 eS60
    refine lv_iconst (v := 1) hx hb dX12_readPlan_269 (by decide) ?_
    exact rtM_z C0 hr hlk hR hS (by decide) h dX12_readPlan_270
  · have h := h.2 c25
    refine lv_iconst (v := 0) hx hb dX12_readPlan_158 (by decide) ?_
    exact rtM_z C0 hr hlk hR hS (by decide) h dX12_readPlan_159
def B_X12_readPlan_132 (a1 : Int32) (a2 : Int32) (a3 : Int32) (a4 : Int32) (a5 : Int32) (a6 : Int32) (t0 : Int32) (S : sSt) (k : Int32 → sSt → Prop) : Prop := ((¬ t0 = 2 → B_X12_readPlan_151 a1 a2 a3 a4 a5 a6 t0 0 S k) ∧ (t0 = 2 → F_X12_number 0 9 S (fun r61 S62 => B_X12_readPlan_151 a1 a2 a3 a4 a5 a6 t0 r61 S62 k)))
set_option maxHeartbeats 4000000 in
set_option maxRecDepth 100000 in
theorem Bw_X12_readPlan_132 {p : Program} {l : Launch} {e : Env} {s : State} {m : MethodId} {args : Array Value} {below : List Frame} {meth : Method} {c : Code} {D : va_G} {cy : Nat → ClassId} {b z : Nat} {tx : TX} (C0 : CallFix p m c cX12_readPlan 9 s args TB RX12) (hr : meth.sig.returnType = (some .boolean)) (hlk : meth.locks = false) (hT : TxR tx s) {k : Int32 → sSt → Prop} : ∀ (a1 : Int32) (a2 : Int32) (a3 : Int32) (a4 : Int32) (a5 : Int32) (a6 : Int32) (t0 : Int32) (S : sSt) (H : Heap) (locs : List Loc) (ls : Array Slot) , B_X12_readPlan_132 a1 a2 a3 a4 a5 a6 t0 S k → RelM D cy b z tx S s H → va_S (gA b 12 z) s.heap H locs → lv_has ls 9 [(0, .ref (b + adM 0 0)), (1, .int a1), (2, .int a2), (3, .int a3), (4, .int a4), (5, .int a5), (6, .int a6)] → W p l e rm_X12_readPlan s m args below meth c H locs 0 0 (MQ below (PiM D cy b z tx k) args s 0 0 (gA b 12 z)) (F0 m 132 ls [.int t0]) := by
  intro a1 a2 a3 a4 a5 a6 t0 S H locs ls h hR hS hl
  have hx := C0.1
  have hb := C0.2.1
  unfold B_X12_readPlan_132 at h
  refine lv_istore (lv' := [(7, .int t0), (0, .ref (b + adM 0 0)), (1, .int a1), (2, .int a2), (3, .int a3), (4, .int a4), (5, .int a5), (6, .int a6)]) hx hb dX12_readPlan_132 hl (by decide) rfl (fun ls hl => ?_)
  refine lv_iload hx hb dX12_readPlan_134 (lv_at hl 0 rfl) ?_
  refine lv_iconst (v := 2) hx hb dX12_readPlan_136 (by decide) ?_
  refine lv_icmp_ne (tgt := 150) hx hb dX12_readPlan_137 (by decide) (fun c24 => ?_) (fun c24 => ?_)
  · have h := h.1 c24
    refine lv_iconst (v := 0) hx hb dX12_readPlan_150 (by decide) ?_
    exact Bw_X12_readPlan_151 C0 hr hlk hT a1 a2 a3 a4 a5 a6 t0 0 S _ _ _ h hR hS (lv_sub hl [1, 2, 3, 4, 5, 6, 7, 0] rfl)
  · have h := h.2 c24
    refine lv_aload_n hx hb dX12_readPlan_140 rfl (lv_at hl 1 rfl) ?_
    refine lv_iconst (v := 0) hx hb dX12_readPlan_141 (by decide) ?_
    refine lv_bipush (v := 9) hx hb dX12_readPlan_142 (by decide) ?_
    refine qM_Vi (As := [.int 0, .int 9]) (rest := []) C0 (c_X12_number l h) (cwV 2 C0.2.2.2.2 (tbV mM2_7_211 ⟨mM2_7_213, mpM2_3_5, mM2_1_11, mM2_7_214⟩) rfl rfl rfl (by decide +kernel) ⟨Nat.le_of_ble_eq_true rfl, Nat.le_of_ble_eq_true rfl⟩) (rcM_0 hR Nat.zero_lt_one) hR hT hS rfl hl.1 rfl (Nat.le_of_ble_eq_true rfl) dX12_readPlan_144 ⟨Nat.zero_le _, Nat.zero_le _⟩ (fun r61 S62 H locs h hR hS => ?_)
    refine lv_goto (tgt := 151) hx hb dX12_readPlan_147 (by decide) ?_
    exact Bw_X12_readPlan_151 C0 hr hlk hT a1 a2 a3 a4 a5 a6 t0 r61 S62 _ _ _ h hR hS (lv_sub hl [1, 2, 3, 4, 5, 6, 7, 0] rfl)
def B_X12_readPlan_96 (a1 : Int32) (a2 : Int32) (a3 : Int32) (a4 : Int32) (a5 : Int32) (t0 : Int32) (S : sSt) (k : Int32 → sSt → Prop) : Prop := ((0 ≤ t0 → F_X12_passes 10 S (fun r18 S19 => ((r18 = 0 → F_X12_passes 11 S19 (fun r21 S22 => ((r21 = 0 → B_X12_readPlan_132 a1 a2 a3 a4 a5 t0 0 S22 k) ∧ (¬ r21 = 0 → B_X12_readPlan_132 a1 a2 a3 a4 a5 t0 2 S22 k)))) ∧ (¬ r18 = 0 → B_X12_readPlan_132 a1 a2 a3 a4 a5 t0 1 S19 k)))) ∧ (¬ 0 ≤ t0 → k 0 S))
set_option maxHeartbeats 4000000 in
set_option maxRecDepth 100000 in
theorem Bw_X12_readPlan_96 {p : Program} {l : Launch} {e : Env} {s : State} {m : MethodId} {args : Array Value} {below : List Frame} {meth : Method} {c : Code} {D : va_G} {cy : Nat → ClassId} {b z : Nat} {tx : TX} (C0 : CallFix p m c cX12_readPlan 9 s args TB RX12) (hr : meth.sig.returnType = (some .boolean)) (hlk : meth.locks = false) (hT : TxR tx s) {k : Int32 → sSt → Prop} : ∀ (a1 : Int32) (a2 : Int32) (a3 : Int32) (a4 : Int32) (a5 : Int32) (t0 : Int32) (S : sSt) (H : Heap) (locs : List Loc) (ls : Array Slot) , B_X12_readPlan_96 a1 a2 a3 a4 a5 t0 S k → RelM D cy b z tx S s H → va_S (gA b 12 z) s.heap H locs → lv_has ls 9 [(0, .ref (b + adM 0 0)), (1, .int a1), (2, .int a2), (3, .int a3), (4, .int a4), (5, .int a5)] → W p l e rm_X12_readPlan s m args below meth c H locs 0 0 (MQ below (PiM D cy b z tx k) args s 0 0 (gA b 12 z)) (F0 m 96 ls [.int t0]) := by
  intro a1 a2 a3 a4 a5 t0 S H locs ls h hR hS hl
  have hx := C0.1
  have hb := C0.2.1
  unfold B_X12_readPlan_96 at h
  refine lv_istore (lv' := [(6, .int t0), (0, .ref (b + adM 0 0)), (1, .int a1), (2, .int a2), (3, .int a3), (4, .int a4), (5, .int a5)]) hx hb dX12_readPlan_96 hl (by decide) rfl (fun ls hl => ?_)
  refine lv_iload hx hb dX12_readPlan_98 (lv_at hl 0 rfl) ?_
  refine lv_if_ge (tgt := 105) hx hb dX12_readPlan_100 (by decide) (fun c17 => ?_) (fun c17 => ?_)
  · have h := h.1 c17
    refine lv_aload_n hx hb dX12_readPlan_105 rfl (lv_at hl 1 rfl) ?_
    refine va_ldcS hx hb C0.2.2.2.1 (tr_43 hT) dX12_readPlan_106 ?_
    refine qM_Vi (As := [.ref (tx.2.1 10)]) (rest := []) C0 (c_X12_passes l (by decide) h) (cwV 1 C0.2.2.2.2 (tbV mM2_7_218 ⟨mM2_7_220, mpM2_3_6, mM2_1_11, mM2_7_221⟩) rfl rfl rfl (by decide +kernel) ⟨Nat.le_of_ble_eq_true rfl, Nat.le_of_ble_eq_true rfl⟩) (rcM_0 hR Nat.zero_lt_one) hR hT hS rfl hl.1 rfl (Nat.le_of_ble_eq_true rfl) dX12_readPlan_108 ⟨Nat.zero_le _, Nat.zero_le _⟩ (fun r18 S19 H locs h hR hS => ?_)
    refine lv_if_eq (tgt := 118) hx hb dX12_readPlan_111 (by decide) (fun c20 => ?_) (fun c20 => ?_)
    · have h := h.1 c20
      refine lv_aload_n hx hb dX12_readPlan_118 rfl (lv_at hl 1 rfl) ?_
      refine va_ldcS hx hb C0.2.2.2.1 (tr_44 hT) dX12_readPlan_119 ?_
      refine qM_Vi (As := [.ref (tx.2.1 11)]) (rest := []) C0 (c_X12_passes l (by decide) h) (cwV 1 C0.2.2.2.2 (tbV mM2_7_218 ⟨mM2_7_220, mpM2_3_6, mM2_1_11, mM2_7_221⟩) rfl rfl rfl (by decide +kernel) ⟨Nat.le_of_ble_eq_true rfl, Nat.le_of_ble_eq_true rfl⟩) (rcM_0 hR Nat.zero_lt_one) hR hT hS rfl hl.1 rfl (Nat.le_of_ble_eq_true rfl) dX12_readPlan_121 ⟨Nat.zero_le _, Nat.zero_le _⟩ (fun r21 S22 H locs h hR hS => ?_)
      refine lv_if_eq (tgt := 131) hx hb dX12_readPlan_124 (by decide) (fun c23 => ?_) (fun c23 => ?_)
      · have h := h.1 c23
        refine lv_iconst (v := 0) hx hb dX12_readPlan_131 (by decide) ?_
        exact Bw_X12_readPlan_132 C0 hr hlk hT a1 a2 a3 a4 a5 t0 0 S22 _ _ _ h hR hS (lv_sub hl [1, 2, 3, 4, 5, 6, 0] rfl)
      · have h := h.2 c23
        refine lv_iconst (v := 2) hx hb dX12_readPlan_127 (by decide) ?_
        refine lv_goto (tgt := 132) hx hb dX12_readPlan_128 (by decide) ?_
        exact Bw_X12_readPlan_132 C0 hr hlk hT a1 a2 a3 a4 a5 t0 2 S22 _ _ _ h hR hS (lv_sub hl [1, 2, 3, 4, 5, 6, 0] rfl)
    · have h := h.2 c20
      refine lv_iconst (v := 1) hx hb dX12_readPlan_114 (by decide) ?_
      refine lv_goto (tgt := 132) hx hb dX12_readPlan_115 (by decide) ?_
      exact Bw_X12_readPlan_132 C0 hr hlk hT a1 a2 a3 a4 a5 t0 1 S19 _ _ _ h hR hS (lv_sub hl [1, 2, 3, 4, 5, 6, 0] rfl)
  · have h := h.2 c17
    refine lv_iconst (v := 0) hx hb dX12_readPlan_103 (by decide) ?_
    exact rtM_z C0 hr hlk hR hS (by decide) h dX12_readPlan_104
def B_X12_readPlan_76 (a1 : Int32) (a2 : Int32) (a3 : Int32) (a4 : Int32) (t0 : Int32) (S : sSt) (k : Int32 → sSt → Prop) : Prop := ((0 ≤ t0 → F_X12_behind 3 1 9 S (fun r15 S16 => B_X12_readPlan_96 a1 a2 a3 a4 t0 r15 S16 k)) ∧ (¬ 0 ≤ t0 → B_X12_readPlan_96 a1 a2 a3 a4 t0 (-1) S k))
set_option maxHeartbeats 4000000 in
set_option maxRecDepth 100000 in
theorem Bw_X12_readPlan_76 {p : Program} {l : Launch} {e : Env} {s : State} {m : MethodId} {args : Array Value} {below : List Frame} {meth : Method} {c : Code} {D : va_G} {cy : Nat → ClassId} {b z : Nat} {tx : TX} (C0 : CallFix p m c cX12_readPlan 9 s args TB RX12) (hr : meth.sig.returnType = (some .boolean)) (hlk : meth.locks = false) (hT : TxR tx s) {k : Int32 → sSt → Prop} : ∀ (a1 : Int32) (a2 : Int32) (a3 : Int32) (a4 : Int32) (t0 : Int32) (S : sSt) (H : Heap) (locs : List Loc) (ls : Array Slot) , B_X12_readPlan_76 a1 a2 a3 a4 t0 S k → RelM D cy b z tx S s H → va_S (gA b 12 z) s.heap H locs → lv_has ls 9 [(0, .ref (b + adM 0 0)), (1, .int a1), (2, .int a2), (3, .int a3), (4, .int a4)] → W p l e rm_X12_readPlan s m args below meth c H locs 0 0 (MQ below (PiM D cy b z tx k) args s 0 0 (gA b 12 z)) (F0 m 76 ls [.int t0]) := by
  intro a1 a2 a3 a4 t0 S H locs ls h hR hS hl
  have hx := C0.1
  have hb := C0.2.1
  unfold B_X12_readPlan_76 at h
  refine lv_istore (lv' := [(5, .int t0), (0, .ref (b + adM 0 0)), (1, .int a1), (2, .int a2), (3, .int a3), (4, .int a4)]) hx hb dX12_readPlan_76 hl (by decide) rfl (fun ls hl => ?_)
  refine lv_iload hx hb dX12_readPlan_78 (lv_at hl 0 rfl) ?_
  refine lv_if_ge (tgt := 87) hx hb dX12_readPlan_80 (by decide) (fun c14 => ?_) (fun c14 => ?_)
  · have h := h.1 c14
    refine lv_aload_n hx hb dX12_readPlan_87 rfl (lv_at hl 1 rfl) ?_
    refine va_ldcS hx hb C0.2.2.2.1 (tr_35 hT) dX12_readPlan_88 ?_
    refine lv_iconst (v := 1) hx hb dX12_readPlan_90 (by decide) ?_
    refine lv_bipush (v := 9) hx hb dX12_readPlan_91 (by decide) ?_
    refine qM_Vi (As := [.ref (tx.2.1 3), .int 1, .int 9]) (rest := []) C0 (c_X12_behind l (by decide) h) (cwV 3 C0.2.2.2.2 (tbV mM2_7_207 ⟨mM2_7_209, mpM2_3_4, mM2_1_11, mM2_7_210⟩) rfl rfl rfl (by decide +kernel) ⟨Nat.le_of_ble_eq_true rfl, Nat.le_of_ble_eq_true rfl⟩) (rcM_0 hR Nat.zero_lt_one) hR hT hS rfl hl.1 rfl (Nat.le_of_ble_eq_true rfl) dX12_readPlan_93 ⟨Nat.zero_le _, Nat.zero_le _⟩ (fun r15 S16 H locs h hR hS => ?_)
    exact Bw_X12_readPlan_96 C0 hr hlk hT a1 a2 a3 a4 t0 r15 S16 _ _ _ h hR hS (lv_sub hl [1, 2, 3, 4, 5, 0] rfl)
  · have h := h.2 c14
    refine lv_iconst (v := (-1)) hx hb dX12_readPlan_83 (by decide) ?_
    refine lv_goto (tgt := 96) hx hb dX12_readPlan_84 (by decide) ?_
    exact Bw_X12_readPlan_96 C0 hr hlk hT a1 a2 a3 a4 t0 (-1) S _ _ _ h hR hS (lv_sub hl [1, 2, 3, 4, 5, 0] rfl)
def B_X12_readPlan_56 (a1 : Int32) (a2 : Int32) (a3 : Int32) (t0 : Int32) (S : sSt) (k : Int32 → sSt → Prop) : Prop := ((0 ≤ t0 → F_X12_behind 2 0 9 S (fun r12 S13 => B_X12_readPlan_76 a1 a2 a3 t0 r12 S13 k)) ∧ (¬ 0 ≤ t0 → B_X12_readPlan_76 a1 a2 a3 t0 (-1) S k))
set_option maxHeartbeats 4000000 in
set_option maxRecDepth 100000 in
theorem Bw_X12_readPlan_56 {p : Program} {l : Launch} {e : Env} {s : State} {m : MethodId} {args : Array Value} {below : List Frame} {meth : Method} {c : Code} {D : va_G} {cy : Nat → ClassId} {b z : Nat} {tx : TX} (C0 : CallFix p m c cX12_readPlan 9 s args TB RX12) (hr : meth.sig.returnType = (some .boolean)) (hlk : meth.locks = false) (hT : TxR tx s) {k : Int32 → sSt → Prop} : ∀ (a1 : Int32) (a2 : Int32) (a3 : Int32) (t0 : Int32) (S : sSt) (H : Heap) (locs : List Loc) (ls : Array Slot) , B_X12_readPlan_56 a1 a2 a3 t0 S k → RelM D cy b z tx S s H → va_S (gA b 12 z) s.heap H locs → lv_has ls 9 [(0, .ref (b + adM 0 0)), (1, .int a1), (2, .int a2), (3, .int a3)] → W p l e rm_X12_readPlan s m args below meth c H locs 0 0 (MQ below (PiM D cy b z tx k) args s 0 0 (gA b 12 z)) (F0 m 56 ls [.int t0]) := by
  intro a1 a2 a3 t0 S H locs ls h hR hS hl
  have hx := C0.1
  have hb := C0.2.1
  unfold B_X12_readPlan_56 at h
  refine lv_istore (lv' := [(4, .int t0), (0, .ref (b + adM 0 0)), (1, .int a1), (2, .int a2), (3, .int a3)]) hx hb dX12_readPlan_56 hl (by decide) rfl (fun ls hl => ?_)
  refine lv_iload hx hb dX12_readPlan_58 (lv_at hl 0 rfl) ?_
  refine lv_if_ge (tgt := 67) hx hb dX12_readPlan_60 (by decide) (fun c11 => ?_) (fun c11 => ?_)
  · have h := h.1 c11
    refine lv_aload_n hx hb dX12_readPlan_67 rfl (lv_at hl 1 rfl) ?_
    refine va_ldcS hx hb C0.2.2.2.1 (tr_34 hT) dX12_readPlan_68 ?_
    refine lv_iconst (v := 0) hx hb dX12_readPlan_70 (by decide) ?_
    refine lv_bipush (v := 9) hx hb dX12_readPlan_71 (by decide) ?_
    refine qM_Vi (As := [.ref (tx.2.1 2), .int 0, .int 9]) (rest := []) C0 (c_X12_behind l (by decide) h) (cwV 3 C0.2.2.2.2 (tbV mM2_7_207 ⟨mM2_7_209, mpM2_3_4, mM2_1_11, mM2_7_210⟩) rfl rfl rfl (by decide +kernel) ⟨Nat.le_of_ble_eq_true rfl, Nat.le_of_ble_eq_true rfl⟩) (rcM_0 hR Nat.zero_lt_one) hR hT hS rfl hl.1 rfl (Nat.le_of_ble_eq_true rfl) dX12_readPlan_73 ⟨Nat.zero_le _, Nat.zero_le _⟩ (fun r12 S13 H locs h hR hS => ?_)
    exact Bw_X12_readPlan_76 C0 hr hlk hT a1 a2 a3 t0 r12 S13 _ _ _ h hR hS (lv_sub hl [1, 2, 3, 4, 0] rfl)
  · have h := h.2 c11
    refine lv_iconst (v := (-1)) hx hb dX12_readPlan_63 (by decide) ?_
    refine lv_goto (tgt := 76) hx hb dX12_readPlan_64 (by decide) ?_
    exact Bw_X12_readPlan_76 C0 hr hlk hT a1 a2 a3 t0 (-1) S _ _ _ h hR hS (lv_sub hl [1, 2, 3, 4, 0] rfl)
def B_X12_readPlan_39 (a1 : Int32) (a2 : Int32) (t0 : Int32) (S : sSt) (k : Int32 → sSt → Prop) : Prop := ((0 ≤ t0 → F_X12_behind 1 0 5 S (fun r9 S10 => B_X12_readPlan_56 a1 a2 t0 r9 S10 k)) ∧ (¬ 0 ≤ t0 → B_X12_readPlan_56 a1 a2 t0 (-1) S k))
set_option maxHeartbeats 4000000 in
set_option maxRecDepth 100000 in
theorem Bw_X12_readPlan_39 {p : Program} {l : Launch} {e : Env} {s : State} {m : MethodId} {args : Array Value} {below : List Frame} {meth : Method} {c : Code} {D : va_G} {cy : Nat → ClassId} {b z : Nat} {tx : TX} (C0 : CallFix p m c cX12_readPlan 9 s args TB RX12) (hr : meth.sig.returnType = (some .boolean)) (hlk : meth.locks = false) (hT : TxR tx s) {k : Int32 → sSt → Prop} : ∀ (a1 : Int32) (a2 : Int32) (t0 : Int32) (S : sSt) (H : Heap) (locs : List Loc) (ls : Array Slot) , B_X12_readPlan_39 a1 a2 t0 S k → RelM D cy b z tx S s H → va_S (gA b 12 z) s.heap H locs → lv_has ls 9 [(0, .ref (b + adM 0 0)), (1, .int a1), (2, .int a2)] → W p l e rm_X12_readPlan s m args below meth c H locs 0 0 (MQ below (PiM D cy b z tx k) args s 0 0 (gA b 12 z)) (F0 m 39 ls [.int t0]) := by
  intro a1 a2 t0 S H locs ls h hR hS hl
  have hx := C0.1
  have hb := C0.2.1
  unfold B_X12_readPlan_39 at h
  refine lv_istore_n (lv' := [(3, .int t0), (0, .ref (b + adM 0 0)), (1, .int a1), (2, .int a2)]) hx hb dX12_readPlan_39 rfl hl (by decide) rfl (fun ls hl => ?_)
  refine lv_iload_n hx hb dX12_readPlan_40 rfl (lv_at hl 0 rfl) ?_
  refine lv_if_ge (tgt := 48) hx hb dX12_readPlan_41 (by decide) (fun c8 => ?_) (fun c8 => ?_)
  · have h := h.1 c8
    refine lv_aload_n hx hb dX12_readPlan_48 rfl (lv_at hl 1 rfl) ?_
    refine va_ldcS hx hb C0.2.2.2.1 (tr_33 hT) dX12_readPlan_49 ?_
    refine lv_iconst (v := 0) hx hb dX12_readPlan_51 (by decide) ?_
    refine lv_iconst (v := 5) hx hb dX12_readPlan_52 (by decide) ?_
    refine qM_Vi (As := [.ref (tx.2.1 1), .int 0, .int 5]) (rest := []) C0 (c_X12_behind l (by decide) h) (cwV 3 C0.2.2.2.2 (tbV mM2_7_207 ⟨mM2_7_209, mpM2_3_4, mM2_1_11, mM2_7_210⟩) rfl rfl rfl (by decide +kernel) ⟨Nat.le_of_ble_eq_true rfl, Nat.le_of_ble_eq_true rfl⟩) (rcM_0 hR Nat.zero_lt_one) hR hT hS rfl hl.1 rfl (Nat.le_of_ble_eq_true rfl) dX12_readPlan_53 ⟨Nat.zero_le _, Nat.zero_le _⟩ (fun r9 S10 H locs h hR hS => ?_)
    exact Bw_X12_readPlan_56 C0 hr hlk hT a1 a2 t0 r9 S10 _ _ _ h hR hS (lv_sub hl [1, 2, 3, 0] rfl)
  · have h := h.2 c8
    refine lv_iconst (v := (-1)) hx hb dX12_readPlan_44 (by decide) ?_
    refine lv_goto (tgt := 56) hx hb dX12_readPlan_45 (by decide) ?_
    exact Bw_X12_readPlan_56 C0 hr hlk hT a1 a2 t0 (-1) S _ _ _ h hR hS (lv_sub hl [1, 2, 3, 0] rfl)
def F_X12_readPlan (S : sSt) (k : Int32 → sSt → Prop) : Prop := ∀ x1 : Int32, x1 = (S.1 1 0 1) → ((¬ x1 = 4 → F_X12_number 1 60 S (fun r3 S4 => ((0 ≤ r3 → F_X12_behind 9 0 59 S4 (fun r6 S7 => B_X12_readPlan_39 x1 r3 r6 S7 k)) ∧ (¬ 0 ≤ r3 → B_X12_readPlan_39 x1 r3 (-1) S4 k)))) ∧ (x1 = 4 → k 0 S))
set_option maxHeartbeats 4000000 in
set_option maxRecDepth 100000 in
theorem c_X12_readPlan (l : Launch) {D : va_G} {cy : Nat → ClassId} {b z : Nat} {tx : TX} {S : sSt} {k : Int32 → sSt → Prop} (h : F_X12_readPlan S k) : Met l yX12_readPlan (Cond.code yX12_readPlan cX12_readPlan 9 (some .boolean) :: TB) rm_X12_readPlan (va_Pc [.ref (b + adM 0 0)] (fun U => RelM D cy b z tx S U U.heap ∧ TxR tx U)) (PiM D cy b z tx k) 0 0 (gA b 12 z) := by
  refine Met.ofW (cc := cX12_readPlan) (maxL := 9) (ret := (some .boolean)) (by decide) rfl ?_
  intro p e s m args below meth c s₁ B hml hv
  obtain ⟨rfl, hR, hT⟩ := hv
  have C0 : CallFix p m c cX12_readPlan 9 s _ TB RX12 := ⟨B.exec, B.bytes, hml, findClass_of_methodNamed B.named, fun w hw => atoms_spec B.pre w (List.mem_cons_of_mem _ hw)⟩
  have hr := B.returns
  have hlk := B.notSynchronized
  have hx := C0.1
  have hb := C0.2.1
  have hS : va_S (gA b 12 z) s.heap s.heap [] := va_S.rf
  have hl := lv_entry ([.ref (b + adM 0 0)]) (n := 9) (Nat.le_of_ble_eq_true rfl)
  rw [lg_entry_eq]
  generalize (lg_sl ([.ref (b + adM 0 0)]) ++ List.replicate (9 - (lg_sl ([.ref (b + adM 0 0)])).length) Slot.unset).toArray = ls at hl ⊢
  have hl : lv_has ls 9 [(0, .ref (b + adM 0 0))] := hl
  show W p l e rm_X12_readPlan s m _ below meth c s.heap [] 0 0 (MQ below (PiM D cy b z tx k) _ s 0 0 (gA b 12 z)) _
  unfold F_X12_readPlan at h
  refine lv_aload_n hx hb dX12_readPlan_0 rfl (lv_at hl 0 rfl) ?_
  refine gM_0_2 C0 hR Nat.zero_lt_one tbs_wsX120 mM2_7_79 dX12_readPlan_1 ?_
  refine lv_iconst (v := 1) hx hb dX12_readPlan_4 (by decide) ?_
  refine lM_1 C0 hR Nat.zero_lt_one (by decide) rfl dX12_readPlan_5 ?_
  refine lv_topi (fun x1 ex1 => ?_)
  have h := h x1 ex1
  refine lv_istore_n (lv' := [(1, .int x1), (0, .ref (b + adM 0 0))]) hx hb dX12_readPlan_6 rfl hl (by decide) rfl (fun ls hl => ?_)
  refine lv_iload_n hx hb dX12_readPlan_7 rfl (lv_at hl 0 rfl) ?_
  refine lv_iconst (v := 4) hx hb dX12_readPlan_8 (by decide) ?_
  refine lv_icmp_ne (tgt := 14) hx hb dX12_readPlan_9 (by decide) (fun c2 => ?_) (fun c2 => ?_)
  · have h := h.1 c2
    refine lv_aload_n hx hb dX12_readPlan_14 rfl (lv_at hl 1 rfl) ?_
    refine lv_iconst (v := 1) hx hb dX12_readPlan_15 (by decide) ?_
    refine lv_bipush (v := 60) hx hb dX12_readPlan_16 (by decide) ?_
    refine qM_Vi (As := [.int 1, .int 60]) (rest := []) C0 (c_X12_number l h) (cwV 2 C0.2.2.2.2 (tbV mM2_7_211 ⟨mM2_7_213, mpM2_3_5, mM2_1_11, mM2_7_214⟩) rfl rfl rfl (by decide +kernel) ⟨Nat.le_of_ble_eq_true rfl, Nat.le_of_ble_eq_true rfl⟩) (rcM_0 hR Nat.zero_lt_one) hR hT hS rfl hl.1 rfl (Nat.le_of_ble_eq_true rfl) dX12_readPlan_18 ⟨Nat.zero_le _, Nat.zero_le _⟩ (fun r3 S4 H locs h hR hS => ?_)
    refine lv_istore_n (lv' := [(2, .int r3), (1, .int x1), (0, .ref (b + adM 0 0))]) hx hb dX12_readPlan_21 rfl hl (by decide) rfl (fun ls hl => ?_)
    refine lv_iload_n hx hb dX12_readPlan_22 rfl (lv_at hl 0 rfl) ?_
    refine lv_if_ge (tgt := 30) hx hb dX12_readPlan_23 (by decide) (fun c5 => ?_) (fun c5 => ?_)
    · have h := h.1 c5
      refine lv_aload_n hx hb dX12_readPlan_30 rfl (lv_at hl 2 rfl) ?_
      refine va_ldcS hx hb C0.2.2.2.1 (tr_42 hT) dX12_readPlan_31 ?_
      refine lv_iconst (v := 0) hx hb dX12_readPlan_33 (by decide) ?_
      refine lv_bipush (v := 59) hx hb dX12_readPlan_34 (by decide) ?_
      refine qM_Vi (As := [.ref (tx.2.1 9), .int 0, .int 59]) (rest := []) C0 (c_X12_behind l (by decide) h) (cwV 3 C0.2.2.2.2 (tbV mM2_7_207 ⟨mM2_7_209, mpM2_3_4, mM2_1_11, mM2_7_210⟩) rfl rfl rfl (by decide +kernel) ⟨Nat.le_of_ble_eq_true rfl, Nat.le_of_ble_eq_true rfl⟩) (rcM_0 hR Nat.zero_lt_one) hR hT hS rfl hl.1 rfl (Nat.le_of_ble_eq_true rfl) dX12_readPlan_36 ⟨Nat.zero_le _, Nat.zero_le _⟩ (fun r6 S7 H locs h hR hS => ?_)
      exact Bw_X12_readPlan_39 C0 hr hlk hT x1 r3 r6 S7 _ _ _ h hR hS (lv_sub hl [2, 1, 0] rfl)
    · have h := h.2 c5
      refine lv_iconst (v := (-1)) hx hb dX12_readPlan_26 (by decide) ?_
      refine lv_goto (tgt := 39) hx hb dX12_readPlan_27 (by decide) ?_
      exact Bw_X12_readPlan_39 C0 hr hlk hT x1 r3 (-1) S4 _ _ _ h hR hS (lv_sub hl [2, 1, 0] rfl)
  · have h := h.2 c2
    refine lv_iconst (v := 0) hx hb dX12_readPlan_12 (by decide) ?_
    exact rtM_z C0 hr hlk hR hS (by decide) h dX12_readPlan_13

def rm_X12_readTableLine : Room := { frames := 7, cells := 0, slots := 0, locals := 159 }
def F_X12_readTableLine (S : sSt) (k : Int32 → sSt → Prop) : Prop := F_X12_isWord 0 S (fun r1 S2 => ((r1 = 0 → F_X12_isWord 5 S2 (fun r4 S5 => ((r4 = 0 → F_X12_isWord 12 S5 (fun r7 S8 => ((r7 = 0 → F_X12_isWord 8 S8 (fun r10 S11 => ((r10 = 0 → F_X12_isWord 13 S11 (fun r13 S14 => ((r13 = 0 → F_X12_isWord 14 S14 (fun r16 S17 => ((r16 = 0 → F_X12_isWord 15 S17 (fun r19 S20 => ((r19 = 0 → F_X12_isWord 16 S20 (fun r22 S23 => ((r22 = 0 → F_X12_isWord 17 S23 (fun r25 S26 => ((r25 = 0 → k 0 S26) ∧ (¬ r25 = 0 → F_X12_readNumber 13 1 9 S26 (fun r28 S29 => ((r28 = 0 → k 0 S29) ∧ (¬ r28 = 0 → k 1 S29))))))) ∧ (¬ r22 = 0 → F_X12_readNumber 12 0 9 S23 (fun r31 S32 => bz r31 (k r31 S32)))))) ∧ (¬ r19 = 0 → F_X12_readNumber 11 1 99 S20 (fun r33 S34 => bz r33 (k r33 S34)))))) ∧ (¬ r16 = 0 → F_X12_readNumber 10 1 9 S17 (fun r35 S36 => bz r35 (k r35 S36)))))) ∧ (¬ r13 = 0 → F_X12_readNumber 9 1 60 S14 (fun r37 S38 => bz r37 (k r37 S38)))))) ∧ (¬ r10 = 0 → F_X12_readPlan S11 (fun r39 S40 => bz r39 (k r39 S40)))))) ∧ (¬ r7 = 0 → F_X12_readParallel S8 (fun r41 S42 => bz r41 (k r41 S42)))))) ∧ (¬ r4 = 0 → F_X12_readSession S5 (fun r43 S44 => bz r43 (k r43 S44)))))) ∧ (¬ r1 = 0 → F_X12_readJob S2 (fun r45 S46 => bz r45 (k r45 S46)))))
set_option maxHeartbeats 4000000 in
set_option maxRecDepth 100000 in
theorem c_X12_readTableLine (l : Launch) {D : va_G} {cy : Nat → ClassId} {b z : Nat} {tx : TX} {S : sSt} {k : Int32 → sSt → Prop} (h : F_X12_readTableLine S k) : Met l yX12_readTableLine (Cond.code yX12_readTableLine cX12_readTableLine 1 (some .boolean) :: TB) rm_X12_readTableLine (va_Pc [.ref (b + adM 0 0)] (fun U => RelM D cy b z tx S U U.heap ∧ TxR tx U)) (PiM D cy b z tx k) 0 0 (gA b 12 z) := by
  refine Met.ofW (cc := cX12_readTableLine) (maxL := 1) (ret := (some .boolean)) (by decide) rfl ?_
  intro p e s m args below meth c s₁ B hml hv
  obtain ⟨rfl, hR, hT⟩ := hv
  have C0 : CallFix p m c cX12_readTableLine 1 s _ TB RX12 := ⟨B.exec, B.bytes, hml, findClass_of_methodNamed B.named, fun w hw => atoms_spec B.pre w (List.mem_cons_of_mem _ hw)⟩
  have hr := B.returns
  have hlk := B.notSynchronized
  have hx := C0.1
  have hb := C0.2.1
  have hS : va_S (gA b 12 z) s.heap s.heap [] := va_S.rf
  have hl := lv_entry ([.ref (b + adM 0 0)]) (n := 1) (Nat.le_of_ble_eq_true rfl)
  rw [lg_entry_eq]
  generalize (lg_sl ([.ref (b + adM 0 0)]) ++ List.replicate (1 - (lg_sl ([.ref (b + adM 0 0)])).length) Slot.unset).toArray = ls at hl ⊢
  have hl : lv_has ls 1 [(0, .ref (b + adM 0 0))] := hl
  show W p l e rm_X12_readTableLine s m _ below meth c s.heap [] 0 0 (MQ below (PiM D cy b z tx k) _ s 0 0 (gA b 12 z)) _
  unfold F_X12_readTableLine at h
  refine lv_aload_n hx hb dX12_readTableLine_0 rfl (lv_at hl 0 rfl) ?_
  refine va_ldcS hx hb C0.2.2.2.1 (tr_32 hT) dX12_readTableLine_1 ?_
  refine qM_Vi (As := [.ref (tx.2.1 0)]) (rest := []) C0 (c_X12_isWord l (by decide) h) (cwV 1 C0.2.2.2.2 (tbV mM2_7_188 ⟨mM2_7_190, mpM2_3_0, mM2_1_11, mM2_7_191⟩) rfl rfl rfl (by decide +kernel) ⟨Nat.le_of_ble_eq_true rfl, Nat.le_of_ble_eq_true rfl⟩) (rcM_0 hR Nat.zero_lt_one) hR hT hS rfl hl.1 rfl (Nat.le_of_ble_eq_true rfl) dX12_readTableLine_3 ⟨Nat.zero_le _, Nat.zero_le _⟩ (fun r1 S2 H locs h hR hS => ?_)
  refine lv_if_eq (tgt := 14) hx hb dX12_readTableLine_6 (by decide) (fun c3 => ?_) (fun c3 => ?_)
  · have h := h.1 c3
    refine lv_aload_n hx hb dX12_readTableLine_14 rfl (lv_at hl 0 rfl) ?_
    refine va_ldcS hx hb C0.2.2.2.1 (tr_37 hT) dX12_readTableLine_15 ?_
    refine qM_Vi (As := [.ref (tx.2.1 5)]) (rest := []) C0 (c_X12_isWord l (by decide) h) (cwV 1 C0.2.2.2.2 (tbV mM2_7_188 ⟨mM2_7_190, mpM2_3_0, mM2_1_11, mM2_7_191⟩) rfl rfl rfl (by decide +kernel) ⟨Nat.le_of_ble_eq_true rfl, Nat.le_of_ble_eq_true rfl⟩) (rcM_0 hR Nat.zero_lt_one) hR hT hS rfl hl.1 rfl (Nat.le_of_ble_eq_true rfl) dX12_readTableLine_17 ⟨Nat.zero_le _, Nat.zero_le _⟩ (fun r4 S5 H locs h hR hS => ?_)
    refine lv_if_eq (tgt := 28) hx hb dX12_readTableLine_20 (by decide) (fun c6 => ?_) (fun c6 => ?_)
    · have h := h.1 c6
      refine lv_aload_n hx hb dX12_readTableLine_28 rfl (lv_at hl 0 rfl) ?_
      refine va_ldcS hx hb C0.2.2.2.1 (tr_40 hT) dX12_readTableLine_29 ?_
      refine qM_Vi (As := [.ref (tx.2.1 12)]) (rest := []) C0 (c_X12_isWord l (by decide) h) (cwV 1 C0.2.2.2.2 (tbV mM2_7_188 ⟨mM2_7_190, mpM2_3_0, mM2_1_11, mM2_7_191⟩) rfl rfl rfl (by decide +kernel) ⟨Nat.le_of_ble_eq_true rfl, Nat.le_of_ble_eq_true rfl⟩) (rcM_0 hR Nat.zero_lt_one) hR hT hS rfl hl.1 rfl (Nat.le_of_ble_eq_true rfl) dX12_readTableLine_31 ⟨Nat.zero_le _, Nat.zero_le _⟩ (fun r7 S8 H locs h hR hS => ?_)
      refine lv_if_eq (tgt := 42) hx hb dX12_readTableLine_34 (by decide) (fun c9 => ?_) (fun c9 => ?_)
      · have h := h.1 c9
        refine lv_aload_n hx hb dX12_readTableLine_42 rfl (lv_at hl 0 rfl) ?_
        refine va_ldcS hx hb C0.2.2.2.1 (tr_41 hT) dX12_readTableLine_43 ?_
        refine qM_Vi (As := [.ref (tx.2.1 8)]) (rest := []) C0 (c_X12_isWord l (by decide) h) (cwV 1 C0.2.2.2.2 (tbV mM2_7_188 ⟨mM2_7_190, mpM2_3_0, mM2_1_11, mM2_7_191⟩) rfl rfl rfl (by decide +kernel) ⟨Nat.le_of_ble_eq_true rfl, Nat.le_of_ble_eq_true rfl⟩) (rcM_0 hR Nat.zero_lt_one) hR hT hS rfl hl.1 rfl (Nat.le_of_ble_eq_true rfl) dX12_readTableLine_45 ⟨Nat.zero_le _, Nat.zero_le _⟩ (fun r10 S11 H locs h hR hS => ?_)
        refine lv_if_eq (tgt := 56) hx hb dX12_readTableLine_48 (by decide) (fun c12 => ?_) (fun c12 => ?_)
        · have h := h.1 c12
          refine lv_aload_n hx hb dX12_readTableLine_56 rfl (lv_at hl 0 rfl) ?_
          refine va_ldcS hx hb C0.2.2.2.1 (tr_45 hT) dX12_readTableLine_57 ?_
          refine qM_Vi (As := [.ref (tx.2.1 13)]) (rest := []) C0 (c_X12_isWord l (by decide) h) (cwV 1 C0.2.2.2.2 (tbV mM2_7_188 ⟨mM2_7_190, mpM2_3_0, mM2_1_11, mM2_7_191⟩) rfl rfl rfl (by decide +kernel) ⟨Nat.le_of_ble_eq_true rfl, Nat.le_of_ble_eq_true rfl⟩) (rcM_0 hR Nat.zero_lt_one) hR hT hS rfl hl.1 rfl (Nat.le_of_ble_eq_true rfl) dX12_readTableLine_59 ⟨Nat.zero_le _, Nat.zero_le _⟩ (fun r13 S14 H locs h hR hS => ?_)
          refine lv_if_eq (tgt := 75) hx hb dX12_readTableLine_62 (by decide) (fun c15 => ?_) (fun c15 => ?_)
          · have h := h.1 c15
            refine lv_aload_n hx hb dX12_readTableLine_75 rfl (lv_at hl 0 rfl) ?_
            refine va_ldcS hx hb C0.2.2.2.1 (tr_46 hT) dX12_readTableLine_76 ?_
            refine qM_Vi (As := [.ref (tx.2.1 14)]) (rest := []) C0 (c_X12_isWord l (by decide) h) (cwV 1 C0.2.2.2.2 (tbV mM2_7_188 ⟨mM2_7_190, mpM2_3_0, mM2_1_11, mM2_7_191⟩) rfl rfl rfl (by decide +kernel) ⟨Nat.le_of_ble_eq_true rfl, Nat.le_of_ble_eq_true rfl⟩) (rcM_0 hR Nat.zero_lt_one) hR hT hS rfl hl.1 rfl (Nat.le_of_ble_eq_true rfl) dX12_readTableLine_78 ⟨Nat.zero_le _, Nat.zero_le _⟩ (fun r16 S17 H locs h hR hS => ?_)
            refine lv_if_eq (tgt := 94) hx hb dX12_readTableLine_81 (by decide) (fun c18 => ?_) (fun c18 => ?_)
            · have h := h.1 c18
              refine lv_aload_n hx hb dX12_readTableLine_94 rfl (lv_at hl 0 rfl) ?_
              refine va_ldcS hx hb C0.2.2.2.1 (tr_47 hT) dX12_readTableLine_95 ?_
              refine qM_Vi (As := [.ref (tx.2.1 15)]) (rest := []) C0 (c_X12_isWord l (by decide) h) (cwV 1 C0.2.2.2.2 (tbV mM2_7_188 ⟨mM2_7_190, mpM2_3_0, mM2_1_11, mM2_7_191⟩) rfl rfl rfl (by decide +kernel) ⟨Nat.le_of_ble_eq_true rfl, Nat.le_of_ble_eq_true rfl⟩) (rcM_0 hR Nat.zero_lt_one) hR hT hS rfl hl.1 rfl (Nat.le_of_ble_eq_true rfl) dX12_readTableLine_97 ⟨Nat.zero_le _, Nat.zero_le _⟩ (fun r19 S20 H locs h hR hS => ?_)
              refine lv_if_eq (tgt := 113) hx hb dX12_readTableLine_100 (by decide) (fun c21 => ?_) (fun c21 => ?_)
              · have h := h.1 c21
                refine lv_aload_n hx hb dX12_readTableLine_113 rfl (lv_at hl 0 rfl) ?_
                refine va_ldcS hx hb C0.2.2.2.1 (tr_48 hT) dX12_readTableLine_114 ?_
                refine qM_Vi (As := [.ref (tx.2.1 16)]) (rest := []) C0 (c_X12_isWord l (by decide) h) (cwV 1 C0.2.2.2.2 (tbV mM2_7_188 ⟨mM2_7_190, mpM2_3_0, mM2_1_11, mM2_7_191⟩) rfl rfl rfl (by decide +kernel) ⟨Nat.le_of_ble_eq_true rfl, Nat.le_of_ble_eq_true rfl⟩) (rcM_0 hR Nat.zero_lt_one) hR hT hS rfl hl.1 rfl (Nat.le_of_ble_eq_true rfl) dX12_readTableLine_116 ⟨Nat.zero_le _, Nat.zero_le _⟩ (fun r22 S23 H locs h hR hS => ?_)
                refine lv_if_eq (tgt := 132) hx hb dX12_readTableLine_119 (by decide) (fun c24 => ?_) (fun c24 => ?_)
                · have h := h.1 c24
                  refine lv_aload_n hx hb dX12_readTableLine_132 rfl (lv_at hl 0 rfl) ?_
                  refine va_ldcS hx hb C0.2.2.2.1 (tr_49 hT) dX12_readTableLine_133 ?_
                  refine qM_Vi (As := [.ref (tx.2.1 17)]) (rest := []) C0 (c_X12_isWord l (by decide) h) (cwV 1 C0.2.2.2.2 (tbV mM2_7_188 ⟨mM2_7_190, mpM2_3_0, mM2_1_11, mM2_7_191⟩) rfl rfl rfl (by decide +kernel) ⟨Nat.le_of_ble_eq_true rfl, Nat.le_of_ble_eq_true rfl⟩) (rcM_0 hR Nat.zero_lt_one) hR hT hS rfl hl.1 rfl (Nat.le_of_ble_eq_true rfl) dX12_readTableLine_135 ⟨Nat.zero_le _, Nat.zero_le _⟩ (fun r25 S26 H locs h hR hS => ?_)
                  refine lv_if_eq (tgt := 157) hx hb dX12_readTableLine_138 (by decide) (fun c27 => ?_) (fun c27 => ?_)
                  · have h := h.1 c27
                    refine lv_iconst (v := 0) hx hb dX12_readTableLine_157 (by decide) ?_
                    exact rtM_z C0 hr hlk hR hS (by decide) h dX12_readTableLine_158
                  · have h := h.2 c27
                    refine lv_aload_n hx hb dX12_readTableLine_141 rfl (lv_at hl 0 rfl) ?_
                    refine lv_bipush (v := 13) hx hb dX12_readTableLine_142 (by decide) ?_
                    refine lv_iconst (v := 1) hx hb dX12_readTableLine_144 (by decide) ?_
                    refine lv_bipush (v := 9) hx hb dX12_readTableLine_145 (by decide) ?_
                    refine qM_Vi (As := [.int 13, .int 1, .int 9]) (rest := []) C0 (c_X12_readNumber l h) (cwV 3 C0.2.2.2.2 (tbV mM2_8_1 ⟨mM2_8_3, mpM2_3_10, mM2_1_11, mM2_8_4⟩) rfl rfl rfl (by decide +kernel) ⟨Nat.le_of_ble_eq_true rfl, Nat.le_of_ble_eq_true rfl⟩) (rcM_0 hR Nat.zero_lt_one) hR hT hS rfl hl.1 rfl (Nat.le_of_ble_eq_true rfl) dX12_readTableLine_147 ⟨Nat.zero_le _, Nat.zero_le _⟩ (fun r28 S29 H locs h hR hS => ?_)
                    refine lv_if_eq (tgt := 157) hx hb dX12_readTableLine_150 (by decide) (fun c30 => ?_) (fun c30 => ?_)
                    · have h := h.1 c30
                      refine lv_iconst (v := 0) hx hb dX12_readTableLine_157 (by decide) ?_
                      exact rtM_z C0 hr hlk hR hS (by decide) h dX12_readTableLine_158
                    · have h := h.2 c30
                      refine lv_iconst (v := 1) hx hb dX12_readTableLine_153 (by decide) ?_
                      refine lv_goto (tgt := 158) hx hb dX12_readTableLine_154 (by decide) ?_
                      exact rtM_z C0 hr hlk hR hS (by decide) h dX12_readTableLine_158
                · have h := h.2 c24
                  refine lv_aload_n hx hb dX12_readTableLine_122 rfl (lv_at hl 0 rfl) ?_
                  refine lv_bipush (v := 12) hx hb dX12_readTableLine_123 (by decide) ?_
                  refine lv_iconst (v := 0) hx hb dX12_readTableLine_125 (by decide) ?_
                  refine lv_bipush (v := 9) hx hb dX12_readTableLine_126 (by decide) ?_
                  refine qM_Vi (As := [.int 12, .int 0, .int 9]) (rest := []) C0 (c_X12_readNumber l h) (cwV 3 C0.2.2.2.2 (tbV mM2_8_1 ⟨mM2_8_3, mpM2_3_10, mM2_1_11, mM2_8_4⟩) rfl rfl rfl (by decide +kernel) ⟨Nat.le_of_ble_eq_true rfl, Nat.le_of_ble_eq_true rfl⟩) (rcM_0 hR Nat.zero_lt_one) hR hT hS rfl hl.1 rfl (Nat.le_of_ble_eq_true rfl) dX12_readTableLine_128 ⟨Nat.zero_le _, Nat.zero_le _⟩ (fun r31 S32 H locs h hR hS => ?_)
                  exact rtM_z C0 hr hlk hR hS h.1 h.2 dX12_readTableLine_131
              · have h := h.2 c21
                refine lv_aload_n hx hb dX12_readTableLine_103 rfl (lv_at hl 0 rfl) ?_
                refine lv_bipush (v := 11) hx hb dX12_readTableLine_104 (by decide) ?_
                refine lv_iconst (v := 1) hx hb dX12_readTableLine_106 (by decide) ?_
                refine lv_bipush (v := 99) hx hb dX12_readTableLine_107 (by decide) ?_
                refine qM_Vi (As := [.int 11, .int 1, .int 99]) (rest := []) C0 (c_X12_readNumber l h) (cwV 3 C0.2.2.2.2 (tbV mM2_8_1 ⟨mM2_8_3, mpM2_3_10, mM2_1_11, mM2_8_4⟩) rfl rfl rfl (by decide +kernel) ⟨Nat.le_of_ble_eq_true rfl, Nat.le_of_ble_eq_true rfl⟩) (rcM_0 hR Nat.zero_lt_one) hR hT hS rfl hl.1 rfl (Nat.le_of_ble_eq_true rfl) dX12_readTableLine_109 ⟨Nat.zero_le _, Nat.zero_le _⟩ (fun r33 S34 H locs h hR hS => ?_)
                exact rtM_z C0 hr hlk hR hS h.1 h.2 dX12_readTableLine_112
            · have h := h.2 c18
              refine lv_aload_n hx hb dX12_readTableLine_84 rfl (lv_at hl 0 rfl) ?_
              refine lv_bipush (v := 10) hx hb dX12_readTableLine_85 (by decide) ?_
              refine lv_iconst (v := 1) hx hb dX12_readTableLine_87 (by decide) ?_
              refine lv_bipush (v := 9) hx hb dX12_readTableLine_88 (by decide) ?_
              refine qM_Vi (As := [.int 10, .int 1, .int 9]) (rest := []) C0 (c_X12_readNumber l h) (cwV 3 C0.2.2.2.2 (tbV mM2_8_1 ⟨mM2_8_3, mpM2_3_10, mM2_1_11, mM2_8_4⟩) rfl rfl rfl (by decide +kernel) ⟨Nat.le_of_ble_eq_true rfl, Nat.le_of_ble_eq_true rfl⟩) (rcM_0 hR Nat.zero_lt_one) hR hT hS rfl hl.1 rfl (Nat.le_of_ble_eq_true rfl) dX12_readTableLine_90 ⟨Nat.zero_le _, Nat.zero_le _⟩ (fun r35 S36 H locs h hR hS => ?_)
              exact rtM_z C0 hr hlk hR hS h.1 h.2 dX12_readTableLine_93
          · have h := h.2 c15
            refine lv_aload_n hx hb dX12_readTableLine_65 rfl (lv_at hl 0 rfl) ?_
            refine lv_bipush (v := 9) hx hb dX12_readTableLine_66 (by decide) ?_
            refine lv_iconst (v := 1) hx hb dX12_readTableLine_68 (by decide) ?_
            refine lv_bipush (v := 60) hx hb dX12_readTableLine_69 (by decide) ?_
            refine qM_Vi (As := [.int 9, .int 1, .int 60]) (rest := []) C0 (c_X12_readNumber l h) (cwV 3 C0.2.2.2.2 (tbV mM2_8_1 ⟨mM2_8_3, mpM2_3_10, mM2_1_11, mM2_8_4⟩) rfl rfl rfl (by decide +kernel) ⟨Nat.le_of_ble_eq_true rfl, Nat.le_of_ble_eq_true rfl⟩) (rcM_0 hR Nat.zero_lt_one) hR hT hS rfl hl.1 rfl (Nat.le_of_ble_eq_true rfl) dX12_readTableLine_71 ⟨Nat.zero_le _, Nat.zero_le _⟩ (fun r37 S38 H locs h hR hS => ?_)
            exact rtM_z C0 hr hlk hR hS h.1 h.2 dX12_readTableLine_74
        · have h := h.2 c12
          refine lv_aload_n hx hb dX12_readTableLine_51 rfl (lv_at hl 0 rfl) ?_
          refine qM_Vi (As := []) (rest := []) C0 (c_X12_readPlan l h) (cwV 0 C0.2.2.2.2 (tbV mM2_8_6 ⟨mM2_8_8, mpM2_3_11, mM2_1_11, mM2_8_9⟩) rfl rfl rfl (by decide +kernel) ⟨Nat.le_of_ble_eq_true rfl, Nat.le_of_ble_eq_true rfl⟩) (rcM_0 hR Nat.zero_lt_one) hR hT hS rfl hl.1 rfl (Nat.le_of_ble_eq_true rfl) dX12_readTableLine_52 ⟨Nat.zero_le _, Nat.zero_le _⟩ (fun r39 S40 H locs h hR hS => ?_)
          exact rtM_z C0 hr hlk hR hS h.1 h.2 dX12_readTableLine_55
      · have h := h.2 c9
        refine lv_aload_n hx hb dX12_readTableLine_37 rfl (lv_at hl 0 rfl) ?_
        refine qM_Vi (As := []) (rest := []) C0 (c_X12_readParallel l h) (cwV 0 C0.2.2.2.2 (tbV mM2_7_237 ⟨mM2_7_239, mpM2_3_9, mM2_1_11, mM2_8_0⟩) rfl rfl rfl (by decide +kernel) ⟨Nat.le_of_ble_eq_true rfl, Nat.le_of_ble_eq_true rfl⟩) (rcM_0 hR Nat.zero_lt_one) hR hT hS rfl hl.1 rfl (Nat.le_of_ble_eq_true rfl) dX12_readTableLine_38 ⟨Nat.zero_le _, Nat.zero_le _⟩ (fun r41 S42 H locs h hR hS => ?_)
        exact rtM_z C0 hr hlk hR hS h.1 h.2 dX12_readTableLine_41
    · have h := h.2 c6
      refine lv_aload_n hx hb dX12_readTableLine_23 rfl (lv_at hl 0 rfl) ?_
      refine qM_Vi (As := []) (rest := []) C0 (c_X12_readSession l h) (cwV 0 C0.2.2.2.2 (tbV mM2_7_227 ⟨mM2_7_229, mpM2_3_8, mM2_1_11, mM2_7_230⟩) rfl rfl rfl (by decide +kernel) ⟨Nat.le_of_ble_eq_true rfl, Nat.le_of_ble_eq_true rfl⟩) (rcM_0 hR Nat.zero_lt_one) hR hT hS rfl hl.1 rfl (Nat.le_of_ble_eq_true rfl) dX12_readTableLine_24 ⟨Nat.zero_le _, Nat.zero_le _⟩ (fun r43 S44 H locs h hR hS => ?_)
      exact rtM_z C0 hr hlk hR hS h.1 h.2 dX12_readTableLine_27
  · have h := h.2 c3
    refine lv_aload_n hx hb dX12_readTableLine_9 rfl (lv_at hl 0 rfl) ?_
    refine qM_Vi (As := []) (rest := []) C0 (c_X12_readJob l h) (cwV 0 C0.2.2.2.2 (tbV mM2_7_194 ⟨mM2_7_196, mpM2_3_1, mM2_1_11, mM2_7_197⟩) rfl rfl rfl (by decide +kernel) ⟨Nat.le_of_ble_eq_true rfl, Nat.le_of_ble_eq_true rfl⟩) (rcM_0 hR Nat.zero_lt_one) hR hT hS rfl hl.1 rfl (Nat.le_of_ble_eq_true rfl) dX12_readTableLine_10 ⟨Nat.zero_le _, Nat.zero_le _⟩ (fun r45 S46 H locs h hR hS => ?_)
    exact rtM_z C0 hr hlk hR hS h.1 h.2 dX12_readTableLine_13

def rm_X12_readTable : Room := { frames := 8, cells := 0, slots := 0, locals := 179 }
def Bb_X12_readTable_19 (kk19 : Int32 → sSt → Prop) (a1 : Int32) (S : sSt) (k : Int32 → sSt → Prop) : Prop := F_X12_letters S (fun S5 => ((a1 = 14 → k 0 S5) ∧ (¬ a1 = 14 → F_X12_readTableLine S5 (fun r7 S8 => ((¬ r7 = 0 → F_X12_blanks S8 (fun S11 => ((¬ (S11.1 0 0 10) = (S11.1 0 0 11) → F_X12_isAt 59 59 S11 (fun r13 S14 => ((¬ r13 = 0 → ∀ S16, S16 = uI S14 0 0 10 ((S14.1 0 0 10) + 1) → ∀ x17 : Int32, x17 = a1 + 1 → kk19 x17 S16) ∧ (r13 = 0 → k 0 S14)))) ∧ ((S11.1 0 0 10) = (S11.1 0 0 11) → k 1 S11)))) ∧ (r7 = 0 → k 0 S8))))))
set_option maxHeartbeats 4000000 in
set_option maxRecDepth 100000 in
theorem Bbw_X12_readTable_19 {p : Program} {l : Launch} {e : Env} {s : State} {m : MethodId} {args : Array Value} {below : List Frame} {meth : Method} {c : Code} {D : va_G} {cy : Nat → ClassId} {b z : Nat} {tx : TX} (C0 : CallFix p m c cX12_readTable 2 s args TB RX12) (hr : meth.sig.returnType = (some .boolean)) (hlk : meth.locks = false) (hT : TxR tx s) {k : Int32 → sSt → Prop} {kk19 : Int32 → sSt → Prop} (ih19 : ∀ (a1 : Int32) (S : sSt) (H : Heap) (locs : List Loc) (ls : Array Slot) , kk19 a1 S → RelM D cy b z tx S s H → va_S (gA b 12 z) s.heap H locs → lv_has ls 2 [(0, .ref (b + adM 0 0)), (1, .int a1)] → W p l e rm_X12_readTable s m args below meth c H locs 0 0 (MQ below (PiM D cy b z tx k) args s 0 0 (gA b 12 z)) (F0 m 19 ls [])) : ∀ (a1 : Int32) (S : sSt) (H : Heap) (locs : List Loc) (ls : Array Slot) , Bb_X12_readTable_19 kk19 a1 S k → RelM D cy b z tx S s H → va_S (gA b 12 z) s.heap H locs → lv_has ls 2 [(0, .ref (b + adM 0 0)), (1, .int a1)] → W p l e rm_X12_readTable s m args below meth c H locs 0 0 (MQ below (PiM D cy b z tx k) args s 0 0 (gA b 12 z)) (F0 m 19 ls []) := by
  intro a1 S H locs ls h hR hS hl
  have hx := C0.1
  have hb := C0.2.1
  unfold Bb_X12_readTable_19 at h
  refine lv_aload_n hx hb dX12_readTable_19 rfl (lv_at hl 0 rfl) ?_
  refine qM_Vv (As := []) (rest := []) C0 (c_X12_letters l h) (cwV 0 C0.2.2.2.2 (tbV mM2_7_179 ⟨mM2_7_181, mpM2_2_14, mM2_1_11, mM2_7_182⟩) rfl rfl rfl (by decide +kernel) ⟨Nat.le_of_ble_eq_true rfl, Nat.le_of_ble_eq_true rfl⟩) (rcM_0 hR Nat.zero_lt_one) hR hT hS rfl hl.1 rfl (Nat.le_of_ble_eq_true rfl) dX12_readTable_20 ⟨Nat.zero_le _, Nat.zero_le _⟩ (fun S5 H locs h hR hS => ?_)
  refine lv_iload_n hx hb dX12_readTable_23 rfl (lv_at hl 1 rfl) ?_
  refine lv_bipush (v := 14) hx hb dX12_readTable_24 (by decide) ?_
  refine lv_icmp_eq (tgt := 36) hx hb dX12_readTable_26 (by decide) (fun c6 => ?_) (fun c6 => ?_)
  · have h := h.1 c6
    refine lv_iconst (v := 0) hx hb dX12_readTable_36 (by decide) ?_
    exact rtM_z C0 hr hlk hR hS (by decide) h dX12_readTable_37
  · have h := h.2 c6
    refine lv_aload_n hx hb dX12_readTable_29 rfl (lv_at hl 0 rfl) ?_
    refine qM_Vi (As := []) (rest := []) C0 (c_X12_readTableLine l h) (cwV 0 C0.2.2.2.2 (tbV mM2_7_183 ⟨mM2_7_185, mpM2_2_15, mM2_1_11, mM2_7_186⟩) rfl rfl rfl (by decide +kernel) ⟨Nat.le_of_ble_eq_true rfl, Nat.le_of_ble_eq_true rfl⟩) (rcM_0 hR Nat.zero_lt_one) hR hT hS rfl hl.1 rfl (Nat.le_of_ble_eq_true rfl) dX12_readTable_30 ⟨Nat.zero_le _, Nat.zero_le _⟩ (fun r7 S8 H locs h hR hS => ?_)
    refine lv_if_ne (tgt := 38) hx hb dX12_readTable_33 (by decide) (fun c9 => ?_) (fun c9 => ?_)
    · have h := h.1 c9
      refine lv_aload_n hx hb dX12_readTable_38 rfl (lv_at hl 0 rfl) ?_
      refine qM_Vv (As := []) (rest := []) C0 (c_X12_blanks l h) (cwV 0 C0.2.2.2.2 (tbV mM2_7_171 ⟨mM2_7_173, mpM2_2_12, mM2_1_11, mM2_7_174⟩) rfl rfl rfl (by decide +kernel) ⟨Nat.le_of_ble_eq_true rfl, Nat.le_of_ble_eq_true rfl⟩) (rcM_0 hR Nat.zero_lt_one) hR hT hS rfl hl.1 rfl (Nat.le_of_ble_eq_true rfl) dX12_readTable_39 ⟨Nat.zero_le _, Nat.zero_le _⟩ (fun S11 H locs h hR hS => ?_)
      refine lv_aload_n hx hb dX12_readTable_42 rfl (lv_at hl 0 rfl) ?_
      refine gM_0_10 C0 hR Nat.zero_lt_one tbs_wsX120 mM2_7_87 dX12_readTable_43 ?_
      refine lv_aload_n hx hb dX12_readTable_46 rfl (lv_at hl 0 rfl) ?_
      refine gM_0_11 C0 hR Nat.zero_lt_one tbs_wsX120 mM2_7_88 dX12_readTable_47 ?_
      refine lv_icmp_ne (tgt := 55) hx hb dX12_readTable_50 (by decide) (fun c12 => ?_) (fun c12 => ?_)
      · have h := h.1 c12
        refine lv_aload_n hx hb dX12_readTable_55 rfl (lv_at hl 0 rfl) ?_
        refine lv_bipush (v := 59) hx hb dX12_readTable_56 (by decide) ?_
        refine lv_bipush (v := 59) hx hb dX12_readTable_58 (by decide) ?_
        refine qM_Vi (As := [.int 59, .int 59]) (rest := []) C0 (c_X12_isAt l h) (cwV 2 C0.2.2.2.2 (tbV mM2_7_175 ⟨mM2_7_177, mpM2_2_13, mM2_1_11, mM2_7_178⟩) rfl rfl rfl (by decide +kernel) ⟨Nat.le_of_ble_eq_true rfl, Nat.le_of_ble_eq_true rfl⟩) (rcM_0 hR Nat.zero_lt_one) hR hT hS rfl hl.1 rfl (Nat.le_of_ble_eq_true rfl) dX12_readTable_60 ⟨Nat.zero_le _, Nat.zero_le _⟩ (fun r13 S14 H locs h hR hS => ?_)
        refine lv_if_ne (tgt := 68) hx hb dX12_readTable_63 (by decide) (fun c15 => ?_) (fun c15 => ?_)
        · have h := h.1 c15
          refine lv_aload_n hx hb dX12_readTable_68 rfl (lv_at hl 0 rfl) ?_
          refine lv_dup hx hb dX12_readTable_69 rfl ?_
          refine gM_0_10 C0 hR Nat.zero_lt_one tbs_wsX120 mM2_7_87 dX12_readTable_70 ?_
          refine lv_iconst (v := 1) hx hb dX12_readTable_73 (by decide) ?_
          refine lv_iadd hx hb dX12_readTable_74 ?_
          refine pM_0_10 C0 hR hS Nat.zero_lt_one tbs_wsX120 mM2_7_87 dX12_readTable_75 (fun S16 eS16 H locs hR hS => ?_)
          have h := h S16 eS16
          obtain ⟨x17, ex17⟩ : ∃ x17 : Int32, x17 = a1 + 1 := ⟨_, rfl⟩
          have h := h x17 ex17
          refine w_iinc (v0 := 1) (lv' := [(1, .int x17), (0, .ref (b + adM 0 0))]) C0 dX12_readTable_78 hl (k := 1) rfl (by decide) (by decide) x17 ex17 rfl (fun ls hl => ?_)
          refine lv_goto (tgt := 19) hx hb dX12_readTable_81 (by decide) ?_
          exact ih19 x17 S16 _ _ _  h hR hS (lv_sub hl [1, 0] rfl)
        · have h := h.2 c15
          refine lv_iconst (v := 0) hx hb dX12_readTable_66 (by decide) ?_
          exact rtM_z C0 hr hlk hR hS (by decide) h dX12_readTable_67
      · have h := h.2 c12
        refine lv_iconst (v := 1) hx hb dX12_readTable_53 (by decide) ?_
        exact rtM_z C0 hr hlk hR hS (by decide) h dX12_readTable_54
    · have h := h.2 c9
      refine lv_iconst (v := 0) hx hb dX12_readTable_36 (by decide) ?_
      exact rtM_z C0 hr hlk hR hS (by decide) h dX12_readTable_37
def B_X12_readTable_19 (n9 : Nat) (a1 : Int32) (S : sSt) (k : Int32 → sSt → Prop) : Prop := (Nat.rec (motive := fun _ => Int32 → sSt → Prop) (fun _ _ => False) (fun _ r9 => fun a1 S => Bb_X12_readTable_19 r9 a1 S k) n9 : Int32 → sSt → Prop) a1 S
theorem B_X12_readTable_19_s (n9 : Nat) (a1 : Int32) (S : sSt) (k : Int32 → sSt → Prop) : B_X12_readTable_19 (n9 + 1) a1 S k = Bb_X12_readTable_19 (fun a1 S => B_X12_readTable_19 n9 a1 S k) a1 S k := rfl
set_option maxHeartbeats 4000000 in
set_option maxRecDepth 100000 in
theorem Bw_X12_readTable_19 {p : Program} {l : Launch} {e : Env} {s : State} {m : MethodId} {args : Array Value} {below : List Frame} {meth : Method} {c : Code} {D : va_G} {cy : Nat → ClassId} {b z : Nat} {tx : TX} (C0 : CallFix p m c cX12_readTable 2 s args TB RX12) (hr : meth.sig.returnType = (some .boolean)) (hlk : meth.locks = false) (hT : TxR tx s) {k : Int32 → sSt → Prop} : ∀ (n9 : Nat), ∀ (a1 : Int32) (S : sSt) (H : Heap) (locs : List Loc) (ls : Array Slot) , B_X12_readTable_19 n9 a1 S k → RelM D cy b z tx S s H → va_S (gA b 12 z) s.heap H locs → lv_has ls 2 [(0, .ref (b + adM 0 0)), (1, .int a1)] → W p l e rm_X12_readTable s m args below meth c H locs 0 0 (MQ below (PiM D cy b z tx k) args s 0 0 (gA b 12 z)) (F0 m 19 ls []) := by
  intro n9
  induction n9 with
  | zero => intro a1 S H locs ls h; exact h.elim
  | succ n9 ih =>
    intro a1 S H locs ls h hR hS hl
    exact Bbw_X12_readTable_19 C0 hr hlk hT ih a1 S H locs ls h hR hS hl
def F_X12_readTable (S : sSt) (k : Int32 → sSt → Prop) : Prop := F_X12_blanks S (fun S2 => ((¬ (S2.1 0 0 10) = (S2.1 0 0 11) → B_X12_readTable_19 fuel 0 S2 k) ∧ ((S2.1 0 0 10) = (S2.1 0 0 11) → k 1 S2)))
set_option maxHeartbeats 4000000 in
set_option maxRecDepth 100000 in
theorem c_X12_readTable (l : Launch) {D : va_G} {cy : Nat → ClassId} {b z : Nat} {tx : TX} {S : sSt} {k : Int32 → sSt → Prop} (h : F_X12_readTable S k) : Met l yX12_readTable (Cond.code yX12_readTable cX12_readTable 2 (some .boolean) :: TB) rm_X12_readTable (va_Pc [.ref (b + adM 0 0)] (fun U => RelM D cy b z tx S U U.heap ∧ TxR tx U)) (PiM D cy b z tx k) 0 0 (gA b 12 z) := by
  refine Met.ofW (cc := cX12_readTable) (maxL := 2) (ret := (some .boolean)) (by decide) rfl ?_
  intro p e s m args below meth c s₁ B hml hv
  obtain ⟨rfl, hR, hT⟩ := hv
  have C0 : CallFix p m c cX12_readTable 2 s _ TB RX12 := ⟨B.exec, B.bytes, hml, findClass_of_methodNamed B.named, fun w hw => atoms_spec B.pre w (List.mem_cons_of_mem _ hw)⟩
  have hr := B.returns
  have hlk := B.notSynchronized
  have hx := C0.1
  have hb := C0.2.1
  have hS : va_S (gA b 12 z) s.heap s.heap [] := va_S.rf
  have hl := lv_entry ([.ref (b + adM 0 0)]) (n := 2) (Nat.le_of_ble_eq_true rfl)
  rw [lg_entry_eq]
  generalize (lg_sl ([.ref (b + adM 0 0)]) ++ List.replicate (2 - (lg_sl ([.ref (b + adM 0 0)])).length) Slot.unset).toArray = ls at hl ⊢
  have hl : lv_has ls 2 [(0, .ref (b + adM 0 0))] := hl
  show W p l e rm_X12_readTable s m _ below meth c s.heap [] 0 0 (MQ below (PiM D cy b z tx k) _ s 0 0 (gA b 12 z)) _
  unfold F_X12_readTable at h
  refine lv_aload_n hx hb dX12_readTable_0 rfl (lv_at hl 0 rfl) ?_
  refine qM_Vv (As := []) (rest := []) C0 (c_X12_blanks l h) (cwV 0 C0.2.2.2.2 (tbV mM2_7_171 ⟨mM2_7_173, mpM2_2_12, mM2_1_11, mM2_7_174⟩) rfl rfl rfl (by decide +kernel) ⟨Nat.le_of_ble_eq_true rfl, Nat.le_of_ble_eq_true rfl⟩) (rcM_0 hR Nat.zero_lt_one) hR hT hS rfl hl.1 rfl (Nat.le_of_ble_eq_true rfl) dX12_readTable_1 ⟨Nat.zero_le _, Nat.zero_le _⟩ (fun S2 H locs h hR hS => ?_)
  refine lv_aload_n hx hb dX12_readTable_4 rfl (lv_at hl 0 rfl) ?_
  refine gM_0_10 C0 hR Nat.zero_lt_one tbs_wsX120 mM2_7_87 dX12_readTable_5 ?_
  refine lv_aload_n hx hb dX12_readTable_8 rfl (lv_at hl 0 rfl) ?_
  refine gM_0_11 C0 hR Nat.zero_lt_one tbs_wsX120 mM2_7_88 dX12_readTable_9 ?_
  refine lv_icmp_ne (tgt := 17) hx hb dX12_readTable_12 (by decide) (fun c3 => ?_) (fun c3 => ?_)
  · have h := h.1 c3
    refine lv_iconst (v := 0) hx hb dX12_readTable_17 (by decide) ?_
    refine lv_istore_n (lv' := [(1, .int 0), (0, .ref (b + adM 0 0))]) hx hb dX12_readTable_18 rfl hl (by decide) rfl (fun ls hl => ?_)
    exact Bw_X12_readTable_19 C0 hr hlk hT fuel 0 S2 _ _ _ h hR hS (lv_sub hl [1, 0] rfl)
  · have h := h.2 c3
    refine lv_iconst (v := 1) hx hb dX12_readTable_15 (by decide) ?_
    exact rtM_z C0 hr hlk hR hS (by decide) h dX12_readTable_16

def rm_X12_table : Room := { frames := 9, cells := 0, slots := 0, locals := 200 }
def Bb_X12_table_95 (kk95 : Int32 → sSt → Prop) (a2 : Int32) (S : sSt) (k : Int32 → sSt → Prop) : Prop := ((1589 ≤ a2 → k 0 S) ∧ (¬ 1589 ≤ a2 → ix a2 1589 (fun j13 => ix a2 10421 (fun j14 => ∀ S15, S15 = uI S 1 0 j14 (S.1 3 0 j13) → ∀ x16 : Int32, x16 = a2 + 1 → kk95 x16 S15))))
set_option maxHeartbeats 4000000 in
set_option maxRecDepth 100000 in
theorem Bbw_X12_table_95 {p : Program} {l : Launch} {e : Env} {s : State} {m : MethodId} {args : Array Value} {below : List Frame} {meth : Method} {c : Code} {D : va_G} {cy : Nat → ClassId} {b z : Nat} {tx : TX} (C0 : CallFix p m c cX12_table 3 s args TB RX12) (hr : meth.sig.returnType = (some .int)) (hlk : meth.locks = false) (hT : TxR tx s) {k : Int32 → sSt → Prop} {kk95 : Int32 → sSt → Prop} (ih95 : ∀ (a2 : Int32) (S : sSt) (H : Heap) (locs : List Loc) (ls : Array Slot) , kk95 a2 S → RelM D cy b z tx S s H → va_S (gA b 12 z) s.heap H locs → lv_has ls 3 [(0, .ref (b + adM 0 0)), (2, .int a2)] → W p l e rm_X12_table s m args below meth c H locs 0 0 (MQ below (PiM D cy b z tx k) args s 0 0 (gA b 12 z)) (F0 m 95 ls [])) : ∀ (a2 : Int32) (S : sSt) (H : Heap) (locs : List Loc) (ls : Array Slot) , Bb_X12_table_95 kk95 a2 S k → RelM D cy b z tx S s H → va_S (gA b 12 z) s.heap H locs → lv_has ls 3 [(0, .ref (b + adM 0 0)), (2, .int a2)] → W p l e rm_X12_table s m args below meth c H locs 0 0 (MQ below (PiM D cy b z tx k) args s 0 0 (gA b 12 z)) (F0 m 95 ls []) := by
  intro a2 S H locs ls h hR hS hl
  have hx := C0.1
  have hb := C0.2.1
  unfold Bb_X12_table_95 at h
  refine lv_iload_n hx hb dX12_table_95 rfl (lv_at hl 1 rfl) ?_
  refine lv_sipush (v := 1589) hx hb dX12_table_96 (by decide) ?_
  refine lv_icmp_ge (tgt := 120) hx hb dX12_table_99 (by decide) (fun c12 => ?_) (fun c12 => ?_)
  · have h := h.1 c12
    refine lv_iconst (v := 0) hx hb dX12_table_120 (by decide) ?_
    exact rtM_i C0 hr hlk hR hS h dX12_table_121
  · have h := h.2 c12
    refine lv_aload_n hx hb dX12_table_102 rfl (lv_at hl 0 rfl) ?_
    refine gM_0_2 C0 hR Nat.zero_lt_one tbs_wsX120 mM2_7_79 dX12_table_103 ?_
    refine lv_iload_n hx hb dX12_table_106 rfl (lv_at hl 1 rfl) ?_
    refine lv_aload_n hx hb dX12_table_107 rfl (lv_at hl 0 rfl) ?_
    refine gM_0_4 C0 hR Nat.zero_lt_one tbs_wsX120 mM2_7_81 dX12_table_108 ?_
    refine lv_iload_n hx hb dX12_table_111 rfl (lv_at hl 1 rfl) ?_
    obtain ⟨j13, hj13, ej13, h⟩ := h
    refine lM_3 C0 hR Nat.zero_lt_one hj13 ej13 dX12_table_112 ?_
    obtain ⟨j14, hj14, ej14, h⟩ := h
    refine sM_1 C0 hR hS Nat.zero_lt_one hj14 ej14 dX12_table_113 (fun S15 eS15 H locs hR hS => ?_)
    have h := h S15 eS15
    obtain ⟨x16, ex16⟩ : ∃ x16 : Int32, x16 = a2 + 1 := ⟨_, rfl⟩
    have h := h x16 ex16
    refine w_iinc (v0 := 1) (lv' := [(2, .int x16), (0, .ref (b + adM 0 0))]) C0 dX12_table_114 hl (k := 1) rfl (by decide) (by decide) x16 ex16 rfl (fun ls hl => ?_)
    refine lv_goto (tgt := 95) hx hb dX12_table_117 (by decide) ?_
    exact ih95 x16 S15 _ _ _  h hR hS (lv_sub hl [1, 0] rfl)
def B_X12_table_95 (n9 : Nat) (a2 : Int32) (S : sSt) (k : Int32 → sSt → Prop) : Prop := (Nat.rec (motive := fun _ => Int32 → sSt → Prop) (fun _ _ => False) (fun _ r9 => fun a2 S => Bb_X12_table_95 r9 a2 S k) n9 : Int32 → sSt → Prop) a2 S
theorem B_X12_table_95_s (n9 : Nat) (a2 : Int32) (S : sSt) (k : Int32 → sSt → Prop) : B_X12_table_95 (n9 + 1) a2 S k = Bb_X12_table_95 (fun a2 S => B_X12_table_95 n9 a2 S k) a2 S k := rfl
set_option maxHeartbeats 4000000 in
set_option maxRecDepth 100000 in
theorem Bw_X12_table_95 {p : Program} {l : Launch} {e : Env} {s : State} {m : MethodId} {args : Array Value} {below : List Frame} {meth : Method} {c : Code} {D : va_G} {cy : Nat → ClassId} {b z : Nat} {tx : TX} (C0 : CallFix p m c cX12_table 3 s args TB RX12) (hr : meth.sig.returnType = (some .int)) (hlk : meth.locks = false) (hT : TxR tx s) {k : Int32 → sSt → Prop} : ∀ (n9 : Nat), ∀ (a2 : Int32) (S : sSt) (H : Heap) (locs : List Loc) (ls : Array Slot) , B_X12_table_95 n9 a2 S k → RelM D cy b z tx S s H → va_S (gA b 12 z) s.heap H locs → lv_has ls 3 [(0, .ref (b + adM 0 0)), (2, .int a2)] → W p l e rm_X12_table s m args below meth c H locs 0 0 (MQ below (PiM D cy b z tx k) args s 0 0 (gA b 12 z)) (F0 m 95 ls []) := by
  intro n9
  induction n9 with
  | zero => intro a2 S H locs ls h; exact h.elim
  | succ n9 ih =>
    intro a2 S H locs ls h hR hS hl
    exact Bbw_X12_table_95 C0 hr hlk hT ih a2 S H locs ls h hR hS hl
def B_X12_table_93 (S : sSt) (k : Int32 → sSt → Prop) : Prop := B_X12_table_95 fuel 0 S k
set_option maxHeartbeats 4000000 in
set_option maxRecDepth 100000 in
theorem Bw_X12_table_93 {p : Program} {l : Launch} {e : Env} {s : State} {m : MethodId} {args : Array Value} {below : List Frame} {meth : Method} {c : Code} {D : va_G} {cy : Nat → ClassId} {b z : Nat} {tx : TX} (C0 : CallFix p m c cX12_table 3 s args TB RX12) (hr : meth.sig.returnType = (some .int)) (hlk : meth.locks = false) (hT : TxR tx s) {k : Int32 → sSt → Prop} : ∀ (S : sSt) (H : Heap) (locs : List Loc) (ls : Array Slot) , B_X12_table_93 S k → RelM D cy b z tx S s H → va_S (gA b 12 z) s.heap H locs → lv_has ls 3 [(0, .ref (b + adM 0 0))] → W p l e rm_X12_table s m args below meth c H locs 0 0 (MQ below (PiM D cy b z tx k) args s 0 0 (gA b 12 z)) (F0 m 93 ls []) := by
  intro S H locs ls h hR hS hl
  have hx := C0.1
  have hb := C0.2.1
  unfold B_X12_table_93 at h
  refine lv_iconst (v := 0) hx hb dX12_table_93 (by decide) ?_
  refine lv_istore_n (lv' := [(2, .int 0), (0, .ref (b + adM 0 0))]) hx hb dX12_table_94 rfl hl (by decide) rfl (fun ls hl => ?_)
  exact Bw_X12_table_95 C0 hr hlk hT fuel 0 S _ _ _ h hR hS (lv_sub hl [1, 0] rfl)
def B_X12_table_86 (t1 : Int32) (S : sSt) (k : Int32 → sSt → Prop) : Prop := F_X12_throwsIf t1 2 S (fun r18 S19 => ((r18 = 0 → ∀ S21, S21 = uI S19 1 0 2 ((S19.1 1 0 2) + 1) → k (S21.1 1 0 2) S21) ∧ (¬ r18 = 0 → B_X12_table_93 S19 k)))
set_option maxHeartbeats 4000000 in
set_option maxRecDepth 100000 in
theorem Bw_X12_table_86 {p : Program} {l : Launch} {e : Env} {s : State} {m : MethodId} {args : Array Value} {below : List Frame} {meth : Method} {c : Code} {D : va_G} {cy : Nat → ClassId} {b z : Nat} {tx : TX} (C0 : CallFix p m c cX12_table 3 s args TB RX12) (hr : meth.sig.returnType = (some .int)) (hlk : meth.locks = false) (hT : TxR tx s) {k : Int32 → sSt → Prop} : ∀ (t1 : Int32) (S : sSt) (H : Heap) (locs : List Loc) (ls : Array Slot) , B_X12_table_86 t1 S k → RelM D cy b z tx S s H → va_S (gA b 12 z) s.heap H locs → lv_has ls 3 [(0, .ref (b + adM 0 0))] → W p l e rm_X12_table s m args below meth c H locs 0 0 (MQ below (PiM D cy b z tx k) args s 0 0 (gA b 12 z)) (F0 m 86 ls [.int t1, .ref (b + adM 0 0)]) := by
  intro t1 S H locs ls h hR hS hl
  have hx := C0.1
  have hb := C0.2.1
  unfold B_X12_table_86 at h
  refine lv_iconst (v := 2) hx hb dX12_table_86 (by decide) ?_
  refine qM_Vi (As := [.int t1, .int 2]) (rest := []) C0 (c_X12_throwsIf l h) (cwV 2 C0.2.2.2.2 (tbV mM2_8_25 ⟨mM2_8_27, mpM2_3_13, mM2_1_11, mM2_8_28⟩) rfl rfl rfl (by decide +kernel) ⟨Nat.le_of_ble_eq_true rfl, Nat.le_of_ble_eq_true rfl⟩) (rcM_0 hR Nat.zero_lt_one) hR hT hS rfl hl.1 rfl (Nat.le_of_ble_eq_true rfl) dX12_table_87 ⟨Nat.zero_le _, Nat.zero_le _⟩ (fun r18 S19 H locs h hR hS => ?_)
  refine lv_if_eq (tgt := 122) hx hb dX12_table_90 (by decide) (fun c20 => ?_) (fun c20 => ?_)
  · have h := h.1 c20
    refine lv_aload_n hx hb dX12_table_122 rfl (lv_at hl 0 rfl) ?_
    refine gM_0_2 C0 hR Nat.zero_lt_one tbs_wsX120 mM2_7_79 dX12_table_123 ?_
    refine lv_iconst (v := 2) hx hb dX12_table_126 (by decide) ?_
    refine lv_dup2_11 hx hb dX12_table_127 rfl rfl ?_
    refine lM_1 C0 hR Nat.zero_lt_one (by decide) rfl dX12_table_128 ?_
    refine lv_iconst (v := 1) hx hb dX12_table_129 (by decide) ?_
    refine lv_iadd hx hb dX12_table_130 ?_
    refine sM_1 C0 hR hS Nat.zero_lt_one (by decide) rfl dX12_table_131 (fun S21 eS21 H locs hR hS => ?_)
    have h := h S21 eS21
    refine lv_aload_n hx hb dX12_table_132 rfl (lv_at hl 0 rfl) ?_
    refine gM_0_2 C0 hR Nat.zero_lt_one tbs_wsX120 mM2_7_79 dX12_table_133 ?_
    refine lv_iconst (v := 2) hx hb dX12_table_136 (by decide) ?_
    refine lM_1 C0 hR Nat.zero_lt_one (by decide) rfl dX12_table_137 ?_
    exact rtM_i C0 hr hlk hR hS h dX12_table_138
  · have h := h.2 c20
    exact Bw_X12_table_93 C0 hr hlk hT S19 _ _ _ h hR hS (lv_sub hl [0] rfl)
def B_X12_table_62 (t1 : Int32) (S : sSt) (k : Int32 → sSt → Prop) : Prop := F_X12_throwsIf t1 1 S (fun r9 S10 => ((¬ r9 = 0 → B_X12_table_93 S10 k) ∧ (r9 = 0 → ((¬ (S10.1 1 0 2) = 12 → B_X12_table_86 0 S10 k) ∧ ((S10.1 1 0 2) = 12 → B_X12_table_86 1 S10 k)))))
set_option maxHeartbeats 4000000 in
set_option maxRecDepth 100000 in
theorem Bw_X12_table_62 {p : Program} {l : Launch} {e : Env} {s : State} {m : MethodId} {args : Array Value} {below : List Frame} {meth : Method} {c : Code} {D : va_G} {cy : Nat → ClassId} {b z : Nat} {tx : TX} (C0 : CallFix p m c cX12_table 3 s args TB RX12) (hr : meth.sig.returnType = (some .int)) (hlk : meth.locks = false) (hT : TxR tx s) {k : Int32 → sSt → Prop} : ∀ (t1 : Int32) (S : sSt) (H : Heap) (locs : List Loc) (ls : Array Slot) , B_X12_table_62 t1 S k → RelM D cy b z tx S s H → va_S (gA b 12 z) s.heap H locs → lv_has ls 3 [(0, .ref (b + adM 0 0))] → W p l e rm_X12_table s m args below meth c H locs 0 0 (MQ below (PiM D cy b z tx k) args s 0 0 (gA b 12 z)) (F0 m 62 ls [.int t1, .ref (b + adM 0 0)]) := by
  intro t1 S H locs ls h hR hS hl
  have hx := C0.1
  have hb := C0.2.1
  unfold B_X12_table_62 at h
  refine lv_iconst (v := 1) hx hb dX12_table_62 (by decide) ?_
  refine qM_Vi (As := [.int t1, .int 1]) (rest := []) C0 (c_X12_throwsIf l h) (cwV 2 C0.2.2.2.2 (tbV mM2_8_25 ⟨mM2_8_27, mpM2_3_13, mM2_1_11, mM2_8_28⟩) rfl rfl rfl (by decide +kernel) ⟨Nat.le_of_ble_eq_true rfl, Nat.le_of_ble_eq_true rfl⟩) (rcM_0 hR Nat.zero_lt_one) hR hT hS rfl hl.1 rfl (Nat.le_of_ble_eq_true rfl) dX12_table_63 ⟨Nat.zero_le _, Nat.zero_le _⟩ (fun r9 S10 H locs h hR hS => ?_)
  refine lv_if_ne (tgt := 93) hx hb dX12_table_66 (by decide) (fun c11 => ?_) (fun c11 => ?_)
  · have h := h.1 c11
    exact Bw_X12_table_93 C0 hr hlk hT S10 _ _ _ h hR hS (lv_sub hl [0] rfl)
  · have h := h.2 c11
    refine lv_aload_n hx hb dX12_table_69 rfl (lv_at hl 0 rfl) ?_
    refine lv_aload_n hx hb dX12_table_70 rfl (lv_at hl 0 rfl) ?_
    refine gM_0_2 C0 hR Nat.zero_lt_one tbs_wsX120 mM2_7_79 dX12_table_71 ?_
    refine lv_iconst (v := 2) hx hb dX12_table_74 (by decide) ?_
    refine lM_1 C0 hR Nat.zero_lt_one (by decide) rfl dX12_table_75 ?_
    refine lv_bipush (v := 12) hx hb dX12_table_76 (by decide) ?_
    refine lv_icmp_ne (tgt := 85) hx hb dX12_table_78 (by decide) (fun c17 => ?_) (fun c17 => ?_)
    · have h := h.1 c17
      refine lv_iconst (v := 0) hx hb dX12_table_85 (by decide) ?_
      exact Bw_X12_table_86 C0 hr hlk hT 0 S10 _ _ _ h hR hS (lv_sub hl [0] rfl)
    · have h := h.2 c17
      refine lv_iconst (v := 1) hx hb dX12_table_81 (by decide) ?_
      refine lv_goto (tgt := 86) hx hb dX12_table_82 (by decide) ?_
      exact Bw_X12_table_86 C0 hr hlk hT 1 S10 _ _ _ h hR hS (lv_sub hl [0] rfl)
def B_X12_table_49 (a1 : Int32) (t1 : Int32) (S : sSt) (k : Int32 → sSt → Prop) : Prop := ∀ S7, S7 = uI S 0 0 13 t1 → ((¬ a1 = 0 → B_X12_table_62 0 S7 k) ∧ (a1 = 0 → B_X12_table_62 1 S7 k))
set_option maxHeartbeats 4000000 in
set_option maxRecDepth 100000 in
theorem Bw_X12_table_49 {p : Program} {l : Launch} {e : Env} {s : State} {m : MethodId} {args : Array Value} {below : List Frame} {meth : Method} {c : Code} {D : va_G} {cy : Nat → ClassId} {b z : Nat} {tx : TX} (C0 : CallFix p m c cX12_table 3 s args TB RX12) (hr : meth.sig.returnType = (some .int)) (hlk : meth.locks = false) (hT : TxR tx s) {k : Int32 → sSt → Prop} : ∀ (a1 : Int32) (t1 : Int32) (S : sSt) (H : Heap) (locs : List Loc) (ls : Array Slot) , B_X12_table_49 a1 t1 S k → RelM D cy b z tx S s H → va_S (gA b 12 z) s.heap H locs → lv_has ls 3 [(0, .ref (b + adM 0 0)), (1, .int a1)] → W p l e rm_X12_table s m args below meth c H locs 0 0 (MQ below (PiM D cy b z tx k) args s 0 0 (gA b 12 z)) (F0 m 49 ls [.int t1, .ref (b + adM 0 0)]) := by
  intro a1 t1 S H locs ls h hR hS hl
  have hx := C0.1
  have hb := C0.2.1
  unfold B_X12_table_49 at h
  refine pM_0_13 C0 hR hS Nat.zero_lt_one tbs_wsX120 mM2_7_90 dX12_table_49 (fun S7 eS7 H locs hR hS => ?_)
  have h := h S7 eS7
  refine lv_aload_n hx hb dX12_table_52 rfl (lv_at hl 0 rfl) ?_
  refine lv_iload_n hx hb dX12_table_53 rfl (lv_at hl 1 rfl) ?_
  refine lv_if_ne (tgt := 61) hx hb dX12_table_54 (by decide) (fun c8 => ?_) (fun c8 => ?_)
  · have h := h.1 c8
    refine lv_iconst (v := 0) hx hb dX12_table_61 (by decide) ?_
    exact Bw_X12_table_62 C0 hr hlk hT 0 S7 _ _ _ h hR hS (lv_sub hl [0] rfl)
  · have h := h.2 c8
    refine lv_iconst (v := 1) hx hb dX12_table_57 (by decide) ?_
    refine lv_goto (tgt := 62) hx hb dX12_table_58 (by decide) ?_
    exact Bw_X12_table_62 C0 hr hlk hT 1 S7 _ _ _ h hR hS (lv_sub hl [0] rfl)
def Bb_X12_table_6 (kk6 : Int32 → sSt → Prop) (a1 : Int32) (S : sSt) (k : Int32 → sSt → Prop) : Prop := ((1589 ≤ a1 → F_X12_readTable S (fun r4 S5 => ((r4 = 0 → B_X12_table_49 r4 (S5.1 0 0 12) S5 k) ∧ (¬ r4 = 0 → B_X12_table_49 r4 (-1) S5 k)))) ∧ (¬ 1589 ≤ a1 → ix a1 10421 (fun j22 => ix a1 1589 (fun j23 => ∀ S24, S24 = uI S 3 0 j23 (S.1 1 0 j22) → ∀ x25 : Int32, x25 = a1 + 1 → kk6 x25 S24))))
set_option maxHeartbeats 4000000 in
set_option maxRecDepth 100000 in
theorem Bbw_X12_table_6 {p : Program} {l : Launch} {e : Env} {s : State} {m : MethodId} {args : Array Value} {below : List Frame} {meth : Method} {c : Code} {D : va_G} {cy : Nat → ClassId} {b z : Nat} {tx : TX} (C0 : CallFix p m c cX12_table 3 s args TB RX12) (hr : meth.sig.returnType = (some .int)) (hlk : meth.locks = false) (hT : TxR tx s) {k : Int32 → sSt → Prop} {kk6 : Int32 → sSt → Prop} (ih6 : ∀ (a1 : Int32) (S : sSt) (H : Heap) (locs : List Loc) (ls : Array Slot) , kk6 a1 S → RelM D cy b z tx S s H → va_S (gA b 12 z) s.heap H locs → lv_has ls 3 [(0, .ref (b + adM 0 0)), (1, .int a1)] → W p l e rm_X12_table s m args below meth c H locs 0 0 (MQ below (PiM D cy b z tx k) args s 0 0 (gA b 12 z)) (F0 m 6 ls [])) : ∀ (a1 : Int32) (S : sSt) (H : Heap) (locs : List Loc) (ls : Array Slot) , Bb_X12_table_6 kk6 a1 S k → RelM D cy b z tx S s H → va_S (gA b 12 z) s.heap H locs → lv_has ls 3 [(0, .ref (b + adM 0 0)), (1, .int a1)] → W p l e rm_X12_table s m args below meth c H locs 0 0 (MQ below (PiM D cy b z tx k) args s 0 0 (gA b 12 z)) (F0 m 6 ls []) := by
  intro a1 S H locs ls h hR hS hl
  have hx := C0.1
  have hb := C0.2.1
  unfold Bb_X12_table_6 at h
  refine lv_iload_n hx hb dX12_table_6 rfl (lv_at hl 1 rfl) ?_
  refine lv_sipush (v := 1589) hx hb dX12_table_7 (by decide) ?_
  refine lv_icmp_ge (tgt := 31) hx hb dX12_table_10 (by decide) (fun c3 => ?_) (fun c3 => ?_)
  · have h := h.1 c3
    refine lv_aload_n hx hb dX12_table_31 rfl (lv_at hl 0 rfl) ?_
    refine qM_Vi (As := []) (rest := []) C0 (c_X12_readTable l h) (cwV 0 C0.2.2.2.2 (tbV mM2_7_167 ⟨mM2_7_169, mpM2_2_11, mM2_1_11, mM2_7_170⟩) rfl rfl rfl (by decide +kernel) ⟨Nat.le_of_ble_eq_true rfl, Nat.le_of_ble_eq_true rfl⟩) (rcM_0 hR Nat.zero_lt_one) hR hT hS rfl hl.1 rfl (Nat.le_of_ble_eq_true rfl) dX12_table_32 ⟨Nat.zero_le _, Nat.zero_le _⟩ (fun r4 S5 H locs h hR hS => ?_)
    refine lv_istore_n (lv' := [(1, .int r4), (0, .ref (b + adM 0 0))]) hx hb dX12_table_35 rfl hl (by decide) rfl (fun ls hl => ?_)
    refine lv_aload_n hx hb dX12_table_36 rfl (lv_at hl 1 rfl) ?_
    refine lv_iload_n hx hb dX12_table_37 rfl (lv_at hl 0 rfl) ?_
    refine lv_if_eq (tgt := 45) hx hb dX12_table_38 (by decide) (fun c6 => ?_) (fun c6 => ?_)
    · have h := h.1 c6
      refine lv_aload_n hx hb dX12_table_45 rfl (lv_at hl 1 rfl) ?_
      refine gM_0_12 C0 hR Nat.zero_lt_one tbs_wsX120 mM2_7_89 dX12_table_46 ?_
      exact Bw_X12_table_49 C0 hr hlk hT r4 (S5.1 0 0 12) S5 _ _ _ h hR hS (lv_sub hl [1, 0] rfl)
    · have h := h.2 c6
      refine lv_iconst (v := (-1)) hx hb dX12_table_41 (by decide) ?_
      refine lv_goto (tgt := 49) hx hb dX12_table_42 (by decide) ?_
      exact Bw_X12_table_49 C0 hr hlk hT r4 (-1) S5 _ _ _ h hR hS (lv_sub hl [1, 0] rfl)
  · have h := h.2 c3
    refine lv_aload_n hx hb dX12_table_13 rfl (lv_at hl 0 rfl) ?_
    refine gM_0_4 C0 hR Nat.zero_lt_one tbs_wsX120 mM2_7_81 dX12_table_14 ?_
    refine lv_iload_n hx hb dX12_table_17 rfl (lv_at hl 1 rfl) ?_
    refine lv_aload_n hx hb dX12_table_18 rfl (lv_at hl 0 rfl) ?_
    refine gM_0_2 C0 hR Nat.zero_lt_one tbs_wsX120 mM2_7_79 dX12_table_19 ?_
    refine lv_iload_n hx hb dX12_table_22 rfl (lv_at hl 1 rfl) ?_
    obtain ⟨j22, hj22, ej22, h⟩ := h
    refine lM_1 C0 hR Nat.zero_lt_one hj22 ej22 dX12_table_23 ?_
    obtain ⟨j23, hj23, ej23, h⟩ := h
    refine sM_3 C0 hR hS Nat.zero_lt_one hj23 ej23 dX12_table_24 (fun S24 eS24 H locs hR hS => ?_)
    have h := h S24 eS24
    obtain ⟨x25, ex25⟩ : ∃ x25 : Int32, x25 = a1 + 1 := ⟨_, rfl⟩
    have h := h x25 ex25
    refine w_iinc (v0 := 1) (lv' := [(1, .int x25), (0, .ref (b + adM 0 0))]) C0 dX12_table_25 hl (k := 1) rfl (by decide) (by decide) x25 ex25 rfl (fun ls hl => ?_)
    refine lv_goto (tgt := 6) hx hb dX12_table_28 (by decide) ?_
    exact ih6 x25 S24 _ _ _  h hR hS (lv_sub hl [1, 0] rfl)
def B_X12_table_6 (n9 : Nat) (a1 : Int32) (S : sSt) (k : Int32 → sSt → Prop) : Prop := (Nat.rec (motive := fun _ => Int32 → sSt → Prop) (fun _ _ => False) (fun _ r9 => fun a1 S => Bb_X12_table_6 r9 a1 S k) n9 : Int32 → sSt → Prop) a1 S
theorem B_X12_table_6_s (n9 : Nat) (a1 : Int32) (S : sSt) (k : Int32 → sSt → Prop) : B_X12_table_6 (n9 + 1) a1 S k = Bb_X12_table_6 (fun a1 S => B_X12_table_6 n9 a1 S k) a1 S k := rfl
set_option maxHeartbeats 4000000 in
set_option maxRecDepth 100000 in
theorem Bw_X12_table_6 {p : Program} {l : Launch} {e : Env} {s : State} {m : MethodId} {args : Array Value} {below : List Frame} {meth : Method} {c : Code} {D : va_G} {cy : Nat → ClassId} {b z : Nat} {tx : TX} (C0 : CallFix p m c cX12_table 3 s args TB RX12) (hr : meth.sig.returnType = (some .int)) (hlk : meth.locks = false) (hT : TxR tx s) {k : Int32 → sSt → Prop} : ∀ (n9 : Nat), ∀ (a1 : Int32) (S : sSt) (H : Heap) (locs : List Loc) (ls : Array Slot) , B_X12_table_6 n9 a1 S k → RelM D cy b z tx S s H → va_S (gA b 12 z) s.heap H locs → lv_has ls 3 [(0, .ref (b + adM 0 0)), (1, .int a1)] → W p l e rm_X12_table s m args below meth c H locs 0 0 (MQ below (PiM D cy b z tx k) args s 0 0 (gA b 12 z)) (F0 m 6 ls []) := by
  intro n9
  induction n9 with
  | zero => intro a1 S H locs ls h; exact h.elim
  | succ n9 ih =>
    intro a1 S H locs ls h hR hS hl
    exact Bbw_X12_table_6 C0 hr hlk hT ih a1 S H locs ls h hR hS hl
def F_X12_table (S : sSt) (k : Int32 → sSt → Prop) : Prop := F_X12_uses S (fun S2 => B_X12_table_6 fuel 0 S2 k)
set_option maxHeartbeats 4000000 in
set_option maxRecDepth 100000 in
theorem c_X12_table (l : Launch) {D : va_G} {cy : Nat → ClassId} {b z : Nat} {tx : TX} {S : sSt} {k : Int32 → sSt → Prop} (h : F_X12_table S k) : Met l yX12_table (Cond.code yX12_table cX12_table 3 (some .int) :: TB) rm_X12_table (va_Pc [.ref (b + adM 0 0)] (fun U => RelM D cy b z tx S U U.heap ∧ TxR tx U)) (PiM D cy b z tx k) 0 0 (gA b 12 z) := by
  refine Met.ofW (cc := cX12_table) (maxL := 3) (ret := (some .int)) (by decide) rfl ?_
  intro p e s m args below meth c s₁ B hml hv
  obtain ⟨rfl, hR, hT⟩ := hv
  have C0 : CallFix p m c cX12_table 3 s _ TB RX12 := ⟨B.exec, B.bytes, hml, findClass_of_methodNamed B.named, fun w hw => atoms_spec B.pre w (List.mem_cons_of_mem _ hw)⟩
  have hr := B.returns
  have hlk := B.notSynchronized
  have hx := C0.1
  have hb := C0.2.1
  have hS : va_S (gA b 12 z) s.heap s.heap [] := va_S.rf
  have hl := lv_entry ([.ref (b + adM 0 0)]) (n := 3) (Nat.le_of_ble_eq_true rfl)
  rw [lg_entry_eq]
  generalize (lg_sl ([.ref (b + adM 0 0)]) ++ List.replicate (3 - (lg_sl ([.ref (b + adM 0 0)])).length) Slot.unset).toArray = ls at hl ⊢
  have hl : lv_has ls 3 [(0, .ref (b + adM 0 0))] := hl
  show W p l e rm_X12_table s m _ below meth c s.heap [] 0 0 (MQ below (PiM D cy b z tx k) _ s 0 0 (gA b 12 z)) _
  unfold F_X12_table at h
  refine lv_aload_n hx hb dX12_table_0 rfl (lv_at hl 0 rfl) ?_
  refine qM_Vv (As := []) (rest := []) C0 (c_X12_uses l h) (cwV 0 C0.2.2.2.2 (tbV mM2_7_163 ⟨mM2_7_165, mpM2_2_10, mM2_1_11, mM2_7_166⟩) rfl rfl rfl (by decide +kernel) ⟨Nat.le_of_ble_eq_true rfl, Nat.le_of_ble_eq_true rfl⟩) (rcM_0 hR Nat.zero_lt_one) hR hT hS rfl hl.1 rfl (Nat.le_of_ble_eq_true rfl) dX12_table_1 ⟨Nat.zero_le _, Nat.zero_le _⟩ (fun S2 H locs h hR hS => ?_)
  refine lv_iconst (v := 0) hx hb dX12_table_4 (by decide) ?_
  refine lv_istore_n (lv' := [(1, .int 0), (0, .ref (b + adM 0 0))]) hx hb dX12_table_5 rfl hl (by decide) rfl (fun ls hl => ?_)
  exact Bw_X12_table_6 C0 hr hlk hT fuel 0 S2 _ _ _ h hR hS (lv_sub hl [1, 0] rfl)

def rm_X12_columnRead : Room := { frames := 5, cells := 0, slots := 0, locals := 108 }
def F_X12_columnRead (S : sSt) (k : Int32 → sSt → Prop) : Prop := F_X12_letters S (fun S2 => F_X12_isWord 20 S2 (fun r3 S4 => ((r3 = 0 → F_X12_isWord 1 S4 (fun r6 S7 => ((r6 = 0 → F_X12_isWord 2 S7 (fun r9 S10 => ((r9 = 0 → F_X12_isWord 3 S10 (fun r12 S13 => ((r12 = 0 → F_X12_isWord 21 S13 (fun r15 S16 => ((r15 = 0 → F_X12_isWord 22 S16 (fun r18 S19 => ((r18 = 0 → F_X12_isWord 23 S19 (fun r21 S22 => ((r21 = 0 → F_X12_isWord 24 S22 (fun r24 S25 => ((r24 = 0 → k (-1) S25) ∧ (¬ r24 = 0 → k 7 S25)))) ∧ (¬ r21 = 0 → k 6 S22)))) ∧ (¬ r18 = 0 → k 5 S19)))) ∧ (¬ r15 = 0 → k 4 S16)))) ∧ (¬ r12 = 0 → k 3 S13)))) ∧ (¬ r9 = 0 → k 2 S10)))) ∧ (¬ r6 = 0 → k 1 S7)))) ∧ (¬ r3 = 0 → k 0 S4))))
set_option maxHeartbeats 4000000 in
set_option maxRecDepth 100000 in
theorem c_X12_columnRead (l : Launch) {D : va_G} {cy : Nat → ClassId} {b z : Nat} {tx : TX} {S : sSt} {k : Int32 → sSt → Prop} (h : F_X12_columnRead S k) : Met l yX12_columnRead (Cond.code yX12_columnRead cX12_columnRead 1 (some .int) :: TB) rm_X12_columnRead (va_Pc [.ref (b + adM 0 0)] (fun U => RelM D cy b z tx S U U.heap ∧ TxR tx U)) (PiM D cy b z tx k) 0 0 (gA b 12 z) := by
  refine Met.ofW (cc := cX12_columnRead) (maxL := 1) (ret := (some .int)) (by decide) rfl ?_
  intro p e s m args below meth c s₁ B hml hv
  obtain ⟨rfl, hR, hT⟩ := hv
  have C0 : CallFix p m c cX12_columnRead 1 s _ TB RX12 := ⟨B.exec, B.bytes, hml, findClass_of_methodNamed B.named, fun w hw => atoms_spec B.pre w (List.mem_cons_of_mem _ hw)⟩
  have hr := B.returns
  have hlk := B.notSynchronized
  have hx := C0.1
  have hb := C0.2.1
  have hS : va_S (gA b 12 z) s.heap s.heap [] := va_S.rf
  have hl := lv_entry ([.ref (b + adM 0 0)]) (n := 1) (Nat.le_of_ble_eq_true rfl)
  rw [lg_entry_eq]
  generalize (lg_sl ([.ref (b + adM 0 0)]) ++ List.replicate (1 - (lg_sl ([.ref (b + adM 0 0)])).length) Slot.unset).toArray = ls at hl ⊢
  have hl : lv_has ls 1 [(0, .ref (b + adM 0 0))] := hl
  show W p l e rm_X12_columnRead s m _ below meth c s.heap [] 0 0 (MQ below (PiM D cy b z tx k) _ s 0 0 (gA b 12 z)) _
  unfold F_X12_columnRead at h
  refine lv_aload_n hx hb dX12_columnRead_0 rfl (lv_at hl 0 rfl) ?_
  refine qM_Vv (As := []) (rest := []) C0 (c_X12_letters l h) (cwV 0 C0.2.2.2.2 (tbV mM2_7_179 ⟨mM2_7_181, mpM2_2_14, mM2_1_11, mM2_7_182⟩) rfl rfl rfl (by decide +kernel) ⟨Nat.le_of_ble_eq_true rfl, Nat.le_of_ble_eq_true rfl⟩) (rcM_0 hR Nat.zero_lt_one) hR hT hS rfl hl.1 rfl (Nat.le_of_ble_eq_true rfl) dX12_columnRead_1 ⟨Nat.zero_le _, Nat.zero_le _⟩ (fun S2 H locs h hR hS => ?_)
  refine lv_aload_n hx hb dX12_columnRead_4 rfl (lv_at hl 0 rfl) ?_
  refine va_ldcS hx hb C0.2.2.2.1 (tr_52 hT) dX12_columnRead_5 ?_
  refine qM_Vi (As := [.ref (tx.2.1 20)]) (rest := []) C0 (c_X12_isWord l (by decide) h) (cwV 1 C0.2.2.2.2 (tbV mM2_7_188 ⟨mM2_7_190, mpM2_3_0, mM2_1_11, mM2_7_191⟩) rfl rfl rfl (by decide +kernel) ⟨Nat.le_of_ble_eq_true rfl, Nat.le_of_ble_eq_true rfl⟩) (rcM_0 hR Nat.zero_lt_one) hR hT hS rfl hl.1 rfl (Nat.le_of_ble_eq_true rfl) dX12_columnRead_7 ⟨Nat.zero_le _, Nat.zero_le _⟩ (fun r3 S4 H locs h hR hS => ?_)
  refine lv_if_eq (tgt := 15) hx hb dX12_columnRead_10 (by decide) (fun c5 => ?_) (fun c5 => ?_)
  · have h := h.1 c5
    refine lv_aload_n hx hb dX12_columnRead_15 rfl (lv_at hl 0 rfl) ?_
    refine va_ldcS hx hb C0.2.2.2.1 (tr_33 hT) dX12_columnRead_16 ?_
    refine qM_Vi (As := [.ref (tx.2.1 1)]) (rest := []) C0 (c_X12_isWord l (by decide) h) (cwV 1 C0.2.2.2.2 (tbV mM2_7_188 ⟨mM2_7_190, mpM2_3_0, mM2_1_11, mM2_7_191⟩) rfl rfl rfl (by decide +kernel) ⟨Nat.le_of_ble_eq_true rfl, Nat.le_of_ble_eq_true rfl⟩) (rcM_0 hR Nat.zero_lt_one) hR hT hS rfl hl.1 rfl (Nat.le_of_ble_eq_true rfl) dX12_columnRead_18 ⟨Nat.zero_le _, Nat.zero_le _⟩ (fun r6 S7 H locs h hR hS => ?_)
    refine lv_if_eq (tgt := 26) hx hb dX12_columnRead_21 (by decide) (fun c8 => ?_) (fun c8 => ?_)
    · have h := h.1 c8
      refine lv_aload_n hx hb dX12_columnRead_26 rfl (lv_at hl 0 rfl) ?_
      refine va_ldcS hx hb C0.2.2.2.1 (tr_34 hT) dX12_columnRead_27 ?_
      refine qM_Vi (As := [.ref (tx.2.1 2)]) (rest := []) C0 (c_X12_isWord l (by decide) h) (cwV 1 C0.2.2.2.2 (tbV mM2_7_188 ⟨mM2_7_190, mpM2_3_0, mM2_1_11, mM2_7_191⟩) rfl rfl rfl (by decide +kernel) ⟨Nat.le_of_ble_eq_true rfl, Nat.le_of_ble_eq_true rfl⟩) (rcM_0 hR Nat.zero_lt_one) hR hT hS rfl hl.1 rfl (Nat.le_of_ble_eq_true rfl) dX12_columnRead_29 ⟨Nat.zero_le _, Nat.zero_le _⟩ (fun r9 S10 H locs h hR hS => ?_)
      refine lv_if_eq (tgt := 37) hx hb dX12_columnRead_32 (by decide) (fun c11 => ?_) (fun c11 => ?_)
      · have h := h.1 c11
        refine lv_aload_n hx hb dX12_columnRead_37 rfl (lv_at hl 0 rfl) ?_
        refine va_ldcS hx hb C0.2.2.2.1 (tr_35 hT) dX12_columnRead_38 ?_
        refine qM_Vi (As := [.ref (tx.2.1 3)]) (rest := []) C0 (c_X12_isWord l (by decide) h) (cwV 1 C0.2.2.2.2 (tbV mM2_7_188 ⟨mM2_7_190, mpM2_3_0, mM2_1_11, mM2_7_191⟩) rfl rfl rfl (by decide +kernel) ⟨Nat.le_of_ble_eq_true rfl, Nat.le_of_ble_eq_true rfl⟩) (rcM_0 hR Nat.zero_lt_one) hR hT hS rfl hl.1 rfl (Nat.le_of_ble_eq_true rfl) dX12_columnRead_40 ⟨Nat.zero_le _, Nat.zero_le _⟩ (fun r12 S13 H locs h hR hS => ?_)
        refine lv_if_eq (tgt := 48) hx hb dX12_columnRead_43 (by decide) (fun c14 => ?_) (fun c14 => ?_)
        · have h := h.1 c14
          refine lv_aload_n hx hb dX12_columnRead_48 rfl (lv_at hl 0 rfl) ?_
          refine va_ldcS hx hb C0.2.2.2.1 (tr_53 hT) dX12_columnRead_49 ?_
          refine qM_Vi (As := [.ref (tx.2.1 21)]) (rest := []) C0 (c_X12_isWord l (by decide) h) (cwV 1 C0.2.2.2.2 (tbV mM2_7_188 ⟨mM2_7_190, mpM2_3_0, mM2_1_11, mM2_7_191⟩) rfl rfl rfl (by decide +kernel) ⟨Nat.le_of_ble_eq_true rfl, Nat.le_of_ble_eq_true rfl⟩) (rcM_0 hR Nat.zero_lt_one) hR hT hS rfl hl.1 rfl (Nat.le_of_ble_eq_true rfl) dX12_columnRead_51 ⟨Nat.zero_le _, Nat.zero_le _⟩ (fun r15 S16 H locs h hR hS => ?_)
          refine lv_if_eq (tgt := 59) hx hb dX12_columnRead_54 (by decide) (fun c17 => ?_) (fun c17 => ?_)
          · have h := h.1 c17
            refine lv_aload_n hx hb dX12_columnRead_59 rfl (lv_at hl 0 rfl) ?_
            refine va_ldcS hx hb C0.2.2.2.1 (tr_54 hT) dX12_columnRead_60 ?_
            refine qM_Vi (As := [.ref (tx.2.1 22)]) (rest := []) C0 (c_X12_isWord l (by decide) h) (cwV 1 C0.2.2.2.2 (tbV mM2_7_188 ⟨mM2_7_190, mpM2_3_0, mM2_1_11, mM2_7_191⟩) rfl rfl rfl (by decide +kernel) ⟨Nat.le_of_ble_eq_true rfl, Nat.le_of_ble_eq_true rfl⟩) (rcM_0 hR Nat.zero_lt_one) hR hT hS rfl hl.1 rfl (Nat.le_of_ble_eq_true rfl) dX12_columnRead_62 ⟨Nat.zero_le _, Nat.zero_le _⟩ (fun r18 S19 H locs h hR hS => ?_)
            refine lv_if_eq (tgt := 70) hx hb dX12_columnRead_65 (by decide) (fun c20 => ?_) (fun c20 => ?_)
            · have h := h.1 c20
              refine lv_aload_n hx hb dX12_columnRead_70 rfl (lv_at hl 0 rfl) ?_
              refine va_ldcS hx hb C0.2.2.2.1 (tr_55 hT) dX12_columnRead_71 ?_
              refine qM_Vi (As := [.ref (tx.2.1 23)]) (rest := []) C0 (c_X12_isWord l (by decide) h) (cwV 1 C0.2.2.2.2 (tbV mM2_7_188 ⟨mM2_7_190, mpM2_3_0, mM2_1_11, mM2_7_191⟩) rfl rfl rfl (by decide +kernel) ⟨Nat.le_of_ble_eq_true rfl, Nat.le_of_ble_eq_true rfl⟩) (rcM_0 hR Nat.zero_lt_one) hR hT hS rfl hl.1 rfl (Nat.le_of_ble_eq_true rfl) dX12_columnRead_73 ⟨Nat.zero_le _, Nat.zero_le _⟩ (fun r21 S22 H locs h hR hS => ?_)
              refine lv_if_eq (tgt := 82) hx hb dX12_columnRead_76 (by decide) (fun c23 => ?_) (fun c23 => ?_)
              · have h := h.1 c23
                refine lv_aload_n hx hb dX12_columnRead_82 rfl (lv_at hl 0 rfl) ?_
                refine va_ldcS hx hb C0.2.2.2.1 (tr_56 hT) dX12_columnRead_83 ?_
                refine qM_Vi (As := [.ref (tx.2.1 24)]) (rest := []) C0 (c_X12_isWord l (by decide) h) (cwV 1 C0.2.2.2.2 (tbV mM2_7_188 ⟨mM2_7_190, mpM2_3_0, mM2_1_11, mM2_7_191⟩) rfl rfl rfl (by decide +kernel) ⟨Nat.le_of_ble_eq_true rfl, Nat.le_of_ble_eq_true rfl⟩) (rcM_0 hR Nat.zero_lt_one) hR hT hS rfl hl.1 rfl (Nat.le_of_ble_eq_true rfl) dX12_columnRead_85 ⟨Nat.zero_le _, Nat.zero_le _⟩ (fun r24 S25 H locs h hR hS => ?_)
                refine lv_if_eq (tgt := 96) hx hb dX12_columnRead_88 (by decide) (fun c26 => ?_) (fun c26 => ?_)
                · have h := h.1 c26
                  refine lv_iconst (v := (-1)) hx hb dX12_columnRead_96 (by decide) ?_
                  exact rtM_i C0 hr hlk hR hS h dX12_columnRead_97
                · have h := h.2 c26
                  refine lv_bipush (v := 7) hx hb dX12_columnRead_91 (by decide) ?_
                  refine lv_goto (tgt := 97) hx hb dX12_columnRead_93 (by decide) ?_
                  exact rtM_i C0 hr hlk hR hS h dX12_columnRead_97
              · have h := h.2 c23
                refine lv_bipush (v := 6) hx hb dX12_columnRead_79 (by decide) ?_
                exact rtM_i C0 hr hlk hR hS h dX12_columnRead_81
            · have h := h.2 c20
              refine lv_iconst (v := 5) hx hb dX12_columnRead_68 (by decide) ?_
              exact rtM_i C0 hr hlk hR hS h dX12_columnRead_69
          · have h := h.2 c17
            refine lv_iconst (v := 4) hx hb dX12_columnRead_57 (by decide) ?_
            exact rtM_i C0 hr hlk hR hS h dX12_columnRead_58
        · have h := h.2 c14
          refine lv_iconst (v := 3) hx hb dX12_columnRead_46 (by decide) ?_
          exact rtM_i C0 hr hlk hR hS h dX12_columnRead_47
      · have h := h.2 c11
        refine lv_iconst (v := 2) hx hb dX12_columnRead_35 (by decide) ?_
        exact rtM_i C0 hr hlk hR hS h dX12_columnRead_36
    · have h := h.2 c8
      refine lv_iconst (v := 1) hx hb dX12_columnRead_24 (by decide) ?_
      exact rtM_i C0 hr hlk hR hS h dX12_columnRead_25
  · have h := h.2 c5
    refine lv_iconst (v := 0) hx hb dX12_columnRead_13 (by decide) ?_
    exact rtM_i C0 hr hlk hR hS h dX12_columnRead_14

def rm_X12_signRead : Room := { frames := 3, cells := 0, slots := 0, locals := 63 }
def F_X12_signRead (S : sSt) (k : Int32 → sSt → Prop) : Prop := F_X12_sign 61 S (fun r1 S2 => ((r1 = 0 → F_X12_sign 33 S2 (fun r4 S5 => ((r4 = 0 → F_X12_sign 60 S5 (fun r7 S8 => ((r7 = 0 → F_X12_sign 62 S8 (fun r10 S11 => ((r10 = 0 → k (-1) S11) ∧ (¬ r10 = 0 → k 3 S11)))) ∧ (¬ r7 = 0 → k 2 S8)))) ∧ (¬ r4 = 0 → k 1 S5)))) ∧ (¬ r1 = 0 → k 0 S2)))
set_option maxHeartbeats 4000000 in
set_option maxRecDepth 100000 in
theorem c_X12_signRead (l : Launch) {D : va_G} {cy : Nat → ClassId} {b z : Nat} {tx : TX} {S : sSt} {k : Int32 → sSt → Prop} (h : F_X12_signRead S k) : Met l yX12_signRead (Cond.code yX12_signRead cX12_signRead 1 (some .int) :: TB) rm_X12_signRead (va_Pc [.ref (b + adM 0 0)] (fun U => RelM D cy b z tx S U U.heap ∧ TxR tx U)) (PiM D cy b z tx k) 0 0 (gA b 12 z) := by
  refine Met.ofW (cc := cX12_signRead) (maxL := 1) (ret := (some .int)) (by decide) rfl ?_
  intro p e s m args below meth c s₁ B hml hv
  obtain ⟨rfl, hR, hT⟩ := hv
  have C0 : CallFix p m c cX12_signRead 1 s _ TB RX12 := ⟨B.exec, B.bytes, hml, findClass_of_methodNamed B.named, fun w hw => atoms_spec B.pre w (List.mem_cons_of_mem _ hw)⟩
  have hr := B.returns
  have hlk := B.notSynchronized
  have hx := C0.1
  have hb := C0.2.1
  have hS : va_S (gA b 12 z) s.heap s.heap [] := va_S.rf
  have hl := lv_entry ([.ref (b + adM 0 0)]) (n := 1) (Nat.le_of_ble_eq_true rfl)
  rw [lg_entry_eq]
  generalize (lg_sl ([.ref (b + adM 0 0)]) ++ List.replicate (1 - (lg_sl ([.ref (b + adM 0 0)])).length) Slot.unset).toArray = ls at hl ⊢
  have hl : lv_has ls 1 [(0, .ref (b + adM 0 0))] := hl
  show W p l e rm_X12_signRead s m _ below meth c s.heap [] 0 0 (MQ below (PiM D cy b z tx k) _ s 0 0 (gA b 12 z)) _
  unfold F_X12_signRead at h
  refine lv_aload_n hx hb dX12_signRead_0 rfl (lv_at hl 0 rfl) ?_
  refine lv_bipush (v := 61) hx hb dX12_signRead_1 (by decide) ?_
  refine qM_Vi (As := [.int 61]) (rest := []) C0 (c_X12_sign l h) (cwV 1 C0.2.2.2.2 (tbV mM2_8_67 ⟨mM2_8_69, mpM2_4_4, mM2_1_11, mM2_8_70⟩) rfl rfl rfl (by decide +kernel) ⟨Nat.le_of_ble_eq_true rfl, Nat.le_of_ble_eq_true rfl⟩) (rcM_0 hR Nat.zero_lt_one) hR hT hS rfl hl.1 rfl (Nat.le_of_ble_eq_true rfl) dX12_signRead_3 ⟨Nat.zero_le _, Nat.zero_le _⟩ (fun r1 S2 H locs h hR hS => ?_)
  refine lv_if_eq (tgt := 13) hx hb dX12_signRead_6 (by decide) (fun c3 => ?_) (fun c3 => ?_)
  · have h := h.1 c3
    refine lv_aload_n hx hb dX12_signRead_13 rfl (lv_at hl 0 rfl) ?_
    refine lv_bipush (v := 33) hx hb dX12_signRead_14 (by decide) ?_
    refine qM_Vi (As := [.int 33]) (rest := []) C0 (c_X12_sign l h) (cwV 1 C0.2.2.2.2 (tbV mM2_8_67 ⟨mM2_8_69, mpM2_4_4, mM2_1_11, mM2_8_70⟩) rfl rfl rfl (by decide +kernel) ⟨Nat.le_of_ble_eq_true rfl, Nat.le_of_ble_eq_true rfl⟩) (rcM_0 hR Nat.zero_lt_one) hR hT hS rfl hl.1 rfl (Nat.le_of_ble_eq_true rfl) dX12_signRead_16 ⟨Nat.zero_le _, Nat.zero_le _⟩ (fun r4 S5 H locs h hR hS => ?_)
    refine lv_if_eq (tgt := 26) hx hb dX12_signRead_19 (by decide) (fun c6 => ?_) (fun c6 => ?_)
    · have h := h.1 c6
      refine lv_aload_n hx hb dX12_signRead_26 rfl (lv_at hl 0 rfl) ?_
      refine lv_bipush (v := 60) hx hb dX12_signRead_27 (by decide) ?_
      refine qM_Vi (As := [.int 60]) (rest := []) C0 (c_X12_sign l h) (cwV 1 C0.2.2.2.2 (tbV mM2_8_67 ⟨mM2_8_69, mpM2_4_4, mM2_1_11, mM2_8_70⟩) rfl rfl rfl (by decide +kernel) ⟨Nat.le_of_ble_eq_true rfl, Nat.le_of_ble_eq_true rfl⟩) (rcM_0 hR Nat.zero_lt_one) hR hT hS rfl hl.1 rfl (Nat.le_of_ble_eq_true rfl) dX12_signRead_29 ⟨Nat.zero_le _, Nat.zero_le _⟩ (fun r7 S8 H locs h hR hS => ?_)
      refine lv_if_eq (tgt := 39) hx hb dX12_signRead_32 (by decide) (fun c9 => ?_) (fun c9 => ?_)
      · have h := h.1 c9
        refine lv_aload_n hx hb dX12_signRead_39 rfl (lv_at hl 0 rfl) ?_
        refine lv_bipush (v := 62) hx hb dX12_signRead_40 (by decide) ?_
        refine qM_Vi (As := [.int 62]) (rest := []) C0 (c_X12_sign l h) (cwV 1 C0.2.2.2.2 (tbV mM2_8_67 ⟨mM2_8_69, mpM2_4_4, mM2_1_11, mM2_8_70⟩) rfl rfl rfl (by decide +kernel) ⟨Nat.le_of_ble_eq_true rfl, Nat.le_of_ble_eq_true rfl⟩) (rcM_0 hR Nat.zero_lt_one) hR hT hS rfl hl.1 rfl (Nat.le_of_ble_eq_true rfl) dX12_signRead_42 ⟨Nat.zero_le _, Nat.zero_le _⟩ (fun r10 S11 H locs h hR hS => ?_)
        refine lv_if_eq (tgt := 52) hx hb dX12_signRead_45 (by decide) (fun c12 => ?_) (fun c12 => ?_)
        · have h := h.1 c12
          refine lv_iconst (v := (-1)) hx hb dX12_signRead_52 (by decide) ?_
          exact rtM_i C0 hr hlk hR hS h dX12_signRead_53
        · have h := h.2 c12
          refine lv_iconst (v := 3) hx hb dX12_signRead_48 (by decide) ?_
          refine lv_goto (tgt := 53) hx hb dX12_signRead_49 (by decide) ?_
          exact rtM_i C0 hr hlk hR hS h dX12_signRead_53
      · have h := h.2 c9
        refine lv_iconst (v := 2) hx hb dX12_signRead_35 (by decide) ?_
        refine lv_goto (tgt := 53) hx hb dX12_signRead_36 (by decide) ?_
        exact rtM_i C0 hr hlk hR hS h dX12_signRead_53
    · have h := h.2 c6
      refine lv_iconst (v := 1) hx hb dX12_signRead_22 (by decide) ?_
      refine lv_goto (tgt := 53) hx hb dX12_signRead_23 (by decide) ?_
      exact rtM_i C0 hr hlk hR hS h dX12_signRead_53
  · have h := h.2 c3
    refine lv_iconst (v := 0) hx hb dX12_signRead_9 (by decide) ?_
    refine lv_goto (tgt := 53) hx hb dX12_signRead_10 (by decide) ?_
    exact rtM_i C0 hr hlk hR hS h dX12_signRead_53

def rm_X12_readTerm : Room := { frames := 6, cells := 0, slots := 0, locals := 128 }
def B_X12_readTerm_52 (a2 : Int32) (a3 : Int32) (a4 : Int32) (t0 : Int32) (S : sSt) (k : Int32 → sSt → Prop) : Prop := ((0 ≤ t0 → ix a2 23 (fun j13 => ∀ S14, S14 = uI S 5 0 j13 a3 → ix (a2 + 1) 23 (fun j15 => ∀ S16, S16 = uI S14 5 0 j15 a4 → ix (a2 + 2) 23 (fun j17 => ∀ S18, S18 = uI S16 5 0 j17 t0 → ∀ S19, S19 = uI S18 5 0 1 ((S18.1 5 0 1) + 1) → k 1 S19)))) ∧ (¬ 0 ≤ t0 → k 0 S))
set_option maxHeartbeats 4000000 in
set_option maxRecDepth 100000 in
theorem Bw_X12_readTerm_52 {p : Program} {l : Launch} {e : Env} {s : State} {m : MethodId} {args : Array Value} {below : List Frame} {meth : Method} {c : Code} {D : va_G} {cy : Nat → ClassId} {b z : Nat} {tx : TX} (C0 : CallFix p m c cX12_readTerm 6 s args TB RX12) (hr : meth.sig.returnType = (some .boolean)) (hlk : meth.locks = false) (hT : TxR tx s) {k : Int32 → sSt → Prop} : ∀ (a2 : Int32) (a3 : Int32) (a4 : Int32) (t0 : Int32) (S : sSt) (H : Heap) (locs : List Loc) (ls : Array Slot) , B_X12_readTerm_52 a2 a3 a4 t0 S k → RelM D cy b z tx S s H → va_S (gA b 12 z) s.heap H locs → lv_has ls 6 [(0, .ref (b + adM 0 0)), (2, .int a2), (3, .int a3), (4, .int a4)] → W p l e rm_X12_readTerm s m args below meth c H locs 0 0 (MQ below (PiM D cy b z tx k) args s 0 0 (gA b 12 z)) (F0 m 52 ls [.int t0]) := by
  intro a2 a3 a4 t0 S H locs ls h hR hS hl
  have hx := C0.1
  have hb := C0.2.1
  unfold B_X12_readTerm_52 at h
  refine lv_istore (lv' := [(5, .int t0), (0, .ref (b + adM 0 0)), (2, .int a2), (3, .int a3), (4, .int a4)]) hx hb dX12_readTerm_52 hl (by decide) rfl (fun ls hl => ?_)
  refine lv_iload hx hb dX12_readTerm_54 (lv_at hl 0 rfl) ?_
  refine lv_if_ge (tgt := 61) hx hb dX12_readTerm_56 (by decide) (fun c12 => ?_) (fun c12 => ?_)
  · have h := h.1 c12
    refine lv_aload_n hx hb dX12_readTerm_61 rfl (lv_at hl 1 rfl) ?_
    refine gM_0_6 C0 hR Nat.zero_lt_one tbs_wsX120 mM2_7_83 dX12_readTerm_62 ?_
    refine lv_iload_n hx hb dX12_readTerm_65 rfl (lv_at hl 2 rfl) ?_
    refine lv_iload_n hx hb dX12_readTerm_66 rfl (lv_at hl 3 rfl) ?_
    obtain ⟨j13, hj13, ej13, h⟩ := h
    refine sM_5 C0 hR hS Nat.zero_lt_one hj13 ej13 dX12_readTerm_67 (fun S14 eS14 H locs hR hS => ?_)
    have h := h S14 eS14
    refine lv_aload_n hx hb dX12_readTerm_68 rfl (lv_at hl 1 rfl) ?_
    refine gM_0_6 C0 hR Nat.zero_lt_one tbs_wsX120 mM2_7_83 dX12_readTerm_69 ?_
    refine lv_iload_n hx hb dX12_readTerm_72 rfl (lv_at hl 2 rfl) ?_
    refine lv_iconst (v := 1) hx hb dX12_readTerm_73 (by decide) ?_
    refine lv_iadd hx hb dX12_readTerm_74 ?_
    refine lv_iload hx hb dX12_readTerm_75 (lv_at hl 4 rfl) ?_
    obtain ⟨j15, hj15, ej15, h⟩ := h
    refine sM_5 C0 hR hS Nat.zero_lt_one hj15 ej15 dX12_readTerm_77 (fun S16 eS16 H locs hR hS => ?_)
    have h := h S16 eS16
    refine lv_aload_n hx hb dX12_readTerm_78 rfl (lv_at hl 1 rfl) ?_
    refine gM_0_6 C0 hR Nat.zero_lt_one tbs_wsX120 mM2_7_83 dX12_readTerm_79 ?_
    refine lv_iload_n hx hb dX12_readTerm_82 rfl (lv_at hl 2 rfl) ?_
    refine lv_iconst (v := 2) hx hb dX12_readTerm_83 (by decide) ?_
    refine lv_iadd hx hb dX12_readTerm_84 ?_
    refine lv_iload hx hb dX12_readTerm_85 (lv_at hl 0 rfl) ?_
    obtain ⟨j17, hj17, ej17, h⟩ := h
    refine sM_5 C0 hR hS Nat.zero_lt_one hj17 ej17 dX12_readTerm_87 (fun S18 eS18 H locs hR hS => ?_)
    have h := h S18 eS18
    refine lv_aload_n hx hb dX12_readTerm_88 rfl (lv_at hl 1 rfl) ?_
    refine gM_0_6 C0 hR Nat.zero_lt_one tbs_wsX120 mM2_7_83 dX12_readTerm_89 ?_
    refine lv_iconst (v := 1) hx hb dX12_readTerm_92 (by decide) ?_
    refine lv_dup2_11 hx hb dX12_readTerm_93 rfl rfl ?_
    refine lM_5 C0 hR Nat.zero_lt_one (by decide) rfl dX12_readTerm_94 ?_
    refine lv_iconst (v := 1) hx hb dX12_readTerm_95 (by decide) ?_
    refine lv_iadd hx hb dX12_readTerm_96 ?_
    refine sM_5 C0 hR hS Nat.zero_lt_one (by decide) rfl dX12_readTerm_97 (fun S19 eS19 H locs hR hS => ?_)
    have h := h S19 eS19
    refine lv_iconst (v := 1) hx hb dX12_readTerm_98 (by decide) ?_
    exact rtM_z C0 hr hlk hR hS (by decide) h dX12_readTerm_99
  · have h := h.2 c12
    refine lv_iconst (v := 0) hx hb dX12_readTerm_59 (by decide) ?_
    exact rtM_z C0 hr hlk hR hS (by decide) h dX12_readTerm_60
def F_X12_readTerm (S : sSt) (k : Int32 → sSt → Prop) : Prop := ∀ x1 : Int32, x1 = (S.1 5 0 1) → ∀ x2 : Int32, x2 = (2 + (3 * x1)) → F_X12_columnRead S (fun r3 S4 => ((x1 = 4 → k 0 S4) ∧ (¬ x1 = 4 → ((0 ≤ r3 → F_X12_signRead S4 (fun r7 S8 => ((0 ≤ r7 → F_X12_number 0 999 S8 (fun r10 S11 => B_X12_readTerm_52 x2 r3 r7 r10 S11 k)) ∧ (¬ 0 ≤ r7 → B_X12_readTerm_52 x2 r3 r7 (-1) S8 k)))) ∧ (¬ 0 ≤ r3 → k 0 S4)))))
set_option maxHeartbeats 4000000 in
set_option maxRecDepth 100000 in
theorem c_X12_readTerm (l : Launch) {D : va_G} {cy : Nat → ClassId} {b z : Nat} {tx : TX} {S : sSt} {k : Int32 → sSt → Prop} (h : F_X12_readTerm S k) : Met l yX12_readTerm (Cond.code yX12_readTerm cX12_readTerm 6 (some .boolean) :: TB) rm_X12_readTerm (va_Pc [.ref (b + adM 0 0)] (fun U => RelM D cy b z tx S U U.heap ∧ TxR tx U)) (PiM D cy b z tx k) 0 0 (gA b 12 z) := by
  refine Met.ofW (cc := cX12_readTerm) (maxL := 6) (ret := (some .boolean)) (by decide) rfl ?_
  intro p e s m args below meth c s₁ B hml hv
  obtain ⟨rfl, hR, hT⟩ := hv
  have C0 : CallFix p m c cX12_readTerm 6 s _ TB RX12 := ⟨B.exec, B.bytes, hml, findClass_of_methodNamed B.named, fun w hw => atoms_spec B.pre w (List.mem_cons_of_mem _ hw)⟩
  have hr := B.returns
  have hlk := B.notSynchronized
  have hx := C0.1
  have hb := C0.2.1
  have hS : va_S (gA b 12 z) s.heap s.heap [] := va_S.rf
  have hl := lv_entry ([.ref (b + adM 0 0)]) (n := 6) (Nat.le_of_ble_eq_true rfl)
  rw [lg_entry_eq]
  generalize (lg_sl ([.ref (b + adM 0 0)]) ++ List.replicate (6 - (lg_sl ([.ref (b + adM 0 0)])).length) Slot.unset).toArray = ls at hl ⊢
  have hl : lv_has ls 6 [(0, .ref (b + adM 0 0))] := hl
  show W p l e rm_X12_readTerm s m _ below meth c s.heap [] 0 0 (MQ below (PiM D cy b z tx k) _ s 0 0 (gA b 12 z)) _
  unfold F_X12_readTerm at h
  refine lv_aload_n hx hb dX12_readTerm_0 rfl (lv_at hl 0 rfl) ?_
  refine gM_0_6 C0 hR Nat.zero_lt_one tbs_wsX120 mM2_7_83 dX12_readTerm_1 ?_
  refine lv_iconst (v := 1) hx hb dX12_readTerm_4 (by decide) ?_
  refine lM_5 C0 hR Nat.zero_lt_one (by decide) rfl dX12_readTerm_5 ?_
  refine lv_topi (fun x1 ex1 => ?_)
  have h := h x1 ex1
  refine lv_istore_n (lv' := [(1, .int x1), (0, .ref (b + adM 0 0))]) hx hb dX12_readTerm_6 rfl hl (by decide) rfl (fun ls hl => ?_)
  refine lv_iconst (v := 2) hx hb dX12_readTerm_7 (by decide) ?_
  refine lv_iconst (v := 3) hx hb dX12_readTerm_8 (by decide) ?_
  refine lv_iload_n hx hb dX12_readTerm_9 rfl (lv_at hl 0 rfl) ?_
  refine lv_imul hx hb dX12_readTerm_10 ?_
  refine lv_iadd hx hb dX12_readTerm_11 ?_
  refine lv_topi (fun x2 ex2 => ?_)
  have h := h x2 ex2
  refine lv_istore_n (lv' := [(2, .int x2), (1, .int x1), (0, .ref (b + adM 0 0))]) hx hb dX12_readTerm_12 rfl hl (by decide) rfl (fun ls hl => ?_)
  refine lv_aload_n hx hb dX12_readTerm_13 rfl (lv_at hl 2 rfl) ?_
  refine qM_Vi (As := []) (rest := []) C0 (c_X12_columnRead l h) (cwV 0 C0.2.2.2.2 (tbV mM2_8_54 ⟨mM2_8_56, mpM2_4_2, mM2_1_11, mM2_8_57⟩) rfl rfl rfl (by decide +kernel) ⟨Nat.le_of_ble_eq_true rfl, Nat.le_of_ble_eq_true rfl⟩) (rcM_0 hR Nat.zero_lt_one) hR hT hS rfl hl.1 rfl (Nat.le_of_ble_eq_true rfl) dX12_readTerm_14 ⟨Nat.zero_le _, Nat.zero_le _⟩ (fun r3 S4 H locs h hR hS => ?_)
  refine lv_istore_n (lv' := [(3, .int r3), (2, .int x2), (1, .int x1), (0, .ref (b + adM 0 0))]) hx hb dX12_readTerm_17 rfl hl (by decide) rfl (fun ls hl => ?_)
  refine lv_iload_n hx hb dX12_readTerm_18 rfl (lv_at hl 2 rfl) ?_
  refine lv_iconst (v := 4) hx hb dX12_readTerm_19 (by decide) ?_
  refine lv_icmp_eq (tgt := 27) hx hb dX12_readTerm_20 (by decide) (fun c5 => ?_) (fun c5 => ?_)
  · have h := h.1 c5
    refine lv_iconst (v := 0) hx hb dX12_readTerm_27 (by decide) ?_
    exact rtM_z C0 hr hlk hR hS (by decide) h dX12_readTerm_28
  · have h := h.2 c5
    refine lv_iload_n hx hb dX12_readTerm_23 rfl (lv_at hl 0 rfl) ?_
    refine lv_if_ge (tgt := 29) hx hb dX12_readTerm_24 (by decide) (fun c6 => ?_) (fun c6 => ?_)
    · have h := h.1 c6
      refine lv_aload_n hx hb dX12_readTerm_29 rfl (lv_at hl 3 rfl) ?_
      refine qM_Vi (As := []) (rest := []) C0 (c_X12_signRead l h) (cwV 0 C0.2.2.2.2 (tbV mM2_8_63 ⟨mM2_8_65, mpM2_4_3, mM2_1_11, mM2_8_66⟩) rfl rfl rfl (by decide +kernel) ⟨Nat.le_of_ble_eq_true rfl, Nat.le_of_ble_eq_true rfl⟩) (rcM_0 hR Nat.zero_lt_one) hR hT hS rfl hl.1 rfl (Nat.le_of_ble_eq_true rfl) dX12_readTerm_30 ⟨Nat.zero_le _, Nat.zero_le _⟩ (fun r7 S8 H locs h hR hS => ?_)
      refine lv_istore (lv' := [(4, .int r7), (3, .int r3), (2, .int x2), (1, .int x1), (0, .ref (b + adM 0 0))]) hx hb dX12_readTerm_33 hl (by decide) rfl (fun ls hl => ?_)
      refine lv_iload hx hb dX12_readTerm_35 (lv_at hl 0 rfl) ?_
      refine lv_if_ge (tgt := 44) hx hb dX12_readTerm_37 (by decide) (fun c9 => ?_) (fun c9 => ?_)
      · have h := h.1 c9
        refine lv_aload_n hx hb dX12_readTerm_44 rfl (lv_at hl 4 rfl) ?_
        refine lv_iconst (v := 0) hx hb dX12_readTerm_45 (by decide) ?_
        refine lv_sipush (v := 999) hx hb dX12_readTerm_46 (by decide) ?_
        refine qM_Vi (As := [.int 0, .int 999]) (rest := []) C0 (c_X12_number l h) (cwV 2 C0.2.2.2.2 (tbV mM2_7_211 ⟨mM2_7_213, mpM2_3_5, mM2_1_11, mM2_7_214⟩) rfl rfl rfl (by decide +kernel) ⟨Nat.le_of_ble_eq_true rfl, Nat.le_of_ble_eq_true rfl⟩) (rcM_0 hR Nat.zero_lt_one) hR hT hS rfl hl.1 rfl (Nat.le_of_ble_eq_true rfl) dX12_readTerm_49 ⟨Nat.zero_le _, Nat.zero_le _⟩ (fun r10 S11 H locs h hR hS => ?_)
        exact Bw_X12_readTerm_52 C0 hr hlk hT x2 r3 r7 r10 S11 _ _ _ h hR hS (lv_sub hl [4, 2, 1, 0] rfl)
      · have h := h.2 c9
        refine lv_iconst (v := (-1)) hx hb dX12_readTerm_40 (by decide) ?_
        refine lv_goto (tgt := 52) hx hb dX12_readTerm_41 (by decide) ?_
        exact Bw_X12_readTerm_52 C0 hr hlk hT x2 r3 r7 (-1) S8 _ _ _ h hR hS (lv_sub hl [4, 2, 1, 0] rfl)
    · have h := h.2 c6
      refine lv_iconst (v := 0) hx hb dX12_readTerm_27 (by decide) ?_
      exact rtM_z C0 hr hlk hR hS (by decide) h dX12_readTerm_28
